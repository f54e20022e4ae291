theorem vlX11_352 : VL "LehrBeltModel" 352 yX11_busyOf bX11_busyOf 4 ((some .int)) 1 := ⟨List.mem_of_getElem? (i := 2051) (by decide +kernel), List.mem_of_getElem? (i := 2053) (by decide +kernel), List.mem_of_getElem? (i := 86) (by decide +kernel), List.mem_of_getElem? (i := 115) (by decide +kernel), List.mem_of_getElem? (i := 2054) (by decide +kernel), by decide +kernel, by decide +kernel, by decide +kernel⟩
theorem vlX11_355 : VL "LehrBeltModel" 355 yX11_isSound bX11_isSound 2 ((some .boolean)) 1 := ⟨List.mem_of_getElem? (i := 2067) (by decide +kernel), List.mem_of_getElem? (i := 2069) (by decide +kernel), List.mem_of_getElem? (i := 87) (by decide +kernel), List.mem_of_getElem? (i := 115) (by decide +kernel), List.mem_of_getElem? (i := 2070) (by decide +kernel), by decide +kernel, by decide +kernel, by decide +kernel⟩
theorem vlX11_358 : VL "LehrBeltModel" 358 yX11_soundBy bX11_soundBy 2 ((some .int)) 1 := ⟨List.mem_of_getElem? (i := 2087) (by decide +kernel), List.mem_of_getElem? (i := 2089) (by decide +kernel), List.mem_of_getElem? (i := 89) (by decide +kernel), List.mem_of_getElem? (i := 115) (by decide +kernel), List.mem_of_getElem? (i := 2090) (by decide +kernel), by decide +kernel, by decide +kernel, by decide +kernel⟩
theorem vlX11_361 : VL "LehrBeltModel" 361 yX11_bestPace bX11_bestPace 3 ((some .int)) 0 := ⟨List.mem_of_getElem? (i := 2083) (by decide +kernel), List.mem_of_getElem? (i := 2085) (by decide +kernel), List.mem_of_getElem? (i := 88) (by decide +kernel), List.mem_of_getElem? (i := 115) (by decide +kernel), List.mem_of_getElem? (i := 2086) (by decide +kernel), by decide +kernel, by decide +kernel, by decide +kernel⟩
theorem vlX11_364 : VL "LehrBeltModel" 364 yX11_raiseOf bX11_raiseOf 4 ((some .int)) 2 := ⟨List.mem_of_getElem? (i := 2099) (by decide +kernel), List.mem_of_getElem? (i := 2101) (by decide +kernel), List.mem_of_getElem? (i := 90) (by decide +kernel), List.mem_of_getElem? (i := 115) (by decide +kernel), List.mem_of_getElem? (i := 2102) (by decide +kernel), by decide +kernel, by decide +kernel, by decide +kernel⟩
theorem vlX11_367 : VL "LehrBeltModel" 367 yX11_skips bX11_skips 3 (none) 1 := ⟨List.mem_of_getElem? (i := 2115) (by decide +kernel), List.mem_of_getElem? (i := 2117) (by decide +kernel), List.mem_of_getElem? (i := 91) (by decide +kernel), List.mem_of_getElem? (i := 115) (by decide +kernel), List.mem_of_getElem? (i := 2118) (by decide +kernel), by decide +kernel, by decide +kernel, by decide +kernel⟩
theorem kcX11_370 : Cond.constantLong "LehrBeltModel" 370 100000 ∈ lw_tbl := List.mem_of_getElem? (i := 2127) (by decide +kernel)
theorem fpX11_372 : FP "LehrBeltModel" 372 11 36 0 .int := ⟨(RX11, TX11, 39), rfl, inX11, by decide, List.mem_of_getElem? (i := 1521) (by decide +kernel), rfl, ⟨tyX11, tyX11_ok⟩, nmX11, rfl, by decide +kernel⟩
theorem fpX11_375 : FP "LehrBeltModel" 375 11 37 0 .int := ⟨(RX11, TX11, 39), rfl, inX11, by decide, List.mem_of_getElem? (i := 1522) (by decide +kernel), rfl, ⟨tyX11, tyX11_ok⟩, nmX11, rfl, by decide +kernel⟩
theorem fpX11_378 : FP "LehrBeltModel" 378 11 38 0 .int := ⟨(RX11, TX11, 39), rfl, inX11, by decide, List.mem_of_getElem? (i := 1523) (by decide +kernel), rfl, ⟨tyX11, tyX11_ok⟩, nmX11, rfl, by decide +kernel⟩
theorem vlX11_381 : VL "LehrBeltModel" 381 yX11_isSo bX11_isSo 4 ((some .boolean)) 1 := ⟨List.mem_of_getElem? (i := 2132) (by decide +kernel), List.mem_of_getElem? (i := 2134) (by decide +kernel), List.mem_of_getElem? (i := 94) (by decide +kernel), List.mem_of_getElem? (i := 115) (by decide +kernel), List.mem_of_getElem? (i := 2135) (by decide +kernel), by decide +kernel, by decide +kernel, by decide +kernel⟩
theorem flX11_372 : FL "LehrBeltModel" 372 11 36 0 := ⟨(RX11, TX11, 39), rfl, inX11, by decide, List.mem_of_getElem? (i := 1521) (by decide +kernel), rfl⟩
theorem flX11_375 : FL "LehrBeltModel" 375 11 37 0 := ⟨(RX11, TX11, 39), rfl, inX11, by decide, List.mem_of_getElem? (i := 1522) (by decide +kernel), rfl⟩
theorem vlX11_384 : VL "LehrBeltModel" 384 yX11_whyNot bX11_whyNot 5 ((some .int)) 2 := ⟨List.mem_of_getElem? (i := 2123) (by decide +kernel), List.mem_of_getElem? (i := 2125) (by decide +kernel), List.mem_of_getElem? (i := 92) (by decide +kernel), List.mem_of_getElem? (i := 115) (by decide +kernel), List.mem_of_getElem? (i := 2126) (by decide +kernel), by decide +kernel, by decide +kernel, by decide +kernel⟩
theorem vlX11_388 : VL "LehrBeltModel" 388 yX11_laysSeen bX11_laysSeen 4 (none) 2 := ⟨List.mem_of_getElem? (i := 2128) (by decide +kernel), List.mem_of_getElem? (i := 2130) (by decide +kernel), List.mem_of_getElem? (i := 93) (by decide +kernel), List.mem_of_getElem? (i := 115) (by decide +kernel), List.mem_of_getElem? (i := 2131) (by decide +kernel), by decide +kernel, by decide +kernel, by decide +kernel⟩
theorem flX11_378 : FL "LehrBeltModel" 378 11 38 0 := ⟨(RX11, TX11, 39), rfl, inX11, by decide, List.mem_of_getElem? (i := 1523) (by decide +kernel), rfl⟩
theorem vlX11_391 : VL "LehrBeltModel" 391 yX11_byLaw bX11_byLaw 2 ((some .int)) 1 := ⟨List.mem_of_getElem? (i := 2152) (by decide +kernel), List.mem_of_getElem? (i := 2154) (by decide +kernel), List.mem_of_getElem? (i := 95) (by decide +kernel), List.mem_of_getElem? (i := 115) (by decide +kernel), List.mem_of_getElem? (i := 2155) (by decide +kernel), by decide +kernel, by decide +kernel, by decide +kernel⟩
theorem vlX11_394 : VL "LehrBeltModel" 394 yX11_worthOf bX11_worthOf 3 ((some .int)) 1 := ⟨List.mem_of_getElem? (i := 2168) (by decide +kernel), List.mem_of_getElem? (i := 2170) (by decide +kernel), List.mem_of_getElem? (i := 96) (by decide +kernel), List.mem_of_getElem? (i := 115) (by decide +kernel), List.mem_of_getElem? (i := 2171) (by decide +kernel), by decide +kernel, by decide +kernel, by decide +kernel⟩
theorem slX11_397 : SL "LehrBeltModel" 397 yX11_times bX11_times 1 ((some .int)) 1 := ⟨List.mem_of_getElem? (i := 2180) (by decide +kernel), List.mem_of_getElem? (i := 2181) (by decide +kernel), List.mem_of_getElem? (i := 115) (by decide +kernel), List.mem_of_getElem? (i := 2182) (by decide +kernel), by decide +kernel, by decide +kernel, by decide +kernel⟩
theorem slX11_400 : SL "LehrBeltModel" 400 yX11_common bX11_common 4 ((some .long)) 2 := ⟨List.mem_of_getElem? (i := 2186) (by decide +kernel), List.mem_of_getElem? (i := 2187) (by decide +kernel), List.mem_of_getElem? (i := 115) (by decide +kernel), List.mem_of_getElem? (i := 2188) (by decide +kernel), by decide +kernel, by decide +kernel, by decide +kernel⟩
set_option maxRecDepth 100000 in
set_option maxHeartbeats 4000000 in
theorem c_X11_last {l : Launch} {P : Wp} {E : State → Heap → Prop} (hW : Wok shR P E) {p1 : Int32} {M : Mem} {r : Int32} {M' : Mem} (h : f_X11_last p1 M = some (r, M')) : CT l shR P E yX11_last bX11_last 3 ((some .int)) 3 68 [.ref (P.2.2.1 0), .int p1] (some (.int r)) M M' := by
  refine ct_of hW (by decide) (Nat.le_of_ble_eq_true rfl) (fun p e s m args below meth c C ls hl hw => ?_)
  have hx := C.1
  have hb := C.2.1
  replace hl : lv_has ls 3 [(0, .ref (P.2.2.1 0)), (1, .int p1)] := hl
  have cut_25 : ∀ (n_25 : Nat) (v2_25 : Int32) (M_25 : Mem) (ls : Array Slot) (H : Heap) (locs : List Loc), lv_has ls 3 [(0, .ref (P.2.2.1 0)), (1, .int p1), (2, .int v2_25)] → Hw shR P M_25 s H locs → lq2 (L_X11_last_25 p1) n_25 v2_25 M_25 = some (r, M') → W p l e { frames := 3, cells := 0, slots := 0, locals := 68 } s m args below meth c H locs 0 0 (MQ below (CQ shR P E (some (.int r)) M') args s 0 0 (wA shR P)) (F0 m 25 ls []) := by
    intro n_25
    induction n_25 with
    | zero => intro v2_25 M_25 ls H locs hl hw h; cases h
    | succ n_25 ih_25 =>
      intro v2_25 M_25 ls H locs hl hw h
      replace h := lq2_succ h
      refine lv_iload_n hx hb dX11_last_25 rfl (lv_at hl 2 rfl) ?_
      refine lv_if_lt (tgt := 46) hx hb dX11_last_26 (by decide) (fun c10 => ?_) (fun c10 => ?_)
      · replace h := (if_pos c10).symm.trans h
        refine lv_iconst (v := (-1)) hx hb dX11_last_46 (by decide) ?_
        exact wretI_W C hw h dX11_last_47
      · replace h := (if_neg c10).symm.trans h
        refine lv_aload_n hx hb dX11_last_29 rfl (lv_at hl 0 rfl) ?_
        refine lv_iload_n hx hb dX11_last_30 rfl (lv_at hl 1 rfl) ?_
        refine lv_iload_n hx hb dX11_last_31 rfl (lv_at hl 2 rfl) ?_
        obtain ⟨r11, e12, h⟩ := bnd_some h
        refine wcallV1 (As := [.int p1, .int v2_25]) (rest := []) C hw (c_X11_insideOf hW  e12) vlX11_308 ⟨Nat.le_of_ble_eq_true rfl, Nat.le_of_ble_eq_true rfl⟩ (rfl : _ = some (0, 11)) rfl rfl rfl hl.1 (Nat.le_of_ble_eq_true rfl) dX11_last_32 ⟨Nat.zero_le _, Nat.zero_le _⟩ (fun H locs hw => ?_)
        refine lv_if_eq (tgt := 40) hx hb dX11_last_35 (by decide) (fun c13 => ?_) (fun c13 => ?_)
        · replace h := (if_pos c13).symm.trans h
          refine lv_iinc (v := (v2_25 + (-1))) (lv' := [(2, .int (v2_25 + (-1))), (0, .ref (P.2.2.1 0)), (1, .int p1)]) (k := 2) hx hb dX11_last_40 hl rfl (congrArg (fun z => v2_25 + z) (by decide)) (by decide) rfl (fun ls hl => ?_)
          refine lv_goto (tgt := 25) hx hb dX11_last_43 (by decide) ?_
          exact ih_25 (v2_25 + (-1)) M_25 ls _ _ (lv_sub hl [1, 2, 0] rfl) hw h
        · replace h := (if_neg c13).symm.trans h
          refine lv_iload_n hx hb dX11_last_38 rfl (lv_at hl 2 rfl) ?_
          exact wretI_W C hw h dX11_last_39
  refine lv_aload_n hx hb dX11_last_0 rfl (lv_at hl 0 rfl) ?_
  refine lv_iconst (v := 0) hx hb dX11_last_1 (by decide) ?_
  refine wputI C hw fpX11_77 (rfl : _ = some (0, 11)) dX11_last_2 (fun M1 eM1 H locs hw => ?_)
  replace h := letv_at eM1 h
  refine lv_aload_n hx hb dX11_last_5 rfl (lv_at hl 0 rfl) ?_
  refine lv_iload_n hx hb dX11_last_6 rfl (lv_at hl 1 rfl) ?_
  obtain ⟨r2, e3, h⟩ := bnd_some h
  refine wcallV1 (As := [.int p1]) (rest := []) C hw (c_X11_isZone hW  e3) vlX11_302 ⟨Nat.le_of_ble_eq_true rfl, Nat.le_of_ble_eq_true rfl⟩ (rfl : _ = some (0, 11)) rfl rfl rfl hl.1 (Nat.le_of_ble_eq_true rfl) dX11_last_7 ⟨Nat.zero_le _, Nat.zero_le _⟩ (fun H locs hw => ?_)
  refine lv_if_ne (tgt := 16) hx hb dX11_last_10 (by decide) (fun c4 => ?_) (fun c4 => ?_)
  · replace h := (if_neg c4).symm.trans h
    refine lv_aload_n hx hb dX11_last_16 rfl (lv_at hl 0 rfl) ?_
    obtain ⟨M7, e6, h⟩ := bnd_some h
    refine wcallV0 (As := []) (rest := []) C hw (c_X11_lays hW  e6) vlX11_296 ⟨Nat.le_of_ble_eq_true rfl, Nat.le_of_ble_eq_true rfl⟩ (rfl : _ = some (0, 11)) rfl rfl rfl hl.1 (Nat.le_of_ble_eq_true rfl) dX11_last_17 ⟨Nat.zero_le _, Nat.zero_le _⟩ (fun H locs hw => ?_)
    refine lv_aload_n hx hb dX11_last_20 rfl (lv_at hl 0 rfl) ?_
    obtain ⟨r8, e9, h⟩ := bnd_some h
    refine wcallV1 (As := []) (rest := []) C hw (c_X11_steps hW  e9) vlX11_234 ⟨Nat.le_of_ble_eq_true rfl, Nat.le_of_ble_eq_true rfl⟩ (rfl : _ = some (0, 11)) rfl rfl rfl hl.1 (Nat.le_of_ble_eq_true rfl) dX11_last_21 ⟨Nat.zero_le _, Nat.zero_le _⟩ (fun H locs hw => ?_)
    refine lv_istore_n (lv' := [(2, .int r8), (0, .ref (P.2.2.1 0)), (1, .int p1)]) hx hb dX11_last_24 rfl hl (by decide) rfl (fun ls hl => ?_)
    exact cut_25 FU r8 M7 ls _ _ (lv_sub hl [1, 2, 0] rfl) hw h
  · replace h := (if_pos c4).symm.trans h
    refine lv_bipush (v := (-2)) hx hb dX11_last_13 (by decide) ?_
    exact wretI_W C hw h dX11_last_15
set_option maxRecDepth 100000 in
set_option maxHeartbeats 4000000 in
theorem c_X11_busyOf {l : Launch} {P : Wp} {E : State → Heap → Prop} (hW : Wok shR P E) {p1 : Int32} {M : Mem} {r : Int32} (h : f_X11_busyOf p1 M = some r) : CT l shR P E yX11_busyOf bX11_busyOf 4 ((some .int)) 3 68 [.ref (P.2.2.1 0), .int p1] (some (.int r)) M M := by
  refine ct_of hW (by decide) (Nat.le_of_ble_eq_true rfl) (fun p e s m args below meth c C ls hl hw => ?_)
  have hx := C.1
  have hb := C.2.1
  replace hl : lv_has ls 4 [(0, .ref (P.2.2.1 0)), (1, .int p1)] := hl
  have cut_4 : ∀ (n_4 : Nat) (v2_4 : Int32) (v3_4 : Int32) (ls : Array Slot) (H : Heap) (locs : List Loc), lv_has ls 4 [(0, .ref (P.2.2.1 0)), (1, .int p1), (2, .int v2_4), (3, .int v3_4)] → Hw shR P M s H locs → lq2 (L_X11_busyOf_4 p1 M) n_4 v2_4 v3_4 = some r → W p l e { frames := 3, cells := 0, slots := 0, locals := 68 } s m args below meth c H locs 0 0 (MQ below (CQ shR P E (some (.int r)) M) args s 0 0 (wA shR P)) (F0 m 4 ls []) := by
    intro n_4
    induction n_4 with
    | zero => intro v2_4 v3_4 ls H locs hl hw h; cases h
    | succ n_4 ih_4 =>
      intro v2_4 v3_4 ls H locs hl hw h
      replace h := lq2_succ h
      refine lv_iload_n hx hb dX11_busyOf_4 rfl (lv_at hl 3 rfl) ?_
      refine lv_aload_n hx hb dX11_busyOf_5 rfl (lv_at hl 0 rfl) ?_
      obtain ⟨r1, e2, h⟩ := bnd_some h
      refine wcallV1 (As := []) (rest := [.int v3_4]) C hw (c_X11_steps hW  e2) vlX11_234 ⟨Nat.le_of_ble_eq_true rfl, Nat.le_of_ble_eq_true rfl⟩ (rfl : _ = some (0, 11)) rfl rfl rfl hl.1 (Nat.le_of_ble_eq_true rfl) dX11_busyOf_6 ⟨Nat.zero_le _, Nat.zero_le _⟩ (fun H locs hw => ?_)
      refine lv_icmp_gt (tgt := 35) hx hb dX11_busyOf_9 (by decide) (fun c3 => ?_) (fun c3 => ?_)
      · replace h := (if_pos c3).symm.trans h
        refine lv_iload_n hx hb dX11_busyOf_35 rfl (lv_at hl 2 rfl) ?_
        exact wretI_R C hw h dX11_busyOf_36
      · replace h := (if_neg c3).symm.trans h
        refine lv_iload_n hx hb dX11_busyOf_12 rfl (lv_at hl 2 rfl) ?_
        refine lv_aload_n hx hb dX11_busyOf_13 rfl (lv_at hl 0 rfl) ?_
        refine lv_iload_n hx hb dX11_busyOf_14 rfl (lv_at hl 1 rfl) ?_
        refine lv_iload_n hx hb dX11_busyOf_15 rfl (lv_at hl 3 rfl) ?_
        obtain ⟨r4, e5, h⟩ := bnd_some h
        refine wcallV1 (As := [.int p1, .int v3_4]) (rest := [.int v2_4]) C hw (c_X11_insideOf hW  e5) vlX11_308 ⟨Nat.le_of_ble_eq_true rfl, Nat.le_of_ble_eq_true rfl⟩ (rfl : _ = some (0, 11)) rfl rfl rfl hl.1 (Nat.le_of_ble_eq_true rfl) dX11_busyOf_16 ⟨Nat.zero_le _, Nat.zero_le _⟩ (fun H locs hw => ?_)
        refine lv_if_ne (tgt := 26) hx hb dX11_busyOf_19 (by decide) (fun c6 => ?_) (fun c6 => ?_)
        · replace h := (if_neg c6).symm.trans h
          refine lv_iconst (v := 1) hx hb dX11_busyOf_26 (by decide) ?_
          refine lv_iadd hx hb dX11_busyOf_27 ?_
          refine lv_topi (fun x7 ex7 => ?_)
          replace h := letv_at ex7 h
          refine lv_istore_n (lv' := [(2, .int x7), (0, .ref (P.2.2.1 0)), (1, .int p1), (3, .int v3_4)]) hx hb dX11_busyOf_28 rfl hl (by decide) rfl (fun ls hl => ?_)
          refine lv_iinc (v := (v3_4 + 1)) (lv' := [(3, .int (v3_4 + 1)), (2, .int x7), (0, .ref (P.2.2.1 0)), (1, .int p1)]) (k := 3) hx hb dX11_busyOf_29 hl rfl (congrArg (fun z => v3_4 + z) (by decide)) (by decide) rfl (fun ls hl => ?_)
          refine lv_goto (tgt := 4) hx hb dX11_busyOf_32 (by decide) ?_
          exact ih_4 x7 (v3_4 + 1) ls _ _ (lv_sub hl [2, 3, 1, 0] rfl) hw h
        · replace h := (if_pos c6).symm.trans h
          refine lv_iconst (v := 0) hx hb dX11_busyOf_22 (by decide) ?_
          refine lv_goto (tgt := 27) hx hb dX11_busyOf_23 (by decide) ?_
          refine lv_iadd hx hb dX11_busyOf_27 ?_
          refine lv_topi (fun x8 ex8 => ?_)
          replace h := letv_at ex8 h
          refine lv_istore_n (lv' := [(2, .int x8), (0, .ref (P.2.2.1 0)), (1, .int p1), (3, .int v3_4)]) hx hb dX11_busyOf_28 rfl hl (by decide) rfl (fun ls hl => ?_)
          refine lv_iinc (v := (v3_4 + 1)) (lv' := [(3, .int (v3_4 + 1)), (2, .int x8), (0, .ref (P.2.2.1 0)), (1, .int p1)]) (k := 3) hx hb dX11_busyOf_29 hl rfl (congrArg (fun z => v3_4 + z) (by decide)) (by decide) rfl (fun ls hl => ?_)
          refine lv_goto (tgt := 4) hx hb dX11_busyOf_32 (by decide) ?_
          exact ih_4 x8 (v3_4 + 1) ls _ _ (lv_sub hl [2, 3, 1, 0] rfl) hw h
  refine lv_iconst (v := 0) hx hb dX11_busyOf_0 (by decide) ?_
  refine lv_istore_n (lv' := [(2, .int 0), (0, .ref (P.2.2.1 0)), (1, .int p1)]) hx hb dX11_busyOf_1 rfl hl (by decide) rfl (fun ls hl => ?_)
  refine lv_iconst (v := 0) hx hb dX11_busyOf_2 (by decide) ?_
  refine lv_istore_n (lv' := [(3, .int 0), (2, .int 0), (0, .ref (P.2.2.1 0)), (1, .int p1)]) hx hb dX11_busyOf_3 rfl hl (by decide) rfl (fun ls hl => ?_)
  exact cut_4 FU 0 0 ls _ _ (lv_sub hl [2, 3, 1, 0] rfl) hw h
set_option maxRecDepth 100000 in
set_option maxHeartbeats 4000000 in
theorem c_X11_busy {l : Launch} {P : Wp} {E : State → Heap → Prop} (hW : Wok shR P E) {p1 : Int32} {M : Mem} {r : Int32} {M' : Mem} (h : f_X11_busy p1 M = some (r, M')) : CT l shR P E yX11_busy bX11_busy 2 ((some .int)) 4 91 [.ref (P.2.2.1 0), .int p1] (some (.int r)) M M' := by
  refine ct_of hW (by decide) (Nat.le_of_ble_eq_true rfl) (fun p e s m args below meth c C ls hl hw => ?_)
  have hx := C.1
  have hb := C.2.1
  replace hl : lv_has ls 2 [(0, .ref (P.2.2.1 0)), (1, .int p1)] := hl
  refine lv_aload_n hx hb dX11_busy_0 rfl (lv_at hl 0 rfl) ?_
  refine lv_iconst (v := 0) hx hb dX11_busy_1 (by decide) ?_
  refine wputI C hw fpX11_77 (rfl : _ = some (0, 11)) dX11_busy_2 (fun M1 eM1 H locs hw => ?_)
  replace h := letv_at eM1 h
  refine lv_aload_n hx hb dX11_busy_5 rfl (lv_at hl 0 rfl) ?_
  refine lv_iload_n hx hb dX11_busy_6 rfl (lv_at hl 1 rfl) ?_
  obtain ⟨r2, e3, h⟩ := bnd_some h
  refine wcallV1 (As := [.int p1]) (rest := []) C hw (c_X11_isZone hW  e3) vlX11_302 ⟨Nat.le_of_ble_eq_true rfl, Nat.le_of_ble_eq_true rfl⟩ (rfl : _ = some (0, 11)) rfl rfl rfl hl.1 (Nat.le_of_ble_eq_true rfl) dX11_busy_7 ⟨Nat.zero_le _, Nat.zero_le _⟩ (fun H locs hw => ?_)
  refine lv_if_ne (tgt := 16) hx hb dX11_busy_10 (by decide) (fun c4 => ?_) (fun c4 => ?_)
  · replace h := (if_neg c4).symm.trans h
    refine lv_aload_n hx hb dX11_busy_16 rfl (lv_at hl 0 rfl) ?_
    obtain ⟨M7, e6, h⟩ := bnd_some h
    refine wcallV0 (As := []) (rest := []) C hw (c_X11_lays hW  e6) vlX11_296 ⟨Nat.le_of_ble_eq_true rfl, Nat.le_of_ble_eq_true rfl⟩ (rfl : _ = some (0, 11)) rfl rfl rfl hl.1 (Nat.le_of_ble_eq_true rfl) dX11_busy_17 ⟨Nat.zero_le _, Nat.zero_le _⟩ (fun H locs hw => ?_)
    refine lv_aload_n hx hb dX11_busy_20 rfl (lv_at hl 0 rfl) ?_
    refine lv_iload_n hx hb dX11_busy_21 rfl (lv_at hl 1 rfl) ?_
    obtain ⟨r8, e9, h⟩ := bnd_some h
    refine wcallV1 (As := [.int p1]) (rest := []) C hw (c_X11_busyOf hW  e9) vlX11_352 ⟨Nat.le_of_ble_eq_true rfl, Nat.le_of_ble_eq_true rfl⟩ (rfl : _ = some (0, 11)) rfl rfl rfl hl.1 (Nat.le_of_ble_eq_true rfl) dX11_busy_22 ⟨Nat.zero_le _, Nat.zero_le _⟩ (fun H locs hw => ?_)
    exact wretI_W C hw h dX11_busy_25
  · replace h := (if_pos c4).symm.trans h
    refine lv_bipush (v := (-2)) hx hb dX11_busy_13 (by decide) ?_
    exact wretI_W C hw h dX11_busy_15
set_option maxRecDepth 100000 in
set_option maxHeartbeats 4000000 in
theorem c_X11_idle {l : Launch} {P : Wp} {E : State → Heap → Prop} (hW : Wok shR P E) {M : Mem} {r : Int32} {M' : Mem} (h : f_X11_idle M = some (r, M')) : CT l shR P E yX11_idle bX11_idle 3 ((some .int)) 4 91 [.ref (P.2.2.1 0)] (some (.int r)) M M' := by
  refine ct_of hW (by decide) (Nat.le_of_ble_eq_true rfl) (fun p e s m args below meth c C ls hl hw => ?_)
  have hx := C.1
  have hb := C.2.1
  replace hl : lv_has ls 3 [(0, .ref (P.2.2.1 0))] := hl
  have cut_23 : ∀ (n_23 : Nat) (v1_23 : Int32) (v2_23 : Int32) (M_23 : Mem) (ls : Array Slot) (H : Heap) (locs : List Loc), lv_has ls 3 [(0, .ref (P.2.2.1 0)), (1, .int v1_23), (2, .int v2_23)] → Hw shR P M_23 s H locs → lq3 (L_X11_idle_23) n_23 v1_23 v2_23 M_23 = some (r, M') → W p l e { frames := 4, cells := 0, slots := 0, locals := 91 } s m args below meth c H locs 0 0 (MQ below (CQ shR P E (some (.int r)) M') args s 0 0 (wA shR P)) (F0 m 23 ls []) := by
    intro n_23
    induction n_23 with
    | zero => intro v1_23 v2_23 M_23 ls H locs hl hw h; cases h
    | succ n_23 ih_23 =>
      intro v1_23 v2_23 M_23 ls H locs hl hw h
      replace h := lq3_succ h
      refine lv_iload_n hx hb dX11_idle_23 rfl (lv_at hl 2 rfl) ?_
      refine lv_aload_n hx hb dX11_idle_24 rfl (lv_at hl 0 rfl) ?_
      refine wgetI C hw flX11_252 (rfl : _ = some (0, 11)) dX11_idle_25 ?_
      refine lv_icmp_ge (tgt := 55) hx hb dX11_idle_28 (by decide) (fun c8 => ?_) (fun c8 => ?_)
      · replace h := (if_pos c8).symm.trans h
        refine lv_iload_n hx hb dX11_idle_55 rfl (lv_at hl 1 rfl) ?_
        exact wretI_W C hw h dX11_idle_56
      · replace h := (if_neg c8).symm.trans h
        refine lv_iload_n hx hb dX11_idle_31 rfl (lv_at hl 1 rfl) ?_
        refine lv_aload_n hx hb dX11_idle_32 rfl (lv_at hl 0 rfl) ?_
        refine lv_iload_n hx hb dX11_idle_33 rfl (lv_at hl 2 rfl) ?_
        obtain ⟨r9, e10, h⟩ := bnd_some h
        refine wcallV1 (As := [.int v2_23]) (rest := [.int v1_23]) C hw (c_X11_busyOf hW  e10) vlX11_352 ⟨Nat.le_of_ble_eq_true rfl, Nat.le_of_ble_eq_true rfl⟩ (rfl : _ = some (0, 11)) rfl rfl rfl hl.1 (Nat.le_of_ble_eq_true rfl) dX11_idle_34 ⟨Nat.zero_le _, Nat.zero_le _⟩ (fun H locs hw => ?_)
        refine lv_if_ne (tgt := 46) hx hb dX11_idle_37 (by decide) (fun c11 => ?_) (fun c11 => ?_)
        · replace h := (if_neg c11).symm.trans h
          refine lv_iconst (v := 0) hx hb dX11_idle_46 (by decide) ?_
          refine lv_ior hx hb dX11_idle_47 ?_
          refine lv_topi (fun x12 ex12 => ?_)
          replace h := letv_at ex12 h
          refine lv_istore_n (lv' := [(1, .int x12), (0, .ref (P.2.2.1 0)), (2, .int v2_23)]) hx hb dX11_idle_48 rfl hl (by decide) rfl (fun ls hl => ?_)
          refine lv_iinc (v := (v2_23 + 1)) (lv' := [(2, .int (v2_23 + 1)), (1, .int x12), (0, .ref (P.2.2.1 0))]) (k := 2) hx hb dX11_idle_49 hl rfl (congrArg (fun z => v2_23 + z) (by decide)) (by decide) rfl (fun ls hl => ?_)
          refine lv_goto (tgt := 23) hx hb dX11_idle_52 (by decide) ?_
          exact ih_23 x12 (v2_23 + 1) M_23 ls _ _ (lv_sub hl [2, 1, 0] rfl) hw h
        · replace h := (if_pos c11).symm.trans h
          refine lv_iconst (v := 1) hx hb dX11_idle_40 (by decide) ?_
          refine lv_iload_n hx hb dX11_idle_41 rfl (lv_at hl 2 rfl) ?_
          refine lv_ishl hx hb dX11_idle_42 ?_
          refine lv_goto (tgt := 47) hx hb dX11_idle_43 (by decide) ?_
          refine lv_ior hx hb dX11_idle_47 ?_
          refine lv_topi (fun x13 ex13 => ?_)
          replace h := letv_at ex13 h
          refine lv_istore_n (lv' := [(1, .int x13), (0, .ref (P.2.2.1 0)), (2, .int v2_23)]) hx hb dX11_idle_48 rfl hl (by decide) rfl (fun ls hl => ?_)
          refine lv_iinc (v := (v2_23 + 1)) (lv' := [(2, .int (v2_23 + 1)), (1, .int x13), (0, .ref (P.2.2.1 0))]) (k := 2) hx hb dX11_idle_49 hl rfl (congrArg (fun z => v2_23 + z) (by decide)) (by decide) rfl (fun ls hl => ?_)
          refine lv_goto (tgt := 23) hx hb dX11_idle_52 (by decide) ?_
          exact ih_23 x13 (v2_23 + 1) M_23 ls _ _ (lv_sub hl [2, 1, 0] rfl) hw h
  refine lv_aload_n hx hb dX11_idle_0 rfl (lv_at hl 0 rfl) ?_
  refine lv_iconst (v := 0) hx hb dX11_idle_1 (by decide) ?_
  refine wputI C hw fpX11_77 (rfl : _ = some (0, 11)) dX11_idle_2 (fun M1 eM1 H locs hw => ?_)
  replace h := letv_at eM1 h
  refine lv_aload_n hx hb dX11_idle_5 rfl (lv_at hl 0 rfl) ?_
  obtain ⟨r2, e3, h⟩ := bnd_some h
  refine wcallV1 (As := []) (rest := []) C hw (c_X11_isLehr hW  e3) vlX11_231 ⟨Nat.le_of_ble_eq_true rfl, Nat.le_of_ble_eq_true rfl⟩ (rfl : _ = some (0, 11)) rfl rfl rfl hl.1 (Nat.le_of_ble_eq_true rfl) dX11_idle_6 ⟨Nat.zero_le _, Nat.zero_le _⟩ (fun H locs hw => ?_)
  refine lv_if_ne (tgt := 15) hx hb dX11_idle_9 (by decide) (fun c4 => ?_) (fun c4 => ?_)
  · replace h := (if_neg c4).symm.trans h
    refine lv_aload_n hx hb dX11_idle_15 rfl (lv_at hl 0 rfl) ?_
    obtain ⟨M7, e6, h⟩ := bnd_some h
    refine wcallV0 (As := []) (rest := []) C hw (c_X11_lays hW  e6) vlX11_296 ⟨Nat.le_of_ble_eq_true rfl, Nat.le_of_ble_eq_true rfl⟩ (rfl : _ = some (0, 11)) rfl rfl rfl hl.1 (Nat.le_of_ble_eq_true rfl) dX11_idle_16 ⟨Nat.zero_le _, Nat.zero_le _⟩ (fun H locs hw => ?_)
    refine lv_iconst (v := 0) hx hb dX11_idle_19 (by decide) ?_
    refine lv_istore_n (lv' := [(1, .int 0), (0, .ref (P.2.2.1 0))]) hx hb dX11_idle_20 rfl hl (by decide) rfl (fun ls hl => ?_)
    refine lv_iconst (v := 0) hx hb dX11_idle_21 (by decide) ?_
    refine lv_istore_n (lv' := [(2, .int 0), (1, .int 0), (0, .ref (P.2.2.1 0))]) hx hb dX11_idle_22 rfl hl (by decide) rfl (fun ls hl => ?_)
    exact cut_23 FU 0 0 M7 ls _ _ (lv_sub hl [2, 1, 0] rfl) hw h
  · replace h := (if_pos c4).symm.trans h
    refine lv_bipush (v := (-2)) hx hb dX11_idle_12 (by decide) ?_
    exact wretI_W C hw h dX11_idle_14
set_option maxRecDepth 100000 in
set_option maxHeartbeats 4000000 in
theorem c_X11_stiff {l : Launch} {P : Wp} {E : State → Heap → Prop} (hW : Wok shR P E) {p1 : Int32} {M : Mem} {r : Int32} {M' : Mem} (h : f_X11_stiff p1 M = some (r, M')) : CT l shR P E yX11_stiff bX11_stiff 4 ((some .int)) 6 141 [.ref (P.2.2.1 0), .int p1] (some (.int r)) M M' := by
  refine ct_of hW (by decide) (Nat.le_of_ble_eq_true rfl) (fun p e s m args below meth c C ls hl hw => ?_)
  have hx := C.1
  have hb := C.2.1
  replace hl : lv_has ls 4 [(0, .ref (P.2.2.1 0)), (1, .int p1)] := hl
  have cut_25 : ∀ (n_25 : Nat) (v2_25 : Int32) (v3_25 : Int32) (M_25 : Mem) (ls : Array Slot) (H : Heap) (locs : List Loc), lv_has ls 4 [(0, .ref (P.2.2.1 0)), (1, .int p1), (2, .int v2_25), (3, .int v3_25)] → Hw shR P M_25 s H locs → lq3 (L_X11_stiff_25 p1) n_25 v2_25 v3_25 M_25 = some (r, M') → W p l e { frames := 6, cells := 0, slots := 0, locals := 141 } s m args below meth c H locs 0 0 (MQ below (CQ shR P E (some (.int r)) M') args s 0 0 (wA shR P)) (F0 m 25 ls []) := by
    intro n_25
    induction n_25 with
    | zero => intro v2_25 v3_25 M_25 ls H locs hl hw h; cases h
    | succ n_25 ih_25 =>
      intro v2_25 v3_25 M_25 ls H locs hl hw h
      replace h := lq3_succ h
      refine lv_iload_n hx hb dX11_stiff_25 rfl (lv_at hl 3 rfl) ?_
      refine lv_aload_n hx hb dX11_stiff_26 rfl (lv_at hl 0 rfl) ?_
      obtain ⟨r8, e9, h⟩ := bnd_some h
      refine wcallV1 (As := []) (rest := [.int v3_25]) C hw (c_X11_pieces hW  e9) vlX11_227 ⟨Nat.le_of_ble_eq_true rfl, Nat.le_of_ble_eq_true rfl⟩ (rfl : _ = some (0, 11)) rfl rfl rfl hl.1 (Nat.le_of_ble_eq_true rfl) dX11_stiff_27 ⟨Nat.zero_le _, Nat.zero_le _⟩ (fun H locs hw => ?_)
      refine lv_icmp_ge (tgt := 73) hx hb dX11_stiff_30 (by decide) (fun c10 => ?_) (fun c10 => ?_)
      · replace h := (if_pos c10).symm.trans h
        refine lv_iload_n hx hb dX11_stiff_73 rfl (lv_at hl 2 rfl) ?_
        exact wretI_W C hw h dX11_stiff_74
      · replace h := (if_neg c10).symm.trans h
        refine lv_iload_n hx hb dX11_stiff_33 rfl (lv_at hl 2 rfl) ?_
        refine lv_aload_n hx hb dX11_stiff_34 rfl (lv_at hl 0 rfl) ?_
        refine lv_iload_n hx hb dX11_stiff_35 rfl (lv_at hl 3 rfl) ?_
        refine lv_iload_n hx hb dX11_stiff_36 rfl (lv_at hl 1 rfl) ?_
        obtain ⟨r11, e12, h⟩ := bnd_some h
        refine wcallV1 (As := [.int v3_25, .int p1]) (rest := [.int v2_25]) C hw (c_X11_hasCome hW  e12) vlX11_317 ⟨Nat.le_of_ble_eq_true rfl, Nat.le_of_ble_eq_true rfl⟩ (rfl : _ = some (0, 11)) rfl rfl rfl hl.1 (Nat.le_of_ble_eq_true rfl) dX11_stiff_37 ⟨Nat.zero_le _, Nat.zero_le _⟩ (fun H locs hw => ?_)
        refine lv_if_eq (tgt := 64) hx hb dX11_stiff_40 (by decide) (fun c13 => ?_) (fun c13 => ?_)
        · replace h := (if_pos c13).symm.trans h
          refine lv_iconst (v := 0) hx hb dX11_stiff_64 (by decide) ?_
          refine lv_ior hx hb dX11_stiff_65 ?_
          refine lv_topi (fun x14 ex14 => ?_)
          replace h := letv_at ex14 h
          refine lv_istore_n (lv' := [(2, .int x14), (0, .ref (P.2.2.1 0)), (1, .int p1), (3, .int v3_25)]) hx hb dX11_stiff_66 rfl hl (by decide) rfl (fun ls hl => ?_)
          refine lv_iinc (v := (v3_25 + 1)) (lv' := [(3, .int (v3_25 + 1)), (2, .int x14), (0, .ref (P.2.2.1 0)), (1, .int p1)]) (k := 3) hx hb dX11_stiff_67 hl rfl (congrArg (fun z => v3_25 + z) (by decide)) (by decide) rfl (fun ls hl => ?_)
          refine lv_goto (tgt := 25) hx hb dX11_stiff_70 (by decide) ?_
          exact ih_25 x14 (v3_25 + 1) M_25 ls _ _ (lv_sub hl [2, 3, 1, 0] rfl) hw h
        · replace h := (if_neg c13).symm.trans h
          refine lv_aload_n hx hb dX11_stiff_43 rfl (lv_at hl 0 rfl) ?_
          refine lv_iload_n hx hb dX11_stiff_44 rfl (lv_at hl 3 rfl) ?_
          refine lv_iload_n hx hb dX11_stiff_45 rfl (lv_at hl 1 rfl) ?_
          obtain ⟨r15, e16, h⟩ := bnd_some h
          refine wcallV1 (As := [.int v3_25, .int p1]) (rest := [.int v2_25]) C hw (c_X11_coreOf hW  e16) vlX11_271 ⟨Nat.le_of_ble_eq_true rfl, Nat.le_of_ble_eq_true rfl⟩ (rfl : _ = some (0, 11)) rfl rfl rfl hl.1 (Nat.le_of_ble_eq_true rfl) dX11_stiff_46 ⟨Nat.zero_le _, Nat.zero_le _⟩ (fun H locs hw => ?_)
          refine lv_aload_n hx hb dX11_stiff_49 rfl (lv_at hl 0 rfl) ?_
          refine wgetR (t := 7) C hw flX11_34 (rfl : _ = some (0, 11)) rfl dX11_stiff_50 ?_
          refine lv_iconst (v := 4) hx hb dX11_stiff_53 (by decide) ?_
          obtain ⟨g17, h⟩ := grd h
          refine wald C hw (rfl : _ = some (1, 40)) g17 dX11_stiff_54 ?_
          refine lv_icmp_ge (tgt := 64) hx hb dX11_stiff_55 (by decide) (fun c18 => ?_) (fun c18 => ?_)
          · replace h := (if_pos c18).symm.trans h
            refine lv_iconst (v := 0) hx hb dX11_stiff_64 (by decide) ?_
            refine lv_ior hx hb dX11_stiff_65 ?_
            refine lv_topi (fun x19 ex19 => ?_)
            replace h := letv_at ex19 h
            refine lv_istore_n (lv' := [(2, .int x19), (0, .ref (P.2.2.1 0)), (1, .int p1), (3, .int v3_25)]) hx hb dX11_stiff_66 rfl hl (by decide) rfl (fun ls hl => ?_)
            refine lv_iinc (v := (v3_25 + 1)) (lv' := [(3, .int (v3_25 + 1)), (2, .int x19), (0, .ref (P.2.2.1 0)), (1, .int p1)]) (k := 3) hx hb dX11_stiff_67 hl rfl (congrArg (fun z => v3_25 + z) (by decide)) (by decide) rfl (fun ls hl => ?_)
            refine lv_goto (tgt := 25) hx hb dX11_stiff_70 (by decide) ?_
            exact ih_25 x19 (v3_25 + 1) M_25 ls _ _ (lv_sub hl [2, 3, 1, 0] rfl) hw h
          · replace h := (if_neg c18).symm.trans h
            refine lv_iconst (v := 1) hx hb dX11_stiff_58 (by decide) ?_
            refine lv_iload_n hx hb dX11_stiff_59 rfl (lv_at hl 3 rfl) ?_
            refine lv_ishl hx hb dX11_stiff_60 ?_
            refine lv_goto (tgt := 65) hx hb dX11_stiff_61 (by decide) ?_
            refine lv_ior hx hb dX11_stiff_65 ?_
            refine lv_topi (fun x20 ex20 => ?_)
            replace h := letv_at ex20 h
            refine lv_istore_n (lv' := [(2, .int x20), (0, .ref (P.2.2.1 0)), (1, .int p1), (3, .int v3_25)]) hx hb dX11_stiff_66 rfl hl (by decide) rfl (fun ls hl => ?_)
            refine lv_iinc (v := (v3_25 + 1)) (lv' := [(3, .int (v3_25 + 1)), (2, .int x20), (0, .ref (P.2.2.1 0)), (1, .int p1)]) (k := 3) hx hb dX11_stiff_67 hl rfl (congrArg (fun z => v3_25 + z) (by decide)) (by decide) rfl (fun ls hl => ?_)
            refine lv_goto (tgt := 25) hx hb dX11_stiff_70 (by decide) ?_
            exact ih_25 x20 (v3_25 + 1) M_25 ls _ _ (lv_sub hl [2, 3, 1, 0] rfl) hw h
  refine lv_aload_n hx hb dX11_stiff_0 rfl (lv_at hl 0 rfl) ?_
  refine lv_iconst (v := 0) hx hb dX11_stiff_1 (by decide) ?_
  refine wputI C hw fpX11_77 (rfl : _ = some (0, 11)) dX11_stiff_2 (fun M1 eM1 H locs hw => ?_)
  replace h := letv_at eM1 h
  refine lv_aload_n hx hb dX11_stiff_5 rfl (lv_at hl 0 rfl) ?_
  refine lv_iload_n hx hb dX11_stiff_6 rfl (lv_at hl 1 rfl) ?_
  refine lv_i2l hx hb dX11_stiff_7 rfl ?_
  obtain ⟨r2, e3, h⟩ := bnd_some h
  refine wcallV1 (As := [.long ((p1 : Int32).toInt64)]) (rest := []) C hw (c_X11_isStep hW  e3) vlX11_240 ⟨Nat.le_of_ble_eq_true rfl, Nat.le_of_ble_eq_true rfl⟩ (rfl : _ = some (0, 11)) rfl rfl rfl hl.1 (Nat.le_of_ble_eq_true rfl) dX11_stiff_8 ⟨Nat.zero_le _, Nat.zero_le _⟩ (fun H locs hw => ?_)
  refine lv_if_ne (tgt := 17) hx hb dX11_stiff_11 (by decide) (fun c4 => ?_) (fun c4 => ?_)
  · replace h := (if_neg c4).symm.trans h
    refine lv_aload_n hx hb dX11_stiff_17 rfl (lv_at hl 0 rfl) ?_
    obtain ⟨M7, e6, h⟩ := bnd_some h
    refine wcallV0 (As := []) (rest := []) C hw (c_X11_laysNow hW  e6) vlX11_311 ⟨Nat.le_of_ble_eq_true rfl, Nat.le_of_ble_eq_true rfl⟩ (rfl : _ = some (0, 11)) rfl rfl rfl hl.1 (Nat.le_of_ble_eq_true rfl) dX11_stiff_18 ⟨Nat.zero_le _, Nat.zero_le _⟩ (fun H locs hw => ?_)
    refine lv_iconst (v := 0) hx hb dX11_stiff_21 (by decide) ?_
    refine lv_istore_n (lv' := [(2, .int 0), (0, .ref (P.2.2.1 0)), (1, .int p1)]) hx hb dX11_stiff_22 rfl hl (by decide) rfl (fun ls hl => ?_)
    refine lv_iconst (v := 0) hx hb dX11_stiff_23 (by decide) ?_
    refine lv_istore_n (lv' := [(3, .int 0), (2, .int 0), (0, .ref (P.2.2.1 0)), (1, .int p1)]) hx hb dX11_stiff_24 rfl hl (by decide) rfl (fun ls hl => ?_)
    exact cut_25 FU 0 0 M7 ls _ _ (lv_sub hl [2, 3, 1, 0] rfl) hw h
  · replace h := (if_pos c4).symm.trans h
    refine lv_bipush (v := (-2)) hx hb dX11_stiff_14 (by decide) ?_
    exact wretI_W C hw h dX11_stiff_16
set_option maxRecDepth 100000 in
set_option maxHeartbeats 4000000 in
theorem c_X11_isSound {l : Launch} {P : Wp} {E : State → Heap → Prop} (hW : Wok shR P E) {p1 : Int32} {M : Mem} {r : Int32} {M' : Mem} (h : f_X11_isSound p1 M = some (r, M')) : CT l shR P E yX11_isSound bX11_isSound 2 ((some .boolean)) 5 121 [.ref (P.2.2.1 0), .int p1] (some (.int r)) M M' := by
  refine ct_of hW (by decide) (Nat.le_of_ble_eq_true rfl) (fun p e s m args below meth c C ls hl hw => ?_)
  have hx := C.1
  have hb := C.2.1
  replace hl : lv_has ls 2 [(0, .ref (P.2.2.1 0)), (1, .int p1)] := hl
  refine lv_aload_n hx hb dX11_isSound_0 rfl (lv_at hl 0 rfl) ?_
  obtain ⟨M3, e2, h⟩ := bnd_some h
  refine wcallV0 (As := []) (rest := []) C hw (c_X11_runs hW  e2) vlX11_299 ⟨Nat.le_of_ble_eq_true rfl, Nat.le_of_ble_eq_true rfl⟩ (rfl : _ = some (0, 11)) rfl rfl rfl hl.1 (Nat.le_of_ble_eq_true rfl) dX11_isSound_1 ⟨Nat.zero_le _, Nat.zero_le _⟩ (fun H locs hw => ?_)
  refine lv_aload_n hx hb dX11_isSound_4 rfl (lv_at hl 0 rfl) ?_
  refine wgetR (t := 19) C hw flX11_71 (rfl : _ = some (0, 11)) rfl dX11_isSound_5 ?_
  refine lv_iload_n hx hb dX11_isSound_8 rfl (lv_at hl 1 rfl) ?_
  obtain ⟨g4, h⟩ := grd h
  refine wald C hw (rfl : _ = some (1, 6)) g4 dX11_isSound_9 ?_
  refine lv_iconst (v := (-1)) hx hb dX11_isSound_10 (by decide) ?_
  refine lv_icmp_ne (tgt := 18) hx hb dX11_isSound_11 (by decide) (fun c5 => ?_) (fun c5 => ?_)
  · replace h := (if_neg c5).symm.trans h
    refine lv_iconst (v := 0) hx hb dX11_isSound_18 (by decide) ?_
    exact wretZ_W C hw (Or.inl rfl) h dX11_isSound_19
  · replace h := (if_pos c5).symm.trans h
    refine lv_iconst (v := 1) hx hb dX11_isSound_14 (by decide) ?_
    refine lv_goto (tgt := 19) hx hb dX11_isSound_15 (by decide) ?_
    exact wretZ_W C hw (Or.inr rfl) h dX11_isSound_19
set_option maxRecDepth 100000 in
set_option maxHeartbeats 4000000 in
theorem c_X11_spare {l : Launch} {P : Wp} {E : State → Heap → Prop} (hW : Wok shR P E) {p1 : Int32} {M : Mem} {r : Int32} {M' : Mem} (h : f_X11_spare p1 M = some (r, M')) : CT l shR P E yX11_spare bX11_spare 3 ((some .int)) 6 142 [.ref (P.2.2.1 0), .int p1] (some (.int r)) M M' := by
  refine ct_of hW (by decide) (Nat.le_of_ble_eq_true rfl) (fun p e s m args below meth c C ls hl hw => ?_)
  have hx := C.1
  have hb := C.2.1
  replace hl : lv_has ls 3 [(0, .ref (P.2.2.1 0)), (1, .int p1)] := hl
  have cut_33 : ∀ (n_33 : Nat) (v2_33 : Int32) (M_33 : Mem) (ls : Array Slot) (H : Heap) (locs : List Loc), lv_has ls 3 [(0, .ref (P.2.2.1 0)), (1, .int p1), (2, .int v2_33)] → Hw shR P M_33 s H locs → lq2 (L_X11_spare_33 p1) n_33 v2_33 M_33 = some (r, M') → W p l e { frames := 6, cells := 0, slots := 0, locals := 142 } s m args below meth c H locs 0 0 (MQ below (CQ shR P E (some (.int r)) M') args s 0 0 (wA shR P)) (F0 m 33 ls []) := by
    intro n_33
    induction n_33 with
    | zero => intro v2_33 M_33 ls H locs hl hw h; cases h
    | succ n_33 ih_33 =>
      intro v2_33 M_33 ls H locs hl hw h
      replace h := lq2_succ h
      refine lv_iload_n hx hb dX11_spare_33 rfl (lv_at hl 2 rfl) ?_
      refine lv_aload_n hx hb dX11_spare_34 rfl (lv_at hl 0 rfl) ?_
      refine wgetR (t := 9) C hw flX11_40 (rfl : _ = some (0, 11)) rfl dX11_spare_35 ?_
      refine lv_iconst (v := 4) hx hb dX11_spare_38 (by decide) ?_
      refine lv_iload_n hx hb dX11_spare_39 rfl (lv_at hl 1 rfl) ?_
      refine lv_imul hx hb dX11_spare_40 ?_
      refine lv_iconst (v := 2) hx hb dX11_spare_41 (by decide) ?_
      refine lv_iadd hx hb dX11_spare_42 ?_
      obtain ⟨g12, h⟩ := grd h
      refine wald C hw (rfl : _ = some (1, 120)) g12 dX11_spare_43 ?_
      refine lv_icmp_ge (tgt := 83) hx hb dX11_spare_44 (by decide) (fun c13 => ?_) (fun c13 => ?_)
      · replace h := (if_pos c13).symm.trans h
        refine lv_iload_n hx hb dX11_spare_83 rfl (lv_at hl 2 rfl) ?_
        exact wretI_W C hw h dX11_spare_84
      · replace h := (if_neg c13).symm.trans h
        refine lv_aload_n hx hb dX11_spare_47 rfl (lv_at hl 0 rfl) ?_
        refine wgetR (t := 14) C hw flX11_56 (rfl : _ = some (0, 11)) rfl dX11_spare_48 ?_
        refine lv_iload_n hx hb dX11_spare_51 rfl (lv_at hl 1 rfl) ?_
        refine lv_aload_n hx hb dX11_spare_52 rfl (lv_at hl 0 rfl) ?_
        refine wgetR (t := 9) C hw flX11_40 (rfl : _ = some (0, 11)) rfl dX11_spare_53 ?_
        refine lv_iconst (v := 4) hx hb dX11_spare_56 (by decide) ?_
        refine lv_iload_n hx hb dX11_spare_57 rfl (lv_at hl 1 rfl) ?_
        refine lv_imul hx hb dX11_spare_58 ?_
        refine lv_iconst (v := 2) hx hb dX11_spare_59 (by decide) ?_
        refine lv_iadd hx hb dX11_spare_60 ?_
        obtain ⟨g14, h⟩ := grd h
        refine wald C hw (rfl : _ = some (1, 120)) g14 dX11_spare_61 ?_
        refine lv_iload_n hx hb dX11_spare_62 rfl (lv_at hl 2 rfl) ?_
        refine lv_isub hx hb dX11_spare_63 ?_
        refine lv_iconst (v := 1) hx hb dX11_spare_64 (by decide) ?_
        refine lv_isub hx hb dX11_spare_65 ?_
        obtain ⟨g16, h⟩ := grd h
        refine wast C hw (rfl : _ = some (1, 6)) g16 dX11_spare_66 (fun M15 eM15 H locs hw => ?_)
        replace h := letv_at eM15 h
        refine lv_aload_n hx hb dX11_spare_67 rfl (lv_at hl 0 rfl) ?_
        refine lv_iload_n hx hb dX11_spare_68 rfl (lv_at hl 1 rfl) ?_
        obtain ⟨r17, M19, e18, h⟩ := bnd2_some h
        refine wcallV1 (As := [.int p1]) (rest := []) C hw (c_X11_isSound hW  e18) vlX11_355 ⟨Nat.le_of_ble_eq_true rfl, Nat.le_of_ble_eq_true rfl⟩ (rfl : _ = some (0, 11)) rfl rfl rfl hl.1 (Nat.le_of_ble_eq_true rfl) dX11_spare_69 ⟨Nat.zero_le _, Nat.zero_le _⟩ (fun H locs hw => ?_)
        refine lv_if_ne (tgt := 77) hx hb dX11_spare_72 (by decide) (fun c20 => ?_) (fun c20 => ?_)
        · replace h := (if_neg c20).symm.trans h
          refine lv_iinc (v := (v2_33 + 1)) (lv' := [(2, .int (v2_33 + 1)), (0, .ref (P.2.2.1 0)), (1, .int p1)]) (k := 2) hx hb dX11_spare_77 hl rfl (congrArg (fun z => v2_33 + z) (by decide)) (by decide) rfl (fun ls hl => ?_)
          refine lv_goto (tgt := 33) hx hb dX11_spare_80 (by decide) ?_
          exact ih_33 (v2_33 + 1) M19 ls _ _ (lv_sub hl [1, 2, 0] rfl) hw h
        · replace h := (if_pos c20).symm.trans h
          refine lv_iload_n hx hb dX11_spare_75 rfl (lv_at hl 2 rfl) ?_
          exact wretI_W C hw h dX11_spare_76
  refine lv_aload_n hx hb dX11_spare_0 rfl (lv_at hl 0 rfl) ?_
  refine lv_iconst (v := 0) hx hb dX11_spare_1 (by decide) ?_
  refine wputI C hw fpX11_77 (rfl : _ = some (0, 11)) dX11_spare_2 (fun M1 eM1 H locs hw => ?_)
  replace h := letv_at eM1 h
  refine lv_aload_n hx hb dX11_spare_5 rfl (lv_at hl 0 rfl) ?_
  refine lv_iload_n hx hb dX11_spare_6 rfl (lv_at hl 1 rfl) ?_
  refine lv_i2l hx hb dX11_spare_7 rfl ?_
  obtain ⟨r2, e3, h⟩ := bnd_some h
  refine wcallV1 (As := [.long ((p1 : Int32).toInt64)]) (rest := []) C hw (c_X11_isPiece hW  e3) vlX11_237 ⟨Nat.le_of_ble_eq_true rfl, Nat.le_of_ble_eq_true rfl⟩ (rfl : _ = some (0, 11)) rfl rfl rfl hl.1 (Nat.le_of_ble_eq_true rfl) dX11_spare_8 ⟨Nat.zero_le _, Nat.zero_le _⟩ (fun H locs hw => ?_)
  refine lv_if_ne (tgt := 17) hx hb dX11_spare_11 (by decide) (fun c4 => ?_) (fun c4 => ?_)
  · replace h := (if_neg c4).symm.trans h
    refine lv_aload_n hx hb dX11_spare_17 rfl (lv_at hl 0 rfl) ?_
    obtain ⟨M7, e6, h⟩ := bnd_some h
    refine wcallV0 (As := []) (rest := []) C hw (c_X11_lays hW  e6) vlX11_296 ⟨Nat.le_of_ble_eq_true rfl, Nat.le_of_ble_eq_true rfl⟩ (rfl : _ = some (0, 11)) rfl rfl rfl hl.1 (Nat.le_of_ble_eq_true rfl) dX11_spare_18 ⟨Nat.zero_le _, Nat.zero_le _⟩ (fun H locs hw => ?_)
    refine lv_aload_n hx hb dX11_spare_21 rfl (lv_at hl 0 rfl) ?_
    refine lv_iload_n hx hb dX11_spare_22 rfl (lv_at hl 1 rfl) ?_
    obtain ⟨r8, M10, e9, h⟩ := bnd2_some h
    refine wcallV1 (As := [.int p1]) (rest := []) C hw (c_X11_isSound hW  e9) vlX11_355 ⟨Nat.le_of_ble_eq_true rfl, Nat.le_of_ble_eq_true rfl⟩ (rfl : _ = some (0, 11)) rfl rfl rfl hl.1 (Nat.le_of_ble_eq_true rfl) dX11_spare_23 ⟨Nat.zero_le _, Nat.zero_le _⟩ (fun H locs hw => ?_)
    refine lv_if_ne (tgt := 31) hx hb dX11_spare_26 (by decide) (fun c11 => ?_) (fun c11 => ?_)
    · replace h := (if_neg c11).symm.trans h
      refine lv_iconst (v := 0) hx hb dX11_spare_31 (by decide) ?_
      refine lv_istore_n (lv' := [(2, .int 0), (0, .ref (P.2.2.1 0)), (1, .int p1)]) hx hb dX11_spare_32 rfl hl (by decide) rfl (fun ls hl => ?_)
      exact cut_33 FU 0 M10 ls _ _ (lv_sub hl [1, 2, 0] rfl) hw h
    · replace h := (if_pos c11).symm.trans h
      refine lv_iconst (v := (-1)) hx hb dX11_spare_29 (by decide) ?_
      exact wretI_W C hw h dX11_spare_30
  · replace h := (if_pos c4).symm.trans h
    refine lv_bipush (v := (-2)) hx hb dX11_spare_14 (by decide) ?_
    exact wretI_W C hw h dX11_spare_16
set_option maxRecDepth 100000 in
set_option maxHeartbeats 4000000 in
theorem c_X11_needs {l : Launch} {P : Wp} {E : State → Heap → Prop} (hW : Wok shR P E) {p1 : Int32} {M : Mem} {r : Int32} {M' : Mem} (h : f_X11_needs p1 M = some (r, M')) : CT l shR P E yX11_needs bX11_needs 3 ((some .int)) 6 142 [.ref (P.2.2.1 0), .int p1] (some (.int r)) M M' := by
  refine ct_of hW (by decide) (Nat.le_of_ble_eq_true rfl) (fun p e s m args below meth c C ls hl hw => ?_)
  have hx := C.1
  have hb := C.2.1
  replace hl : lv_has ls 3 [(0, .ref (P.2.2.1 0)), (1, .int p1)] := hl
  have cut_23 : ∀ (n_23 : Nat) (v2_23 : Int32) (M_23 : Mem) (ls : Array Slot) (H : Heap) (locs : List Loc), lv_has ls 3 [(0, .ref (P.2.2.1 0)), (1, .int p1), (2, .int v2_23)] → Hw shR P M_23 s H locs → lq2 (L_X11_needs_23 p1) n_23 v2_23 M_23 = some (r, M') → W p l e { frames := 6, cells := 0, slots := 0, locals := 142 } s m args below meth c H locs 0 0 (MQ below (CQ shR P E (some (.int r)) M') args s 0 0 (wA shR P)) (F0 m 23 ls []) := by
    intro n_23
    induction n_23 with
    | zero => intro v2_23 M_23 ls H locs hl hw h; cases h
    | succ n_23 ih_23 =>
      intro v2_23 M_23 ls H locs hl hw h
      replace h := lq2_succ h
      refine lv_iload_n hx hb dX11_needs_23 rfl (lv_at hl 2 rfl) ?_
      refine lv_sipush (v := 300) hx hb dX11_needs_24 (by decide) ?_
      refine lv_icmp_gt (tgt := 53) hx hb dX11_needs_27 (by decide) (fun c8 => ?_) (fun c8 => ?_)
      · replace h := (if_pos c8).symm.trans h
        refine lv_iconst (v := (-1)) hx hb dX11_needs_53 (by decide) ?_
        exact wretI_W C hw h dX11_needs_54
      · replace h := (if_neg c8).symm.trans h
        refine lv_aload_n hx hb dX11_needs_30 rfl (lv_at hl 0 rfl) ?_
        refine wgetR (t := 14) C hw flX11_56 (rfl : _ = some (0, 11)) rfl dX11_needs_31 ?_
        refine lv_iload_n hx hb dX11_needs_34 rfl (lv_at hl 1 rfl) ?_
        refine lv_iload_n hx hb dX11_needs_35 rfl (lv_at hl 2 rfl) ?_
        obtain ⟨g10, h⟩ := grd h
        refine wast C hw (rfl : _ = some (1, 6)) g10 dX11_needs_36 (fun M9 eM9 H locs hw => ?_)
        replace h := letv_at eM9 h
        refine lv_aload_n hx hb dX11_needs_37 rfl (lv_at hl 0 rfl) ?_
        refine lv_iload_n hx hb dX11_needs_38 rfl (lv_at hl 1 rfl) ?_
        obtain ⟨r11, M13, e12, h⟩ := bnd2_some h
        refine wcallV1 (As := [.int p1]) (rest := []) C hw (c_X11_isSound hW  e12) vlX11_355 ⟨Nat.le_of_ble_eq_true rfl, Nat.le_of_ble_eq_true rfl⟩ (rfl : _ = some (0, 11)) rfl rfl rfl hl.1 (Nat.le_of_ble_eq_true rfl) dX11_needs_39 ⟨Nat.zero_le _, Nat.zero_le _⟩ (fun H locs hw => ?_)
        refine lv_if_eq (tgt := 47) hx hb dX11_needs_42 (by decide) (fun c14 => ?_) (fun c14 => ?_)
        · replace h := (if_pos c14).symm.trans h
          refine lv_iinc (v := (v2_23 + 1)) (lv' := [(2, .int (v2_23 + 1)), (0, .ref (P.2.2.1 0)), (1, .int p1)]) (k := 2) hx hb dX11_needs_47 hl rfl (congrArg (fun z => v2_23 + z) (by decide)) (by decide) rfl (fun ls hl => ?_)
          refine lv_goto (tgt := 23) hx hb dX11_needs_50 (by decide) ?_
          exact ih_23 (v2_23 + 1) M13 ls _ _ (lv_sub hl [1, 2, 0] rfl) hw h
        · replace h := (if_neg c14).symm.trans h
          refine lv_iload_n hx hb dX11_needs_45 rfl (lv_at hl 2 rfl) ?_
          exact wretI_W C hw h dX11_needs_46
  refine lv_aload_n hx hb dX11_needs_0 rfl (lv_at hl 0 rfl) ?_
  refine lv_iconst (v := 0) hx hb dX11_needs_1 (by decide) ?_
  refine wputI C hw fpX11_77 (rfl : _ = some (0, 11)) dX11_needs_2 (fun M1 eM1 H locs hw => ?_)
  replace h := letv_at eM1 h
  refine lv_aload_n hx hb dX11_needs_5 rfl (lv_at hl 0 rfl) ?_
  refine lv_iload_n hx hb dX11_needs_6 rfl (lv_at hl 1 rfl) ?_
  refine lv_i2l hx hb dX11_needs_7 rfl ?_
  obtain ⟨r2, e3, h⟩ := bnd_some h
  refine wcallV1 (As := [.long ((p1 : Int32).toInt64)]) (rest := []) C hw (c_X11_isPiece hW  e3) vlX11_237 ⟨Nat.le_of_ble_eq_true rfl, Nat.le_of_ble_eq_true rfl⟩ (rfl : _ = some (0, 11)) rfl rfl rfl hl.1 (Nat.le_of_ble_eq_true rfl) dX11_needs_8 ⟨Nat.zero_le _, Nat.zero_le _⟩ (fun H locs hw => ?_)
  refine lv_if_ne (tgt := 17) hx hb dX11_needs_11 (by decide) (fun c4 => ?_) (fun c4 => ?_)
  · replace h := (if_neg c4).symm.trans h
    refine lv_aload_n hx hb dX11_needs_17 rfl (lv_at hl 0 rfl) ?_
    obtain ⟨M7, e6, h⟩ := bnd_some h
    refine wcallV0 (As := []) (rest := []) C hw (c_X11_lays hW  e6) vlX11_296 ⟨Nat.le_of_ble_eq_true rfl, Nat.le_of_ble_eq_true rfl⟩ (rfl : _ = some (0, 11)) rfl rfl rfl hl.1 (Nat.le_of_ble_eq_true rfl) dX11_needs_18 ⟨Nat.zero_le _, Nat.zero_le _⟩ (fun H locs hw => ?_)
    refine lv_iconst (v := 0) hx hb dX11_needs_21 (by decide) ?_
    refine lv_istore_n (lv' := [(2, .int 0), (0, .ref (P.2.2.1 0)), (1, .int p1)]) hx hb dX11_needs_22 rfl hl (by decide) rfl (fun ls hl => ?_)
    exact cut_23 FU 0 M7 ls _ _ (lv_sub hl [1, 2, 0] rfl) hw h
  · replace h := (if_pos c4).symm.trans h
    refine lv_bipush (v := (-2)) hx hb dX11_needs_14 (by decide) ?_
    exact wretI_W C hw h dX11_needs_16
set_option maxRecDepth 100000 in
set_option maxHeartbeats 4000000 in
theorem c_X11_thin {l : Launch} {P : Wp} {E : State → Heap → Prop} (hW : Wok shR P E) {p1 : Int32} {M : Mem} {r : Int32} {M' : Mem} (h : f_X11_thin p1 M = some (r, M')) : CT l shR P E yX11_thin bX11_thin 3 ((some .int)) 6 142 [.ref (P.2.2.1 0), .int p1] (some (.int r)) M M' := by
  refine ct_of hW (by decide) (Nat.le_of_ble_eq_true rfl) (fun p e s m args below meth c C ls hl hw => ?_)
  have hx := C.1
  have hb := C.2.1
  replace hl : lv_has ls 3 [(0, .ref (P.2.2.1 0)), (1, .int p1)] := hl
  have cut_24 : ∀ (n_24 : Nat) (v2_24 : Int32) (M_24 : Mem) (ls : Array Slot) (H : Heap) (locs : List Loc), lv_has ls 3 [(0, .ref (P.2.2.1 0)), (1, .int p1), (2, .int v2_24)] → Hw shR P M_24 s H locs → lq2 (L_X11_thin_24 p1) n_24 v2_24 M_24 = some (r, M') → W p l e { frames := 6, cells := 0, slots := 0, locals := 142 } s m args below meth c H locs 0 0 (MQ below (CQ shR P E (some (.int r)) M') args s 0 0 (wA shR P)) (F0 m 24 ls []) := by
    intro n_24
    induction n_24 with
    | zero => intro v2_24 M_24 ls H locs hl hw h; cases h
    | succ n_24 ih_24 =>
      intro v2_24 M_24 ls H locs hl hw h
      replace h := lq2_succ h
      refine lv_iload_n hx hb dX11_thin_24 rfl (lv_at hl 2 rfl) ?_
      refine lv_if_le (tgt := 51) hx hb dX11_thin_25 (by decide) (fun c8 => ?_) (fun c8 => ?_)
      · replace h := (if_pos c8).symm.trans h
        refine lv_iconst (v := (-1)) hx hb dX11_thin_51 (by decide) ?_
        exact wretI_W C hw h dX11_thin_52
      · replace h := (if_neg c8).symm.trans h
        refine lv_aload_n hx hb dX11_thin_28 rfl (lv_at hl 0 rfl) ?_
        refine wgetR (t := 13) C hw flX11_53 (rfl : _ = some (0, 11)) rfl dX11_thin_29 ?_
        refine lv_iload_n hx hb dX11_thin_32 rfl (lv_at hl 1 rfl) ?_
        refine lv_iload_n hx hb dX11_thin_33 rfl (lv_at hl 2 rfl) ?_
        obtain ⟨g10, h⟩ := grd h
        refine wast C hw (rfl : _ = some (1, 6)) g10 dX11_thin_34 (fun M9 eM9 H locs hw => ?_)
        replace h := letv_at eM9 h
        refine lv_aload_n hx hb dX11_thin_35 rfl (lv_at hl 0 rfl) ?_
        refine lv_iload_n hx hb dX11_thin_36 rfl (lv_at hl 1 rfl) ?_
        obtain ⟨r11, M13, e12, h⟩ := bnd2_some h
        refine wcallV1 (As := [.int p1]) (rest := []) C hw (c_X11_isSound hW  e12) vlX11_355 ⟨Nat.le_of_ble_eq_true rfl, Nat.le_of_ble_eq_true rfl⟩ (rfl : _ = some (0, 11)) rfl rfl rfl hl.1 (Nat.le_of_ble_eq_true rfl) dX11_thin_37 ⟨Nat.zero_le _, Nat.zero_le _⟩ (fun H locs hw => ?_)
        refine lv_if_eq (tgt := 45) hx hb dX11_thin_40 (by decide) (fun c14 => ?_) (fun c14 => ?_)
        · replace h := (if_pos c14).symm.trans h
          refine lv_iinc (v := (v2_24 + (-1))) (lv' := [(2, .int (v2_24 + (-1))), (0, .ref (P.2.2.1 0)), (1, .int p1)]) (k := 2) hx hb dX11_thin_45 hl rfl (congrArg (fun z => v2_24 + z) (by decide)) (by decide) rfl (fun ls hl => ?_)
          refine lv_goto (tgt := 24) hx hb dX11_thin_48 (by decide) ?_
          exact ih_24 (v2_24 + (-1)) M13 ls _ _ (lv_sub hl [1, 2, 0] rfl) hw h
        · replace h := (if_neg c14).symm.trans h
          refine lv_iload_n hx hb dX11_thin_43 rfl (lv_at hl 2 rfl) ?_
          exact wretI_W C hw h dX11_thin_44
  refine lv_aload_n hx hb dX11_thin_0 rfl (lv_at hl 0 rfl) ?_
  refine lv_iconst (v := 0) hx hb dX11_thin_1 (by decide) ?_
  refine wputI C hw fpX11_77 (rfl : _ = some (0, 11)) dX11_thin_2 (fun M1 eM1 H locs hw => ?_)
  replace h := letv_at eM1 h
  refine lv_aload_n hx hb dX11_thin_5 rfl (lv_at hl 0 rfl) ?_
  refine lv_iload_n hx hb dX11_thin_6 rfl (lv_at hl 1 rfl) ?_
  refine lv_i2l hx hb dX11_thin_7 rfl ?_
  obtain ⟨r2, e3, h⟩ := bnd_some h
  refine wcallV1 (As := [.long ((p1 : Int32).toInt64)]) (rest := []) C hw (c_X11_isPiece hW  e3) vlX11_237 ⟨Nat.le_of_ble_eq_true rfl, Nat.le_of_ble_eq_true rfl⟩ (rfl : _ = some (0, 11)) rfl rfl rfl hl.1 (Nat.le_of_ble_eq_true rfl) dX11_thin_8 ⟨Nat.zero_le _, Nat.zero_le _⟩ (fun H locs hw => ?_)
  refine lv_if_ne (tgt := 17) hx hb dX11_thin_11 (by decide) (fun c4 => ?_) (fun c4 => ?_)
  · replace h := (if_neg c4).symm.trans h
    refine lv_aload_n hx hb dX11_thin_17 rfl (lv_at hl 0 rfl) ?_
    obtain ⟨M7, e6, h⟩ := bnd_some h
    refine wcallV0 (As := []) (rest := []) C hw (c_X11_lays hW  e6) vlX11_296 ⟨Nat.le_of_ble_eq_true rfl, Nat.le_of_ble_eq_true rfl⟩ (rfl : _ = some (0, 11)) rfl rfl rfl hl.1 (Nat.le_of_ble_eq_true rfl) dX11_thin_18 ⟨Nat.zero_le _, Nat.zero_le _⟩ (fun H locs hw => ?_)
    refine lv_bipush (v := 9) hx hb dX11_thin_21 (by decide) ?_
    refine lv_istore_n (lv' := [(2, .int 9), (0, .ref (P.2.2.1 0)), (1, .int p1)]) hx hb dX11_thin_23 rfl hl (by decide) rfl (fun ls hl => ?_)
    exact cut_24 FU 9 M7 ls _ _ (lv_sub hl [1, 2, 0] rfl) hw h
  · replace h := (if_pos c4).symm.trans h
    refine lv_bipush (v := (-2)) hx hb dX11_thin_14 (by decide) ?_
    exact wretI_W C hw h dX11_thin_16
set_option maxRecDepth 100000 in
set_option maxHeartbeats 4000000 in
theorem c_X11_soundBy {l : Launch} {P : Wp} {E : State → Heap → Prop} (hW : Wok shR P E) {p1 : Int32} {M : Mem} {r : Int32} {M' : Mem} (h : f_X11_soundBy p1 M = some (r, M')) : CT l shR P E yX11_soundBy bX11_soundBy 2 ((some .int)) 5 121 [.ref (P.2.2.1 0), .int p1] (some (.int r)) M M' := by
  refine ct_of hW (by decide) (Nat.le_of_ble_eq_true rfl) (fun p e s m args below meth c C ls hl hw => ?_)
  have hx := C.1
  have hb := C.2.1
  replace hl : lv_has ls 2 [(0, .ref (P.2.2.1 0)), (1, .int p1)] := hl
  refine lv_aload_n hx hb dX11_soundBy_0 rfl (lv_at hl 0 rfl) ?_
  obtain ⟨M3, e2, h⟩ := bnd_some h
  refine wcallV0 (As := []) (rest := []) C hw (c_X11_lays hW  e2) vlX11_296 ⟨Nat.le_of_ble_eq_true rfl, Nat.le_of_ble_eq_true rfl⟩ (rfl : _ = some (0, 11)) rfl rfl rfl hl.1 (Nat.le_of_ble_eq_true rfl) dX11_soundBy_1 ⟨Nat.zero_le _, Nat.zero_le _⟩ (fun H locs hw => ?_)
  refine lv_aload_n hx hb dX11_soundBy_4 rfl (lv_at hl 0 rfl) ?_
  refine lv_iload_n hx hb dX11_soundBy_5 rfl (lv_at hl 1 rfl) ?_
  refine wputI C hw fpX11_246 (rfl : _ = some (0, 11)) dX11_soundBy_6 (fun M4 eM4 H locs hw => ?_)
  replace h := letv_at eM4 h
  refine lv_aload_n hx hb dX11_soundBy_9 rfl (lv_at hl 0 rfl) ?_
  obtain ⟨M7, e6, h⟩ := bnd_some h
  refine wcallV0 (As := []) (rest := []) C hw (c_X11_runs hW  e6) vlX11_299 ⟨Nat.le_of_ble_eq_true rfl, Nat.le_of_ble_eq_true rfl⟩ (rfl : _ = some (0, 11)) rfl rfl rfl hl.1 (Nat.le_of_ble_eq_true rfl) dX11_soundBy_10 ⟨Nat.zero_le _, Nat.zero_le _⟩ (fun H locs hw => ?_)
  refine lv_aload_n hx hb dX11_soundBy_13 rfl (lv_at hl 0 rfl) ?_
  obtain ⟨r8, e9, h⟩ := bnd_some h
  refine wcallV1 (As := []) (rest := []) C hw (c_X11_soundNow hW  e9) vlX11_323 ⟨Nat.le_of_ble_eq_true rfl, Nat.le_of_ble_eq_true rfl⟩ (rfl : _ = some (0, 11)) rfl rfl rfl hl.1 (Nat.le_of_ble_eq_true rfl) dX11_soundBy_14 ⟨Nat.zero_le _, Nat.zero_le _⟩ (fun H locs hw => ?_)
  obtain ⟨r10, e11, h⟩ := bnd_some h
  refine wcallS1 (As := [.int r8]) (rest := []) C hw (c_X11_sizeOf hW  e11) slX11_335 ⟨Nat.le_of_ble_eq_true rfl, Nat.le_of_ble_eq_true rfl⟩ rfl rfl hl.1 (Nat.le_of_ble_eq_true rfl) dX11_soundBy_17 ⟨Nat.zero_le _, Nat.zero_le _⟩ (fun H locs hw => ?_)
  exact wretI_W C hw h dX11_soundBy_20
set_option maxRecDepth 100000 in
set_option maxHeartbeats 4000000 in
theorem c_X11_bestPace {l : Launch} {P : Wp} {E : State → Heap → Prop} (hW : Wok shR P E) {M : Mem} {r : Int32} {M' : Mem} (h : f_X11_bestPace M = some (r, M')) : CT l shR P E yX11_bestPace bX11_bestPace 3 ((some .int)) 6 142 [.ref (P.2.2.1 0)] (some (.int r)) M M' := by
  refine ct_of hW (by decide) (Nat.le_of_ble_eq_true rfl) (fun p e s m args below meth c C ls hl hw => ?_)
  have hx := C.1
  have hb := C.2.1
  replace hl : lv_has ls 3 [(0, .ref (P.2.2.1 0))] := hl
  have cut_4 : ∀ (n_4 : Nat) (v1_4 : Int32) (v2_4 : Int32) (M_4 : Mem) (ls : Array Slot) (H : Heap) (locs : List Loc), lv_has ls 3 [(0, .ref (P.2.2.1 0)), (1, .int v1_4), (2, .int v2_4)] → Hw shR P M_4 s H locs → lq3 (L_X11_bestPace_4) n_4 v1_4 v2_4 M_4 = some (r, M') → W p l e { frames := 6, cells := 0, slots := 0, locals := 142 } s m args below meth c H locs 0 0 (MQ below (CQ shR P E (some (.int r)) M') args s 0 0 (wA shR P)) (F0 m 4 ls []) := by
    intro n_4
    induction n_4 with
    | zero => intro v1_4 v2_4 M_4 ls H locs hl hw h; cases h
    | succ n_4 ih_4 =>
      intro v1_4 v2_4 M_4 ls H locs hl hw h
      replace h := lq3_succ h
      refine lv_iload_n hx hb dX11_bestPace_4 rfl (lv_at hl 2 rfl) ?_
      refine lv_bipush (v := 6) hx hb dX11_bestPace_5 (by decide) ?_
      refine lv_icmp_gt (tgt := 31) hx hb dX11_bestPace_7 (by decide) (fun c1 => ?_) (fun c1 => ?_)
      · replace h := (if_pos c1).symm.trans h
        refine lv_iload_n hx hb dX11_bestPace_31 rfl (lv_at hl 1 rfl) ?_
        exact wretI_W C hw h dX11_bestPace_32
      · replace h := (if_neg c1).symm.trans h
        refine lv_aload_n hx hb dX11_bestPace_10 rfl (lv_at hl 0 rfl) ?_
        refine lv_iload_n hx hb dX11_bestPace_11 rfl (lv_at hl 2 rfl) ?_
        obtain ⟨r2, M4, e3, h⟩ := bnd2_some h
        refine wcallV1 (As := [.int v2_4]) (rest := []) C hw (c_X11_soundBy hW  e3) vlX11_358 ⟨Nat.le_of_ble_eq_true rfl, Nat.le_of_ble_eq_true rfl⟩ (rfl : _ = some (0, 11)) rfl rfl rfl hl.1 (Nat.le_of_ble_eq_true rfl) dX11_bestPace_12 ⟨Nat.zero_le _, Nat.zero_le _⟩ (fun H locs hw => ?_)
        refine lv_aload_n hx hb dX11_bestPace_15 rfl (lv_at hl 0 rfl) ?_
        refine lv_iload_n hx hb dX11_bestPace_16 rfl (lv_at hl 1 rfl) ?_
        obtain ⟨r5, M7, e6, h⟩ := bnd2_some h
        refine wcallV1 (As := [.int v1_4]) (rest := [.int r2]) C hw (c_X11_soundBy hW  e6) vlX11_358 ⟨Nat.le_of_ble_eq_true rfl, Nat.le_of_ble_eq_true rfl⟩ (rfl : _ = some (0, 11)) rfl rfl rfl hl.1 (Nat.le_of_ble_eq_true rfl) dX11_bestPace_17 ⟨Nat.zero_le _, Nat.zero_le _⟩ (fun H locs hw => ?_)
        refine lv_icmp_le (tgt := 25) hx hb dX11_bestPace_20 (by decide) (fun c8 => ?_) (fun c8 => ?_)
        · replace h := (if_pos c8).symm.trans h
          refine lv_iinc (v := (v2_4 + 1)) (lv' := [(2, .int (v2_4 + 1)), (0, .ref (P.2.2.1 0)), (1, .int v1_4)]) (k := 2) hx hb dX11_bestPace_25 hl rfl (congrArg (fun z => v2_4 + z) (by decide)) (by decide) rfl (fun ls hl => ?_)
          refine lv_goto (tgt := 4) hx hb dX11_bestPace_28 (by decide) ?_
          exact ih_4 v1_4 (v2_4 + 1) M7 ls _ _ (lv_sub hl [1, 2, 0] rfl) hw h
        · replace h := (if_neg c8).symm.trans h
          refine lv_iload_n hx hb dX11_bestPace_23 rfl (lv_at hl 2 rfl) ?_
          refine lv_istore_n (lv' := [(1, .int v2_4), (0, .ref (P.2.2.1 0)), (2, .int v2_4)]) hx hb dX11_bestPace_24 rfl hl (by decide) rfl (fun ls hl => ?_)
          refine lv_iinc (v := (v2_4 + 1)) (lv' := [(2, .int (v2_4 + 1)), (1, .int v2_4), (0, .ref (P.2.2.1 0))]) (k := 2) hx hb dX11_bestPace_25 hl rfl (congrArg (fun z => v2_4 + z) (by decide)) (by decide) rfl (fun ls hl => ?_)
          refine lv_goto (tgt := 4) hx hb dX11_bestPace_28 (by decide) ?_
          exact ih_4 v2_4 (v2_4 + 1) M7 ls _ _ (lv_sub hl [2, 1, 0] rfl) hw h
  refine lv_iconst (v := 1) hx hb dX11_bestPace_0 (by decide) ?_
  refine lv_istore_n (lv' := [(1, .int 1), (0, .ref (P.2.2.1 0))]) hx hb dX11_bestPace_1 rfl hl (by decide) rfl (fun ls hl => ?_)
  refine lv_iconst (v := 2) hx hb dX11_bestPace_2 (by decide) ?_
  refine lv_istore_n (lv' := [(2, .int 2), (1, .int 1), (0, .ref (P.2.2.1 0))]) hx hb dX11_bestPace_3 rfl hl (by decide) rfl (fun ls hl => ?_)
  exact cut_4 FU 1 2 M ls _ _ (lv_sub hl [2, 1, 0] rfl) hw h
set_option maxRecDepth 100000 in
set_option maxHeartbeats 4000000 in
theorem c_X11_pace {l : Launch} {P : Wp} {E : State → Heap → Prop} (hW : Wok shR P E) {M : Mem} {r : Int32} {M' : Mem} (h : f_X11_pace M = some (r, M')) : CT l shR P E yX11_pace bX11_pace 1 ((some .int)) 7 164 [.ref (P.2.2.1 0)] (some (.int r)) M M' := by
  refine ct_of hW (by decide) (Nat.le_of_ble_eq_true rfl) (fun p e s m args below meth c C ls hl hw => ?_)
  have hx := C.1
  have hb := C.2.1
  replace hl : lv_has ls 1 [(0, .ref (P.2.2.1 0))] := hl
  refine lv_aload_n hx hb dX11_pace_0 rfl (lv_at hl 0 rfl) ?_
  refine lv_iconst (v := 0) hx hb dX11_pace_1 (by decide) ?_
  refine wputI C hw fpX11_77 (rfl : _ = some (0, 11)) dX11_pace_2 (fun M1 eM1 H locs hw => ?_)
  replace h := letv_at eM1 h
  refine lv_aload_n hx hb dX11_pace_5 rfl (lv_at hl 0 rfl) ?_
  obtain ⟨r2, e3, h⟩ := bnd_some h
  refine wcallV1 (As := []) (rest := []) C hw (c_X11_isLehr hW  e3) vlX11_231 ⟨Nat.le_of_ble_eq_true rfl, Nat.le_of_ble_eq_true rfl⟩ (rfl : _ = some (0, 11)) rfl rfl rfl hl.1 (Nat.le_of_ble_eq_true rfl) dX11_pace_6 ⟨Nat.zero_le _, Nat.zero_le _⟩ (fun H locs hw => ?_)
  refine lv_if_eq (tgt := 19) hx hb dX11_pace_9 (by decide) (fun c4 => ?_) (fun c4 => ?_)
  · replace h := (if_pos c4).symm.trans h
    refine lv_bipush (v := (-2)) hx hb dX11_pace_19 (by decide) ?_
    exact wretI_W C hw h dX11_pace_21
  · replace h := (if_neg c4).symm.trans h
    refine lv_aload_n hx hb dX11_pace_12 rfl (lv_at hl 0 rfl) ?_
    obtain ⟨r5, M7, e6, h⟩ := bnd2_some h
    refine wcallV1 (As := []) (rest := []) C hw (c_X11_bestPace hW  e6) vlX11_361 ⟨Nat.le_of_ble_eq_true rfl, Nat.le_of_ble_eq_true rfl⟩ (rfl : _ = some (0, 11)) rfl rfl rfl hl.1 (Nat.le_of_ble_eq_true rfl) dX11_pace_13 ⟨Nat.zero_le _, Nat.zero_le _⟩ (fun H locs hw => ?_)
    refine lv_goto (tgt := 21) hx hb dX11_pace_16 (by decide) ?_
    exact wretI_W C hw h dX11_pace_21
set_option maxRecDepth 100000 in
set_option maxHeartbeats 4000000 in
theorem c_X11_paced {l : Launch} {P : Wp} {E : State → Heap → Prop} (hW : Wok shR P E) {M : Mem} {r : Int32} {M' : Mem} (h : f_X11_paced M = some (r, M')) : CT l shR P E yX11_paced bX11_paced 1 ((some .int)) 7 164 [.ref (P.2.2.1 0)] (some (.int r)) M M' := by
  refine ct_of hW (by decide) (Nat.le_of_ble_eq_true rfl) (fun p e s m args below meth c C ls hl hw => ?_)
  have hx := C.1
  have hb := C.2.1
  replace hl : lv_has ls 1 [(0, .ref (P.2.2.1 0))] := hl
  refine lv_aload_n hx hb dX11_paced_0 rfl (lv_at hl 0 rfl) ?_
  refine lv_iconst (v := 0) hx hb dX11_paced_1 (by decide) ?_
  refine wputI C hw fpX11_77 (rfl : _ = some (0, 11)) dX11_paced_2 (fun M1 eM1 H locs hw => ?_)
  replace h := letv_at eM1 h
  refine lv_aload_n hx hb dX11_paced_5 rfl (lv_at hl 0 rfl) ?_
  obtain ⟨r2, e3, h⟩ := bnd_some h
  refine wcallV1 (As := []) (rest := []) C hw (c_X11_isLehr hW  e3) vlX11_231 ⟨Nat.le_of_ble_eq_true rfl, Nat.le_of_ble_eq_true rfl⟩ (rfl : _ = some (0, 11)) rfl rfl rfl hl.1 (Nat.le_of_ble_eq_true rfl) dX11_paced_6 ⟨Nat.zero_le _, Nat.zero_le _⟩ (fun H locs hw => ?_)
  refine lv_if_eq (tgt := 23) hx hb dX11_paced_9 (by decide) (fun c4 => ?_) (fun c4 => ?_)
  · replace h := (if_pos c4).symm.trans h
    refine lv_bipush (v := (-2)) hx hb dX11_paced_23 (by decide) ?_
    exact wretI_W C hw h dX11_paced_25
  · replace h := (if_neg c4).symm.trans h
    refine lv_aload_n hx hb dX11_paced_12 rfl (lv_at hl 0 rfl) ?_
    refine lv_aload_n hx hb dX11_paced_13 rfl (lv_at hl 0 rfl) ?_
    obtain ⟨r5, M7, e6, h⟩ := bnd2_some h
    refine wcallV1 (As := []) (rest := [.ref (P.2.2.1 0)]) C hw (c_X11_bestPace hW  e6) vlX11_361 ⟨Nat.le_of_ble_eq_true rfl, Nat.le_of_ble_eq_true rfl⟩ (rfl : _ = some (0, 11)) rfl rfl rfl hl.1 (Nat.le_of_ble_eq_true rfl) dX11_paced_14 ⟨Nat.zero_le _, Nat.zero_le _⟩ (fun H locs hw => ?_)
    obtain ⟨r8, M10, e9, h⟩ := bnd2_some h
    refine wcallV1 (As := [.int r5]) (rest := []) C hw (c_X11_soundBy hW  e9) vlX11_358 ⟨Nat.le_of_ble_eq_true rfl, Nat.le_of_ble_eq_true rfl⟩ (rfl : _ = some (0, 11)) rfl rfl rfl hl.1 (Nat.le_of_ble_eq_true rfl) dX11_paced_17 ⟨Nat.zero_le _, Nat.zero_le _⟩ (fun H locs hw => ?_)
    refine lv_goto (tgt := 25) hx hb dX11_paced_20 (by decide) ?_
    exact wretI_W C hw h dX11_paced_25
set_option maxRecDepth 100000 in
set_option maxHeartbeats 4000000 in
theorem c_X11_raiseOf {l : Launch} {P : Wp} {E : State → Heap → Prop} (hW : Wok shR P E) {p1 : Int32} {p2 : Int32} {M : Mem} {r : Int32} {M' : Mem} (h : f_X11_raiseOf p1 p2 M = some (r, M')) : CT l shR P E yX11_raiseOf bX11_raiseOf 4 ((some .int)) 6 142 [.ref (P.2.2.1 0), .int p1, .int p2] (some (.int r)) M M' := by
  refine ct_of hW (by decide) (Nat.le_of_ble_eq_true rfl) (fun p e s m args below meth c C ls hl hw => ?_)
  have hx := C.1
  have hb := C.2.1
  replace hl : lv_has ls 4 [(0, .ref (P.2.2.1 0)), (1, .int p1), (2, .int p2)] := hl
  have cut_2 : ∀ (n_2 : Nat) (v3_2 : Int32) (M_2 : Mem) (ls : Array Slot) (H : Heap) (locs : List Loc), lv_has ls 4 [(0, .ref (P.2.2.1 0)), (1, .int p1), (2, .int p2), (3, .int v3_2)] → Hw shR P M_2 s H locs → lq2 (L_X11_raiseOf_2 p1 p2) n_2 v3_2 M_2 = some (r, M') → W p l e { frames := 6, cells := 0, slots := 0, locals := 142 } s m args below meth c H locs 0 0 (MQ below (CQ shR P E (some (.int r)) M') args s 0 0 (wA shR P)) (F0 m 2 ls []) := by
    intro n_2
    induction n_2 with
    | zero => intro v3_2 M_2 ls H locs hl hw h; cases h
    | succ n_2 ih_2 =>
      intro v3_2 M_2 ls H locs hl hw h
      replace h := lq2_succ h
      refine lv_iload_n hx hb dX11_raiseOf_2 rfl (lv_at hl 3 rfl) ?_
      refine lv_sipush (v := 200) hx hb dX11_raiseOf_3 (by decide) ?_
      refine lv_icmp_gt (tgt := 39) hx hb dX11_raiseOf_6 (by decide) (fun c1 => ?_) (fun c1 => ?_)
      · replace h := (if_pos c1).symm.trans h
        refine lv_iconst (v := (-1)) hx hb dX11_raiseOf_39 (by decide) ?_
        exact wretI_W C hw h dX11_raiseOf_40
      · replace h := (if_neg c1).symm.trans h
        refine lv_aload_n hx hb dX11_raiseOf_9 rfl (lv_at hl 0 rfl) ?_
        obtain ⟨M4, e3, h⟩ := bnd_some h
        refine wcallV0 (As := []) (rest := []) C hw (c_X11_lays hW  e3) vlX11_296 ⟨Nat.le_of_ble_eq_true rfl, Nat.le_of_ble_eq_true rfl⟩ (rfl : _ = some (0, 11)) rfl rfl rfl hl.1 (Nat.le_of_ble_eq_true rfl) dX11_raiseOf_10 ⟨Nat.zero_le _, Nat.zero_le _⟩ (fun H locs hw => ?_)
        refine lv_aload_n hx hb dX11_raiseOf_13 rfl (lv_at hl 0 rfl) ?_
        refine wgetR (t := 12) C hw flX11_50 (rfl : _ = some (0, 11)) rfl dX11_raiseOf_14 ?_
        refine lv_iload_n hx hb dX11_raiseOf_17 rfl (lv_at hl 1 rfl) ?_
        refine lv_dup2_11 hx hb dX11_raiseOf_18 rfl rfl ?_
        obtain ⟨g5, h⟩ := grd h
        refine wald C hw (rfl : _ = some (1, 7)) g5 dX11_raiseOf_19 ?_
        refine lv_iload_n hx hb dX11_raiseOf_20 rfl (lv_at hl 3 rfl) ?_
        refine lv_iadd hx hb dX11_raiseOf_21 ?_
        obtain ⟨g7, h⟩ := grd h
        refine wast C hw (rfl : _ = some (1, 7)) g7 dX11_raiseOf_22 (fun M6 eM6 H locs hw => ?_)
        replace h := letv_at eM6 h
        refine lv_aload_n hx hb dX11_raiseOf_23 rfl (lv_at hl 0 rfl) ?_
        refine lv_iload_n hx hb dX11_raiseOf_24 rfl (lv_at hl 2 rfl) ?_
        obtain ⟨r8, M10, e9, h⟩ := bnd2_some h
        refine wcallV1 (As := [.int p2]) (rest := []) C hw (c_X11_isSound hW  e9) vlX11_355 ⟨Nat.le_of_ble_eq_true rfl, Nat.le_of_ble_eq_true rfl⟩ (rfl : _ = some (0, 11)) rfl rfl rfl hl.1 (Nat.le_of_ble_eq_true rfl) dX11_raiseOf_25 ⟨Nat.zero_le _, Nat.zero_le _⟩ (fun H locs hw => ?_)
        refine lv_if_eq (tgt := 33) hx hb dX11_raiseOf_28 (by decide) (fun c11 => ?_) (fun c11 => ?_)
        · replace h := (if_pos c11).symm.trans h
          refine lv_iinc (v := (v3_2 + 1)) (lv' := [(3, .int (v3_2 + 1)), (0, .ref (P.2.2.1 0)), (1, .int p1), (2, .int p2)]) (k := 3) hx hb dX11_raiseOf_33 hl rfl (congrArg (fun z => v3_2 + z) (by decide)) (by decide) rfl (fun ls hl => ?_)
          refine lv_goto (tgt := 2) hx hb dX11_raiseOf_36 (by decide) ?_
          exact ih_2 (v3_2 + 1) M10 ls _ _ (lv_sub hl [1, 2, 3, 0] rfl) hw h
        · replace h := (if_neg c11).symm.trans h
          refine lv_iload_n hx hb dX11_raiseOf_31 rfl (lv_at hl 3 rfl) ?_
          exact wretI_W C hw h dX11_raiseOf_32
  refine lv_iconst (v := 0) hx hb dX11_raiseOf_0 (by decide) ?_
  refine lv_istore_n (lv' := [(3, .int 0), (0, .ref (P.2.2.1 0)), (1, .int p1), (2, .int p2)]) hx hb dX11_raiseOf_1 rfl hl (by decide) rfl (fun ls hl => ?_)
  exact cut_2 FU 0 M ls _ _ (lv_sub hl [1, 2, 3, 0] rfl) hw h
set_option maxRecDepth 100000 in
set_option maxHeartbeats 4000000 in
theorem c_X11_raise {l : Launch} {P : Wp} {E : State → Heap → Prop} (hW : Wok shR P E) {p1 : Int32} {p2 : Int32} {M : Mem} {r : Int32} {M' : Mem} (h : f_X11_raise p1 p2 M = some (r, M')) : CT l shR P E yX11_raise bX11_raise 3 ((some .int)) 7 165 [.ref (P.2.2.1 0), .int p1, .int p2] (some (.int r)) M M' := by
  refine ct_of hW (by decide) (Nat.le_of_ble_eq_true rfl) (fun p e s m args below meth c C ls hl hw => ?_)
  have hx := C.1
  have hb := C.2.1
  replace hl : lv_has ls 3 [(0, .ref (P.2.2.1 0)), (1, .int p1), (2, .int p2)] := hl
  refine lv_aload_n hx hb dX11_raise_0 rfl (lv_at hl 0 rfl) ?_
  refine lv_iconst (v := 0) hx hb dX11_raise_1 (by decide) ?_
  refine wputI C hw fpX11_77 (rfl : _ = some (0, 11)) dX11_raise_2 (fun M1 eM1 H locs hw => ?_)
  replace h := letv_at eM1 h
  refine lv_aload_n hx hb dX11_raise_5 rfl (lv_at hl 0 rfl) ?_
  refine lv_iload_n hx hb dX11_raise_6 rfl (lv_at hl 1 rfl) ?_
  obtain ⟨r2, e3, h⟩ := bnd_some h
  refine wcallV1 (As := [.int p1]) (rest := []) C hw (c_X11_isZone hW  e3) vlX11_302 ⟨Nat.le_of_ble_eq_true rfl, Nat.le_of_ble_eq_true rfl⟩ (rfl : _ = some (0, 11)) rfl rfl rfl hl.1 (Nat.le_of_ble_eq_true rfl) dX11_raise_7 ⟨Nat.zero_le _, Nat.zero_le _⟩ (fun H locs hw => ?_)
  refine lv_if_eq (tgt := 31) hx hb dX11_raise_10 (by decide) (fun c4 => ?_) (fun c4 => ?_)
  · replace h := (if_pos c4).symm.trans h
    refine lv_bipush (v := (-2)) hx hb dX11_raise_31 (by decide) ?_
    exact wretI_W C hw h dX11_raise_33
  · replace h := (if_neg c4).symm.trans h
    refine lv_aload_n hx hb dX11_raise_13 rfl (lv_at hl 0 rfl) ?_
    refine lv_iload_n hx hb dX11_raise_14 rfl (lv_at hl 2 rfl) ?_
    refine lv_i2l hx hb dX11_raise_15 rfl ?_
    obtain ⟨r5, e6, h⟩ := bnd_some h
    refine wcallV1 (As := [.long ((p2 : Int32).toInt64)]) (rest := []) C hw (c_X11_isPiece hW  e6) vlX11_237 ⟨Nat.le_of_ble_eq_true rfl, Nat.le_of_ble_eq_true rfl⟩ (rfl : _ = some (0, 11)) rfl rfl rfl hl.1 (Nat.le_of_ble_eq_true rfl) dX11_raise_16 ⟨Nat.zero_le _, Nat.zero_le _⟩ (fun H locs hw => ?_)
    refine lv_if_eq (tgt := 31) hx hb dX11_raise_19 (by decide) (fun c7 => ?_) (fun c7 => ?_)
    · replace h := (if_pos c7).symm.trans h
      refine lv_bipush (v := (-2)) hx hb dX11_raise_31 (by decide) ?_
      exact wretI_W C hw h dX11_raise_33
    · replace h := (if_neg c7).symm.trans h
      refine lv_aload_n hx hb dX11_raise_22 rfl (lv_at hl 0 rfl) ?_
      refine lv_iload_n hx hb dX11_raise_23 rfl (lv_at hl 1 rfl) ?_
      refine lv_iload_n hx hb dX11_raise_24 rfl (lv_at hl 2 rfl) ?_
      obtain ⟨r8, M10, e9, h⟩ := bnd2_some h
      refine wcallV1 (As := [.int p1, .int p2]) (rest := []) C hw (c_X11_raiseOf hW  e9) vlX11_364 ⟨Nat.le_of_ble_eq_true rfl, Nat.le_of_ble_eq_true rfl⟩ (rfl : _ = some (0, 11)) rfl rfl rfl hl.1 (Nat.le_of_ble_eq_true rfl) dX11_raise_25 ⟨Nat.zero_le _, Nat.zero_le _⟩ (fun H locs hw => ?_)
      refine lv_goto (tgt := 33) hx hb dX11_raise_28 (by decide) ?_
      exact wretI_W C hw h dX11_raise_33
set_option maxRecDepth 100000 in
set_option maxHeartbeats 4000000 in
theorem c_X11_rescue {l : Launch} {P : Wp} {E : State → Heap → Prop} (hW : Wok shR P E) {p1 : Int32} {M : Mem} {r : Int32} {M' : Mem} (h : f_X11_rescue p1 M = some (r, M')) : CT l shR P E yX11_rescue bX11_rescue 6 ((some .int)) 7 165 [.ref (P.2.2.1 0), .int p1] (some (.int r)) M M' := by
  refine ct_of hW (by decide) (Nat.le_of_ble_eq_true rfl) (fun p e s m args below meth c C ls hl hw => ?_)
  have hx := C.1
  have hb := C.2.1
  replace hl : lv_has ls 6 [(0, .ref (P.2.2.1 0)), (1, .int p1)] := hl
  have cut_25 : ∀ (n_25 : Nat) (v2_25 : Int32) (v3_25 : Int32) (v4_25 : Int32) (M_25 : Mem) (ls : Array Slot) (H : Heap) (locs : List Loc), lv_has ls 6 [(0, .ref (P.2.2.1 0)), (1, .int p1), (2, .int v2_25), (3, .int v3_25), (4, .int v4_25)] → Hw shR P M_25 s H locs → lq4 (L_X11_rescue_25 p1) n_25 v2_25 v3_25 v4_25 M_25 = some (r, M') → W p l e { frames := 7, cells := 0, slots := 0, locals := 165 } s m args below meth c H locs 0 0 (MQ below (CQ shR P E (some (.int r)) M') args s 0 0 (wA shR P)) (F0 m 25 ls []) := by
    intro n_25
    induction n_25 with
    | zero => intro v2_25 v3_25 v4_25 M_25 ls H locs hl hw h; cases h
    | succ n_25 ih_25 =>
      intro v2_25 v3_25 v4_25 M_25 ls H locs hl hw h
      replace h := lq4_succ h
      refine lv_iload hx hb dX11_rescue_25 (lv_at hl 4 rfl) ?_
      refine lv_aload_n hx hb dX11_rescue_27 rfl (lv_at hl 0 rfl) ?_
      refine wgetR (t := 7) C hw flX11_34 (rfl : _ = some (0, 11)) rfl dX11_rescue_28 ?_
      refine lv_iconst (v := 5) hx hb dX11_rescue_31 (by decide) ?_
      obtain ⟨g5, h⟩ := grd h
      refine wald C hw (rfl : _ = some (1, 40)) g5 dX11_rescue_32 ?_
      refine lv_icmp_ge (tgt := 72) hx hb dX11_rescue_33 (by decide) (fun c6 => ?_) (fun c6 => ?_)
      · replace h := (if_pos c6).symm.trans h
        refine lv_iload_n hx hb dX11_rescue_72 rfl (lv_at hl 2 rfl) ?_
        exact wretI_W C hw h dX11_rescue_73
      · replace h := (if_neg c6).symm.trans h
        refine lv_aload_n hx hb dX11_rescue_36 rfl (lv_at hl 0 rfl) ?_
        refine lv_iload hx hb dX11_rescue_37 (lv_at hl 4 rfl) ?_
        refine lv_iload_n hx hb dX11_rescue_39 rfl (lv_at hl 1 rfl) ?_
        obtain ⟨r7, M9, e8, h⟩ := bnd2_some h
        refine wcallV1 (As := [.int v4_25, .int p1]) (rest := []) C hw (c_X11_raiseOf hW  e8) vlX11_364 ⟨Nat.le_of_ble_eq_true rfl, Nat.le_of_ble_eq_true rfl⟩ (rfl : _ = some (0, 11)) rfl rfl rfl hl.1 (Nat.le_of_ble_eq_true rfl) dX11_rescue_40 ⟨Nat.zero_le _, Nat.zero_le _⟩ (fun H locs hw => ?_)
        refine lv_istore (lv' := [(5, .int r7), (0, .ref (P.2.2.1 0)), (1, .int p1), (2, .int v2_25), (3, .int v3_25), (4, .int v4_25)]) hx hb dX11_rescue_43 hl (by decide) rfl (fun ls hl => ?_)
        refine lv_iload hx hb dX11_rescue_45 (lv_at hl 0 rfl) ?_
        refine lv_iconst (v := (-1)) hx hb dX11_rescue_47 (by decide) ?_
        refine lv_icmp_eq (tgt := 66) hx hb dX11_rescue_48 (by decide) (fun c10 => ?_) (fun c10 => ?_)
        · replace h := (if_pos c10).symm.trans h
          refine lv_iinc (v := (v4_25 + 1)) (lv' := [(4, .int (v4_25 + 1)), (5, .int r7), (0, .ref (P.2.2.1 0)), (1, .int p1), (2, .int v2_25), (3, .int v3_25)]) (k := 5) hx hb dX11_rescue_66 hl rfl (congrArg (fun z => v4_25 + z) (by decide)) (by decide) rfl (fun ls hl => ?_)
          refine lv_goto (tgt := 25) hx hb dX11_rescue_69 (by decide) ?_
          exact ih_25 v2_25 v3_25 (v4_25 + 1) M9 ls _ _ (lv_sub hl [2, 3, 4, 5, 0] rfl) hw h
        · replace h := (if_neg c10).symm.trans h
          refine lv_iload hx hb dX11_rescue_51 (lv_at hl 0 rfl) ?_
          refine lv_iload_n hx hb dX11_rescue_53 rfl (lv_at hl 4 rfl) ?_
          refine lv_icmp_lt (tgt := 60) hx hb dX11_rescue_54 (by decide) (fun c11 => ?_) (fun c11 => ?_)
          · replace h := (if_pos c11).symm.trans h
            refine lv_iload hx hb dX11_rescue_60 (lv_at hl 5 rfl) ?_
            refine lv_istore_n (lv' := [(2, .int v4_25), (5, .int r7), (0, .ref (P.2.2.1 0)), (1, .int p1), (3, .int v3_25), (4, .int v4_25)]) hx hb dX11_rescue_62 rfl hl (by decide) rfl (fun ls hl => ?_)
            refine lv_iload hx hb dX11_rescue_63 (lv_at hl 1 rfl) ?_
            refine lv_istore_n (lv' := [(3, .int r7), (2, .int v4_25), (5, .int r7), (0, .ref (P.2.2.1 0)), (1, .int p1), (4, .int v4_25)]) hx hb dX11_rescue_65 rfl hl (by decide) rfl (fun ls hl => ?_)
            refine lv_iinc (v := (v4_25 + 1)) (lv' := [(4, .int (v4_25 + 1)), (3, .int r7), (2, .int v4_25), (5, .int r7), (0, .ref (P.2.2.1 0)), (1, .int p1)]) (k := 5) hx hb dX11_rescue_66 hl rfl (congrArg (fun z => v4_25 + z) (by decide)) (by decide) rfl (fun ls hl => ?_)
            refine lv_goto (tgt := 25) hx hb dX11_rescue_69 (by decide) ?_
            exact ih_25 v4_25 r7 (v4_25 + 1) M9 ls _ _ (lv_sub hl [4, 5, 2, 1, 0] rfl) hw h
          · replace h := (if_neg c11).symm.trans h
            refine lv_goto (tgt := 66) hx hb dX11_rescue_57 (by decide) ?_
            refine lv_iinc (v := (v4_25 + 1)) (lv' := [(4, .int (v4_25 + 1)), (5, .int r7), (0, .ref (P.2.2.1 0)), (1, .int p1), (2, .int v2_25), (3, .int v3_25)]) (k := 5) hx hb dX11_rescue_66 hl rfl (congrArg (fun z => v4_25 + z) (by decide)) (by decide) rfl (fun ls hl => ?_)
            refine lv_goto (tgt := 25) hx hb dX11_rescue_69 (by decide) ?_
            exact ih_25 v2_25 v3_25 (v4_25 + 1) M9 ls _ _ (lv_sub hl [2, 3, 4, 5, 0] rfl) hw h
  refine lv_aload_n hx hb dX11_rescue_0 rfl (lv_at hl 0 rfl) ?_
  refine lv_iconst (v := 0) hx hb dX11_rescue_1 (by decide) ?_
  refine wputI C hw fpX11_77 (rfl : _ = some (0, 11)) dX11_rescue_2 (fun M1 eM1 H locs hw => ?_)
  replace h := letv_at eM1 h
  refine lv_aload_n hx hb dX11_rescue_5 rfl (lv_at hl 0 rfl) ?_
  refine lv_iload_n hx hb dX11_rescue_6 rfl (lv_at hl 1 rfl) ?_
  refine lv_i2l hx hb dX11_rescue_7 rfl ?_
  obtain ⟨r2, e3, h⟩ := bnd_some h
  refine wcallV1 (As := [.long ((p1 : Int32).toInt64)]) (rest := []) C hw (c_X11_isPiece hW  e3) vlX11_237 ⟨Nat.le_of_ble_eq_true rfl, Nat.le_of_ble_eq_true rfl⟩ (rfl : _ = some (0, 11)) rfl rfl rfl hl.1 (Nat.le_of_ble_eq_true rfl) dX11_rescue_8 ⟨Nat.zero_le _, Nat.zero_le _⟩ (fun H locs hw => ?_)
  refine lv_if_ne (tgt := 17) hx hb dX11_rescue_11 (by decide) (fun c4 => ?_) (fun c4 => ?_)
  · replace h := (if_neg c4).symm.trans h
    refine lv_iconst (v := (-1)) hx hb dX11_rescue_17 (by decide) ?_
    refine lv_istore_n (lv' := [(2, .int (-1)), (0, .ref (P.2.2.1 0)), (1, .int p1)]) hx hb dX11_rescue_18 rfl hl (by decide) rfl (fun ls hl => ?_)
    refine lv_ldc hx hb C.2.2.2.1 (C.2.2.2.2.1 _ (List.mem_cons_of_mem _ (gm kcX11_128 rfl))) dX11_rescue_19 ?_
    refine lv_istore_n (lv' := [(3, .int 1000000), (2, .int (-1)), (0, .ref (P.2.2.1 0)), (1, .int p1)]) hx hb dX11_rescue_21 rfl hl (by decide) rfl (fun ls hl => ?_)
    refine lv_iconst (v := 0) hx hb dX11_rescue_22 (by decide) ?_
    refine lv_istore (lv' := [(4, .int 0), (3, .int 1000000), (2, .int (-1)), (0, .ref (P.2.2.1 0)), (1, .int p1)]) hx hb dX11_rescue_23 hl (by decide) rfl (fun ls hl => ?_)
    exact cut_25 FU (-1) 1000000 0 M1 ls _ _ (lv_sub hl [3, 4, 2, 1, 0] rfl) hw h
  · replace h := (if_pos c4).symm.trans h
    refine lv_bipush (v := (-2)) hx hb dX11_rescue_14 (by decide) ?_
    exact wretI_W C hw h dX11_rescue_16
set_option maxRecDepth 100000 in
set_option maxHeartbeats 4000000 in
theorem c_X11_swap {l : Launch} {P : Wp} {E : State → Heap → Prop} (hW : Wok shR P E) {M : Mem} {r : Int32} {M' : Mem} (h : f_X11_swap M = some (r, M')) : CT l shR P E yX11_swap bX11_swap 5 ((some .int)) 6 141 [.ref (P.2.2.1 0)] (some (.int r)) M M' := by
  refine ct_of hW (by decide) (Nat.le_of_ble_eq_true rfl) (fun p e s m args below meth c C ls hl hw => ?_)
  have hx := C.1
  have hb := C.2.1
  replace hl : lv_has ls 5 [(0, .ref (P.2.2.1 0))] := hl
  have cut_31 : ∀ (n_31 : Nat) (v1_31 : Int32) (v2_31 : Int32) (v3_31 : Int32) (M_31 : Mem) (ls : Array Slot) (H : Heap) (locs : List Loc), lv_has ls 5 [(0, .ref (P.2.2.1 0)), (1, .int v1_31), (2, .int v2_31), (3, .int v3_31)] → Hw shR P M_31 s H locs → lq4 (L_X11_swap_31) n_31 v1_31 v2_31 v3_31 M_31 = some (r, M') → W p l e { frames := 6, cells := 0, slots := 0, locals := 141 } s m args below meth c H locs 0 0 (MQ below (CQ shR P E (some (.int r)) M') args s 0 0 (wA shR P)) (F0 m 31 ls []) := by
    intro n_31
    induction n_31 with
    | zero => intro v1_31 v2_31 v3_31 M_31 ls H locs hl hw h; cases h
    | succ n_31 ih_31 =>
      intro v1_31 v2_31 v3_31 M_31 ls H locs hl hw h
      replace h := lq4_succ h
      have cut_46 : ∀ (v3_46 : Int32) (n_46 : Nat) (v1_46 : Int32) (v2_46 : Int32) (v4_46 : Int32) (M_46 : Mem) (ls : Array Slot) (H : Heap) (locs : List Loc), lv_has ls 5 [(0, .ref (P.2.2.1 0)), (1, .int v1_46), (2, .int v2_46), (3, .int v3_46), (4, .int v4_46)] → Hw shR P M_46 s H locs → lq4 (L_X11_swap_46 (lq4 (L_X11_swap_31) n_31) v3_46) n_46 v1_46 v2_46 v4_46 M_46 = some (r, M') → W p l e { frames := 6, cells := 0, slots := 0, locals := 141 } s m args below meth c H locs 0 0 (MQ below (CQ shR P E (some (.int r)) M') args s 0 0 (wA shR P)) (F0 m 46 ls []) := by
        intro v3_46 n_46
        induction n_46 with
        | zero => intro v1_46 v2_46 v4_46 M_46 ls H locs hl hw h; cases h
        | succ n_46 ih_46 =>
          intro v1_46 v2_46 v4_46 M_46 ls H locs hl hw h
          replace h := lq4_succ h
          refine lv_iload hx hb dX11_swap_46 (lv_at hl 4 rfl) ?_
          refine lv_aload_n hx hb dX11_swap_48 rfl (lv_at hl 0 rfl) ?_
          refine wgetR (t := 7) C hw flX11_34 (rfl : _ = some (0, 11)) rfl dX11_swap_49 ?_
          refine lv_iconst (v := 5) hx hb dX11_swap_52 (by decide) ?_
          obtain ⟨g15, h⟩ := grd h
          refine wald C hw (rfl : _ = some (1, 40)) g15 dX11_swap_53 ?_
          refine lv_icmp_ge (tgt := 127) hx hb dX11_swap_54 (by decide) (fun c16 => ?_) (fun c16 => ?_)
          · replace h := (if_pos c16).symm.trans h
            refine lv_iinc (v := (v3_46 + 1)) (lv' := [(3, .int (v3_46 + 1)), (0, .ref (P.2.2.1 0)), (1, .int v1_46), (2, .int v2_46), (4, .int v4_46)]) (k := 3) hx hb dX11_swap_127 hl rfl (congrArg (fun z => v3_46 + z) (by decide)) (by decide) rfl (fun ls hl => ?_)
            refine lv_goto (tgt := 31) hx hb dX11_swap_130 (by decide) ?_
            exact ih_31 v1_46 v2_46 (v3_46 + 1) M_46 ls _ _ (lv_sub hl [1, 2, 3, 0] rfl) hw h
          · replace h := (if_neg c16).symm.trans h
            refine lv_aload_n hx hb dX11_swap_57 rfl (lv_at hl 0 rfl) ?_
            obtain ⟨M19, e18, h⟩ := bnd_some h
            refine wcallV0 (As := []) (rest := []) C hw (c_X11_lays hW  e18) vlX11_296 ⟨Nat.le_of_ble_eq_true rfl, Nat.le_of_ble_eq_true rfl⟩ (rfl : _ = some (0, 11)) rfl rfl rfl hl.1 (Nat.le_of_ble_eq_true rfl) dX11_swap_58 ⟨Nat.zero_le _, Nat.zero_le _⟩ (fun H locs hw => ?_)
            refine lv_aload_n hx hb dX11_swap_61 rfl (lv_at hl 0 rfl) ?_
            refine wgetR (t := 12) C hw flX11_50 (rfl : _ = some (0, 11)) rfl dX11_swap_62 ?_
            refine lv_iload_n hx hb dX11_swap_65 rfl (lv_at hl 3 rfl) ?_
            refine lv_aload_n hx hb dX11_swap_66 rfl (lv_at hl 0 rfl) ?_
            refine wgetR (t := 8) C hw flX11_37 (rfl : _ = some (0, 11)) rfl dX11_swap_67 ?_
            refine lv_iload hx hb dX11_swap_70 (lv_at hl 4 rfl) ?_
            obtain ⟨g20, h⟩ := grd h
            refine wald C hw (rfl : _ = some (1, 35)) g20 dX11_swap_72 ?_
            obtain ⟨g22, h⟩ := grd h
            refine wast C hw (rfl : _ = some (1, 7)) g22 dX11_swap_73 (fun M21 eM21 H locs hw => ?_)
            replace h := letv_at eM21 h
            refine lv_aload_n hx hb dX11_swap_74 rfl (lv_at hl 0 rfl) ?_
            refine wgetR (t := 12) C hw flX11_50 (rfl : _ = some (0, 11)) rfl dX11_swap_75 ?_
            refine lv_iload hx hb dX11_swap_78 (lv_at hl 4 rfl) ?_
            refine lv_aload_n hx hb dX11_swap_80 rfl (lv_at hl 0 rfl) ?_
            refine wgetR (t := 8) C hw flX11_37 (rfl : _ = some (0, 11)) rfl dX11_swap_81 ?_
            refine lv_iload_n hx hb dX11_swap_84 rfl (lv_at hl 3 rfl) ?_
            obtain ⟨g23, h⟩ := grd h
            refine wald C hw (rfl : _ = some (1, 35)) g23 dX11_swap_85 ?_
            obtain ⟨g25, h⟩ := grd h
            refine wast C hw (rfl : _ = some (1, 7)) g25 dX11_swap_86 (fun M24 eM24 H locs hw => ?_)
            replace h := letv_at eM24 h
            refine lv_aload_n hx hb dX11_swap_87 rfl (lv_at hl 0 rfl) ?_
            obtain ⟨M28, e27, h⟩ := bnd_some h
            refine wcallV0 (As := []) (rest := []) C hw (c_X11_runs hW  e27) vlX11_299 ⟨Nat.le_of_ble_eq_true rfl, Nat.le_of_ble_eq_true rfl⟩ (rfl : _ = some (0, 11)) rfl rfl rfl hl.1 (Nat.le_of_ble_eq_true rfl) dX11_swap_88 ⟨Nat.zero_le _, Nat.zero_le _⟩ (fun H locs hw => ?_)
            refine lv_aload_n hx hb dX11_swap_91 rfl (lv_at hl 0 rfl) ?_
            obtain ⟨r29, e30, h⟩ := bnd_some h
            refine wcallV1 (As := []) (rest := []) C hw (c_X11_soundNow hW  e30) vlX11_323 ⟨Nat.le_of_ble_eq_true rfl, Nat.le_of_ble_eq_true rfl⟩ (rfl : _ = some (0, 11)) rfl rfl rfl hl.1 (Nat.le_of_ble_eq_true rfl) dX11_swap_92 ⟨Nat.zero_le _, Nat.zero_le _⟩ (fun H locs hw => ?_)
            obtain ⟨r31, e32, h⟩ := bnd_some h
            refine wcallS1 (As := [.int r29]) (rest := []) C hw (c_X11_sizeOf hW  e32) slX11_335 ⟨Nat.le_of_ble_eq_true rfl, Nat.le_of_ble_eq_true rfl⟩ rfl rfl hl.1 (Nat.le_of_ble_eq_true rfl) dX11_swap_95 ⟨Nat.zero_le _, Nat.zero_le _⟩ (fun H locs hw => ?_)
            refine lv_iload_n hx hb dX11_swap_98 rfl (lv_at hl 2 rfl) ?_
            refine lv_icmp_gt (tgt := 105) hx hb dX11_swap_99 (by decide) (fun c33 => ?_) (fun c33 => ?_)
            · replace h := (if_pos c33).symm.trans h
              refine lv_bipush (v := 10) hx hb dX11_swap_105 (by decide) ?_
              refine lv_iload_n hx hb dX11_swap_107 rfl (lv_at hl 3 rfl) ?_
              refine lv_imul hx hb dX11_swap_108 ?_
              refine lv_iload hx hb dX11_swap_109 (lv_at hl 4 rfl) ?_
              refine lv_iadd hx hb dX11_swap_111 ?_
              refine lv_topi (fun x34 ex34 => ?_)
              replace h := letv_at ex34 h
              refine lv_istore_n (lv' := [(1, .int x34), (0, .ref (P.2.2.1 0)), (2, .int v2_46), (3, .int v3_46), (4, .int v4_46)]) hx hb dX11_swap_112 rfl hl (by decide) rfl (fun ls hl => ?_)
              refine lv_aload_n hx hb dX11_swap_113 rfl (lv_at hl 1 rfl) ?_
              obtain ⟨r35, e36, h⟩ := bnd_some h
              refine wcallV1 (As := []) (rest := []) C hw (c_X11_soundNow hW  e36) vlX11_323 ⟨Nat.le_of_ble_eq_true rfl, Nat.le_of_ble_eq_true rfl⟩ (rfl : _ = some (0, 11)) rfl rfl rfl hl.1 (Nat.le_of_ble_eq_true rfl) dX11_swap_114 ⟨Nat.zero_le _, Nat.zero_le _⟩ (fun H locs hw => ?_)
              obtain ⟨r37, e38, h⟩ := bnd_some h
              refine wcallS1 (As := [.int r35]) (rest := []) C hw (c_X11_sizeOf hW  e38) slX11_335 ⟨Nat.le_of_ble_eq_true rfl, Nat.le_of_ble_eq_true rfl⟩ rfl rfl hl.1 (Nat.le_of_ble_eq_true rfl) dX11_swap_117 ⟨Nat.zero_le _, Nat.zero_le _⟩ (fun H locs hw => ?_)
              refine lv_istore_n (lv' := [(2, .int r37), (1, .int x34), (0, .ref (P.2.2.1 0)), (3, .int v3_46), (4, .int v4_46)]) hx hb dX11_swap_120 rfl hl (by decide) rfl (fun ls hl => ?_)
              refine lv_iinc (v := (v4_46 + 1)) (lv' := [(4, .int (v4_46 + 1)), (2, .int r37), (1, .int x34), (0, .ref (P.2.2.1 0)), (3, .int v3_46)]) (k := 4) hx hb dX11_swap_121 hl rfl (congrArg (fun z => v4_46 + z) (by decide)) (by decide) rfl (fun ls hl => ?_)
              refine lv_goto (tgt := 46) hx hb dX11_swap_124 (by decide) ?_
              exact ih_46 x34 r37 (v4_46 + 1) M28 ls _ _ (lv_sub hl [3, 2, 1, 4, 0] rfl) hw h
            · replace h := (if_neg c33).symm.trans h
              refine lv_goto (tgt := 121) hx hb dX11_swap_102 (by decide) ?_
              refine lv_iinc (v := (v4_46 + 1)) (lv' := [(4, .int (v4_46 + 1)), (0, .ref (P.2.2.1 0)), (1, .int v1_46), (2, .int v2_46), (3, .int v3_46)]) (k := 4) hx hb dX11_swap_121 hl rfl (congrArg (fun z => v4_46 + z) (by decide)) (by decide) rfl (fun ls hl => ?_)
              refine lv_goto (tgt := 46) hx hb dX11_swap_124 (by decide) ?_
              exact ih_46 v1_46 v2_46 (v4_46 + 1) M28 ls _ _ (lv_sub hl [1, 2, 3, 4, 0] rfl) hw h
      refine lv_iload_n hx hb dX11_swap_31 rfl (lv_at hl 3 rfl) ?_
      refine lv_aload_n hx hb dX11_swap_32 rfl (lv_at hl 0 rfl) ?_
      refine wgetR (t := 7) C hw flX11_34 (rfl : _ = some (0, 11)) rfl dX11_swap_33 ?_
      refine lv_iconst (v := 5) hx hb dX11_swap_36 (by decide) ?_
      obtain ⟨g12, h⟩ := grd h
      refine wald C hw (rfl : _ = some (1, 40)) g12 dX11_swap_37 ?_
      refine lv_icmp_ge (tgt := 133) hx hb dX11_swap_38 (by decide) (fun c13 => ?_) (fun c13 => ?_)
      · replace h := (if_pos c13).symm.trans h
        refine lv_iload_n hx hb dX11_swap_133 rfl (lv_at hl 1 rfl) ?_
        exact wretI_W C hw h dX11_swap_134
      · replace h := (if_neg c13).symm.trans h
        refine lv_iload_n hx hb dX11_swap_41 rfl (lv_at hl 3 rfl) ?_
        refine lv_iconst (v := 1) hx hb dX11_swap_42 (by decide) ?_
        refine lv_iadd hx hb dX11_swap_43 ?_
        refine lv_topi (fun x14 ex14 => ?_)
        replace h := letv_at ex14 h
        refine lv_istore (lv' := [(4, .int x14), (0, .ref (P.2.2.1 0)), (1, .int v1_31), (2, .int v2_31), (3, .int v3_31)]) hx hb dX11_swap_44 hl (by decide) rfl (fun ls hl => ?_)
        exact cut_46 v3_31 FU v1_31 v2_31 x14 M_31 ls _ _ (lv_sub hl [1, 2, 3, 4, 0] rfl) hw h
  refine lv_aload_n hx hb dX11_swap_0 rfl (lv_at hl 0 rfl) ?_
  refine lv_iconst (v := 0) hx hb dX11_swap_1 (by decide) ?_
  refine wputI C hw fpX11_77 (rfl : _ = some (0, 11)) dX11_swap_2 (fun M1 eM1 H locs hw => ?_)
  replace h := letv_at eM1 h
  refine lv_aload_n hx hb dX11_swap_5 rfl (lv_at hl 0 rfl) ?_
  obtain ⟨r2, e3, h⟩ := bnd_some h
  refine wcallV1 (As := []) (rest := []) C hw (c_X11_isLehr hW  e3) vlX11_231 ⟨Nat.le_of_ble_eq_true rfl, Nat.le_of_ble_eq_true rfl⟩ (rfl : _ = some (0, 11)) rfl rfl rfl hl.1 (Nat.le_of_ble_eq_true rfl) dX11_swap_6 ⟨Nat.zero_le _, Nat.zero_le _⟩ (fun H locs hw => ?_)
  refine lv_if_ne (tgt := 15) hx hb dX11_swap_9 (by decide) (fun c4 => ?_) (fun c4 => ?_)
  · replace h := (if_neg c4).symm.trans h
    refine lv_aload_n hx hb dX11_swap_15 rfl (lv_at hl 0 rfl) ?_
    obtain ⟨M7, e6, h⟩ := bnd_some h
    refine wcallV0 (As := []) (rest := []) C hw (c_X11_laysNow hW  e6) vlX11_311 ⟨Nat.le_of_ble_eq_true rfl, Nat.le_of_ble_eq_true rfl⟩ (rfl : _ = some (0, 11)) rfl rfl rfl hl.1 (Nat.le_of_ble_eq_true rfl) dX11_swap_16 ⟨Nat.zero_le _, Nat.zero_le _⟩ (fun H locs hw => ?_)
    refine lv_iconst (v := (-1)) hx hb dX11_swap_19 (by decide) ?_
    refine lv_istore_n (lv' := [(1, .int (-1)), (0, .ref (P.2.2.1 0))]) hx hb dX11_swap_20 rfl hl (by decide) rfl (fun ls hl => ?_)
    refine lv_aload_n hx hb dX11_swap_21 rfl (lv_at hl 1 rfl) ?_
    obtain ⟨r8, e9, h⟩ := bnd_some h
    refine wcallV1 (As := []) (rest := []) C hw (c_X11_soundNow hW  e9) vlX11_323 ⟨Nat.le_of_ble_eq_true rfl, Nat.le_of_ble_eq_true rfl⟩ (rfl : _ = some (0, 11)) rfl rfl rfl hl.1 (Nat.le_of_ble_eq_true rfl) dX11_swap_22 ⟨Nat.zero_le _, Nat.zero_le _⟩ (fun H locs hw => ?_)
    obtain ⟨r10, e11, h⟩ := bnd_some h
    refine wcallS1 (As := [.int r8]) (rest := []) C hw (c_X11_sizeOf hW  e11) slX11_335 ⟨Nat.le_of_ble_eq_true rfl, Nat.le_of_ble_eq_true rfl⟩ rfl rfl hl.1 (Nat.le_of_ble_eq_true rfl) dX11_swap_25 ⟨Nat.zero_le _, Nat.zero_le _⟩ (fun H locs hw => ?_)
    refine lv_istore_n (lv' := [(2, .int r10), (1, .int (-1)), (0, .ref (P.2.2.1 0))]) hx hb dX11_swap_28 rfl hl (by decide) rfl (fun ls hl => ?_)
    refine lv_iconst (v := 0) hx hb dX11_swap_29 (by decide) ?_
    refine lv_istore_n (lv' := [(3, .int 0), (2, .int r10), (1, .int (-1)), (0, .ref (P.2.2.1 0))]) hx hb dX11_swap_30 rfl hl (by decide) rfl (fun ls hl => ?_)
    exact cut_31 FU (-1) r10 0 M7 ls _ _ (lv_sub hl [3, 2, 1, 0] rfl) hw h
  · replace h := (if_pos c4).symm.trans h
    refine lv_bipush (v := (-2)) hx hb dX11_swap_12 (by decide) ?_
    exact wretI_W C hw h dX11_swap_14
set_option maxRecDepth 100000 in
set_option maxHeartbeats 4000000 in
theorem c_X11_skip {l : Launch} {P : Wp} {E : State → Heap → Prop} (hW : Wok shR P E) {M : Mem} {r : Int32} {M' : Mem} (h : f_X11_skip M = some (r, M')) : CT l shR P E yX11_skip bX11_skip 4 ((some .int)) 6 141 [.ref (P.2.2.1 0)] (some (.int r)) M M' := by
  refine ct_of hW (by decide) (Nat.le_of_ble_eq_true rfl) (fun p e s m args below meth c C ls hl hw => ?_)
  have hx := C.1
  have hb := C.2.1
  replace hl : lv_has ls 4 [(0, .ref (P.2.2.1 0))] := hl
  have cut_31 : ∀ (n_31 : Nat) (v1_31 : Int32) (v2_31 : Int32) (v3_31 : Int32) (M_31 : Mem) (ls : Array Slot) (H : Heap) (locs : List Loc), lv_has ls 4 [(0, .ref (P.2.2.1 0)), (1, .int v1_31), (2, .int v2_31), (3, .int v3_31)] → Hw shR P M_31 s H locs → lq4 (L_X11_skip_31) n_31 v1_31 v2_31 v3_31 M_31 = some (r, M') → W p l e { frames := 6, cells := 0, slots := 0, locals := 141 } s m args below meth c H locs 0 0 (MQ below (CQ shR P E (some (.int r)) M') args s 0 0 (wA shR P)) (F0 m 31 ls []) := by
    intro n_31
    induction n_31 with
    | zero => intro v1_31 v2_31 v3_31 M_31 ls H locs hl hw h; cases h
    | succ n_31 ih_31 =>
      intro v1_31 v2_31 v3_31 M_31 ls H locs hl hw h
      replace h := lq4_succ h
      refine lv_iload_n hx hb dX11_skip_31 rfl (lv_at hl 3 rfl) ?_
      refine lv_aload_n hx hb dX11_skip_32 rfl (lv_at hl 0 rfl) ?_
      refine wgetR (t := 7) C hw flX11_34 (rfl : _ = some (0, 11)) rfl dX11_skip_33 ?_
      refine lv_iconst (v := 5) hx hb dX11_skip_36 (by decide) ?_
      obtain ⟨g12, h⟩ := grd h
      refine wald C hw (rfl : _ = some (1, 40)) g12 dX11_skip_37 ?_
      refine lv_icmp_ge (tgt := 84) hx hb dX11_skip_38 (by decide) (fun c13 => ?_) (fun c13 => ?_)
      · replace h := (if_pos c13).symm.trans h
        refine lv_iload_n hx hb dX11_skip_84 rfl (lv_at hl 1 rfl) ?_
        exact wretI_W C hw h dX11_skip_85
      · replace h := (if_neg c13).symm.trans h
        refine lv_aload_n hx hb dX11_skip_41 rfl (lv_at hl 0 rfl) ?_
        obtain ⟨M16, e15, h⟩ := bnd_some h
        refine wcallV0 (As := []) (rest := []) C hw (c_X11_lays hW  e15) vlX11_296 ⟨Nat.le_of_ble_eq_true rfl, Nat.le_of_ble_eq_true rfl⟩ (rfl : _ = some (0, 11)) rfl rfl rfl hl.1 (Nat.le_of_ble_eq_true rfl) dX11_skip_42 ⟨Nat.zero_le _, Nat.zero_le _⟩ (fun H locs hw => ?_)
        refine lv_aload_n hx hb dX11_skip_45 rfl (lv_at hl 0 rfl) ?_
        refine lv_iload_n hx hb dX11_skip_46 rfl (lv_at hl 3 rfl) ?_
        obtain ⟨M19, e18, h⟩ := bnd_some h
        refine wcallV0 (As := [.int v3_31]) (rest := []) C hw (c_X11_skips hW  e18) vlX11_367 ⟨Nat.le_of_ble_eq_true rfl, Nat.le_of_ble_eq_true rfl⟩ (rfl : _ = some (0, 11)) rfl rfl rfl hl.1 (Nat.le_of_ble_eq_true rfl) dX11_skip_47 ⟨Nat.zero_le _, Nat.zero_le _⟩ (fun H locs hw => ?_)
        refine lv_aload_n hx hb dX11_skip_50 rfl (lv_at hl 0 rfl) ?_
        obtain ⟨M22, e21, h⟩ := bnd_some h
        refine wcallV0 (As := []) (rest := []) C hw (c_X11_runs hW  e21) vlX11_299 ⟨Nat.le_of_ble_eq_true rfl, Nat.le_of_ble_eq_true rfl⟩ (rfl : _ = some (0, 11)) rfl rfl rfl hl.1 (Nat.le_of_ble_eq_true rfl) dX11_skip_51 ⟨Nat.zero_le _, Nat.zero_le _⟩ (fun H locs hw => ?_)
        refine lv_aload_n hx hb dX11_skip_54 rfl (lv_at hl 0 rfl) ?_
        obtain ⟨r23, e24, h⟩ := bnd_some h
        refine wcallV1 (As := []) (rest := []) C hw (c_X11_soundNow hW  e24) vlX11_323 ⟨Nat.le_of_ble_eq_true rfl, Nat.le_of_ble_eq_true rfl⟩ (rfl : _ = some (0, 11)) rfl rfl rfl hl.1 (Nat.le_of_ble_eq_true rfl) dX11_skip_55 ⟨Nat.zero_le _, Nat.zero_le _⟩ (fun H locs hw => ?_)
        obtain ⟨r25, e26, h⟩ := bnd_some h
        refine wcallS1 (As := [.int r23]) (rest := []) C hw (c_X11_sizeOf hW  e26) slX11_335 ⟨Nat.le_of_ble_eq_true rfl, Nat.le_of_ble_eq_true rfl⟩ rfl rfl hl.1 (Nat.le_of_ble_eq_true rfl) dX11_skip_58 ⟨Nat.zero_le _, Nat.zero_le _⟩ (fun H locs hw => ?_)
        refine lv_iload_n hx hb dX11_skip_61 rfl (lv_at hl 2 rfl) ?_
        refine lv_icmp_gt (tgt := 68) hx hb dX11_skip_62 (by decide) (fun c27 => ?_) (fun c27 => ?_)
        · replace h := (if_pos c27).symm.trans h
          refine lv_iload_n hx hb dX11_skip_68 rfl (lv_at hl 3 rfl) ?_
          refine lv_istore_n (lv' := [(1, .int v3_31), (0, .ref (P.2.2.1 0)), (2, .int v2_31), (3, .int v3_31)]) hx hb dX11_skip_69 rfl hl (by decide) rfl (fun ls hl => ?_)
          refine lv_aload_n hx hb dX11_skip_70 rfl (lv_at hl 1 rfl) ?_
          obtain ⟨r28, e29, h⟩ := bnd_some h
          refine wcallV1 (As := []) (rest := []) C hw (c_X11_soundNow hW  e29) vlX11_323 ⟨Nat.le_of_ble_eq_true rfl, Nat.le_of_ble_eq_true rfl⟩ (rfl : _ = some (0, 11)) rfl rfl rfl hl.1 (Nat.le_of_ble_eq_true rfl) dX11_skip_71 ⟨Nat.zero_le _, Nat.zero_le _⟩ (fun H locs hw => ?_)
          obtain ⟨r30, e31, h⟩ := bnd_some h
          refine wcallS1 (As := [.int r28]) (rest := []) C hw (c_X11_sizeOf hW  e31) slX11_335 ⟨Nat.le_of_ble_eq_true rfl, Nat.le_of_ble_eq_true rfl⟩ rfl rfl hl.1 (Nat.le_of_ble_eq_true rfl) dX11_skip_74 ⟨Nat.zero_le _, Nat.zero_le _⟩ (fun H locs hw => ?_)
          refine lv_istore_n (lv' := [(2, .int r30), (1, .int v3_31), (0, .ref (P.2.2.1 0)), (3, .int v3_31)]) hx hb dX11_skip_77 rfl hl (by decide) rfl (fun ls hl => ?_)
          refine lv_iinc (v := (v3_31 + 1)) (lv' := [(3, .int (v3_31 + 1)), (2, .int r30), (1, .int v3_31), (0, .ref (P.2.2.1 0))]) (k := 3) hx hb dX11_skip_78 hl rfl (congrArg (fun z => v3_31 + z) (by decide)) (by decide) rfl (fun ls hl => ?_)
          refine lv_goto (tgt := 31) hx hb dX11_skip_81 (by decide) ?_
          exact ih_31 v3_31 r30 (v3_31 + 1) M22 ls _ _ (lv_sub hl [3, 2, 1, 0] rfl) hw h
        · replace h := (if_neg c27).symm.trans h
          refine lv_goto (tgt := 78) hx hb dX11_skip_65 (by decide) ?_
          refine lv_iinc (v := (v3_31 + 1)) (lv' := [(3, .int (v3_31 + 1)), (0, .ref (P.2.2.1 0)), (1, .int v1_31), (2, .int v2_31)]) (k := 3) hx hb dX11_skip_78 hl rfl (congrArg (fun z => v3_31 + z) (by decide)) (by decide) rfl (fun ls hl => ?_)
          refine lv_goto (tgt := 31) hx hb dX11_skip_81 (by decide) ?_
          exact ih_31 v1_31 v2_31 (v3_31 + 1) M22 ls _ _ (lv_sub hl [1, 2, 3, 0] rfl) hw h
  refine lv_aload_n hx hb dX11_skip_0 rfl (lv_at hl 0 rfl) ?_
  refine lv_iconst (v := 0) hx hb dX11_skip_1 (by decide) ?_
  refine wputI C hw fpX11_77 (rfl : _ = some (0, 11)) dX11_skip_2 (fun M1 eM1 H locs hw => ?_)
  replace h := letv_at eM1 h
  refine lv_aload_n hx hb dX11_skip_5 rfl (lv_at hl 0 rfl) ?_
  obtain ⟨r2, e3, h⟩ := bnd_some h
  refine wcallV1 (As := []) (rest := []) C hw (c_X11_isLehr hW  e3) vlX11_231 ⟨Nat.le_of_ble_eq_true rfl, Nat.le_of_ble_eq_true rfl⟩ (rfl : _ = some (0, 11)) rfl rfl rfl hl.1 (Nat.le_of_ble_eq_true rfl) dX11_skip_6 ⟨Nat.zero_le _, Nat.zero_le _⟩ (fun H locs hw => ?_)
  refine lv_if_ne (tgt := 15) hx hb dX11_skip_9 (by decide) (fun c4 => ?_) (fun c4 => ?_)
  · replace h := (if_neg c4).symm.trans h
    refine lv_aload_n hx hb dX11_skip_15 rfl (lv_at hl 0 rfl) ?_
    obtain ⟨M7, e6, h⟩ := bnd_some h
    refine wcallV0 (As := []) (rest := []) C hw (c_X11_laysNow hW  e6) vlX11_311 ⟨Nat.le_of_ble_eq_true rfl, Nat.le_of_ble_eq_true rfl⟩ (rfl : _ = some (0, 11)) rfl rfl rfl hl.1 (Nat.le_of_ble_eq_true rfl) dX11_skip_16 ⟨Nat.zero_le _, Nat.zero_le _⟩ (fun H locs hw => ?_)
    refine lv_iconst (v := (-1)) hx hb dX11_skip_19 (by decide) ?_
    refine lv_istore_n (lv' := [(1, .int (-1)), (0, .ref (P.2.2.1 0))]) hx hb dX11_skip_20 rfl hl (by decide) rfl (fun ls hl => ?_)
    refine lv_aload_n hx hb dX11_skip_21 rfl (lv_at hl 1 rfl) ?_
    obtain ⟨r8, e9, h⟩ := bnd_some h
    refine wcallV1 (As := []) (rest := []) C hw (c_X11_soundNow hW  e9) vlX11_323 ⟨Nat.le_of_ble_eq_true rfl, Nat.le_of_ble_eq_true rfl⟩ (rfl : _ = some (0, 11)) rfl rfl rfl hl.1 (Nat.le_of_ble_eq_true rfl) dX11_skip_22 ⟨Nat.zero_le _, Nat.zero_le _⟩ (fun H locs hw => ?_)
    obtain ⟨r10, e11, h⟩ := bnd_some h
    refine wcallS1 (As := [.int r8]) (rest := []) C hw (c_X11_sizeOf hW  e11) slX11_335 ⟨Nat.le_of_ble_eq_true rfl, Nat.le_of_ble_eq_true rfl⟩ rfl rfl hl.1 (Nat.le_of_ble_eq_true rfl) dX11_skip_25 ⟨Nat.zero_le _, Nat.zero_le _⟩ (fun H locs hw => ?_)
    refine lv_istore_n (lv' := [(2, .int r10), (1, .int (-1)), (0, .ref (P.2.2.1 0))]) hx hb dX11_skip_28 rfl hl (by decide) rfl (fun ls hl => ?_)
    refine lv_iconst (v := 0) hx hb dX11_skip_29 (by decide) ?_
    refine lv_istore_n (lv' := [(3, .int 0), (2, .int r10), (1, .int (-1)), (0, .ref (P.2.2.1 0))]) hx hb dX11_skip_30 rfl hl (by decide) rfl (fun ls hl => ?_)
    exact cut_31 FU (-1) r10 0 M7 ls _ _ (lv_sub hl [3, 2, 1, 0] rfl) hw h
  · replace h := (if_pos c4).symm.trans h
    refine lv_bipush (v := (-2)) hx hb dX11_skip_12 (by decide) ?_
    exact wretI_W C hw h dX11_skip_14
set_option maxRecDepth 100000 in
set_option maxHeartbeats 4000000 in
theorem c_X11_whyNot {l : Launch} {P : Wp} {E : State → Heap → Prop} (hW : Wok shR P E) {p1 : Int32} {p2 : Int32} {M : Mem} {r : Int32} (h : f_X11_whyNot p1 p2 M = some r) : CT l shR P E yX11_whyNot bX11_whyNot 5 ((some .int)) 2 47 [.ref (P.2.2.1 0), .int p1, .int p2] (some (.int r)) M M := by
  refine ct_of hW (by decide) (Nat.le_of_ble_eq_true rfl) (fun p e s m args below meth c C ls hl hw => ?_)
  have hx := C.1
  have hb := C.2.1
  replace hl : lv_has ls 5 [(0, .ref (P.2.2.1 0)), (1, .int p1), (2, .int p2)] := hl
  have cut_50 : ∀ (n_50 : Nat) (v3_50 : Int32) (ls : Array Slot) (H : Heap) (locs : List Loc), lv_has ls 5 [(0, .ref (P.2.2.1 0)), (1, .int p1), (3, .int v3_50)] → Hw shR P M s H locs → lq1 (L_X11_whyNot_50 p1 p2 M) n_50 v3_50 = some r → W p l e { frames := 2, cells := 0, slots := 0, locals := 47 } s m args below meth c H locs 0 0 (MQ below (CQ shR P E (some (.int r)) M) args s 0 0 (wA shR P)) (F0 m 50 ls []) := by
    intro n_50
    induction n_50 with
    | zero => intro v3_50 ls H locs hl hw h; cases h
    | succ n_50 ih_50 =>
      intro v3_50 ls H locs hl hw h
      replace h := lq1_succ h
      refine lv_iload_n hx hb dX11_whyNot_50 rfl (lv_at hl 2 rfl) ?_
      refine lv_aload_n hx hb dX11_whyNot_51 rfl (lv_at hl 0 rfl) ?_
      refine wgetR (t := 2) C hw flX11_13 (rfl : _ = some (0, 11)) rfl dX11_whyNot_52 ?_
      refine lv_iload_n hx hb dX11_whyNot_55 rfl (lv_at hl 1 rfl) ?_
      obtain ⟨g10, h⟩ := grd h
      refine wald C hw (rfl : _ = some (1, 4)) g10 dX11_whyNot_56 ?_
      refine lv_icmp_ge (tgt := 126) hx hb dX11_whyNot_57 (by decide) (fun c11 => ?_) (fun c11 => ?_)
      · replace h := (if_pos c11).symm.trans h
        refine lv_iconst (v := 0) hx hb dX11_whyNot_126 (by decide) ?_
        exact wretI_R C hw h dX11_whyNot_127
      · replace h := (if_neg c11).symm.trans h
        refine lv_bipush (v := 60) hx hb dX11_whyNot_60 (by decide) ?_
        refine lv_iload_n hx hb dX11_whyNot_62 rfl (lv_at hl 1 rfl) ?_
        refine lv_imul hx hb dX11_whyNot_63 ?_
        refine lv_iload_n hx hb dX11_whyNot_64 rfl (lv_at hl 2 rfl) ?_
        refine lv_iadd hx hb dX11_whyNot_65 ?_
        refine lv_topi (fun x12 ex12 => ?_)
        replace h := letv_at ex12 h
        refine lv_istore (lv' := [(4, .int x12), (0, .ref (P.2.2.1 0)), (1, .int p1), (3, .int v3_50)]) hx hb dX11_whyNot_66 hl (by decide) rfl (fun ls hl => ?_)
        refine lv_aload_n hx hb dX11_whyNot_68 rfl (lv_at hl 1 rfl) ?_
        refine lv_aload_n hx hb dX11_whyNot_69 rfl (lv_at hl 1 rfl) ?_
        refine wgetR (t := 3) C hw flX11_16 (rfl : _ = some (0, 11)) rfl dX11_whyNot_70 ?_
        refine lv_iload hx hb dX11_whyNot_73 (lv_at hl 0 rfl) ?_
        obtain ⟨g13, h⟩ := grd h
        refine wlald C hw (rfl : _ = some (4, 240)) g13 dX11_whyNot_75 ?_
        obtain ⟨r14, e15, h⟩ := bnd_some h
        refine wcallV1 (As := [.long (M.2 3 (ix x12))]) (rest := []) C hw (c_X11_isPiece hW  e15) vlX11_237 ⟨Nat.le_of_ble_eq_true rfl, Nat.le_of_ble_eq_true rfl⟩ (rfl : _ = some (0, 11)) rfl rfl rfl hl.1 (Nat.le_of_ble_eq_true rfl) dX11_whyNot_76 ⟨Nat.zero_le _, Nat.zero_le _⟩ (fun H locs hw => ?_)
        refine lv_if_eq (tgt := 117) hx hb dX11_whyNot_79 (by decide) (fun c16 => ?_) (fun c16 => ?_)
        · replace h := (if_pos c16).symm.trans h
          refine lv_bipush (v := (-2)) hx hb dX11_whyNot_117 (by decide) ?_
          exact wretI_R C hw h dX11_whyNot_119
        · replace h := (if_neg c16).symm.trans h
          refine lv_aload_n hx hb dX11_whyNot_82 rfl (lv_at hl 1 rfl) ?_
          refine lv_aload_n hx hb dX11_whyNot_83 rfl (lv_at hl 1 rfl) ?_
          refine wgetR (t := 3) C hw flX11_16 (rfl : _ = some (0, 11)) rfl dX11_whyNot_84 ?_
          refine lv_iload hx hb dX11_whyNot_87 (lv_at hl 0 rfl) ?_
          refine lv_iconst (v := 1) hx hb dX11_whyNot_89 (by decide) ?_
          refine lv_iadd hx hb dX11_whyNot_90 ?_
          obtain ⟨g17, h⟩ := grd h
          refine wlald C hw (rfl : _ = some (4, 240)) g17 dX11_whyNot_91 ?_
          obtain ⟨r18, e19, h⟩ := bnd_some h
          refine wcallV1 (As := [.long (M.2 3 (ix (x12 + (1 : Int32))))]) (rest := []) C hw (c_X11_isStep hW  e19) vlX11_240 ⟨Nat.le_of_ble_eq_true rfl, Nat.le_of_ble_eq_true rfl⟩ (rfl : _ = some (0, 11)) rfl rfl rfl hl.1 (Nat.le_of_ble_eq_true rfl) dX11_whyNot_92 ⟨Nat.zero_le _, Nat.zero_le _⟩ (fun H locs hw => ?_)
          refine lv_if_eq (tgt := 117) hx hb dX11_whyNot_95 (by decide) (fun c20 => ?_) (fun c20 => ?_)
          · replace h := (if_pos c20).symm.trans h
            refine lv_bipush (v := (-2)) hx hb dX11_whyNot_117 (by decide) ?_
            exact wretI_R C hw h dX11_whyNot_119
          · replace h := (if_neg c20).symm.trans h
            refine lv_aload_n hx hb dX11_whyNot_98 rfl (lv_at hl 1 rfl) ?_
            refine wgetR (t := 3) C hw flX11_16 (rfl : _ = some (0, 11)) rfl dX11_whyNot_99 ?_
            refine lv_iload hx hb dX11_whyNot_102 (lv_at hl 0 rfl) ?_
            refine lv_iconst (v := 2) hx hb dX11_whyNot_104 (by decide) ?_
            refine lv_iadd hx hb dX11_whyNot_105 ?_
            obtain ⟨g21, h⟩ := grd h
            refine wlald C hw (rfl : _ = some (4, 240)) g21 dX11_whyNot_106 ?_
            refine lv_lconst (v := 0) hx hb dX11_whyNot_107 (by decide) ?_
            refine lv_ldc2 hx hb C.2.2.2.1 (C.2.2.2.2.1 _ (List.mem_cons_of_mem _ (gm kcX11_370 rfl))) dX11_whyNot_108 ?_
            refine wcallS1 (As := [.long (M.2 3 (ix (x12 + (2 : Int32)))), .long 0, .long 100000]) (rest := []) C hw (c_X11_in hW  rfl) slX11_82 ⟨Nat.le_of_ble_eq_true rfl, Nat.le_of_ble_eq_true rfl⟩ rfl rfl hl.1 (Nat.le_of_ble_eq_true rfl) dX11_whyNot_111 ⟨Nat.zero_le _, Nat.zero_le _⟩ (fun H locs hw => ?_)
            refine lv_if_ne (tgt := 120) hx hb dX11_whyNot_114 (by decide) (fun c22 => ?_) (fun c22 => ?_)
            · replace h := (if_neg c22).symm.trans h
              refine lv_iinc (v := (v3_50 + 3)) (lv' := [(3, .int (v3_50 + 3)), (4, .int x12), (0, .ref (P.2.2.1 0)), (1, .int p1)]) (k := 3) hx hb dX11_whyNot_120 hl rfl (congrArg (fun z => v3_50 + z) (by decide)) (by decide) rfl (fun ls hl => ?_)
              refine lv_goto (tgt := 50) hx hb dX11_whyNot_123 (by decide) ?_
              exact ih_50 (v3_50 + 3) ls _ _ (lv_sub hl [2, 3, 0] rfl) hw h
            · replace h := (if_pos c22).symm.trans h
              refine lv_bipush (v := (-2)) hx hb dX11_whyNot_117 (by decide) ?_
              exact wretI_R C hw h dX11_whyNot_119
  refine lv_iload_n hx hb dX11_whyNot_0 rfl (lv_at hl 1 rfl) ?_
  refine wcallS1 (As := [.int p1]) (rest := []) C hw (c_X11_isSlot hW  rfl) slX11_86 ⟨Nat.le_of_ble_eq_true rfl, Nat.le_of_ble_eq_true rfl⟩ rfl rfl hl.1 (Nat.le_of_ble_eq_true rfl) dX11_whyNot_1 ⟨Nat.zero_le _, Nat.zero_le _⟩ (fun H locs hw => ?_)
  refine lv_if_eq (tgt := 18) hx hb dX11_whyNot_4 (by decide) (fun c1 => ?_) (fun c1 => ?_)
  · replace h := (if_pos c1).symm.trans h
    refine lv_bipush (v := (-2)) hx hb dX11_whyNot_18 (by decide) ?_
    exact wretI_R C hw h dX11_whyNot_20
  · replace h := (if_neg c1).symm.trans h
    refine lv_aload_n hx hb dX11_whyNot_7 rfl (lv_at hl 0 rfl) ?_
    obtain ⟨r2, e3, h⟩ := bnd_some h
    refine wcallV1 (As := []) (rest := []) C hw (c_X11_isLehr hW  e3) vlX11_231 ⟨Nat.le_of_ble_eq_true rfl, Nat.le_of_ble_eq_true rfl⟩ (rfl : _ = some (0, 11)) rfl rfl rfl hl.1 (Nat.le_of_ble_eq_true rfl) dX11_whyNot_8 ⟨Nat.zero_le _, Nat.zero_le _⟩ (fun H locs hw => ?_)
    refine lv_if_eq (tgt := 18) hx hb dX11_whyNot_11 (by decide) (fun c4 => ?_) (fun c4 => ?_)
    · replace h := (if_pos c4).symm.trans h
      refine lv_bipush (v := (-2)) hx hb dX11_whyNot_18 (by decide) ?_
      exact wretI_R C hw h dX11_whyNot_20
    · replace h := (if_neg c4).symm.trans h
      refine lv_iload_n hx hb dX11_whyNot_14 rfl (lv_at hl 2 rfl) ?_
      refine lv_if_ne (tgt := 21) hx hb dX11_whyNot_15 (by decide) (fun c5 => ?_) (fun c5 => ?_)
      · replace h := (if_neg c5).symm.trans h
        refine lv_aload_n hx hb dX11_whyNot_21 rfl (lv_at hl 0 rfl) ?_
        refine wgetR (t := 1) C hw flX11_7 (rfl : _ = some (0, 11)) rfl dX11_whyNot_22 ?_
        refine lv_iload_n hx hb dX11_whyNot_25 rfl (lv_at hl 1 rfl) ?_
        obtain ⟨g6, h⟩ := grd h
        refine wald C hw (rfl : _ = some (1, 4)) g6 dX11_whyNot_26 ?_
        refine lv_iconst (v := (-1)) hx hb dX11_whyNot_27 (by decide) ?_
        refine lv_icmp_ne (tgt := 34) hx hb dX11_whyNot_28 (by decide) (fun c7 => ?_) (fun c7 => ?_)
        · replace h := (if_neg c7).symm.trans h
          refine lv_aload_n hx hb dX11_whyNot_34 rfl (lv_at hl 0 rfl) ?_
          refine wgetR (t := 2) C hw flX11_13 (rfl : _ = some (0, 11)) rfl dX11_whyNot_35 ?_
          refine lv_iload_n hx hb dX11_whyNot_38 rfl (lv_at hl 1 rfl) ?_
          obtain ⟨g8, h⟩ := grd h
          refine wald C hw (rfl : _ = some (1, 4)) g8 dX11_whyNot_39 ?_
          refine lv_iconst (v := 3) hx hb dX11_whyNot_40 (by decide) ?_
          refine lv_irem hx hb dX11_whyNot_41 (by decide) ?_
          refine lv_if_eq (tgt := 48) hx hb dX11_whyNot_42 (by decide) (fun c9 => ?_) (fun c9 => ?_)
          · replace h := (if_pos c9).symm.trans h
            refine lv_iconst (v := 0) hx hb dX11_whyNot_48 (by decide) ?_
            refine lv_istore_n (lv' := [(3, .int 0), (0, .ref (P.2.2.1 0)), (1, .int p1), (2, .int p2)]) hx hb dX11_whyNot_49 rfl hl (by decide) rfl (fun ls hl => ?_)
            exact cut_50 FU 0 ls _ _ (lv_sub hl [1, 2, 0] rfl) hw h
          · replace h := (if_neg c9).symm.trans h
            refine lv_bipush (v := (-2)) hx hb dX11_whyNot_45 (by decide) ?_
            exact wretI_R C hw h dX11_whyNot_47
        · replace h := (if_pos c7).symm.trans h
          refine lv_bipush (v := (-6)) hx hb dX11_whyNot_31 (by decide) ?_
          exact wretI_R C hw h dX11_whyNot_33
      · replace h := (if_pos c5).symm.trans h
        refine lv_bipush (v := (-2)) hx hb dX11_whyNot_18 (by decide) ?_
        exact wretI_R C hw h dX11_whyNot_20
set_option maxRecDepth 100000 in
set_option maxHeartbeats 4000000 in
theorem c_X11_isSo {l : Launch} {P : Wp} {E : State → Heap → Prop} (hW : Wok shR P E) {p1 : Int32} {M : Mem} {r : Int32} (h : f_X11_isSo p1 M = some r) : CT l shR P E yX11_isSo bX11_isSo 4 ((some .boolean)) 1 22 [.ref (P.2.2.1 0), .int p1] (some (.int r)) M M := by
  refine ct_of hW (by decide) (Nat.le_of_ble_eq_true rfl) (fun p e s m args below meth c C ls hl hw => ?_)
  have hx := C.1
  have hb := C.2.1
  replace hl : lv_has ls 4 [(0, .ref (P.2.2.1 0)), (1, .int p1)] := hl
  have cut_2 : ∀ (n_2 : Nat) (v2_2 : Int32) (ls : Array Slot) (H : Heap) (locs : List Loc), lv_has ls 4 [(0, .ref (P.2.2.1 0)), (1, .int p1), (2, .int v2_2)] → Hw shR P M s H locs → lq1 (L_X11_isSo_2 p1 M) n_2 v2_2 = some r → W p l e { frames := 1, cells := 0, slots := 0, locals := 22 } s m args below meth c H locs 0 0 (MQ below (CQ shR P E (some (.int r)) M) args s 0 0 (wA shR P)) (F0 m 2 ls []) := by
    intro n_2
    induction n_2 with
    | zero => intro v2_2 ls H locs hl hw h; cases h
    | succ n_2 ih_2 =>
      intro v2_2 ls H locs hl hw h
      replace h := lq1_succ h
      refine lv_iload_n hx hb dX11_isSo_2 rfl (lv_at hl 2 rfl) ?_
      refine lv_aload_n hx hb dX11_isSo_3 rfl (lv_at hl 0 rfl) ?_
      refine wgetR (t := 2) C hw flX11_13 (rfl : _ = some (0, 11)) rfl dX11_isSo_4 ?_
      refine lv_iload_n hx hb dX11_isSo_7 rfl (lv_at hl 1 rfl) ?_
      obtain ⟨g1, h⟩ := grd h
      refine wald C hw (rfl : _ = some (1, 4)) g1 dX11_isSo_8 ?_
      refine lv_icmp_ge (tgt := 60) hx hb dX11_isSo_9 (by decide) (fun c2 => ?_) (fun c2 => ?_)
      · replace h := (if_pos c2).symm.trans h
        refine lv_iconst (v := 1) hx hb dX11_isSo_60 (by decide) ?_
        exact wretZ_R C hw (Or.inr rfl) h dX11_isSo_61
      · replace h := (if_neg c2).symm.trans h
        refine lv_bipush (v := 60) hx hb dX11_isSo_12 (by decide) ?_
        refine lv_iload_n hx hb dX11_isSo_14 rfl (lv_at hl 1 rfl) ?_
        refine lv_imul hx hb dX11_isSo_15 ?_
        refine lv_iload_n hx hb dX11_isSo_16 rfl (lv_at hl 2 rfl) ?_
        refine lv_iadd hx hb dX11_isSo_17 ?_
        refine lv_topi (fun x3 ex3 => ?_)
        replace h := letv_at ex3 h
        refine lv_istore_n (lv' := [(3, .int x3), (0, .ref (P.2.2.1 0)), (1, .int p1), (2, .int v2_2)]) hx hb dX11_isSo_18 rfl hl (by decide) rfl (fun ls hl => ?_)
        refine lv_aload_n hx hb dX11_isSo_19 rfl (lv_at hl 1 rfl) ?_
        refine lv_aload_n hx hb dX11_isSo_20 rfl (lv_at hl 1 rfl) ?_
        refine wgetR (t := 3) C hw flX11_16 (rfl : _ = some (0, 11)) rfl dX11_isSo_21 ?_
        refine lv_iload_n hx hb dX11_isSo_24 rfl (lv_at hl 0 rfl) ?_
        obtain ⟨g4, h⟩ := grd h
        refine wlald C hw (rfl : _ = some (4, 240)) g4 dX11_isSo_25 ?_
        refine lv_l2i hx hb dX11_isSo_26 rfl ?_
        refine lv_aload_n hx hb dX11_isSo_27 rfl (lv_at hl 1 rfl) ?_
        refine wgetR (t := 3) C hw flX11_16 (rfl : _ = some (0, 11)) rfl dX11_isSo_28 ?_
        refine lv_iload_n hx hb dX11_isSo_31 rfl (lv_at hl 0 rfl) ?_
        refine lv_iconst (v := 1) hx hb dX11_isSo_32 (by decide) ?_
        refine lv_iadd hx hb dX11_isSo_33 ?_
        obtain ⟨g5, h⟩ := grd h
        refine wlald C hw (rfl : _ = some (4, 240)) g5 dX11_isSo_34 ?_
        refine lv_l2i hx hb dX11_isSo_35 rfl ?_
        obtain ⟨r6, e7, h⟩ := bnd_some h
        refine wcallV1 (As := [.int (((M.2 3 (ix x3)) : Int64).toInt32), .int (((M.2 3 (ix (x3 + (1 : Int32)))) : Int64).toInt32)]) (rest := []) C hw (c_X11_skinOf hW  e7) vlX11_268 ⟨Nat.le_of_ble_eq_true rfl, Nat.le_of_ble_eq_true rfl⟩ (rfl : _ = some (0, 11)) rfl rfl rfl hl.1 (Nat.le_of_ble_eq_true rfl) dX11_isSo_36 ⟨Nat.zero_le _, Nat.zero_le _⟩ (fun H locs hw => ?_)
        refine lv_i2l hx hb dX11_isSo_39 rfl ?_
        refine lv_aload_n hx hb dX11_isSo_40 rfl (lv_at hl 1 rfl) ?_
        refine wgetR (t := 3) C hw flX11_16 (rfl : _ = some (0, 11)) rfl dX11_isSo_41 ?_
        refine lv_iload_n hx hb dX11_isSo_44 rfl (lv_at hl 0 rfl) ?_
        refine lv_iconst (v := 2) hx hb dX11_isSo_45 (by decide) ?_
        refine lv_iadd hx hb dX11_isSo_46 ?_
        obtain ⟨g8, h⟩ := grd h
        refine wlald C hw (rfl : _ = some (4, 240)) g8 dX11_isSo_47 ?_
        refine W.lcmp hx hb dX11_isSo_48 ?_
        refine lv_if_eq (tgt := 54) hx hb dX11_isSo_49 (by decide) (fun c9 => ?_) (fun c9 => ?_)
        · replace h := (if_pos c9).symm.trans h
          refine lv_iinc (v := (v2_2 + 3)) (lv' := [(2, .int (v2_2 + 3)), (3, .int x3), (0, .ref (P.2.2.1 0)), (1, .int p1)]) (k := 3) hx hb dX11_isSo_54 hl rfl (congrArg (fun z => v2_2 + z) (by decide)) (by decide) rfl (fun ls hl => ?_)
          refine lv_goto (tgt := 2) hx hb dX11_isSo_57 (by decide) ?_
          exact ih_2 (v2_2 + 3) ls _ _ (lv_sub hl [2, 3, 0] rfl) hw h
        · replace h := (if_neg c9).symm.trans h
          refine lv_iconst (v := 0) hx hb dX11_isSo_52 (by decide) ?_
          exact wretZ_R C hw (Or.inl rfl) h dX11_isSo_53
  refine lv_iconst (v := 0) hx hb dX11_isSo_0 (by decide) ?_
  refine lv_istore_n (lv' := [(2, .int 0), (0, .ref (P.2.2.1 0)), (1, .int p1)]) hx hb dX11_isSo_1 rfl hl (by decide) rfl (fun ls hl => ?_)
  exact cut_2 FU 0 ls _ _ (lv_sub hl [1, 2, 0] rfl) hw h
set_option maxRecDepth 100000 in
set_option maxHeartbeats 4000000 in
theorem c_X11_laysSeen {l : Launch} {P : Wp} {E : State → Heap → Prop} (hW : Wok shR P E) {p1 : Int32} {p2 : Int32} {M : Mem} {M' : Mem} (h : f_X11_laysSeen p1 p2 M = some M') : CT l shR P E yX11_laysSeen bX11_laysSeen 4 (none) 5 121 [.ref (P.2.2.1 0), .int p1, .int p2] none M M' := by
  refine ct_of hW (by decide) (Nat.le_of_ble_eq_true rfl) (fun p e s m args below meth c C ls hl hw => ?_)
  have hx := C.1
  have hb := C.2.1
  replace hl : lv_has ls 4 [(0, .ref (P.2.2.1 0)), (1, .int p1), (2, .int p2)] := hl
  have cut_17 : ∀ (n_17 : Nat) (v3_17 : Int32) (M_17 : Mem) (ls : Array Slot) (H : Heap) (locs : List Loc), lv_has ls 4 [(0, .ref (P.2.2.1 0)), (1, .int p1), (2, .int p2), (3, .int v3_17)] → Hw shR P M_17 s H locs → lq2 (L_X11_laysSeen_17 p1 p2) n_17 v3_17 M_17 = some M' → W p l e { frames := 5, cells := 0, slots := 0, locals := 121 } s m args below meth c H locs 0 0 (MQ below (CQ shR P E none M') args s 0 0 (wA shR P)) (F0 m 17 ls []) := by
    intro n_17
    induction n_17 with
    | zero => intro v3_17 M_17 ls H locs hl hw h; cases h
    | succ n_17 ih_17 =>
      intro v3_17 M_17 ls H locs hl hw h
      replace h := lq2_succ h
      refine lv_iload_n hx hb dX11_laysSeen_17 rfl (lv_at hl 3 rfl) ?_
      refine lv_sipush (v := 600) hx hb dX11_laysSeen_18 (by decide) ?_
      refine lv_icmp_gt (tgt := 91) hx hb dX11_laysSeen_21 (by decide) (fun c4 => ?_) (fun c4 => ?_)
      · replace h := (if_pos c4).symm.trans h
        exact wretV_W C hw h dX11_laysSeen_91
      · replace h := (if_neg c4).symm.trans h
        refine lv_aload_n hx hb dX11_laysSeen_24 rfl (lv_at hl 0 rfl) ?_
        obtain ⟨M7, e6, h⟩ := bnd_some h
        refine wcallV0 (As := []) (rest := []) C hw (c_X11_lays hW  e6) vlX11_296 ⟨Nat.le_of_ble_eq_true rfl, Nat.le_of_ble_eq_true rfl⟩ (rfl : _ = some (0, 11)) rfl rfl rfl hl.1 (Nat.le_of_ble_eq_true rfl) dX11_laysSeen_25 ⟨Nat.zero_le _, Nat.zero_le _⟩ (fun H locs hw => ?_)
        refine lv_aload_n hx hb dX11_laysSeen_28 rfl (lv_at hl 0 rfl) ?_
        refine wgetR (t := 12) C hw flX11_50 (rfl : _ = some (0, 11)) rfl dX11_laysSeen_29 ?_
        refine lv_iload_n hx hb dX11_laysSeen_32 rfl (lv_at hl 2 rfl) ?_
        refine lv_iload_n hx hb dX11_laysSeen_33 rfl (lv_at hl 3 rfl) ?_
        obtain ⟨g9, h⟩ := grd h
        refine wast C hw (rfl : _ = some (1, 7)) g9 dX11_laysSeen_34 (fun M8 eM8 H locs hw => ?_)
        replace h := letv_at eM8 h
        refine lv_aload_n hx hb dX11_laysSeen_35 rfl (lv_at hl 0 rfl) ?_
        obtain ⟨M12, e11, h⟩ := bnd_some h
        refine wcallV0 (As := []) (rest := []) C hw (c_X11_runs hW  e11) vlX11_299 ⟨Nat.le_of_ble_eq_true rfl, Nat.le_of_ble_eq_true rfl⟩ (rfl : _ = some (0, 11)) rfl rfl rfl hl.1 (Nat.le_of_ble_eq_true rfl) dX11_laysSeen_36 ⟨Nat.zero_le _, Nat.zero_le _⟩ (fun H locs hw => ?_)
        refine lv_aload_n hx hb dX11_laysSeen_39 rfl (lv_at hl 0 rfl) ?_
        refine lv_iload_n hx hb dX11_laysSeen_40 rfl (lv_at hl 1 rfl) ?_
        obtain ⟨r13, e14, h⟩ := bnd_some h
        refine wcallV1 (As := [.int p1]) (rest := []) C hw (c_X11_isSo hW  e14) vlX11_381 ⟨Nat.le_of_ble_eq_true rfl, Nat.le_of_ble_eq_true rfl⟩ (rfl : _ = some (0, 11)) rfl rfl rfl hl.1 (Nat.le_of_ble_eq_true rfl) dX11_laysSeen_41 ⟨Nat.zero_le _, Nat.zero_le _⟩ (fun H locs hw => ?_)
        refine lv_if_ne (tgt := 50) hx hb dX11_laysSeen_44 (by decide) (fun c15 => ?_) (fun c15 => ?_)
        · replace h := (if_neg c15).symm.trans h
          refine lv_aload_n hx hb dX11_laysSeen_50 rfl (lv_at hl 0 rfl) ?_
          refine lv_dup hx hb dX11_laysSeen_51 rfl ?_
          refine wgetI C hw flX11_372 (rfl : _ = some (0, 11)) dX11_laysSeen_52 ?_
          refine lv_iconst (v := 1) hx hb dX11_laysSeen_55 (by decide) ?_
          refine lv_iadd hx hb dX11_laysSeen_56 ?_
          refine wputI C hw fpX11_372 (rfl : _ = some (0, 11)) dX11_laysSeen_57 (fun M16 eM16 H locs hw => ?_)
          replace h := letv_at eM16 h
          refine lv_aload_n hx hb dX11_laysSeen_60 rfl (lv_at hl 0 rfl) ?_
          refine lv_aload_n hx hb dX11_laysSeen_61 rfl (lv_at hl 0 rfl) ?_
          refine wgetI C hw flX11_375 (rfl : _ = some (0, 11)) dX11_laysSeen_62 ?_
          refine lv_iconst (v := (-1)) hx hb dX11_laysSeen_65 (by decide) ?_
          refine lv_icmp_ne (tgt := 73) hx hb dX11_laysSeen_66 (by decide) (fun c17 => ?_) (fun c17 => ?_)
          · replace h := (if_neg c17).symm.trans h
            refine lv_aload_n hx hb dX11_laysSeen_73 rfl (lv_at hl 0 rfl) ?_
            refine wgetI C hw flX11_375 (rfl : _ = some (0, 11)) dX11_laysSeen_74 ?_
            refine wputI C hw fpX11_375 (rfl : _ = some (0, 11)) dX11_laysSeen_77 (fun M18 eM18 H locs hw => ?_)
            replace h := letv_at eM18 h
            refine lv_aload_n hx hb dX11_laysSeen_80 rfl (lv_at hl 0 rfl) ?_
            refine lv_iload_n hx hb dX11_laysSeen_81 rfl (lv_at hl 3 rfl) ?_
            refine wputI C hw fpX11_378 (rfl : _ = some (0, 11)) dX11_laysSeen_82 (fun M19 eM19 H locs hw => ?_)
            replace h := letv_at eM19 h
            refine lv_iinc (v := (v3_17 + 1)) (lv' := [(3, .int (v3_17 + 1)), (0, .ref (P.2.2.1 0)), (1, .int p1), (2, .int p2)]) (k := 3) hx hb dX11_laysSeen_85 hl rfl (congrArg (fun z => v3_17 + z) (by decide)) (by decide) rfl (fun ls hl => ?_)
            refine lv_goto (tgt := 17) hx hb dX11_laysSeen_88 (by decide) ?_
            exact ih_17 (v3_17 + 1) M19 ls _ _ (lv_sub hl [1, 2, 3, 0] rfl) hw h
          · replace h := (if_pos c17).symm.trans h
            refine lv_iload_n hx hb dX11_laysSeen_69 rfl (lv_at hl 3 rfl) ?_
            refine lv_goto (tgt := 77) hx hb dX11_laysSeen_70 (by decide) ?_
            refine wputI C hw fpX11_375 (rfl : _ = some (0, 11)) dX11_laysSeen_77 (fun M20 eM20 H locs hw => ?_)
            replace h := letv_at eM20 h
            refine lv_aload_n hx hb dX11_laysSeen_80 rfl (lv_at hl 0 rfl) ?_
            refine lv_iload_n hx hb dX11_laysSeen_81 rfl (lv_at hl 3 rfl) ?_
            refine wputI C hw fpX11_378 (rfl : _ = some (0, 11)) dX11_laysSeen_82 (fun M21 eM21 H locs hw => ?_)
            replace h := letv_at eM21 h
            refine lv_iinc (v := (v3_17 + 1)) (lv' := [(3, .int (v3_17 + 1)), (0, .ref (P.2.2.1 0)), (1, .int p1), (2, .int p2)]) (k := 3) hx hb dX11_laysSeen_85 hl rfl (congrArg (fun z => v3_17 + z) (by decide)) (by decide) rfl (fun ls hl => ?_)
            refine lv_goto (tgt := 17) hx hb dX11_laysSeen_88 (by decide) ?_
            exact ih_17 (v3_17 + 1) M21 ls _ _ (lv_sub hl [1, 2, 3, 0] rfl) hw h
        · replace h := (if_pos c15).symm.trans h
          refine lv_goto (tgt := 85) hx hb dX11_laysSeen_47 (by decide) ?_
          refine lv_iinc (v := (v3_17 + 1)) (lv' := [(3, .int (v3_17 + 1)), (0, .ref (P.2.2.1 0)), (1, .int p1), (2, .int p2)]) (k := 3) hx hb dX11_laysSeen_85 hl rfl (congrArg (fun z => v3_17 + z) (by decide)) (by decide) rfl (fun ls hl => ?_)
          refine lv_goto (tgt := 17) hx hb dX11_laysSeen_88 (by decide) ?_
          exact ih_17 (v3_17 + 1) M12 ls _ _ (lv_sub hl [1, 2, 3, 0] rfl) hw h
  refine lv_aload_n hx hb dX11_laysSeen_0 rfl (lv_at hl 0 rfl) ?_
  refine lv_iconst (v := 0) hx hb dX11_laysSeen_1 (by decide) ?_
  refine wputI C hw fpX11_372 (rfl : _ = some (0, 11)) dX11_laysSeen_2 (fun M1 eM1 H locs hw => ?_)
  replace h := letv_at eM1 h
  refine lv_aload_n hx hb dX11_laysSeen_5 rfl (lv_at hl 0 rfl) ?_
  refine lv_iconst (v := (-1)) hx hb dX11_laysSeen_6 (by decide) ?_
  refine wputI C hw fpX11_375 (rfl : _ = some (0, 11)) dX11_laysSeen_7 (fun M2 eM2 H locs hw => ?_)
  replace h := letv_at eM2 h
  refine lv_aload_n hx hb dX11_laysSeen_10 rfl (lv_at hl 0 rfl) ?_
  refine lv_iconst (v := (-1)) hx hb dX11_laysSeen_11 (by decide) ?_
  refine wputI C hw fpX11_378 (rfl : _ = some (0, 11)) dX11_laysSeen_12 (fun M3 eM3 H locs hw => ?_)
  replace h := letv_at eM3 h
  refine lv_iconst (v := 0) hx hb dX11_laysSeen_15 (by decide) ?_
  refine lv_istore_n (lv' := [(3, .int 0), (0, .ref (P.2.2.1 0)), (1, .int p1), (2, .int p2)]) hx hb dX11_laysSeen_16 rfl hl (by decide) rfl (fun ls hl => ?_)
  exact cut_17 FU 0 M3 ls _ _ (lv_sub hl [1, 2, 3, 0] rfl) hw h
set_option maxRecDepth 100000 in
set_option maxHeartbeats 4000000 in
theorem c_X11_airs {l : Launch} {P : Wp} {E : State → Heap → Prop} (hW : Wok shR P E) {p1 : Int32} {p2 : Int32} {M : Mem} {r : Int32} {M' : Mem} (h : f_X11_airs p1 p2 M = some (r, M')) : CT l shR P E yX11_airs bX11_airs 4 ((some .int)) 6 144 [.ref (P.2.2.1 0), .int p1, .int p2] (some (.int r)) M M' := by
  refine ct_of hW (by decide) (Nat.le_of_ble_eq_true rfl) (fun p e s m args below meth c C ls hl hw => ?_)
  have hx := C.1
  have hb := C.2.1
  replace hl : lv_has ls 4 [(0, .ref (P.2.2.1 0)), (1, .int p1), (2, .int p2)] := hl
  refine lv_aload_n hx hb dX11_airs_0 rfl (lv_at hl 0 rfl) ?_
  refine lv_iconst (v := 0) hx hb dX11_airs_1 (by decide) ?_
  refine wputI C hw fpX11_77 (rfl : _ = some (0, 11)) dX11_airs_2 (fun M1 eM1 H locs hw => ?_)
  replace h := letv_at eM1 h
  refine lv_aload_n hx hb dX11_airs_5 rfl (lv_at hl 0 rfl) ?_
  refine lv_iload_n hx hb dX11_airs_6 rfl (lv_at hl 1 rfl) ?_
  refine lv_aload_n hx hb dX11_airs_7 rfl (lv_at hl 0 rfl) ?_
  refine lv_iload_n hx hb dX11_airs_8 rfl (lv_at hl 2 rfl) ?_
  obtain ⟨r2, e3, h⟩ := bnd_some h
  refine wcallV1 (As := [.int p2]) (rest := [.int p1, .ref (P.2.2.1 0)]) C hw (c_X11_isZone hW  e3) vlX11_302 ⟨Nat.le_of_ble_eq_true rfl, Nat.le_of_ble_eq_true rfl⟩ (rfl : _ = some (0, 11)) rfl rfl rfl hl.1 (Nat.le_of_ble_eq_true rfl) dX11_airs_9 ⟨Nat.zero_le _, Nat.zero_le _⟩ (fun H locs hw => ?_)
  obtain ⟨r4, e5, h⟩ := bnd_some h
  refine wcallV1 (As := [.int p1, .int r2]) (rest := []) C hw (c_X11_whyNot hW  e5) vlX11_384 ⟨Nat.le_of_ble_eq_true rfl, Nat.le_of_ble_eq_true rfl⟩ (rfl : _ = some (0, 11)) rfl rfl rfl hl.1 (Nat.le_of_ble_eq_true rfl) dX11_airs_12 ⟨Nat.zero_le _, Nat.zero_le _⟩ (fun H locs hw => ?_)
  refine lv_istore_n (lv' := [(3, .int r4), (0, .ref (P.2.2.1 0)), (1, .int p1), (2, .int p2)]) hx hb dX11_airs_15 rfl hl (by decide) rfl (fun ls hl => ?_)
  refine lv_iload_n hx hb dX11_airs_16 rfl (lv_at hl 0 rfl) ?_
  refine lv_if_eq (tgt := 22) hx hb dX11_airs_17 (by decide) (fun c6 => ?_) (fun c6 => ?_)
  · replace h := (if_pos c6).symm.trans h
    refine lv_aload_n hx hb dX11_airs_22 rfl (lv_at hl 1 rfl) ?_
    refine lv_iload_n hx hb dX11_airs_23 rfl (lv_at hl 2 rfl) ?_
    refine lv_iload_n hx hb dX11_airs_24 rfl (lv_at hl 3 rfl) ?_
    obtain ⟨M9, e8, h⟩ := bnd_some h
    refine wcallV0 (As := [.int p1, .int p2]) (rest := []) C hw (c_X11_laysSeen hW  e8) vlX11_388 ⟨Nat.le_of_ble_eq_true rfl, Nat.le_of_ble_eq_true rfl⟩ (rfl : _ = some (0, 11)) rfl rfl rfl hl.1 (Nat.le_of_ble_eq_true rfl) dX11_airs_25 ⟨Nat.zero_le _, Nat.zero_le _⟩ (fun H locs hw => ?_)
    refine lv_aload_n hx hb dX11_airs_28 rfl (lv_at hl 1 rfl) ?_
    refine wgetI C hw flX11_372 (rfl : _ = some (0, 11)) dX11_airs_29 ?_
    exact wretI_W C hw h dX11_airs_32
  · replace h := (if_neg c6).symm.trans h
    refine lv_iload_n hx hb dX11_airs_20 rfl (lv_at hl 0 rfl) ?_
    exact wretI_W C hw h dX11_airs_21
set_option maxRecDepth 100000 in
set_option maxHeartbeats 4000000 in
theorem c_X11_low {l : Launch} {P : Wp} {E : State → Heap → Prop} (hW : Wok shR P E) {p1 : Int32} {p2 : Int32} {M : Mem} {r : Int32} {M' : Mem} (h : f_X11_low p1 p2 M = some (r, M')) : CT l shR P E yX11_low bX11_low 4 ((some .int)) 6 144 [.ref (P.2.2.1 0), .int p1, .int p2] (some (.int r)) M M' := by
  refine ct_of hW (by decide) (Nat.le_of_ble_eq_true rfl) (fun p e s m args below meth c C ls hl hw => ?_)
  have hx := C.1
  have hb := C.2.1
  replace hl : lv_has ls 4 [(0, .ref (P.2.2.1 0)), (1, .int p1), (2, .int p2)] := hl
  refine lv_aload_n hx hb dX11_low_0 rfl (lv_at hl 0 rfl) ?_
  refine lv_iconst (v := 0) hx hb dX11_low_1 (by decide) ?_
  refine wputI C hw fpX11_77 (rfl : _ = some (0, 11)) dX11_low_2 (fun M1 eM1 H locs hw => ?_)
  replace h := letv_at eM1 h
  refine lv_aload_n hx hb dX11_low_5 rfl (lv_at hl 0 rfl) ?_
  refine lv_iload_n hx hb dX11_low_6 rfl (lv_at hl 1 rfl) ?_
  refine lv_aload_n hx hb dX11_low_7 rfl (lv_at hl 0 rfl) ?_
  refine lv_iload_n hx hb dX11_low_8 rfl (lv_at hl 2 rfl) ?_
  obtain ⟨r2, e3, h⟩ := bnd_some h
  refine wcallV1 (As := [.int p2]) (rest := [.int p1, .ref (P.2.2.1 0)]) C hw (c_X11_isZone hW  e3) vlX11_302 ⟨Nat.le_of_ble_eq_true rfl, Nat.le_of_ble_eq_true rfl⟩ (rfl : _ = some (0, 11)) rfl rfl rfl hl.1 (Nat.le_of_ble_eq_true rfl) dX11_low_9 ⟨Nat.zero_le _, Nat.zero_le _⟩ (fun H locs hw => ?_)
  obtain ⟨r4, e5, h⟩ := bnd_some h
  refine wcallV1 (As := [.int p1, .int r2]) (rest := []) C hw (c_X11_whyNot hW  e5) vlX11_384 ⟨Nat.le_of_ble_eq_true rfl, Nat.le_of_ble_eq_true rfl⟩ (rfl : _ = some (0, 11)) rfl rfl rfl hl.1 (Nat.le_of_ble_eq_true rfl) dX11_low_12 ⟨Nat.zero_le _, Nat.zero_le _⟩ (fun H locs hw => ?_)
  refine lv_istore_n (lv' := [(3, .int r4), (0, .ref (P.2.2.1 0)), (1, .int p1), (2, .int p2)]) hx hb dX11_low_15 rfl hl (by decide) rfl (fun ls hl => ?_)
  refine lv_iload_n hx hb dX11_low_16 rfl (lv_at hl 0 rfl) ?_
  refine lv_if_eq (tgt := 22) hx hb dX11_low_17 (by decide) (fun c6 => ?_) (fun c6 => ?_)
  · replace h := (if_pos c6).symm.trans h
    refine lv_aload_n hx hb dX11_low_22 rfl (lv_at hl 1 rfl) ?_
    refine lv_iload_n hx hb dX11_low_23 rfl (lv_at hl 2 rfl) ?_
    refine lv_iload_n hx hb dX11_low_24 rfl (lv_at hl 3 rfl) ?_
    obtain ⟨M9, e8, h⟩ := bnd_some h
    refine wcallV0 (As := [.int p1, .int p2]) (rest := []) C hw (c_X11_laysSeen hW  e8) vlX11_388 ⟨Nat.le_of_ble_eq_true rfl, Nat.le_of_ble_eq_true rfl⟩ (rfl : _ = some (0, 11)) rfl rfl rfl hl.1 (Nat.le_of_ble_eq_true rfl) dX11_low_25 ⟨Nat.zero_le _, Nat.zero_le _⟩ (fun H locs hw => ?_)
    refine lv_aload_n hx hb dX11_low_28 rfl (lv_at hl 1 rfl) ?_
    refine wgetI C hw flX11_375 (rfl : _ = some (0, 11)) dX11_low_29 ?_
    exact wretI_W C hw h dX11_low_32
  · replace h := (if_neg c6).symm.trans h
    refine lv_iload_n hx hb dX11_low_20 rfl (lv_at hl 0 rfl) ?_
    exact wretI_W C hw h dX11_low_21
set_option maxRecDepth 100000 in
set_option maxHeartbeats 4000000 in
theorem c_X11_high {l : Launch} {P : Wp} {E : State → Heap → Prop} (hW : Wok shR P E) {p1 : Int32} {p2 : Int32} {M : Mem} {r : Int32} {M' : Mem} (h : f_X11_high p1 p2 M = some (r, M')) : CT l shR P E yX11_high bX11_high 4 ((some .int)) 6 144 [.ref (P.2.2.1 0), .int p1, .int p2] (some (.int r)) M M' := by
  refine ct_of hW (by decide) (Nat.le_of_ble_eq_true rfl) (fun p e s m args below meth c C ls hl hw => ?_)
  have hx := C.1
  have hb := C.2.1
  replace hl : lv_has ls 4 [(0, .ref (P.2.2.1 0)), (1, .int p1), (2, .int p2)] := hl
  refine lv_aload_n hx hb dX11_high_0 rfl (lv_at hl 0 rfl) ?_
  refine lv_iconst (v := 0) hx hb dX11_high_1 (by decide) ?_
  refine wputI C hw fpX11_77 (rfl : _ = some (0, 11)) dX11_high_2 (fun M1 eM1 H locs hw => ?_)
  replace h := letv_at eM1 h
  refine lv_aload_n hx hb dX11_high_5 rfl (lv_at hl 0 rfl) ?_
  refine lv_iload_n hx hb dX11_high_6 rfl (lv_at hl 1 rfl) ?_
  refine lv_aload_n hx hb dX11_high_7 rfl (lv_at hl 0 rfl) ?_
  refine lv_iload_n hx hb dX11_high_8 rfl (lv_at hl 2 rfl) ?_
  obtain ⟨r2, e3, h⟩ := bnd_some h
  refine wcallV1 (As := [.int p2]) (rest := [.int p1, .ref (P.2.2.1 0)]) C hw (c_X11_isZone hW  e3) vlX11_302 ⟨Nat.le_of_ble_eq_true rfl, Nat.le_of_ble_eq_true rfl⟩ (rfl : _ = some (0, 11)) rfl rfl rfl hl.1 (Nat.le_of_ble_eq_true rfl) dX11_high_9 ⟨Nat.zero_le _, Nat.zero_le _⟩ (fun H locs hw => ?_)
  obtain ⟨r4, e5, h⟩ := bnd_some h
  refine wcallV1 (As := [.int p1, .int r2]) (rest := []) C hw (c_X11_whyNot hW  e5) vlX11_384 ⟨Nat.le_of_ble_eq_true rfl, Nat.le_of_ble_eq_true rfl⟩ (rfl : _ = some (0, 11)) rfl rfl rfl hl.1 (Nat.le_of_ble_eq_true rfl) dX11_high_12 ⟨Nat.zero_le _, Nat.zero_le _⟩ (fun H locs hw => ?_)
  refine lv_istore_n (lv' := [(3, .int r4), (0, .ref (P.2.2.1 0)), (1, .int p1), (2, .int p2)]) hx hb dX11_high_15 rfl hl (by decide) rfl (fun ls hl => ?_)
  refine lv_iload_n hx hb dX11_high_16 rfl (lv_at hl 0 rfl) ?_
  refine lv_if_eq (tgt := 22) hx hb dX11_high_17 (by decide) (fun c6 => ?_) (fun c6 => ?_)
  · replace h := (if_pos c6).symm.trans h
    refine lv_aload_n hx hb dX11_high_22 rfl (lv_at hl 1 rfl) ?_
    refine lv_iload_n hx hb dX11_high_23 rfl (lv_at hl 2 rfl) ?_
    refine lv_iload_n hx hb dX11_high_24 rfl (lv_at hl 3 rfl) ?_
    obtain ⟨M9, e8, h⟩ := bnd_some h
    refine wcallV0 (As := [.int p1, .int p2]) (rest := []) C hw (c_X11_laysSeen hW  e8) vlX11_388 ⟨Nat.le_of_ble_eq_true rfl, Nat.le_of_ble_eq_true rfl⟩ (rfl : _ = some (0, 11)) rfl rfl rfl hl.1 (Nat.le_of_ble_eq_true rfl) dX11_high_25 ⟨Nat.zero_le _, Nat.zero_le _⟩ (fun H locs hw => ?_)
    refine lv_aload_n hx hb dX11_high_28 rfl (lv_at hl 1 rfl) ?_
    refine wgetI C hw flX11_378 (rfl : _ = some (0, 11)) dX11_high_29 ?_
    exact wretI_W C hw h dX11_high_32
  · replace h := (if_neg c6).symm.trans h
    refine lv_iload_n hx hb dX11_high_20 rfl (lv_at hl 0 rfl) ?_
    exact wretI_W C hw h dX11_high_21
set_option maxRecDepth 100000 in
set_option maxHeartbeats 4000000 in
theorem c_X11_thicks {l : Launch} {P : Wp} {E : State → Heap → Prop} (hW : Wok shR P E) {p1 : Int32} {p2 : Int32} {M : Mem} {r : Int32} {M' : Mem} (h : f_X11_thicks p1 p2 M = some (r, M')) : CT l shR P E yX11_thicks bX11_thicks 6 ((some .int)) 5 121 [.ref (P.2.2.1 0), .int p1, .int p2] (some (.int r)) M M' := by
  refine ct_of hW (by decide) (Nat.le_of_ble_eq_true rfl) (fun p e s m args below meth c C ls hl hw => ?_)
  have hx := C.1
  have hb := C.2.1
  replace hl : lv_has ls 6 [(0, .ref (P.2.2.1 0)), (1, .int p1), (2, .int p2)] := hl
  have cut_29 : ∀ (n_29 : Nat) (v4_29 : Int32) (v5_29 : Int32) (M_29 : Mem) (ls : Array Slot) (H : Heap) (locs : List Loc), lv_has ls 6 [(0, .ref (P.2.2.1 0)), (1, .int p1), (2, .int p2), (4, .int v4_29), (5, .int v5_29)] → Hw shR P M_29 s H locs → lq3 (L_X11_thicks_29 p1 p2) n_29 v4_29 v5_29 M_29 = some (r, M') → W p l e { frames := 5, cells := 0, slots := 0, locals := 121 } s m args below meth c H locs 0 0 (MQ below (CQ shR P E (some (.int r)) M') args s 0 0 (wA shR P)) (F0 m 29 ls []) := by
    intro n_29
    induction n_29 with
    | zero => intro v4_29 v5_29 M_29 ls H locs hl hw h; cases h
    | succ n_29 ih_29 =>
      intro v4_29 v5_29 M_29 ls H locs hl hw h
      replace h := lq3_succ h
      refine lv_iload hx hb dX11_thicks_29 (lv_at hl 4 rfl) ?_
      refine lv_bipush (v := 9) hx hb dX11_thicks_31 (by decide) ?_
      refine lv_icmp_gt (tgt := 79) hx hb dX11_thicks_33 (by decide) (fun c7 => ?_) (fun c7 => ?_)
      · replace h := (if_pos c7).symm.trans h
        refine lv_iload hx hb dX11_thicks_79 (lv_at hl 3 rfl) ?_
        exact wretI_W C hw h dX11_thicks_81
      · replace h := (if_neg c7).symm.trans h
        refine lv_aload_n hx hb dX11_thicks_36 rfl (lv_at hl 0 rfl) ?_
        obtain ⟨M10, e9, h⟩ := bnd_some h
        refine wcallV0 (As := []) (rest := []) C hw (c_X11_lays hW  e9) vlX11_296 ⟨Nat.le_of_ble_eq_true rfl, Nat.le_of_ble_eq_true rfl⟩ (rfl : _ = some (0, 11)) rfl rfl rfl hl.1 (Nat.le_of_ble_eq_true rfl) dX11_thicks_37 ⟨Nat.zero_le _, Nat.zero_le _⟩ (fun H locs hw => ?_)
        refine lv_aload_n hx hb dX11_thicks_40 rfl (lv_at hl 0 rfl) ?_
        refine wgetR (t := 13) C hw flX11_53 (rfl : _ = some (0, 11)) rfl dX11_thicks_41 ?_
        refine lv_iload_n hx hb dX11_thicks_44 rfl (lv_at hl 2 rfl) ?_
        refine lv_iload hx hb dX11_thicks_45 (lv_at hl 4 rfl) ?_
        obtain ⟨g12, h⟩ := grd h
        refine wast C hw (rfl : _ = some (1, 6)) g12 dX11_thicks_47 (fun M11 eM11 H locs hw => ?_)
        replace h := letv_at eM11 h
        refine lv_aload_n hx hb dX11_thicks_48 rfl (lv_at hl 0 rfl) ?_
        obtain ⟨M15, e14, h⟩ := bnd_some h
        refine wcallV0 (As := []) (rest := []) C hw (c_X11_runs hW  e14) vlX11_299 ⟨Nat.le_of_ble_eq_true rfl, Nat.le_of_ble_eq_true rfl⟩ (rfl : _ = some (0, 11)) rfl rfl rfl hl.1 (Nat.le_of_ble_eq_true rfl) dX11_thicks_49 ⟨Nat.zero_le _, Nat.zero_le _⟩ (fun H locs hw => ?_)
        refine lv_iload hx hb dX11_thicks_52 (lv_at hl 3 rfl) ?_
        refine lv_aload_n hx hb dX11_thicks_54 rfl (lv_at hl 0 rfl) ?_
        refine lv_iload_n hx hb dX11_thicks_55 rfl (lv_at hl 1 rfl) ?_
        obtain ⟨r16, e17, h⟩ := bnd_some h
        refine wcallV1 (As := [.int p1]) (rest := [.int v4_29]) C hw (c_X11_isSo hW  e17) vlX11_381 ⟨Nat.le_of_ble_eq_true rfl, Nat.le_of_ble_eq_true rfl⟩ (rfl : _ = some (0, 11)) rfl rfl rfl hl.1 (Nat.le_of_ble_eq_true rfl) dX11_thicks_56 ⟨Nat.zero_le _, Nat.zero_le _⟩ (fun H locs hw => ?_)
        refine lv_if_eq (tgt := 69) hx hb dX11_thicks_59 (by decide) (fun c18 => ?_) (fun c18 => ?_)
        · replace h := (if_pos c18).symm.trans h
          refine lv_iconst (v := 0) hx hb dX11_thicks_69 (by decide) ?_
          refine lv_ior hx hb dX11_thicks_70 ?_
          refine lv_topi (fun x19 ex19 => ?_)
          replace h := letv_at ex19 h
          refine lv_istore (lv' := [(4, .int x19), (0, .ref (P.2.2.1 0)), (1, .int p1), (2, .int p2), (5, .int v5_29)]) hx hb dX11_thicks_71 hl (by decide) rfl (fun ls hl => ?_)
          refine lv_iinc (v := (v5_29 + 1)) (lv' := [(5, .int (v5_29 + 1)), (4, .int x19), (0, .ref (P.2.2.1 0)), (1, .int p1), (2, .int p2)]) (k := 4) hx hb dX11_thicks_73 hl rfl (congrArg (fun z => v5_29 + z) (by decide)) (by decide) rfl (fun ls hl => ?_)
          refine lv_goto (tgt := 29) hx hb dX11_thicks_76 (by decide) ?_
          exact ih_29 x19 (v5_29 + 1) M15 ls _ _ (lv_sub hl [2, 3, 4, 1, 0] rfl) hw h
        · replace h := (if_neg c18).symm.trans h
          refine lv_iconst (v := 1) hx hb dX11_thicks_62 (by decide) ?_
          refine lv_iload hx hb dX11_thicks_63 (lv_at hl 4 rfl) ?_
          refine lv_ishl hx hb dX11_thicks_65 ?_
          refine lv_goto (tgt := 70) hx hb dX11_thicks_66 (by decide) ?_
          refine lv_ior hx hb dX11_thicks_70 ?_
          refine lv_topi (fun x20 ex20 => ?_)
          replace h := letv_at ex20 h
          refine lv_istore (lv' := [(4, .int x20), (0, .ref (P.2.2.1 0)), (1, .int p1), (2, .int p2), (5, .int v5_29)]) hx hb dX11_thicks_71 hl (by decide) rfl (fun ls hl => ?_)
          refine lv_iinc (v := (v5_29 + 1)) (lv' := [(5, .int (v5_29 + 1)), (4, .int x20), (0, .ref (P.2.2.1 0)), (1, .int p1), (2, .int p2)]) (k := 4) hx hb dX11_thicks_73 hl rfl (congrArg (fun z => v5_29 + z) (by decide)) (by decide) rfl (fun ls hl => ?_)
          refine lv_goto (tgt := 29) hx hb dX11_thicks_76 (by decide) ?_
          exact ih_29 x20 (v5_29 + 1) M15 ls _ _ (lv_sub hl [2, 3, 4, 1, 0] rfl) hw h
  refine lv_aload_n hx hb dX11_thicks_0 rfl (lv_at hl 0 rfl) ?_
  refine lv_iconst (v := 0) hx hb dX11_thicks_1 (by decide) ?_
  refine wputI C hw fpX11_77 (rfl : _ = some (0, 11)) dX11_thicks_2 (fun M1 eM1 H locs hw => ?_)
  replace h := letv_at eM1 h
  refine lv_aload_n hx hb dX11_thicks_5 rfl (lv_at hl 0 rfl) ?_
  refine lv_iload_n hx hb dX11_thicks_6 rfl (lv_at hl 1 rfl) ?_
  refine lv_aload_n hx hb dX11_thicks_7 rfl (lv_at hl 0 rfl) ?_
  refine lv_iload_n hx hb dX11_thicks_8 rfl (lv_at hl 2 rfl) ?_
  refine lv_i2l hx hb dX11_thicks_9 rfl ?_
  obtain ⟨r2, e3, h⟩ := bnd_some h
  refine wcallV1 (As := [.long ((p2 : Int32).toInt64)]) (rest := [.int p1, .ref (P.2.2.1 0)]) C hw (c_X11_isPiece hW  e3) vlX11_237 ⟨Nat.le_of_ble_eq_true rfl, Nat.le_of_ble_eq_true rfl⟩ (rfl : _ = some (0, 11)) rfl rfl rfl hl.1 (Nat.le_of_ble_eq_true rfl) dX11_thicks_10 ⟨Nat.zero_le _, Nat.zero_le _⟩ (fun H locs hw => ?_)
  obtain ⟨r4, e5, h⟩ := bnd_some h
  refine wcallV1 (As := [.int p1, .int r2]) (rest := []) C hw (c_X11_whyNot hW  e5) vlX11_384 ⟨Nat.le_of_ble_eq_true rfl, Nat.le_of_ble_eq_true rfl⟩ (rfl : _ = some (0, 11)) rfl rfl rfl hl.1 (Nat.le_of_ble_eq_true rfl) dX11_thicks_13 ⟨Nat.zero_le _, Nat.zero_le _⟩ (fun H locs hw => ?_)
  refine lv_istore_n (lv' := [(3, .int r4), (0, .ref (P.2.2.1 0)), (1, .int p1), (2, .int p2)]) hx hb dX11_thicks_16 rfl hl (by decide) rfl (fun ls hl => ?_)
  refine lv_iload_n hx hb dX11_thicks_17 rfl (lv_at hl 0 rfl) ?_
  refine lv_if_eq (tgt := 23) hx hb dX11_thicks_18 (by decide) (fun c6 => ?_) (fun c6 => ?_)
  · replace h := (if_pos c6).symm.trans h
    refine lv_iconst (v := 0) hx hb dX11_thicks_23 (by decide) ?_
    refine lv_istore (lv' := [(4, .int 0), (3, .int r4), (0, .ref (P.2.2.1 0)), (1, .int p1), (2, .int p2)]) hx hb dX11_thicks_24 hl (by decide) rfl (fun ls hl => ?_)
    refine lv_iconst (v := 1) hx hb dX11_thicks_26 (by decide) ?_
    refine lv_istore (lv' := [(5, .int 1), (4, .int 0), (3, .int r4), (0, .ref (P.2.2.1 0)), (1, .int p1), (2, .int p2)]) hx hb dX11_thicks_27 hl (by decide) rfl (fun ls hl => ?_)
    exact cut_29 FU 0 1 M1 ls _ _ (lv_sub hl [3, 4, 5, 1, 0] rfl) hw h
  · replace h := (if_neg c6).symm.trans h
    refine lv_iload_n hx hb dX11_thicks_21 rfl (lv_at hl 0 rfl) ?_
    exact wretI_W C hw h dX11_thicks_22
set_option maxRecDepth 100000 in
set_option maxHeartbeats 4000000 in
theorem c_X11_byLaw {l : Launch} {P : Wp} {E : State → Heap → Prop} (hW : Wok shR P E) {p1 : Int32} {M : Mem} {r : Int32} {M' : Mem} (h : f_X11_byLaw p1 M = some (r, M')) : CT l shR P E yX11_byLaw bX11_byLaw 2 ((some .int)) 5 121 [.ref (P.2.2.1 0), .int p1] (some (.int r)) M M' := by
  refine ct_of hW (by decide) (Nat.le_of_ble_eq_true rfl) (fun p e s m args below meth c C ls hl hw => ?_)
  have hx := C.1
  have hb := C.2.1
  replace hl : lv_has ls 2 [(0, .ref (P.2.2.1 0)), (1, .int p1)] := hl
  refine lv_aload_n hx hb dX11_byLaw_0 rfl (lv_at hl 0 rfl) ?_
  obtain ⟨M3, e2, h⟩ := bnd_some h
  refine wcallV0 (As := []) (rest := []) C hw (c_X11_lays hW  e2) vlX11_296 ⟨Nat.le_of_ble_eq_true rfl, Nat.le_of_ble_eq_true rfl⟩ (rfl : _ = some (0, 11)) rfl rfl rfl hl.1 (Nat.le_of_ble_eq_true rfl) dX11_byLaw_1 ⟨Nat.zero_le _, Nat.zero_le _⟩ (fun H locs hw => ?_)
  refine lv_aload_n hx hb dX11_byLaw_4 rfl (lv_at hl 0 rfl) ?_
  refine lv_iload_n hx hb dX11_byLaw_5 rfl (lv_at hl 1 rfl) ?_
  refine wputI C hw fpX11_243 (rfl : _ = some (0, 11)) dX11_byLaw_6 (fun M4 eM4 H locs hw => ?_)
  replace h := letv_at eM4 h
  refine lv_aload_n hx hb dX11_byLaw_9 rfl (lv_at hl 0 rfl) ?_
  obtain ⟨M7, e6, h⟩ := bnd_some h
  refine wcallV0 (As := []) (rest := []) C hw (c_X11_runs hW  e6) vlX11_299 ⟨Nat.le_of_ble_eq_true rfl, Nat.le_of_ble_eq_true rfl⟩ (rfl : _ = some (0, 11)) rfl rfl rfl hl.1 (Nat.le_of_ble_eq_true rfl) dX11_byLaw_10 ⟨Nat.zero_le _, Nat.zero_le _⟩ (fun H locs hw => ?_)
  refine lv_aload_n hx hb dX11_byLaw_13 rfl (lv_at hl 0 rfl) ?_
  obtain ⟨r8, e9, h⟩ := bnd_some h
  refine wcallV1 (As := []) (rest := []) C hw (c_X11_soundNow hW  e9) vlX11_323 ⟨Nat.le_of_ble_eq_true rfl, Nat.le_of_ble_eq_true rfl⟩ (rfl : _ = some (0, 11)) rfl rfl rfl hl.1 (Nat.le_of_ble_eq_true rfl) dX11_byLaw_14 ⟨Nat.zero_le _, Nat.zero_le _⟩ (fun H locs hw => ?_)
  exact wretI_W C hw h dX11_byLaw_17
set_option maxRecDepth 100000 in
set_option maxHeartbeats 4000000 in
theorem c_X11_laws {l : Launch} {P : Wp} {E : State → Heap → Prop} (hW : Wok shR P E) {p1 : Int32} {M : Mem} {r : Int32} {M' : Mem} (h : f_X11_laws p1 M = some (r, M')) : CT l shR P E yX11_laws bX11_laws 5 ((some .int)) 6 142 [.ref (P.2.2.1 0), .int p1] (some (.int r)) M M' := by
  refine ct_of hW (by decide) (Nat.le_of_ble_eq_true rfl) (fun p e s m args below meth c C ls hl hw => ?_)
  have hx := C.1
  have hb := C.2.1
  replace hl : lv_has ls 5 [(0, .ref (P.2.2.1 0)), (1, .int p1)] := hl
  have cut_23 : ∀ (n_23 : Nat) (v3_23 : Int32) (v4_23 : Int32) (M_23 : Mem) (ls : Array Slot) (H : Heap) (locs : List Loc), lv_has ls 5 [(0, .ref (P.2.2.1 0)), (1, .int p1), (3, .int v3_23), (4, .int v4_23)] → Hw shR P M_23 s H locs → lq3 (L_X11_laws_23 p1) n_23 v3_23 v4_23 M_23 = some (r, M') → W p l e { frames := 6, cells := 0, slots := 0, locals := 142 } s m args below meth c H locs 0 0 (MQ below (CQ shR P E (some (.int r)) M') args s 0 0 (wA shR P)) (F0 m 23 ls []) := by
    intro n_23
    induction n_23 with
    | zero => intro v3_23 v4_23 M_23 ls H locs hl hw h; cases h
    | succ n_23 ih_23 =>
      intro v3_23 v4_23 M_23 ls H locs hl hw h
      replace h := lq3_succ h
      refine lv_iload hx hb dX11_laws_23 (lv_at hl 3 rfl) ?_
      refine lv_iconst (v := 4) hx hb dX11_laws_25 (by decide) ?_
      refine lv_icmp_ge (tgt := 61) hx hb dX11_laws_26 (by decide) (fun c5 => ?_) (fun c5 => ?_)
      · replace h := (if_pos c5).symm.trans h
        refine lv_iload_n hx hb dX11_laws_61 rfl (lv_at hl 2 rfl) ?_
        exact wretI_W C hw h dX11_laws_62
      · replace h := (if_neg c5).symm.trans h
        refine lv_aload_n hx hb dX11_laws_29 rfl (lv_at hl 0 rfl) ?_
        refine lv_iload hx hb dX11_laws_30 (lv_at hl 3 rfl) ?_
        obtain ⟨r6, M8, e7, h⟩ := bnd2_some h
        refine wcallV1 (As := [.int v4_23]) (rest := []) C hw (c_X11_byLaw hW  e7) vlX11_391 ⟨Nat.le_of_ble_eq_true rfl, Nat.le_of_ble_eq_true rfl⟩ (rfl : _ = some (0, 11)) rfl rfl rfl hl.1 (Nat.le_of_ble_eq_true rfl) dX11_laws_32 ⟨Nat.zero_le _, Nat.zero_le _⟩ (fun H locs hw => ?_)
        refine lv_pop hx hb dX11_laws_35 rfl ?_
        refine lv_iload_n hx hb dX11_laws_36 rfl (lv_at hl 2 rfl) ?_
        refine lv_aload_n hx hb dX11_laws_37 rfl (lv_at hl 0 rfl) ?_
        refine lv_iload_n hx hb dX11_laws_38 rfl (lv_at hl 1 rfl) ?_
        obtain ⟨r9, e10, h⟩ := bnd_some h
        refine wcallV1 (As := [.int p1]) (rest := [.int v3_23]) C hw (c_X11_isSo hW  e10) vlX11_381 ⟨Nat.le_of_ble_eq_true rfl, Nat.le_of_ble_eq_true rfl⟩ (rfl : _ = some (0, 11)) rfl rfl rfl hl.1 (Nat.le_of_ble_eq_true rfl) dX11_laws_39 ⟨Nat.zero_le _, Nat.zero_le _⟩ (fun H locs hw => ?_)
        refine lv_if_eq (tgt := 52) hx hb dX11_laws_42 (by decide) (fun c11 => ?_) (fun c11 => ?_)
        · replace h := (if_pos c11).symm.trans h
          refine lv_iconst (v := 0) hx hb dX11_laws_52 (by decide) ?_
          refine lv_ior hx hb dX11_laws_53 ?_
          refine lv_topi (fun x12 ex12 => ?_)
          replace h := letv_at ex12 h
          refine lv_istore_n (lv' := [(3, .int x12), (0, .ref (P.2.2.1 0)), (1, .int p1), (4, .int v4_23)]) hx hb dX11_laws_54 rfl hl (by decide) rfl (fun ls hl => ?_)
          refine lv_iinc (v := (v4_23 + 1)) (lv' := [(4, .int (v4_23 + 1)), (3, .int x12), (0, .ref (P.2.2.1 0)), (1, .int p1)]) (k := 3) hx hb dX11_laws_55 hl rfl (congrArg (fun z => v4_23 + z) (by decide)) (by decide) rfl (fun ls hl => ?_)
          refine lv_goto (tgt := 23) hx hb dX11_laws_58 (by decide) ?_
          exact ih_23 x12 (v4_23 + 1) M8 ls _ _ (lv_sub hl [2, 3, 1, 0] rfl) hw h
        · replace h := (if_neg c11).symm.trans h
          refine lv_iconst (v := 1) hx hb dX11_laws_45 (by decide) ?_
          refine lv_iload hx hb dX11_laws_46 (lv_at hl 3 rfl) ?_
          refine lv_ishl hx hb dX11_laws_48 ?_
          refine lv_goto (tgt := 53) hx hb dX11_laws_49 (by decide) ?_
          refine lv_ior hx hb dX11_laws_53 ?_
          refine lv_topi (fun x13 ex13 => ?_)
          replace h := letv_at ex13 h
          refine lv_istore_n (lv' := [(3, .int x13), (0, .ref (P.2.2.1 0)), (1, .int p1), (4, .int v4_23)]) hx hb dX11_laws_54 rfl hl (by decide) rfl (fun ls hl => ?_)
          refine lv_iinc (v := (v4_23 + 1)) (lv' := [(4, .int (v4_23 + 1)), (3, .int x13), (0, .ref (P.2.2.1 0)), (1, .int p1)]) (k := 3) hx hb dX11_laws_55 hl rfl (congrArg (fun z => v4_23 + z) (by decide)) (by decide) rfl (fun ls hl => ?_)
          refine lv_goto (tgt := 23) hx hb dX11_laws_58 (by decide) ?_
          exact ih_23 x13 (v4_23 + 1) M8 ls _ _ (lv_sub hl [2, 3, 1, 0] rfl) hw h
  refine lv_aload_n hx hb dX11_laws_0 rfl (lv_at hl 0 rfl) ?_
  refine lv_iconst (v := 0) hx hb dX11_laws_1 (by decide) ?_
  refine wputI C hw fpX11_77 (rfl : _ = some (0, 11)) dX11_laws_2 (fun M1 eM1 H locs hw => ?_)
  replace h := letv_at eM1 h
  refine lv_aload_n hx hb dX11_laws_5 rfl (lv_at hl 0 rfl) ?_
  refine lv_iload_n hx hb dX11_laws_6 rfl (lv_at hl 1 rfl) ?_
  refine lv_iconst (v := 1) hx hb dX11_laws_7 (by decide) ?_
  obtain ⟨r2, e3, h⟩ := bnd_some h
  refine wcallV1 (As := [.int p1, .int 1]) (rest := []) C hw (c_X11_whyNot hW  e3) vlX11_384 ⟨Nat.le_of_ble_eq_true rfl, Nat.le_of_ble_eq_true rfl⟩ (rfl : _ = some (0, 11)) rfl rfl rfl hl.1 (Nat.le_of_ble_eq_true rfl) dX11_laws_8 ⟨Nat.zero_le _, Nat.zero_le _⟩ (fun H locs hw => ?_)
  refine lv_istore_n (lv' := [(2, .int r2), (0, .ref (P.2.2.1 0)), (1, .int p1)]) hx hb dX11_laws_11 rfl hl (by decide) rfl (fun ls hl => ?_)
  refine lv_iload_n hx hb dX11_laws_12 rfl (lv_at hl 0 rfl) ?_
  refine lv_if_eq (tgt := 18) hx hb dX11_laws_13 (by decide) (fun c4 => ?_) (fun c4 => ?_)
  · replace h := (if_pos c4).symm.trans h
    refine lv_iconst (v := 0) hx hb dX11_laws_18 (by decide) ?_
    refine lv_istore_n (lv' := [(3, .int 0), (2, .int r2), (0, .ref (P.2.2.1 0)), (1, .int p1)]) hx hb dX11_laws_19 rfl hl (by decide) rfl (fun ls hl => ?_)
    refine lv_iconst (v := 0) hx hb dX11_laws_20 (by decide) ?_
    refine lv_istore (lv' := [(4, .int 0), (3, .int 0), (2, .int r2), (0, .ref (P.2.2.1 0)), (1, .int p1)]) hx hb dX11_laws_21 hl (by decide) rfl (fun ls hl => ?_)
    exact cut_23 FU 0 0 M1 ls _ _ (lv_sub hl [3, 4, 1, 0] rfl) hw h
  · replace h := (if_neg c4).symm.trans h
    refine lv_iload_n hx hb dX11_laws_16 rfl (lv_at hl 0 rfl) ?_
    exact wretI_W C hw h dX11_laws_17
set_option maxRecDepth 100000 in
set_option maxHeartbeats 4000000 in
theorem c_X11_by {l : Launch} {P : Wp} {E : State → Heap → Prop} (hW : Wok shR P E) {p1 : Int32} {M : Mem} {r : Int32} {M' : Mem} (h : f_X11_by p1 M = some (r, M')) : CT l shR P E yX11_by bX11_by 2 ((some .int)) 6 142 [.ref (P.2.2.1 0), .int p1] (some (.int r)) M M' := by
  refine ct_of hW (by decide) (Nat.le_of_ble_eq_true rfl) (fun p e s m args below meth c C ls hl hw => ?_)
  have hx := C.1
  have hb := C.2.1
  replace hl : lv_has ls 2 [(0, .ref (P.2.2.1 0)), (1, .int p1)] := hl
  refine lv_aload_n hx hb dX11_by_0 rfl (lv_at hl 0 rfl) ?_
  refine lv_iconst (v := 0) hx hb dX11_by_1 (by decide) ?_
  refine wputI C hw fpX11_77 (rfl : _ = some (0, 11)) dX11_by_2 (fun M1 eM1 H locs hw => ?_)
  replace h := letv_at eM1 h
  refine lv_aload_n hx hb dX11_by_5 rfl (lv_at hl 0 rfl) ?_
  obtain ⟨r2, e3, h⟩ := bnd_some h
  refine wcallV1 (As := []) (rest := []) C hw (c_X11_isLehr hW  e3) vlX11_231 ⟨Nat.le_of_ble_eq_true rfl, Nat.le_of_ble_eq_true rfl⟩ (rfl : _ = some (0, 11)) rfl rfl rfl hl.1 (Nat.le_of_ble_eq_true rfl) dX11_by_6 ⟨Nat.zero_le _, Nat.zero_le _⟩ (fun H locs hw => ?_)
  refine lv_if_eq (tgt := 32) hx hb dX11_by_9 (by decide) (fun c4 => ?_) (fun c4 => ?_)
  · replace h := (if_pos c4).symm.trans h
    refine lv_bipush (v := (-2)) hx hb dX11_by_32 (by decide) ?_
    exact wretI_W C hw h dX11_by_34
  · replace h := (if_neg c4).symm.trans h
    refine lv_iload_n hx hb dX11_by_12 rfl (lv_at hl 1 rfl) ?_
    refine lv_i2l hx hb dX11_by_13 rfl ?_
    refine lv_lconst (v := 0) hx hb dX11_by_14 (by decide) ?_
    refine lv_ldc2 hx hb C.2.2.2.1 (C.2.2.2.2.1 _ (List.mem_cons_of_mem _ (gm kcX11_80 rfl))) dX11_by_15 ?_
    refine wcallS1 (As := [.long ((p1 : Int32).toInt64), .long 0, .long 3]) (rest := []) C hw (c_X11_in hW  rfl) slX11_82 ⟨Nat.le_of_ble_eq_true rfl, Nat.le_of_ble_eq_true rfl⟩ rfl rfl hl.1 (Nat.le_of_ble_eq_true rfl) dX11_by_18 ⟨Nat.zero_le _, Nat.zero_le _⟩ (fun H locs hw => ?_)
    refine lv_if_eq (tgt := 32) hx hb dX11_by_21 (by decide) (fun c5 => ?_) (fun c5 => ?_)
    · replace h := (if_pos c5).symm.trans h
      refine lv_bipush (v := (-2)) hx hb dX11_by_32 (by decide) ?_
      exact wretI_W C hw h dX11_by_34
    · replace h := (if_neg c5).symm.trans h
      refine lv_aload_n hx hb dX11_by_24 rfl (lv_at hl 0 rfl) ?_
      refine lv_iload_n hx hb dX11_by_25 rfl (lv_at hl 1 rfl) ?_
      obtain ⟨r6, M8, e7, h⟩ := bnd2_some h
      refine wcallV1 (As := [.int p1]) (rest := []) C hw (c_X11_byLaw hW  e7) vlX11_391 ⟨Nat.le_of_ble_eq_true rfl, Nat.le_of_ble_eq_true rfl⟩ (rfl : _ = some (0, 11)) rfl rfl rfl hl.1 (Nat.le_of_ble_eq_true rfl) dX11_by_26 ⟨Nat.zero_le _, Nat.zero_le _⟩ (fun H locs hw => ?_)
      refine lv_goto (tgt := 34) hx hb dX11_by_29 (by decide) ?_
      exact wretI_W C hw h dX11_by_34
set_option maxRecDepth 100000 in
set_option maxHeartbeats 4000000 in
theorem c_X11_law {l : Launch} {P : Wp} {E : State → Heap → Prop} (hW : Wok shR P E) {M : Mem} {r : Int32} {M' : Mem} (h : f_X11_law M = some (r, M')) : CT l shR P E yX11_law bX11_law 3 ((some .int)) 6 142 [.ref (P.2.2.1 0)] (some (.int r)) M M' := by
  refine ct_of hW (by decide) (Nat.le_of_ble_eq_true rfl) (fun p e s m args below meth c C ls hl hw => ?_)
  have hx := C.1
  have hb := C.2.1
  replace hl : lv_has ls 3 [(0, .ref (P.2.2.1 0))] := hl
  have cut_19 : ∀ (n_19 : Nat) (v1_19 : Int32) (v2_19 : Int32) (M_19 : Mem) (ls : Array Slot) (H : Heap) (locs : List Loc), lv_has ls 3 [(0, .ref (P.2.2.1 0)), (1, .int v1_19), (2, .int v2_19)] → Hw shR P M_19 s H locs → lq3 (L_X11_law_19) n_19 v1_19 v2_19 M_19 = some (r, M') → W p l e { frames := 6, cells := 0, slots := 0, locals := 142 } s m args below meth c H locs 0 0 (MQ below (CQ shR P E (some (.int r)) M') args s 0 0 (wA shR P)) (F0 m 19 ls []) := by
    intro n_19
    induction n_19 with
    | zero => intro v1_19 v2_19 M_19 ls H locs hl hw h; cases h
    | succ n_19 ih_19 =>
      intro v1_19 v2_19 M_19 ls H locs hl hw h
      replace h := lq3_succ h
      refine lv_iload_n hx hb dX11_law_19 rfl (lv_at hl 2 rfl) ?_
      refine lv_iconst (v := 4) hx hb dX11_law_20 (by decide) ?_
      refine lv_icmp_ge (tgt := 51) hx hb dX11_law_21 (by decide) (fun c5 => ?_) (fun c5 => ?_)
      · replace h := (if_pos c5).symm.trans h
        refine lv_iload_n hx hb dX11_law_51 rfl (lv_at hl 1 rfl) ?_
        exact wretI_W C hw h dX11_law_52
      · replace h := (if_neg c5).symm.trans h
        refine lv_aload_n hx hb dX11_law_24 rfl (lv_at hl 0 rfl) ?_
        refine lv_iload_n hx hb dX11_law_25 rfl (lv_at hl 2 rfl) ?_
        obtain ⟨r6, M8, e7, h⟩ := bnd2_some h
        refine wcallV1 (As := [.int v2_19]) (rest := []) C hw (c_X11_byLaw hW  e7) vlX11_391 ⟨Nat.le_of_ble_eq_true rfl, Nat.le_of_ble_eq_true rfl⟩ (rfl : _ = some (0, 11)) rfl rfl rfl hl.1 (Nat.le_of_ble_eq_true rfl) dX11_law_26 ⟨Nat.zero_le _, Nat.zero_le _⟩ (fun H locs hw => ?_)
        obtain ⟨r9, e10, h⟩ := bnd_some h
        refine wcallS1 (As := [.int r6]) (rest := []) C hw (c_X11_sizeOf hW  e10) slX11_335 ⟨Nat.le_of_ble_eq_true rfl, Nat.le_of_ble_eq_true rfl⟩ rfl rfl hl.1 (Nat.le_of_ble_eq_true rfl) dX11_law_29 ⟨Nat.zero_le _, Nat.zero_le _⟩ (fun H locs hw => ?_)
        refine lv_aload_n hx hb dX11_law_32 rfl (lv_at hl 0 rfl) ?_
        refine lv_iload_n hx hb dX11_law_33 rfl (lv_at hl 1 rfl) ?_
        obtain ⟨r11, M13, e12, h⟩ := bnd2_some h
        refine wcallV1 (As := [.int v1_19]) (rest := [.int r9]) C hw (c_X11_byLaw hW  e12) vlX11_391 ⟨Nat.le_of_ble_eq_true rfl, Nat.le_of_ble_eq_true rfl⟩ (rfl : _ = some (0, 11)) rfl rfl rfl hl.1 (Nat.le_of_ble_eq_true rfl) dX11_law_34 ⟨Nat.zero_le _, Nat.zero_le _⟩ (fun H locs hw => ?_)
        obtain ⟨r14, e15, h⟩ := bnd_some h
        refine wcallS1 (As := [.int r11]) (rest := [.int r9]) C hw (c_X11_sizeOf hW  e15) slX11_335 ⟨Nat.le_of_ble_eq_true rfl, Nat.le_of_ble_eq_true rfl⟩ rfl rfl hl.1 (Nat.le_of_ble_eq_true rfl) dX11_law_37 ⟨Nat.zero_le _, Nat.zero_le _⟩ (fun H locs hw => ?_)
        refine lv_icmp_le (tgt := 45) hx hb dX11_law_40 (by decide) (fun c16 => ?_) (fun c16 => ?_)
        · replace h := (if_pos c16).symm.trans h
          refine lv_iinc (v := (v2_19 + 1)) (lv' := [(2, .int (v2_19 + 1)), (0, .ref (P.2.2.1 0)), (1, .int v1_19)]) (k := 2) hx hb dX11_law_45 hl rfl (congrArg (fun z => v2_19 + z) (by decide)) (by decide) rfl (fun ls hl => ?_)
          refine lv_goto (tgt := 19) hx hb dX11_law_48 (by decide) ?_
          exact ih_19 v1_19 (v2_19 + 1) M13 ls _ _ (lv_sub hl [1, 2, 0] rfl) hw h
        · replace h := (if_neg c16).symm.trans h
          refine lv_iload_n hx hb dX11_law_43 rfl (lv_at hl 2 rfl) ?_
          refine lv_istore_n (lv' := [(1, .int v2_19), (0, .ref (P.2.2.1 0)), (2, .int v2_19)]) hx hb dX11_law_44 rfl hl (by decide) rfl (fun ls hl => ?_)
          refine lv_iinc (v := (v2_19 + 1)) (lv' := [(2, .int (v2_19 + 1)), (1, .int v2_19), (0, .ref (P.2.2.1 0))]) (k := 2) hx hb dX11_law_45 hl rfl (congrArg (fun z => v2_19 + z) (by decide)) (by decide) rfl (fun ls hl => ?_)
          refine lv_goto (tgt := 19) hx hb dX11_law_48 (by decide) ?_
          exact ih_19 v2_19 (v2_19 + 1) M13 ls _ _ (lv_sub hl [2, 1, 0] rfl) hw h
  refine lv_aload_n hx hb dX11_law_0 rfl (lv_at hl 0 rfl) ?_
  refine lv_iconst (v := 0) hx hb dX11_law_1 (by decide) ?_
  refine wputI C hw fpX11_77 (rfl : _ = some (0, 11)) dX11_law_2 (fun M1 eM1 H locs hw => ?_)
  replace h := letv_at eM1 h
  refine lv_aload_n hx hb dX11_law_5 rfl (lv_at hl 0 rfl) ?_
  obtain ⟨r2, e3, h⟩ := bnd_some h
  refine wcallV1 (As := []) (rest := []) C hw (c_X11_isLehr hW  e3) vlX11_231 ⟨Nat.le_of_ble_eq_true rfl, Nat.le_of_ble_eq_true rfl⟩ (rfl : _ = some (0, 11)) rfl rfl rfl hl.1 (Nat.le_of_ble_eq_true rfl) dX11_law_6 ⟨Nat.zero_le _, Nat.zero_le _⟩ (fun H locs hw => ?_)
  refine lv_if_ne (tgt := 15) hx hb dX11_law_9 (by decide) (fun c4 => ?_) (fun c4 => ?_)
  · replace h := (if_neg c4).symm.trans h
    refine lv_iconst (v := 0) hx hb dX11_law_15 (by decide) ?_
    refine lv_istore_n (lv' := [(1, .int 0), (0, .ref (P.2.2.1 0))]) hx hb dX11_law_16 rfl hl (by decide) rfl (fun ls hl => ?_)
    refine lv_iconst (v := 1) hx hb dX11_law_17 (by decide) ?_
    refine lv_istore_n (lv' := [(2, .int 1), (1, .int 0), (0, .ref (P.2.2.1 0))]) hx hb dX11_law_18 rfl hl (by decide) rfl (fun ls hl => ?_)
    exact cut_19 FU 0 1 M1 ls _ _ (lv_sub hl [2, 1, 0] rfl) hw h
  · replace h := (if_pos c4).symm.trans h
    refine lv_bipush (v := (-2)) hx hb dX11_law_12 (by decide) ?_
    exact wretI_W C hw h dX11_law_14
set_option maxRecDepth 100000 in
set_option maxHeartbeats 4000000 in
theorem c_X11_worthOf {l : Launch} {P : Wp} {E : State → Heap → Prop} (hW : Wok shR P E) {p1 : Int32} {M : Mem} {r : Int32} {M' : Mem} (h : f_X11_worthOf p1 M = some (r, M')) : CT l shR P E yX11_worthOf bX11_worthOf 3 ((some .int)) 5 121 [.ref (P.2.2.1 0), .int p1] (some (.int r)) M M' := by
  refine ct_of hW (by decide) (Nat.le_of_ble_eq_true rfl) (fun p e s m args below meth c C ls hl hw => ?_)
  have hx := C.1
  have hb := C.2.1
  replace hl : lv_has ls 3 [(0, .ref (P.2.2.1 0)), (1, .int p1)] := hl
  have cut_6 : ∀ (n_6 : Nat) (v2_6 : Int32) (M_6 : Mem) (ls : Array Slot) (H : Heap) (locs : List Loc), lv_has ls 3 [(0, .ref (P.2.2.1 0)), (1, .int p1), (2, .int v2_6)] → Hw shR P M_6 s H locs → lq2 (L_X11_worthOf_6 p1) n_6 v2_6 M_6 = some (r, M') → W p l e { frames := 5, cells := 0, slots := 0, locals := 121 } s m args below meth c H locs 0 0 (MQ below (CQ shR P E (some (.int r)) M') args s 0 0 (wA shR P)) (F0 m 6 ls []) := by
    intro n_6
    induction n_6 with
    | zero => intro v2_6 M_6 ls H locs hl hw h; cases h
    | succ n_6 ih_6 =>
      intro v2_6 M_6 ls H locs hl hw h
      replace h := lq2_succ h
      refine lv_iload_n hx hb dX11_worthOf_6 rfl (lv_at hl 2 rfl) ?_
      refine lv_aload_n hx hb dX11_worthOf_7 rfl (lv_at hl 0 rfl) ?_
      refine wgetI C hw flX11_252 (rfl : _ = some (0, 11)) dX11_worthOf_8 ?_
      refine lv_icmp_ge (tgt := 44) hx hb dX11_worthOf_11 (by decide) (fun c4 => ?_) (fun c4 => ?_)
      · replace h := (if_pos c4).symm.trans h
        refine lv_aload_n hx hb dX11_worthOf_44 rfl (lv_at hl 0 rfl) ?_
        obtain ⟨M7, e6, h⟩ := bnd_some h
        refine wcallV0 (As := []) (rest := []) C hw (c_X11_runs hW  e6) vlX11_299 ⟨Nat.le_of_ble_eq_true rfl, Nat.le_of_ble_eq_true rfl⟩ (rfl : _ = some (0, 11)) rfl rfl rfl hl.1 (Nat.le_of_ble_eq_true rfl) dX11_worthOf_45 ⟨Nat.zero_le _, Nat.zero_le _⟩ (fun H locs hw => ?_)
        refine lv_aload_n hx hb dX11_worthOf_48 rfl (lv_at hl 0 rfl) ?_
        obtain ⟨r8, e9, h⟩ := bnd_some h
        refine wcallV1 (As := []) (rest := []) C hw (c_X11_soundNow hW  e9) vlX11_323 ⟨Nat.le_of_ble_eq_true rfl, Nat.le_of_ble_eq_true rfl⟩ (rfl : _ = some (0, 11)) rfl rfl rfl hl.1 (Nat.le_of_ble_eq_true rfl) dX11_worthOf_49 ⟨Nat.zero_le _, Nat.zero_le _⟩ (fun H locs hw => ?_)
        obtain ⟨r10, e11, h⟩ := bnd_some h
        refine wcallS1 (As := [.int r8]) (rest := []) C hw (c_X11_sizeOf hW  e11) slX11_335 ⟨Nat.le_of_ble_eq_true rfl, Nat.le_of_ble_eq_true rfl⟩ rfl rfl hl.1 (Nat.le_of_ble_eq_true rfl) dX11_worthOf_52 ⟨Nat.zero_le _, Nat.zero_le _⟩ (fun H locs hw => ?_)
        exact wretI_W C hw h dX11_worthOf_55
      · replace h := (if_neg c4).symm.trans h
        refine lv_aload_n hx hb dX11_worthOf_14 rfl (lv_at hl 0 rfl) ?_
        refine wgetR (t := 12) C hw flX11_50 (rfl : _ = some (0, 11)) rfl dX11_worthOf_15 ?_
        refine lv_iload_n hx hb dX11_worthOf_18 rfl (lv_at hl 2 rfl) ?_
        refine lv_iload_n hx hb dX11_worthOf_19 rfl (lv_at hl 1 rfl) ?_
        refine lv_iload_n hx hb dX11_worthOf_20 rfl (lv_at hl 2 rfl) ?_
        refine wcallS1 (As := [.int p1, .int v2_6]) (rest := [.int v2_6, .ref (P.2.2.1 12)]) C hw (c_X11_isBit hW  rfl) slX11_258 ⟨Nat.le_of_ble_eq_true rfl, Nat.le_of_ble_eq_true rfl⟩ rfl rfl hl.1 (Nat.le_of_ble_eq_true rfl) dX11_worthOf_21 ⟨Nat.zero_le _, Nat.zero_le _⟩ (fun H locs hw => ?_)
        refine lv_if_eq (tgt := 36) hx hb dX11_worthOf_24 (by decide) (fun c12 => ?_) (fun c12 => ?_)
        · replace h := (if_pos c12).symm.trans h
          refine lv_iconst (v := 0) hx hb dX11_worthOf_36 (by decide) ?_
          obtain ⟨g14, h⟩ := grd h
          refine wast C hw (rfl : _ = some (1, 7)) g14 dX11_worthOf_37 (fun M13 eM13 H locs hw => ?_)
          replace h := letv_at eM13 h
          refine lv_iinc (v := (v2_6 + 1)) (lv' := [(2, .int (v2_6 + 1)), (0, .ref (P.2.2.1 0)), (1, .int p1)]) (k := 2) hx hb dX11_worthOf_38 hl rfl (congrArg (fun z => v2_6 + z) (by decide)) (by decide) rfl (fun ls hl => ?_)
          refine lv_goto (tgt := 6) hx hb dX11_worthOf_41 (by decide) ?_
          exact ih_6 (v2_6 + 1) M13 ls _ _ (lv_sub hl [1, 2, 0] rfl) hw h
        · replace h := (if_neg c12).symm.trans h
          refine lv_aload_n hx hb dX11_worthOf_27 rfl (lv_at hl 0 rfl) ?_
          refine wgetR (t := 12) C hw flX11_50 (rfl : _ = some (0, 11)) rfl dX11_worthOf_28 ?_
          refine lv_iload_n hx hb dX11_worthOf_31 rfl (lv_at hl 2 rfl) ?_
          obtain ⟨g15, h⟩ := grd h
          refine wald C hw (rfl : _ = some (1, 7)) g15 dX11_worthOf_32 ?_
          refine lv_goto (tgt := 37) hx hb dX11_worthOf_33 (by decide) ?_
          obtain ⟨g17, h⟩ := grd h
          refine wast C hw (rfl : _ = some (1, 7)) g17 dX11_worthOf_37 (fun M16 eM16 H locs hw => ?_)
          replace h := letv_at eM16 h
          refine lv_iinc (v := (v2_6 + 1)) (lv' := [(2, .int (v2_6 + 1)), (0, .ref (P.2.2.1 0)), (1, .int p1)]) (k := 2) hx hb dX11_worthOf_38 hl rfl (congrArg (fun z => v2_6 + z) (by decide)) (by decide) rfl (fun ls hl => ?_)
          refine lv_goto (tgt := 6) hx hb dX11_worthOf_41 (by decide) ?_
          exact ih_6 (v2_6 + 1) M16 ls _ _ (lv_sub hl [1, 2, 0] rfl) hw h
  refine lv_aload_n hx hb dX11_worthOf_0 rfl (lv_at hl 0 rfl) ?_
  obtain ⟨M3, e2, h⟩ := bnd_some h
  refine wcallV0 (As := []) (rest := []) C hw (c_X11_lays hW  e2) vlX11_296 ⟨Nat.le_of_ble_eq_true rfl, Nat.le_of_ble_eq_true rfl⟩ (rfl : _ = some (0, 11)) rfl rfl rfl hl.1 (Nat.le_of_ble_eq_true rfl) dX11_worthOf_1 ⟨Nat.zero_le _, Nat.zero_le _⟩ (fun H locs hw => ?_)
  refine lv_iconst (v := 0) hx hb dX11_worthOf_4 (by decide) ?_
  refine lv_istore_n (lv' := [(2, .int 0), (0, .ref (P.2.2.1 0)), (1, .int p1)]) hx hb dX11_worthOf_5 rfl hl (by decide) rfl (fun ls hl => ?_)
  exact cut_6 FU 0 M3 ls _ _ (lv_sub hl [1, 2, 0] rfl) hw h
set_option maxRecDepth 100000 in
set_option maxHeartbeats 4000000 in
theorem c_X11_worth {l : Launch} {P : Wp} {E : State → Heap → Prop} (hW : Wok shR P E) {p1 : Int32} {M : Mem} {r : Int32} {M' : Mem} (h : f_X11_worth p1 M = some (r, M')) : CT l shR P E yX11_worth bX11_worth 2 ((some .int)) 6 143 [.ref (P.2.2.1 0), .int p1] (some (.int r)) M M' := by
  refine ct_of hW (by decide) (Nat.le_of_ble_eq_true rfl) (fun p e s m args below meth c C ls hl hw => ?_)
  have hx := C.1
  have hb := C.2.1
  replace hl : lv_has ls 2 [(0, .ref (P.2.2.1 0)), (1, .int p1)] := hl
  refine lv_aload_n hx hb dX11_worth_0 rfl (lv_at hl 0 rfl) ?_
  refine lv_iconst (v := 0) hx hb dX11_worth_1 (by decide) ?_
  refine wputI C hw fpX11_77 (rfl : _ = some (0, 11)) dX11_worth_2 (fun M1 eM1 H locs hw => ?_)
  replace h := letv_at eM1 h
  refine lv_aload_n hx hb dX11_worth_5 rfl (lv_at hl 0 rfl) ?_
  obtain ⟨r2, e3, h⟩ := bnd_some h
  refine wcallV1 (As := []) (rest := []) C hw (c_X11_isLehr hW  e3) vlX11_231 ⟨Nat.le_of_ble_eq_true rfl, Nat.le_of_ble_eq_true rfl⟩ (rfl : _ = some (0, 11)) rfl rfl rfl hl.1 (Nat.le_of_ble_eq_true rfl) dX11_worth_6 ⟨Nat.zero_le _, Nat.zero_le _⟩ (fun H locs hw => ?_)
  refine lv_if_eq (tgt := 40) hx hb dX11_worth_9 (by decide) (fun c4 => ?_) (fun c4 => ?_)
  · replace h := (if_pos c4).symm.trans h
    refine lv_bipush (v := (-2)) hx hb dX11_worth_40 (by decide) ?_
    exact wretI_W C hw h dX11_worth_42
  · replace h := (if_neg c4).symm.trans h
    refine lv_iload_n hx hb dX11_worth_12 rfl (lv_at hl 1 rfl) ?_
    refine lv_i2l hx hb dX11_worth_13 rfl ?_
    refine lv_lconst (v := 0) hx hb dX11_worth_14 (by decide) ?_
    refine lv_iconst (v := 1) hx hb dX11_worth_15 (by decide) ?_
    refine lv_aload_n hx hb dX11_worth_16 rfl (lv_at hl 0 rfl) ?_
    refine wgetR (t := 7) C hw flX11_34 (rfl : _ = some (0, 11)) rfl dX11_worth_17 ?_
    refine lv_iconst (v := 5) hx hb dX11_worth_20 (by decide) ?_
    obtain ⟨g5, h⟩ := grd h
    refine wald C hw (rfl : _ = some (1, 40)) g5 dX11_worth_21 ?_
    refine lv_ishl hx hb dX11_worth_22 ?_
    refine lv_i2l hx hb dX11_worth_23 rfl ?_
    refine lv_lconst (v := 1) hx hb dX11_worth_24 (by decide) ?_
    refine lv_lsub hx hb dX11_worth_25 ?_
    refine wcallS1 (As := [.long ((p1 : Int32).toInt64), .long 0, .long (((((1 : Int32) <<< ((M1.1 7 (ix 5)) &&& 31)) : Int32).toInt64) - (1 : Int64))]) (rest := []) C hw (c_X11_in hW  rfl) slX11_82 ⟨Nat.le_of_ble_eq_true rfl, Nat.le_of_ble_eq_true rfl⟩ rfl rfl hl.1 (Nat.le_of_ble_eq_true rfl) dX11_worth_26 ⟨Nat.zero_le _, Nat.zero_le _⟩ (fun H locs hw => ?_)
    refine lv_if_eq (tgt := 40) hx hb dX11_worth_29 (by decide) (fun c6 => ?_) (fun c6 => ?_)
    · replace h := (if_pos c6).symm.trans h
      refine lv_bipush (v := (-2)) hx hb dX11_worth_40 (by decide) ?_
      exact wretI_W C hw h dX11_worth_42
    · replace h := (if_neg c6).symm.trans h
      refine lv_aload_n hx hb dX11_worth_32 rfl (lv_at hl 0 rfl) ?_
      refine lv_iload_n hx hb dX11_worth_33 rfl (lv_at hl 1 rfl) ?_
      obtain ⟨r7, M9, e8, h⟩ := bnd2_some h
      refine wcallV1 (As := [.int p1]) (rest := []) C hw (c_X11_worthOf hW  e8) vlX11_394 ⟨Nat.le_of_ble_eq_true rfl, Nat.le_of_ble_eq_true rfl⟩ (rfl : _ = some (0, 11)) rfl rfl rfl hl.1 (Nat.le_of_ble_eq_true rfl) dX11_worth_34 ⟨Nat.zero_le _, Nat.zero_le _⟩ (fun H locs hw => ?_)
      refine lv_goto (tgt := 42) hx hb dX11_worth_37 (by decide) ?_
      exact wretI_W C hw h dX11_worth_42
set_option maxRecDepth 100000 in
set_option maxHeartbeats 4000000 in
theorem cr_X11_times {l : Launch} {P : Wp} {E : State → Heap → Prop} (hW : Wok shR P E) {M : Mem} : ∀ (n : Nat) {p0 : Int32} {r : Int32} (h : fr_X11_times n p0 = some r), CT l shR P E yX11_times bX11_times 1 ((some .int)) n (40 * n) [.int p0] (some (.int r)) M M := by
  intro n
  induction n with
  | zero => intro p0 r h; cases h
  | succ n ih =>
    intro p0 r h
    refine ct_of hW (by decide) (Nat.le_of_ble_eq_true rfl) (fun p e s m args below meth c C ls hl hw => ?_)
    have hx := C.1
    have hb := C.2.1
    replace hl : lv_has ls 1 [(0, .int p0)] := hl
    refine lv_iload_n hx hb dX11_times_0 rfl (lv_at hl 0 rfl) ?_
    refine lv_iconst (v := 2) hx hb dX11_times_1 (by decide) ?_
    refine lv_icmp_ge (tgt := 9) hx hb dX11_times_2 (by decide) (fun c1 => ?_) (fun c1 => ?_)
    · replace h := (if_pos c1).symm.trans h
      refine lv_iload_n hx hb dX11_times_9 rfl (lv_at hl 0 rfl) ?_
      refine lv_iload_n hx hb dX11_times_10 rfl (lv_at hl 0 rfl) ?_
      refine lv_iconst (v := 1) hx hb dX11_times_11 (by decide) ?_
      refine lv_isub hx hb dX11_times_12 ?_
      obtain ⟨r2, e3, h⟩ := bnd_some h
      refine wcallS1 (As := [.int (p0 - (1 : Int32))]) (rest := [.int p0]) C hw (ih e3) slX11_397 ⟨Nat.le_refl _, by show 8 + (1 + 11) + 40 * n ≤ 40 * (n + 1); omega⟩ rfl rfl hl.1 (Nat.le_of_ble_eq_true rfl) dX11_times_13 ⟨Nat.zero_le _, Nat.zero_le _⟩ (fun H locs hw => ?_)
      refine lv_imul hx hb dX11_times_16 ?_
      exact wretI_R C hw h dX11_times_17
    · replace h := (if_neg c1).symm.trans h
      refine lv_iconst (v := 1) hx hb dX11_times_5 (by decide) ?_
      refine lv_goto (tgt := 17) hx hb dX11_times_6 (by decide) ?_
      exact wretI_R C hw h dX11_times_17
theorem c_X11_times {l : Launch} {P : Wp} {E : State → Heap → Prop} (hW : Wok shR P E) {p0 : Int32} {M : Mem} {r : Int32} (h : f_X11_times p0 = some r) : CT l shR P E yX11_times bX11_times 1 ((some .int)) 20 800 [.int p0] (some (.int r)) M M := cr_X11_times hW 20 h
set_option maxRecDepth 100000 in
set_option maxHeartbeats 4000000 in
theorem cr_X11_common {l : Launch} {P : Wp} {E : State → Heap → Prop} (hW : Wok shR P E) {M : Mem} : ∀ (n : Nat) {p0 : Int64} {p2 : Int64} {r : Int64} (h : fr_X11_common n p0 p2 = some r), CT l shR P E yX11_common bX11_common 4 ((some .long)) n (40 * n) [.long p0, .long p2] (some (.long r)) M M := by
  intro n
  induction n with
  | zero => intro p0 p2 r h; cases h
  | succ n ih =>
    intro p0 p2 r h
    refine ct_of hW (by decide) (Nat.le_of_ble_eq_true rfl) (fun p e s m args below meth c C ls hl hw => ?_)
    have hx := C.1
    have hb := C.2.1
    replace hl : lv_has ls 4 [(0, .long p0), (2, .long p2)] := hl
    refine lv_lload_n hx hb dX11_common_0 rfl (lv_at hl 1 rfl) ?_
    refine lv_lconst (v := 0) hx hb dX11_common_1 (by decide) ?_
    refine W.lcmp hx hb dX11_common_2 ?_
    refine lv_if_ne (tgt := 21) hx hb dX11_common_3 (by decide) (fun c1 => ?_) (fun c1 => ?_)
    · replace h := (if_neg c1).symm.trans h
      refine lv_lload_n hx hb dX11_common_21 rfl (lv_at hl 1 rfl) ?_
      refine lv_lload_n hx hb dX11_common_22 rfl (lv_at hl 0 rfl) ?_
      refine lv_lload_n hx hb dX11_common_23 rfl (lv_at hl 1 rfl) ?_
      obtain ⟨g2, h⟩ := grdL h
      refine lv_lrem hx hb dX11_common_24 g2 ?_
      obtain ⟨r3, e4, h⟩ := bnd_some h
      refine wcallS1 (As := [.long p2, .long (p0 - p0 / p2 * p2)]) (rest := []) C hw (ih e4) slX11_400 ⟨Nat.le_refl _, by show 8 + (4 + 11) + 40 * n ≤ 40 * (n + 1); omega⟩ rfl rfl hl.1 (Nat.le_of_ble_eq_true rfl) dX11_common_25 ⟨Nat.zero_le _, Nat.zero_le _⟩ (fun H locs hw => ?_)
      exact wretJ_R C hw h dX11_common_28
    · replace h := (if_pos c1).symm.trans h
      refine lv_lload_n hx hb dX11_common_6 rfl (lv_at hl 0 rfl) ?_
      refine lv_lconst (v := 0) hx hb dX11_common_7 (by decide) ?_
      refine W.lcmp hx hb dX11_common_8 ?_
      refine lv_if_ge (tgt := 17) hx hb dX11_common_9 (by decide) (fun c5 => ?_) (fun c5 => ?_)
      · replace h := (if_pos c5).symm.trans h
        refine lv_lload_n hx hb dX11_common_17 rfl (lv_at hl 0 rfl) ?_
        refine lv_goto (tgt := 28) hx hb dX11_common_18 (by decide) ?_
        exact wretJ_R C hw h dX11_common_28
      · replace h := (if_neg c5).symm.trans h
        refine lv_lload_n hx hb dX11_common_12 rfl (lv_at hl 0 rfl) ?_
        refine lv_lneg hx hb dX11_common_13 ?_
        refine lv_goto (tgt := 28) hx hb dX11_common_14 (by decide) ?_
        exact wretJ_R C hw h dX11_common_28
theorem c_X11_common {l : Launch} {P : Wp} {E : State → Heap → Prop} (hW : Wok shR P E) {p0 : Int64} {p2 : Int64} {M : Mem} {r : Int64} (h : f_X11_common p0 p2 = some r) : CT l shR P E yX11_common bX11_common 4 ((some .long)) 100 4000 [.long p0, .long p2] (some (.long r)) M M := cr_X11_common hW 100 h
