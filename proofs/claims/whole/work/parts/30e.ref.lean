theorem kcX11_407 : Cond.constant "LehrBeltModel" 407 (-1000000) ∈ lw_tbl := List.mem_of_getElem? (i := 2179) (by decide +kernel)
theorem slX11_404 : SL "LehrBeltModel" 404 yX11_isHalf bX11_isHalf 1 ((some .boolean)) 1 := ⟨List.mem_of_getElem? (i := 2176) (by decide +kernel), List.mem_of_getElem? (i := 2177) (by decide +kernel), List.mem_of_getElem? (i := 115) (by decide +kernel), List.mem_of_getElem? (i := 2178) (by decide +kernel), by decide +kernel, by decide +kernel, by decide +kernel⟩
theorem slX11_408 : SL "LehrBeltModel" 408 yX11_partOf bX11_partOf 5 ((some .long)) 3 := ⟨List.mem_of_getElem? (i := 2183) (by decide +kernel), List.mem_of_getElem? (i := 2184) (by decide +kernel), List.mem_of_getElem? (i := 115) (by decide +kernel), List.mem_of_getElem? (i := 2185) (by decide +kernel), by decide +kernel, by decide +kernel, by decide +kernel⟩
theorem vlX11_412 : VL "LehrBeltModel" 412 yX11_areTwo bX11_areTwo 3 ((some .boolean)) 2 := ⟨List.mem_of_getElem? (i := 2193) (by decide +kernel), List.mem_of_getElem? (i := 2195) (by decide +kernel), List.mem_of_getElem? (i := 97) (by decide +kernel), List.mem_of_getElem? (i := 115) (by decide +kernel), List.mem_of_getElem? (i := 2196) (by decide +kernel), by decide +kernel, by decide +kernel, by decide +kernel⟩
theorem vlX11_415 : VL "LehrBeltModel" 415 yX11_getsBy bX11_getsBy 8 ((some .int)) 5 := ⟨List.mem_of_getElem? (i := 2197) (by decide +kernel), List.mem_of_getElem? (i := 2199) (by decide +kernel), List.mem_of_getElem? (i := 98) (by decide +kernel), List.mem_of_getElem? (i := 115) (by decide +kernel), List.mem_of_getElem? (i := 2200) (by decide +kernel), by decide +kernel, by decide +kernel, by decide +kernel⟩
theorem slX11_419 : SL "LehrBeltModel" 419 yX11_power bX11_power 3 ((some .long)) 2 := ⟨List.mem_of_getElem? (i := 2217) (by decide +kernel), List.mem_of_getElem? (i := 2218) (by decide +kernel), List.mem_of_getElem? (i := 115) (by decide +kernel), List.mem_of_getElem? (i := 2219) (by decide +kernel), by decide +kernel, by decide +kernel, by decide +kernel⟩
theorem kcX11_422 : Cond.constantLong "LehrBeltModel" 422 10 ∈ lw_tbl := List.mem_of_getElem? (i := 2220) (by decide +kernel)
theorem vlX11_424 : VL "LehrBeltModel" 424 yX11_isSoon bX11_isSoon 2 ((some .boolean)) 1 := ⟨List.mem_of_getElem? (i := 2209) (by decide +kernel), List.mem_of_getElem? (i := 2211) (by decide +kernel), List.mem_of_getElem? (i := 99) (by decide +kernel), List.mem_of_getElem? (i := 115) (by decide +kernel), List.mem_of_getElem? (i := 2212) (by decide +kernel), by decide +kernel, by decide +kernel, by decide +kernel⟩
theorem vlX11_427 : VL "LehrBeltModel" 427 yX11_weightOf bX11_weightOf 8 ((some .long)) 2 := ⟨List.mem_of_getElem? (i := 2213) (by decide +kernel), List.mem_of_getElem? (i := 2215) (by decide +kernel), List.mem_of_getElem? (i := 100) (by decide +kernel), List.mem_of_getElem? (i := 115) (by decide +kernel), List.mem_of_getElem? (i := 2216) (by decide +kernel), by decide +kernel, by decide +kernel, by decide +kernel⟩
theorem kcX11_431 : Cond.constantLong "LehrBeltModel" 431 (-2) ∈ lw_tbl := List.mem_of_getElem? (i := 2225) (by decide +kernel)
theorem kcX11_433 : Cond.constantLong "LehrBeltModel" 433 1103515245 ∈ lw_tbl := List.mem_of_getElem? (i := 2238) (by decide +kernel)
theorem kcX11_435 : Cond.constantLong "LehrBeltModel" 435 12345 ∈ lw_tbl := List.mem_of_getElem? (i := 2239) (by decide +kernel)
theorem kcX11_437 : Cond.constantLong "LehrBeltModel" 437 2147483648 ∈ lw_tbl := List.mem_of_getElem? (i := 2240) (by decide +kernel)
theorem kcX11_439 : Cond.constantLong "LehrBeltModel" 439 65536 ∈ lw_tbl := List.mem_of_getElem? (i := 2241) (by decide +kernel)
theorem kcX11_441 : Cond.constantLong "LehrBeltModel" 441 2000000000 ∈ lw_tbl := List.mem_of_getElem? (i := 2233) (by decide +kernel)
theorem slX11_443 : SL "LehrBeltModel" 443 yX11_isSeed bX11_isSeed 1 ((some .boolean)) 1 := ⟨List.mem_of_getElem? (i := 2230) (by decide +kernel), List.mem_of_getElem? (i := 2231) (by decide +kernel), List.mem_of_getElem? (i := 115) (by decide +kernel), List.mem_of_getElem? (i := 2232) (by decide +kernel), by decide +kernel, by decide +kernel, by decide +kernel⟩
theorem vlX11_446 : VL "LehrBeltModel" 446 yX11_draws bX11_draws 6 (none) 1 := ⟨List.mem_of_getElem? (i := 2234) (by decide +kernel), List.mem_of_getElem? (i := 2236) (by decide +kernel), List.mem_of_getElem? (i := 101) (by decide +kernel), List.mem_of_getElem? (i := 115) (by decide +kernel), List.mem_of_getElem? (i := 2237) (by decide +kernel), by decide +kernel, by decide +kernel, by decide +kernel⟩
theorem kcX11_449 : Cond.constantLong "LehrBeltModel" 449 20 ∈ lw_tbl := List.mem_of_getElem? (i := 2246) (by decide +kernel)
theorem kcX11_451 : Cond.constantLong "LehrBeltModel" 451 200 ∈ lw_tbl := List.mem_of_getElem? (i := 2251) (by decide +kernel)
theorem vlX11_453 : VL "LehrBeltModel" 453 yX11_does bX11_does 6 (none) 4 := ⟨List.mem_of_getElem? (i := 2252) (by decide +kernel), List.mem_of_getElem? (i := 2254) (by decide +kernel), List.mem_of_getElem? (i := 102) (by decide +kernel), List.mem_of_getElem? (i := 115) (by decide +kernel), List.mem_of_getElem? (i := 2255) (by decide +kernel), by decide +kernel, by decide +kernel, by decide +kernel⟩
theorem kcX11_457 : Cond.constantLong "LehrBeltModel" 457 300 ∈ lw_tbl := List.mem_of_getElem? (i := 2272) (by decide +kernel)
theorem kcX11_459 : Cond.constantLong "LehrBeltModel" 459 7 ∈ lw_tbl := List.mem_of_getElem? (i := 2277) (by decide +kernel)
theorem flX11_46 : FL "LehrBeltModel" 46 11 21 2 := ⟨(RX11, TX11, 39), rfl, inX11, by decide, List.mem_of_getElem? (i := 1506) (by decide +kernel), rfl⟩
set_option maxRecDepth 100000 in
set_option maxHeartbeats 4000000 in
theorem c_X11_partOf {l : Launch} {P : Wp} {E : State → Heap → Prop} (hW : Wok shR P E) {p0 : Int64} {p2 : Int64} {p4 : Int32} {M : Mem} {r : Int64} (h : f_X11_partOf p0 p2 p4 M = some r) : CT l shR P E yX11_partOf bX11_partOf 5 ((some .long)) 101 4023 [.long p0, .long p2, .int p4] (some (.long r)) M M := by
  refine ct_of hW (by decide) (Nat.le_of_ble_eq_true rfl) (fun p e s m args below meth c C ls hl hw => ?_)
  have hx := C.1
  have hb := C.2.1
  replace hl : lv_has ls 5 [(0, .long p0), (2, .long p2), (4, .int p4)] := hl
  refine lv_iload hx hb dX11_partOf_0 (lv_at hl 2 rfl) ?_
  refine lv_if_ne (tgt := 9) hx hb dX11_partOf_2 (by decide) (fun c1 => ?_) (fun c1 => ?_)
  · replace h := (if_neg c1).symm.trans h
    refine lv_lload_n hx hb dX11_partOf_9 rfl (lv_at hl 1 rfl) ?_
    refine lv_lload_n hx hb dX11_partOf_10 rfl (lv_at hl 0 rfl) ?_
    refine lv_lload_n hx hb dX11_partOf_11 rfl (lv_at hl 1 rfl) ?_
    obtain ⟨r2, e3, h⟩ := bnd_some h
    refine wcallS1 (As := [.long p0, .long p2]) (rest := [.long p2]) C hw (c_X11_common hW  e3) slX11_400 ⟨Nat.le_of_ble_eq_true rfl, Nat.le_of_ble_eq_true rfl⟩ rfl rfl hl.1 (Nat.le_of_ble_eq_true rfl) dX11_partOf_12 ⟨Nat.zero_le _, Nat.zero_le _⟩ (fun H locs hw => ?_)
    obtain ⟨g4, h⟩ := grdL h
    refine lv_ldiv hx hb dX11_partOf_15 g4 ?_
    exact wretJ_R C hw h dX11_partOf_16
  · replace h := (if_pos c1).symm.trans h
    refine lv_lload_n hx hb dX11_partOf_5 rfl (lv_at hl 0 rfl) ?_
    refine lv_goto (tgt := 10) hx hb dX11_partOf_6 (by decide) ?_
    refine lv_lload_n hx hb dX11_partOf_10 rfl (lv_at hl 0 rfl) ?_
    refine lv_lload_n hx hb dX11_partOf_11 rfl (lv_at hl 1 rfl) ?_
    obtain ⟨r5, e6, h⟩ := bnd_some h
    refine wcallS1 (As := [.long p0, .long p2]) (rest := [.long p0]) C hw (c_X11_common hW  e6) slX11_400 ⟨Nat.le_of_ble_eq_true rfl, Nat.le_of_ble_eq_true rfl⟩ rfl rfl hl.1 (Nat.le_of_ble_eq_true rfl) dX11_partOf_12 ⟨Nat.zero_le _, Nat.zero_le _⟩ (fun H locs hw => ?_)
    obtain ⟨g7, h⟩ := grdL h
    refine lv_ldiv hx hb dX11_partOf_15 g7 ?_
    exact wretJ_R C hw h dX11_partOf_16
set_option maxRecDepth 100000 in
set_option maxHeartbeats 4000000 in
theorem c_X11_share {l : Launch} {P : Wp} {E : State → Heap → Prop} (hW : Wok shR P E) {p1 : Int32} {p2 : Int32} {M : Mem} {r : Int32} {M' : Mem} (h : f_X11_share p1 p2 M = some (r, M')) : CT l shR P E yX11_share bX11_share 7 ((some .int)) 102 4047 [.ref (P.2.2.1 0), .int p1, .int p2] (some (.int r)) M M' := by
  refine ct_of hW (by decide) (Nat.le_of_ble_eq_true rfl) (fun p e s m args below meth c C ls hl hw => ?_)
  have hx := C.1
  have hb := C.2.1
  replace hl : lv_has ls 7 [(0, .ref (P.2.2.1 0)), (1, .int p1), (2, .int p2)] := hl
  have cut_37 : ∀ (v3_37 : Int32) (n_37 : Nat) (v4_37 : Int32) (v5_37 : Int32) (M_37 : Mem) (ls : Array Slot) (H : Heap) (locs : List Loc), lv_has ls 7 [(0, .ref (P.2.2.1 0)), (1, .int p1), (2, .int p2), (3, .int v3_37), (4, .int v4_37), (5, .int v5_37)] → Hw shR P M_37 s H locs → lq3 (L_X11_share_37 p1 p2 v3_37) n_37 v4_37 v5_37 M_37 = some (r, M') → W p l e { frames := 102, cells := 0, slots := 0, locals := 4047 } s m args below meth c H locs 0 0 (MQ below (CQ shR P E (some (.int r)) M') args s 0 0 (wA shR P)) (F0 m 37 ls []) := by
    intro v3_37 n_37
    induction n_37 with
    | zero => intro v4_37 v5_37 M_37 ls H locs hl hw h; cases h
    | succ n_37 ih_37 =>
      intro v4_37 v5_37 M_37 ls H locs hl hw h
      replace h := lq3_succ h
      refine lv_iload hx hb dX11_share_37 (lv_at hl 5 rfl) ?_
      refine lv_iconst (v := 1) hx hb dX11_share_39 (by decide) ?_
      refine lv_iload_n hx hb dX11_share_40 rfl (lv_at hl 3 rfl) ?_
      refine lv_ishl hx hb dX11_share_41 ?_
      refine lv_icmp_ge (tgt := 108) hx hb dX11_share_42 (by decide) (fun c8 => ?_) (fun c8 => ?_)
      · replace h := (if_pos c8).symm.trans h
        refine lv_iload hx hb dX11_share_108 (lv_at hl 4 rfl) ?_
        refine lv_i2l hx hb dX11_share_110 rfl ?_
        refine lv_iload_n hx hb dX11_share_111 rfl (lv_at hl 3 rfl) ?_
        obtain ⟨r9, e10, h⟩ := bnd_some h
        refine wcallS1 (As := [.int v3_37]) (rest := [.long ((v4_37 : Int32).toInt64)]) C hw (c_X11_times hW  e10) slX11_397 ⟨Nat.le_of_ble_eq_true rfl, Nat.le_of_ble_eq_true rfl⟩ rfl rfl hl.1 (Nat.le_of_ble_eq_true rfl) dX11_share_112 ⟨Nat.zero_le _, Nat.zero_le _⟩ (fun H locs hw => ?_)
        refine lv_i2l hx hb dX11_share_115 rfl ?_
        refine lv_iload_n hx hb dX11_share_116 rfl (lv_at hl 2 rfl) ?_
        obtain ⟨r11, e12, h⟩ := bnd_some h
        refine wcallS1 (As := [.long ((v4_37 : Int32).toInt64), .long ((r9 : Int32).toInt64), .int p2]) (rest := []) C hw (c_X11_partOf hW  e12) slX11_408 ⟨Nat.le_of_ble_eq_true rfl, Nat.le_of_ble_eq_true rfl⟩ rfl rfl hl.1 (Nat.le_of_ble_eq_true rfl) dX11_share_117 ⟨Nat.zero_le _, Nat.zero_le _⟩ (fun H locs hw => ?_)
        refine lv_l2i hx hb dX11_share_120 rfl ?_
        exact wretI_W C hw h dX11_share_121
      · replace h := (if_neg c8).symm.trans h
        refine lv_iload hx hb dX11_share_45 (lv_at hl 5 rfl) ?_
        refine lv_iload_n hx hb dX11_share_47 rfl (lv_at hl 1 rfl) ?_
        refine wcallS1 (As := [.int v5_37, .int p1]) (rest := []) C hw (c_X11_isBit hW  rfl) slX11_258 ⟨Nat.le_of_ble_eq_true rfl, Nat.le_of_ble_eq_true rfl⟩ rfl rfl hl.1 (Nat.le_of_ble_eq_true rfl) dX11_share_48 ⟨Nat.zero_le _, Nat.zero_le _⟩ (fun H locs hw => ?_)
        refine lv_if_eq (tgt := 57) hx hb dX11_share_51 (by decide) (fun c13 => ?_) (fun c13 => ?_)
        · replace h := (if_pos c13).symm.trans h
          refine lv_iload hx hb dX11_share_57 (lv_at hl 5 rfl) ?_
          obtain ⟨r14, e15, h⟩ := bnd_some h
          refine wcallS1 (As := [.int v5_37]) (rest := []) C hw (c_X11_sizeOf hW  e15) slX11_335 ⟨Nat.le_of_ble_eq_true rfl, Nat.le_of_ble_eq_true rfl⟩ rfl rfl hl.1 (Nat.le_of_ble_eq_true rfl) dX11_share_59 ⟨Nat.zero_le _, Nat.zero_le _⟩ (fun H locs hw => ?_)
          refine lv_istore (lv' := [(6, .int r14), (0, .ref (P.2.2.1 0)), (1, .int p1), (2, .int p2), (3, .int v3_37), (4, .int v4_37), (5, .int v5_37)]) hx hb dX11_share_62 hl (by decide) rfl (fun ls hl => ?_)
          refine lv_iload hx hb dX11_share_64 (lv_at hl 5 rfl) ?_
          refine lv_iload hx hb dX11_share_66 (lv_at hl 0 rfl) ?_
          obtain ⟨r16, e17, h⟩ := bnd_some h
          refine wcallS1 (As := [.int r14]) (rest := [.int v4_37]) C hw (c_X11_times hW  e17) slX11_397 ⟨Nat.le_of_ble_eq_true rfl, Nat.le_of_ble_eq_true rfl⟩ rfl rfl hl.1 (Nat.le_of_ble_eq_true rfl) dX11_share_68 ⟨Nat.zero_le _, Nat.zero_le _⟩ (fun H locs hw => ?_)
          refine lv_iload_n hx hb dX11_share_71 rfl (lv_at hl 4 rfl) ?_
          refine lv_iload hx hb dX11_share_72 (lv_at hl 0 rfl) ?_
          refine lv_isub hx hb dX11_share_74 ?_
          refine lv_iconst (v := 1) hx hb dX11_share_75 (by decide) ?_
          refine lv_isub hx hb dX11_share_76 ?_
          obtain ⟨r18, e19, h⟩ := bnd_some h
          refine wcallS1 (As := [.int ((v3_37 - r14) - (1 : Int32))]) (rest := [.int r16, .int v4_37]) C hw (c_X11_times hW  e19) slX11_397 ⟨Nat.le_of_ble_eq_true rfl, Nat.le_of_ble_eq_true rfl⟩ rfl rfl hl.1 (Nat.le_of_ble_eq_true rfl) dX11_share_77 ⟨Nat.zero_le _, Nat.zero_le _⟩ (fun H locs hw => ?_)
          refine lv_imul hx hb dX11_share_80 ?_
          refine lv_aload_n hx hb dX11_share_81 rfl (lv_at hl 1 rfl) ?_
          refine lv_iload hx hb dX11_share_82 (lv_at hl 6 rfl) ?_
          refine lv_iconst (v := 1) hx hb dX11_share_84 (by decide) ?_
          refine lv_iload_n hx hb dX11_share_85 rfl (lv_at hl 2 rfl) ?_
          refine lv_ishl hx hb dX11_share_86 ?_
          refine lv_ior hx hb dX11_share_87 ?_
          obtain ⟨r20, M22, e21, h⟩ := bnd2_some h
          refine wcallV1 (As := [.int (v5_37 ||| ((1 : Int32) <<< (p1 &&& 31)))]) (rest := [.int (r16 * r18), .int v4_37]) C hw (c_X11_worthOf hW  e21) vlX11_394 ⟨Nat.le_of_ble_eq_true rfl, Nat.le_of_ble_eq_true rfl⟩ (rfl : _ = some (0, 11)) rfl rfl rfl hl.1 (Nat.le_of_ble_eq_true rfl) dX11_share_88 ⟨Nat.zero_le _, Nat.zero_le _⟩ (fun H locs hw => ?_)
          refine lv_aload_n hx hb dX11_share_91 rfl (lv_at hl 1 rfl) ?_
          refine lv_iload hx hb dX11_share_92 (lv_at hl 6 rfl) ?_
          obtain ⟨r23, M25, e24, h⟩ := bnd2_some h
          refine wcallV1 (As := [.int v5_37]) (rest := [.int r20, .int (r16 * r18), .int v4_37]) C hw (c_X11_worthOf hW  e24) vlX11_394 ⟨Nat.le_of_ble_eq_true rfl, Nat.le_of_ble_eq_true rfl⟩ (rfl : _ = some (0, 11)) rfl rfl rfl hl.1 (Nat.le_of_ble_eq_true rfl) dX11_share_94 ⟨Nat.zero_le _, Nat.zero_le _⟩ (fun H locs hw => ?_)
          refine lv_isub hx hb dX11_share_97 ?_
          refine lv_imul hx hb dX11_share_98 ?_
          refine lv_iadd hx hb dX11_share_99 ?_
          refine lv_topi (fun x26 ex26 => ?_)
          replace h := letv_at ex26 h
          refine lv_istore (lv' := [(4, .int x26), (6, .int r14), (0, .ref (P.2.2.1 0)), (1, .int p1), (2, .int p2), (3, .int v3_37), (5, .int v5_37)]) hx hb dX11_share_100 hl (by decide) rfl (fun ls hl => ?_)
          refine lv_iinc (v := (v5_37 + 1)) (lv' := [(5, .int (v5_37 + 1)), (4, .int x26), (6, .int r14), (0, .ref (P.2.2.1 0)), (1, .int p1), (2, .int p2), (3, .int v3_37)]) (k := 6) hx hb dX11_share_102 hl rfl (congrArg (fun z => v5_37 + z) (by decide)) (by decide) rfl (fun ls hl => ?_)
          refine lv_goto (tgt := 37) hx hb dX11_share_105 (by decide) ?_
          exact ih_37 x26 (v5_37 + 1) M25 ls _ _ (lv_sub hl [3, 4, 5, 6, 1, 0] rfl) hw h
        · replace h := (if_neg c13).symm.trans h
          refine lv_goto (tgt := 102) hx hb dX11_share_54 (by decide) ?_
          refine lv_iinc (v := (v5_37 + 1)) (lv' := [(5, .int (v5_37 + 1)), (0, .ref (P.2.2.1 0)), (1, .int p1), (2, .int p2), (3, .int v3_37), (4, .int v4_37)]) (k := 5) hx hb dX11_share_102 hl rfl (congrArg (fun z => v5_37 + z) (by decide)) (by decide) rfl (fun ls hl => ?_)
          refine lv_goto (tgt := 37) hx hb dX11_share_105 (by decide) ?_
          exact ih_37 v4_37 (v5_37 + 1) M_37 ls _ _ (lv_sub hl [1, 2, 3, 4, 5, 0] rfl) hw h
  refine lv_aload_n hx hb dX11_share_0 rfl (lv_at hl 0 rfl) ?_
  refine lv_iconst (v := 0) hx hb dX11_share_1 (by decide) ?_
  refine wputI C hw fpX11_77 (rfl : _ = some (0, 11)) dX11_share_2 (fun M1 eM1 H locs hw => ?_)
  replace h := letv_at eM1 h
  refine lv_aload_n hx hb dX11_share_5 rfl (lv_at hl 0 rfl) ?_
  refine lv_iload_n hx hb dX11_share_6 rfl (lv_at hl 1 rfl) ?_
  obtain ⟨r2, e3, h⟩ := bnd_some h
  refine wcallV1 (As := [.int p1]) (rest := []) C hw (c_X11_isZone hW  e3) vlX11_302 ⟨Nat.le_of_ble_eq_true rfl, Nat.le_of_ble_eq_true rfl⟩ (rfl : _ = some (0, 11)) rfl rfl rfl hl.1 (Nat.le_of_ble_eq_true rfl) dX11_share_7 ⟨Nat.zero_le _, Nat.zero_le _⟩ (fun H locs hw => ?_)
  refine lv_if_eq (tgt := 20) hx hb dX11_share_10 (by decide) (fun c4 => ?_) (fun c4 => ?_)
  · replace h := (if_pos c4).symm.trans h
    refine lv_ldcw hx hb C.2.2.2.1 (C.2.2.2.2.1 _ (List.mem_cons_of_mem _ (gm kcX11_407 rfl))) dX11_share_20 ?_
    exact wretI_W C hw h dX11_share_23
  · replace h := (if_neg c4).symm.trans h
    refine lv_iload_n hx hb dX11_share_13 rfl (lv_at hl 2 rfl) ?_
    refine wcallS1 (As := [.int p2]) (rest := []) C hw (c_X11_isHalf hW  rfl) slX11_404 ⟨Nat.le_of_ble_eq_true rfl, Nat.le_of_ble_eq_true rfl⟩ rfl rfl hl.1 (Nat.le_of_ble_eq_true rfl) dX11_share_14 ⟨Nat.zero_le _, Nat.zero_le _⟩ (fun H locs hw => ?_)
    refine lv_if_ne (tgt := 24) hx hb dX11_share_17 (by decide) (fun c5 => ?_) (fun c5 => ?_)
    · replace h := (if_neg c5).symm.trans h
      refine lv_aload_n hx hb dX11_share_24 rfl (lv_at hl 0 rfl) ?_
      refine wgetR (t := 7) C hw flX11_34 (rfl : _ = some (0, 11)) rfl dX11_share_25 ?_
      refine lv_iconst (v := 5) hx hb dX11_share_28 (by decide) ?_
      obtain ⟨g6, h⟩ := grd h
      refine wald C hw (rfl : _ = some (1, 40)) g6 dX11_share_29 ?_
      refine lv_topi (fun x7 ex7 => ?_)
      replace h := letv_at ex7 h
      refine lv_istore_n (lv' := [(3, .int x7), (0, .ref (P.2.2.1 0)), (1, .int p1), (2, .int p2)]) hx hb dX11_share_30 rfl hl (by decide) rfl (fun ls hl => ?_)
      refine lv_iconst (v := 0) hx hb dX11_share_31 (by decide) ?_
      refine lv_istore (lv' := [(4, .int 0), (3, .int x7), (0, .ref (P.2.2.1 0)), (1, .int p1), (2, .int p2)]) hx hb dX11_share_32 hl (by decide) rfl (fun ls hl => ?_)
      refine lv_iconst (v := 0) hx hb dX11_share_34 (by decide) ?_
      refine lv_istore (lv' := [(5, .int 0), (4, .int 0), (3, .int x7), (0, .ref (P.2.2.1 0)), (1, .int p1), (2, .int p2)]) hx hb dX11_share_35 hl (by decide) rfl (fun ls hl => ?_)
      exact cut_37 x7 FU 0 0 M1 ls _ _ (lv_sub hl [3, 4, 5, 2, 1, 0] rfl) hw h
    · replace h := (if_pos c5).symm.trans h
      refine lv_ldcw hx hb C.2.2.2.1 (C.2.2.2.2.1 _ (List.mem_cons_of_mem _ (gm kcX11_407 rfl))) dX11_share_20 ?_
      exact wretI_W C hw h dX11_share_23
set_option maxRecDepth 100000 in
set_option maxHeartbeats 4000000 in
theorem c_X11_getsBy {l : Launch} {P : Wp} {E : State → Heap → Prop} (hW : Wok shR P E) {p1 : Int32} {p2 : Int32} {p3 : Int32} {p4 : Int32} {p5 : Int32} {M : Mem} {r : Int32} {M' : Mem} (h : f_X11_getsBy p1 p2 p3 p4 p5 M = some (r, M')) : CT l shR P E yX11_getsBy bX11_getsBy 8 ((some .int)) 5 121 [.ref (P.2.2.1 0), .int p1, .int p2, .int p3, .int p4, .int p5] (some (.int r)) M M' := by
  refine ct_of hW (by decide) (Nat.le_of_ble_eq_true rfl) (fun p e s m args below meth c C ls hl hw => ?_)
  have hx := C.1
  have hb := C.2.1
  replace hl : lv_has ls 8 [(0, .ref (P.2.2.1 0)), (1, .int p1), (2, .int p2), (3, .int p3), (4, .int p4), (5, .int p5)] := hl
  have cut_42 : ∀ (n_42 : Nat) (v6_42 : Int32) (v7_42 : Int32) (M_42 : Mem) (ls : Array Slot) (H : Heap) (locs : List Loc), lv_has ls 8 [(0, .ref (P.2.2.1 0)), (3, .int p3), (4, .int p4), (5, .int p5), (6, .int v6_42), (7, .int v7_42)] → Hw shR P M_42 s H locs → lq3 (L_X11_getsBy_42 p1 p2 p3 p4 p5) n_42 v6_42 v7_42 M_42 = some (r, M') → W p l e { frames := 5, cells := 0, slots := 0, locals := 121 } s m args below meth c H locs 0 0 (MQ below (CQ shR P E (some (.int r)) M') args s 0 0 (wA shR P)) (F0 m 42 ls []) := by
    intro n_42
    induction n_42 with
    | zero => intro v6_42 v7_42 M_42 ls H locs hl hw h; cases h
    | succ n_42 ih_42 =>
      intro v6_42 v7_42 M_42 ls H locs hl hw h
      replace h := lq3_succ h
      refine lv_iload hx hb dX11_getsBy_42 (lv_at hl 5 rfl) ?_
      refine lv_aload_n hx hb dX11_getsBy_44 rfl (lv_at hl 0 rfl) ?_
      obtain ⟨r13, e14, h⟩ := bnd_some h
      refine wcallV1 (As := []) (rest := [.int v7_42]) C hw (c_X11_pieces hW  e14) vlX11_227 ⟨Nat.le_of_ble_eq_true rfl, Nat.le_of_ble_eq_true rfl⟩ (rfl : _ = some (0, 11)) rfl rfl rfl hl.1 (Nat.le_of_ble_eq_true rfl) dX11_getsBy_45 ⟨Nat.zero_le _, Nat.zero_le _⟩ (fun H locs hw => ?_)
      refine lv_icmp_ge (tgt := 78) hx hb dX11_getsBy_48 (by decide) (fun c15 => ?_) (fun c15 => ?_)
      · replace h := (if_pos c15).symm.trans h
        refine lv_iload hx hb dX11_getsBy_78 (lv_at hl 4 rfl) ?_
        refine lv_iconst (v := 2) hx hb dX11_getsBy_80 (by decide) ?_
        refine lv_iload hx hb dX11_getsBy_81 (lv_at hl 3 rfl) ?_
        refine lv_if_ne (tgt := 90) hx hb dX11_getsBy_83 (by decide) (fun c16 => ?_) (fun c16 => ?_)
        · replace h := (if_neg c16).symm.trans h
          refine lv_iload hx hb dX11_getsBy_90 (lv_at hl 2 rfl) ?_
          refine lv_imul hx hb dX11_getsBy_92 ?_
          refine lv_isub hx hb dX11_getsBy_93 ?_
          exact wretI_W C hw h dX11_getsBy_94
        · replace h := (if_pos c16).symm.trans h
          refine lv_iload_n hx hb dX11_getsBy_86 rfl (lv_at hl 1 rfl) ?_
          refine lv_goto (tgt := 92) hx hb dX11_getsBy_87 (by decide) ?_
          refine lv_imul hx hb dX11_getsBy_92 ?_
          refine lv_isub hx hb dX11_getsBy_93 ?_
          exact wretI_W C hw h dX11_getsBy_94
      · replace h := (if_neg c15).symm.trans h
        refine lv_iload hx hb dX11_getsBy_51 (lv_at hl 4 rfl) ?_
        refine lv_aload_n hx hb dX11_getsBy_53 rfl (lv_at hl 0 rfl) ?_
        refine wgetR (t := 19) C hw flX11_71 (rfl : _ = some (0, 11)) rfl dX11_getsBy_54 ?_
        refine lv_iload hx hb dX11_getsBy_57 (lv_at hl 5 rfl) ?_
        obtain ⟨g17, h⟩ := grd h
        refine wald C hw (rfl : _ = some (1, 6)) g17 dX11_getsBy_59 ?_
        refine lv_iconst (v := (-1)) hx hb dX11_getsBy_60 (by decide) ?_
        refine lv_icmp_ne (tgt := 68) hx hb dX11_getsBy_61 (by decide) (fun c18 => ?_) (fun c18 => ?_)
        · replace h := (if_neg c18).symm.trans h
          refine lv_iconst (v := 0) hx hb dX11_getsBy_68 (by decide) ?_
          refine lv_iadd hx hb dX11_getsBy_69 ?_
          refine lv_topi (fun x19 ex19 => ?_)
          replace h := letv_at ex19 h
          refine lv_istore (lv' := [(6, .int x19), (0, .ref (P.2.2.1 0)), (3, .int p3), (4, .int p4), (5, .int p5), (7, .int v7_42)]) hx hb dX11_getsBy_70 hl (by decide) rfl (fun ls hl => ?_)
          refine lv_iinc (v := (v7_42 + 2)) (lv' := [(7, .int (v7_42 + 2)), (6, .int x19), (0, .ref (P.2.2.1 0)), (3, .int p3), (4, .int p4), (5, .int p5)]) (k := 5) hx hb dX11_getsBy_72 hl rfl (congrArg (fun z => v7_42 + z) (by decide)) (by decide) rfl (fun ls hl => ?_)
          refine lv_goto (tgt := 42) hx hb dX11_getsBy_75 (by decide) ?_
          exact ih_42 x19 (v7_42 + 2) M_42 ls _ _ (lv_sub hl [2, 3, 4, 5, 1, 0] rfl) hw h
        · replace h := (if_pos c18).symm.trans h
          refine lv_iconst (v := 3) hx hb dX11_getsBy_64 (by decide) ?_
          refine lv_goto (tgt := 69) hx hb dX11_getsBy_65 (by decide) ?_
          refine lv_iadd hx hb dX11_getsBy_69 ?_
          refine lv_topi (fun x20 ex20 => ?_)
          replace h := letv_at ex20 h
          refine lv_istore (lv' := [(6, .int x20), (0, .ref (P.2.2.1 0)), (3, .int p3), (4, .int p4), (5, .int p5), (7, .int v7_42)]) hx hb dX11_getsBy_70 hl (by decide) rfl (fun ls hl => ?_)
          refine lv_iinc (v := (v7_42 + 2)) (lv' := [(7, .int (v7_42 + 2)), (6, .int x20), (0, .ref (P.2.2.1 0)), (3, .int p3), (4, .int p4), (5, .int p5)]) (k := 5) hx hb dX11_getsBy_72 hl rfl (congrArg (fun z => v7_42 + z) (by decide)) (by decide) rfl (fun ls hl => ?_)
          refine lv_goto (tgt := 42) hx hb dX11_getsBy_75 (by decide) ?_
          exact ih_42 x20 (v7_42 + 2) M_42 ls _ _ (lv_sub hl [2, 3, 4, 5, 1, 0] rfl) hw h
  refine lv_aload_n hx hb dX11_getsBy_0 rfl (lv_at hl 0 rfl) ?_
  obtain ⟨M3, e2, h⟩ := bnd_some h
  refine wcallV0 (As := []) (rest := []) C hw (c_X11_lays hW  e2) vlX11_296 ⟨Nat.le_of_ble_eq_true rfl, Nat.le_of_ble_eq_true rfl⟩ (rfl : _ = some (0, 11)) rfl rfl rfl hl.1 (Nat.le_of_ble_eq_true rfl) dX11_getsBy_1 ⟨Nat.zero_le _, Nat.zero_le _⟩ (fun H locs hw => ?_)
  refine lv_aload_n hx hb dX11_getsBy_4 rfl (lv_at hl 0 rfl) ?_
  refine wgetR (t := 12) C hw flX11_50 (rfl : _ = some (0, 11)) rfl dX11_getsBy_5 ?_
  refine lv_iload_n hx hb dX11_getsBy_8 rfl (lv_at hl 1 rfl) ?_
  refine lv_dup2_11 hx hb dX11_getsBy_9 rfl rfl ?_
  obtain ⟨g4, h⟩ := grd h
  refine wald C hw (rfl : _ = some (1, 7)) g4 dX11_getsBy_10 ?_
  refine lv_bipush (v := 50) hx hb dX11_getsBy_11 (by decide) ?_
  refine lv_iload_n hx hb dX11_getsBy_13 rfl (lv_at hl 3 rfl) ?_
  refine lv_imul hx hb dX11_getsBy_14 ?_
  refine lv_iadd hx hb dX11_getsBy_15 ?_
  obtain ⟨g6, h⟩ := grd h
  refine wast C hw (rfl : _ = some (1, 7)) g6 dX11_getsBy_16 (fun M5 eM5 H locs hw => ?_)
  replace h := letv_at eM5 h
  refine lv_aload_n hx hb dX11_getsBy_17 rfl (lv_at hl 0 rfl) ?_
  refine wgetR (t := 12) C hw flX11_50 (rfl : _ = some (0, 11)) rfl dX11_getsBy_18 ?_
  refine lv_iload_n hx hb dX11_getsBy_21 rfl (lv_at hl 2 rfl) ?_
  refine lv_dup2_11 hx hb dX11_getsBy_22 rfl rfl ?_
  obtain ⟨g7, h⟩ := grd h
  refine wald C hw (rfl : _ = some (1, 7)) g7 dX11_getsBy_23 ?_
  refine lv_bipush (v := 50) hx hb dX11_getsBy_24 (by decide) ?_
  refine lv_iload hx hb dX11_getsBy_26 (lv_at hl 4 rfl) ?_
  refine lv_imul hx hb dX11_getsBy_28 ?_
  refine lv_iadd hx hb dX11_getsBy_29 ?_
  obtain ⟨g9, h⟩ := grd h
  refine wast C hw (rfl : _ = some (1, 7)) g9 dX11_getsBy_30 (fun M8 eM8 H locs hw => ?_)
  replace h := letv_at eM8 h
  refine lv_aload_n hx hb dX11_getsBy_31 rfl (lv_at hl 0 rfl) ?_
  obtain ⟨M12, e11, h⟩ := bnd_some h
  refine wcallV0 (As := []) (rest := []) C hw (c_X11_runs hW  e11) vlX11_299 ⟨Nat.le_of_ble_eq_true rfl, Nat.le_of_ble_eq_true rfl⟩ (rfl : _ = some (0, 11)) rfl rfl rfl hl.1 (Nat.le_of_ble_eq_true rfl) dX11_getsBy_32 ⟨Nat.zero_le _, Nat.zero_le _⟩ (fun H locs hw => ?_)
  refine lv_iconst (v := 0) hx hb dX11_getsBy_35 (by decide) ?_
  refine lv_istore (lv' := [(6, .int 0), (0, .ref (P.2.2.1 0)), (1, .int p1), (2, .int p2), (3, .int p3), (4, .int p4), (5, .int p5)]) hx hb dX11_getsBy_36 hl (by decide) rfl (fun ls hl => ?_)
  refine lv_iload hx hb dX11_getsBy_38 (lv_at hl 6 rfl) ?_
  refine lv_istore (lv' := [(7, .int p5), (6, .int 0), (0, .ref (P.2.2.1 0)), (1, .int p1), (2, .int p2), (3, .int p3), (4, .int p4), (5, .int p5)]) hx hb dX11_getsBy_40 hl (by decide) rfl (fun ls hl => ?_)
  exact cut_42 FU 0 p5 M12 ls _ _ (lv_sub hl [2, 5, 6, 7, 1, 0] rfl) hw h
set_option maxRecDepth 100000 in
set_option maxHeartbeats 4000000 in
theorem c_X11_areTwo {l : Launch} {P : Wp} {E : State → Heap → Prop} (hW : Wok shR P E) {p1 : Int32} {p2 : Int32} {M : Mem} {r : Int32} (h : f_X11_areTwo p1 p2 M = some r) : CT l shR P E yX11_areTwo bX11_areTwo 3 ((some .boolean)) 2 46 [.ref (P.2.2.1 0), .int p1, .int p2] (some (.int r)) M M := by
  refine ct_of hW (by decide) (Nat.le_of_ble_eq_true rfl) (fun p e s m args below meth c C ls hl hw => ?_)
  have hx := C.1
  have hb := C.2.1
  replace hl : lv_has ls 3 [(0, .ref (P.2.2.1 0)), (1, .int p1), (2, .int p2)] := hl
  refine lv_aload_n hx hb dX11_areTwo_0 rfl (lv_at hl 0 rfl) ?_
  refine lv_iload_n hx hb dX11_areTwo_1 rfl (lv_at hl 1 rfl) ?_
  obtain ⟨r1, e2, h⟩ := bnd_some h
  refine wcallV1 (As := [.int p1]) (rest := []) C hw (c_X11_isZone hW  e2) vlX11_302 ⟨Nat.le_of_ble_eq_true rfl, Nat.le_of_ble_eq_true rfl⟩ (rfl : _ = some (0, 11)) rfl rfl rfl hl.1 (Nat.le_of_ble_eq_true rfl) dX11_areTwo_2 ⟨Nat.zero_le _, Nat.zero_le _⟩ (fun H locs hw => ?_)
  refine lv_if_eq (tgt := 25) hx hb dX11_areTwo_5 (by decide) (fun c3 => ?_) (fun c3 => ?_)
  · replace h := (if_pos c3).symm.trans h
    refine lv_iconst (v := 0) hx hb dX11_areTwo_25 (by decide) ?_
    exact wretZ_R C hw (Or.inl rfl) h dX11_areTwo_26
  · replace h := (if_neg c3).symm.trans h
    refine lv_aload_n hx hb dX11_areTwo_8 rfl (lv_at hl 0 rfl) ?_
    refine lv_iload_n hx hb dX11_areTwo_9 rfl (lv_at hl 2 rfl) ?_
    obtain ⟨r4, e5, h⟩ := bnd_some h
    refine wcallV1 (As := [.int p2]) (rest := []) C hw (c_X11_isZone hW  e5) vlX11_302 ⟨Nat.le_of_ble_eq_true rfl, Nat.le_of_ble_eq_true rfl⟩ (rfl : _ = some (0, 11)) rfl rfl rfl hl.1 (Nat.le_of_ble_eq_true rfl) dX11_areTwo_10 ⟨Nat.zero_le _, Nat.zero_le _⟩ (fun H locs hw => ?_)
    refine lv_if_eq (tgt := 25) hx hb dX11_areTwo_13 (by decide) (fun c6 => ?_) (fun c6 => ?_)
    · replace h := (if_pos c6).symm.trans h
      refine lv_iconst (v := 0) hx hb dX11_areTwo_25 (by decide) ?_
      exact wretZ_R C hw (Or.inl rfl) h dX11_areTwo_26
    · replace h := (if_neg c6).symm.trans h
      refine lv_iload_n hx hb dX11_areTwo_16 rfl (lv_at hl 1 rfl) ?_
      refine lv_iload_n hx hb dX11_areTwo_17 rfl (lv_at hl 2 rfl) ?_
      refine lv_icmp_eq (tgt := 25) hx hb dX11_areTwo_18 (by decide) (fun c7 => ?_) (fun c7 => ?_)
      · replace h := (if_pos c7).symm.trans h
        refine lv_iconst (v := 0) hx hb dX11_areTwo_25 (by decide) ?_
        exact wretZ_R C hw (Or.inl rfl) h dX11_areTwo_26
      · replace h := (if_neg c7).symm.trans h
        refine lv_iconst (v := 1) hx hb dX11_areTwo_21 (by decide) ?_
        refine lv_goto (tgt := 26) hx hb dX11_areTwo_22 (by decide) ?_
        exact wretZ_R C hw (Or.inr rfl) h dX11_areTwo_26
set_option maxRecDepth 100000 in
set_option maxHeartbeats 4000000 in
theorem c_X11_rests {l : Launch} {P : Wp} {E : State → Heap → Prop} (hW : Wok shR P E) {p1 : Int32} {p2 : Int32} {M : Mem} {r : Int32} {M' : Mem} (h : f_X11_rests p1 p2 M = some (r, M')) : CT l shR P E yX11_rests bX11_rests 8 ((some .int)) 6 148 [.ref (P.2.2.1 0), .int p1, .int p2] (some (.int r)) M M' := by
  refine ct_of hW (by decide) (Nat.le_of_ble_eq_true rfl) (fun p e s m args below meth c C ls hl hw => ?_)
  have hx := C.1
  have hb := C.2.1
  replace hl : lv_has ls 8 [(0, .ref (P.2.2.1 0)), (1, .int p1), (2, .int p2)] := hl
  have cut_22 : ∀ (n_22 : Nat) (v3_22 : Int32) (v4_22 : Int32) (M_22 : Mem) (ls : Array Slot) (H : Heap) (locs : List Loc), lv_has ls 8 [(0, .ref (P.2.2.1 0)), (1, .int p1), (2, .int p2), (3, .int v3_22), (4, .int v4_22)] → Hw shR P M_22 s H locs → lq3 (L_X11_rests_22 p1 p2) n_22 v3_22 v4_22 M_22 = some (r, M') → W p l e { frames := 6, cells := 0, slots := 0, locals := 148 } s m args below meth c H locs 0 0 (MQ below (CQ shR P E (some (.int r)) M') args s 0 0 (wA shR P)) (F0 m 22 ls []) := by
    intro n_22
    induction n_22 with
    | zero => intro v3_22 v4_22 M_22 ls H locs hl hw h; cases h
    | succ n_22 ih_22 =>
      intro v3_22 v4_22 M_22 ls H locs hl hw h
      replace h := lq3_succ h
      have cut_99 : ∀ (v3_99 : Int32) (v4_99 : Int32) (w0_99 : Int32) (M_99 : Mem) (ls : Array Slot) (H : Heap) (locs : List Loc), lv_has ls 8 [(0, .ref (P.2.2.1 0)), (1, .int p1), (2, .int p2), (3, .int v3_99), (4, .int v4_99)] → Hw shR P M_99 s H locs → J_X11_rests_99 p1 p2 (lq3 (L_X11_rests_22 p1 p2) n_22) v3_99 v4_99 w0_99 M_99 = some (r, M') → W p l e { frames := 6, cells := 0, slots := 0, locals := 148 } s m args below meth c H locs 0 0 (MQ below (CQ shR P E (some (.int r)) M') args s 0 0 (wA shR P)) (F0 m 99 ls [.int w0_99]) := by
        intro v3_99 v4_99 w0_99 M_99 ls H locs hl hw h
        refine lv_istore (lv' := [(7, .int w0_99), (0, .ref (P.2.2.1 0)), (1, .int p1), (2, .int p2), (3, .int v3_99), (4, .int v4_99)]) hx hb dX11_rests_99 hl (by decide) rfl (fun ls hl => ?_)
        refine lv_iload_n hx hb dX11_rests_101 rfl (lv_at hl 4 rfl) ?_
        refine lv_iload hx hb dX11_rests_102 (lv_at hl 0 rfl) ?_
        refine lv_if_eq (tgt := 114) hx hb dX11_rests_104 (by decide) (fun c15 => ?_) (fun c15 => ?_)
        · replace h := (if_pos c15).symm.trans h
          refine lv_iconst (v := 0) hx hb dX11_rests_114 (by decide) ?_
          refine lv_ior hx hb dX11_rests_115 ?_
          refine lv_topi (fun x16 ex16 => ?_)
          replace h := letv_at ex16 h
          refine lv_istore_n (lv' := [(3, .int x16), (7, .int w0_99), (0, .ref (P.2.2.1 0)), (1, .int p1), (2, .int p2), (4, .int v4_99)]) hx hb dX11_rests_116 rfl hl (by decide) rfl (fun ls hl => ?_)
          refine lv_iinc (v := (v4_99 + 1)) (lv' := [(4, .int (v4_99 + 1)), (3, .int x16), (7, .int w0_99), (0, .ref (P.2.2.1 0)), (1, .int p1), (2, .int p2)]) (k := 5) hx hb dX11_rests_117 hl rfl (congrArg (fun z => v4_99 + z) (by decide)) (by decide) rfl (fun ls hl => ?_)
          refine lv_goto (tgt := 22) hx hb dX11_rests_120 (by decide) ?_
          exact ih_22 x16 (v4_99 + 1) M_99 ls _ _ (lv_sub hl [3, 4, 5, 1, 0] rfl) hw h
        · replace h := (if_neg c15).symm.trans h
          refine lv_iconst (v := 1) hx hb dX11_rests_107 (by decide) ?_
          refine lv_iload hx hb dX11_rests_108 (lv_at hl 5 rfl) ?_
          refine lv_ishl hx hb dX11_rests_110 ?_
          refine lv_goto (tgt := 115) hx hb dX11_rests_111 (by decide) ?_
          refine lv_ior hx hb dX11_rests_115 ?_
          refine lv_topi (fun x17 ex17 => ?_)
          replace h := letv_at ex17 h
          refine lv_istore_n (lv' := [(3, .int x17), (7, .int w0_99), (0, .ref (P.2.2.1 0)), (1, .int p1), (2, .int p2), (4, .int v4_99)]) hx hb dX11_rests_116 rfl hl (by decide) rfl (fun ls hl => ?_)
          refine lv_iinc (v := (v4_99 + 1)) (lv' := [(4, .int (v4_99 + 1)), (3, .int x17), (7, .int w0_99), (0, .ref (P.2.2.1 0)), (1, .int p1), (2, .int p2)]) (k := 5) hx hb dX11_rests_117 hl rfl (congrArg (fun z => v4_99 + z) (by decide)) (by decide) rfl (fun ls hl => ?_)
          refine lv_goto (tgt := 22) hx hb dX11_rests_120 (by decide) ?_
          exact ih_22 x17 (v4_99 + 1) M_99 ls _ _ (lv_sub hl [3, 4, 5, 1, 0] rfl) hw h
      refine lv_iload hx hb dX11_rests_22 (lv_at hl 4 rfl) ?_
      refine lv_iconst (v := 4) hx hb dX11_rests_24 (by decide) ?_
      refine lv_icmp_ge (tgt := 123) hx hb dX11_rests_25 (by decide) (fun c5 => ?_) (fun c5 => ?_)
      · replace h := (if_pos c5).symm.trans h
        refine lv_iload_n hx hb dX11_rests_123 rfl (lv_at hl 3 rfl) ?_
        exact wretI_W C hw h dX11_rests_124
      · replace h := (if_neg c5).symm.trans h
        refine lv_iload hx hb dX11_rests_28 (lv_at hl 4 rfl) ?_
        refine lv_iconst (v := 2) hx hb dX11_rests_30 (by decide) ?_
        refine lv_irem hx hb dX11_rests_31 (by decide) ?_
        refine lv_topi (fun x6 ex6 => ?_)
        replace h := letv_at ex6 h
        refine lv_istore (lv' := [(5, .int x6), (0, .ref (P.2.2.1 0)), (1, .int p1), (2, .int p2), (3, .int v3_22), (4, .int v4_22)]) hx hb dX11_rests_32 hl (by decide) rfl (fun ls hl => ?_)
        refine lv_iload hx hb dX11_rests_34 (lv_at hl 5 rfl) ?_
        refine lv_iconst (v := 2) hx hb dX11_rests_36 (by decide) ?_
        refine lv_idiv hx hb dX11_rests_37 (by decide) ?_
        refine lv_topi (fun x7 ex7 => ?_)
        replace h := letv_at ex7 h
        refine lv_istore (lv' := [(6, .int x7), (5, .int x6), (0, .ref (P.2.2.1 0)), (1, .int p1), (2, .int p2), (3, .int v3_22), (4, .int v4_22)]) hx hb dX11_rests_38 hl (by decide) rfl (fun ls hl => ?_)
        refine lv_aload_n hx hb dX11_rests_40 rfl (lv_at hl 2 rfl) ?_
        refine lv_iload_n hx hb dX11_rests_41 rfl (lv_at hl 3 rfl) ?_
        refine lv_iload_n hx hb dX11_rests_42 rfl (lv_at hl 4 rfl) ?_
        refine lv_iconst (v := 1) hx hb dX11_rests_43 (by decide) ?_
        refine lv_iload hx hb dX11_rests_44 (lv_at hl 1 rfl) ?_
        refine lv_isub hx hb dX11_rests_46 ?_
        refine lv_iload hx hb dX11_rests_47 (lv_at hl 0 rfl) ?_
        refine lv_iconst (v := 0) hx hb dX11_rests_49 (by decide) ?_
        obtain ⟨r8, M10, e9, h⟩ := bnd2_some h
        refine wcallV1 (As := [.int p1, .int p2, .int ((1 : Int32) - x6), .int x7, .int 0]) (rest := []) C hw (c_X11_getsBy hW  e9) vlX11_415 ⟨Nat.le_of_ble_eq_true rfl, Nat.le_of_ble_eq_true rfl⟩ (rfl : _ = some (0, 11)) rfl rfl rfl hl.1 (Nat.le_of_ble_eq_true rfl) dX11_rests_50 ⟨Nat.zero_le _, Nat.zero_le _⟩ (fun H locs hw => ?_)
        refine lv_aload_n hx hb dX11_rests_53 rfl (lv_at hl 2 rfl) ?_
        refine lv_iload_n hx hb dX11_rests_54 rfl (lv_at hl 3 rfl) ?_
        refine lv_iload_n hx hb dX11_rests_55 rfl (lv_at hl 4 rfl) ?_
        refine lv_iload hx hb dX11_rests_56 (lv_at hl 1 rfl) ?_
        refine lv_iload hx hb dX11_rests_58 (lv_at hl 0 rfl) ?_
        refine lv_iconst (v := 0) hx hb dX11_rests_60 (by decide) ?_
        obtain ⟨r11, M13, e12, h⟩ := bnd2_some h
        refine wcallV1 (As := [.int p1, .int p2, .int x6, .int x7, .int 0]) (rest := [.int r8]) C hw (c_X11_getsBy hW  e12) vlX11_415 ⟨Nat.le_of_ble_eq_true rfl, Nat.le_of_ble_eq_true rfl⟩ (rfl : _ = some (0, 11)) rfl rfl rfl hl.1 (Nat.le_of_ble_eq_true rfl) dX11_rests_61 ⟨Nat.zero_le _, Nat.zero_le _⟩ (fun H locs hw => ?_)
        refine lv_icmp_gt (tgt := 98) hx hb dX11_rests_64 (by decide) (fun c14 => ?_) (fun c14 => ?_)
        · replace h := (if_pos c14).symm.trans h
          refine lv_iconst (v := 0) hx hb dX11_rests_98 (by decide) ?_
          exact cut_99 v3_22 v4_22 0 M13 ls _ _ (lv_sub hl [2, 3, 4, 5, 6] rfl) hw h
        · replace h := (if_neg c14).symm.trans h
          refine lv_aload_n hx hb dX11_rests_67 rfl (lv_at hl 2 rfl) ?_
          refine lv_iload_n hx hb dX11_rests_68 rfl (lv_at hl 3 rfl) ?_
          refine lv_iload_n hx hb dX11_rests_69 rfl (lv_at hl 4 rfl) ?_
          refine lv_iload hx hb dX11_rests_70 (lv_at hl 1 rfl) ?_
          refine lv_iconst (v := 1) hx hb dX11_rests_72 (by decide) ?_
          refine lv_iload hx hb dX11_rests_73 (lv_at hl 0 rfl) ?_
          refine lv_isub hx hb dX11_rests_75 ?_
          refine lv_iconst (v := 1) hx hb dX11_rests_76 (by decide) ?_
          obtain ⟨r18, M20, e19, h⟩ := bnd2_some h
          refine wcallV1 (As := [.int p1, .int p2, .int x6, .int ((1 : Int32) - x7), .int 1]) (rest := []) C hw (c_X11_getsBy hW  e19) vlX11_415 ⟨Nat.le_of_ble_eq_true rfl, Nat.le_of_ble_eq_true rfl⟩ (rfl : _ = some (0, 11)) rfl rfl rfl hl.1 (Nat.le_of_ble_eq_true rfl) dX11_rests_77 ⟨Nat.zero_le _, Nat.zero_le _⟩ (fun H locs hw => ?_)
          refine lv_aload_n hx hb dX11_rests_80 rfl (lv_at hl 2 rfl) ?_
          refine lv_iload_n hx hb dX11_rests_81 rfl (lv_at hl 3 rfl) ?_
          refine lv_iload_n hx hb dX11_rests_82 rfl (lv_at hl 4 rfl) ?_
          refine lv_iload hx hb dX11_rests_83 (lv_at hl 1 rfl) ?_
          refine lv_iload hx hb dX11_rests_85 (lv_at hl 0 rfl) ?_
          refine lv_iconst (v := 1) hx hb dX11_rests_87 (by decide) ?_
          obtain ⟨r21, M23, e22, h⟩ := bnd2_some h
          refine wcallV1 (As := [.int p1, .int p2, .int x6, .int x7, .int 1]) (rest := [.int r18]) C hw (c_X11_getsBy hW  e22) vlX11_415 ⟨Nat.le_of_ble_eq_true rfl, Nat.le_of_ble_eq_true rfl⟩ (rfl : _ = some (0, 11)) rfl rfl rfl hl.1 (Nat.le_of_ble_eq_true rfl) dX11_rests_88 ⟨Nat.zero_le _, Nat.zero_le _⟩ (fun H locs hw => ?_)
          refine lv_icmp_gt (tgt := 98) hx hb dX11_rests_91 (by decide) (fun c24 => ?_) (fun c24 => ?_)
          · replace h := (if_pos c24).symm.trans h
            refine lv_iconst (v := 0) hx hb dX11_rests_98 (by decide) ?_
            exact cut_99 v3_22 v4_22 0 M23 ls _ _ (lv_sub hl [2, 3, 4, 5, 6] rfl) hw h
          · replace h := (if_neg c24).symm.trans h
            refine lv_iconst (v := 1) hx hb dX11_rests_94 (by decide) ?_
            refine lv_goto (tgt := 99) hx hb dX11_rests_95 (by decide) ?_
            exact cut_99 v3_22 v4_22 1 M23 ls _ _ (lv_sub hl [2, 3, 4, 5, 6] rfl) hw h
  refine lv_aload_n hx hb dX11_rests_0 rfl (lv_at hl 0 rfl) ?_
  refine lv_iconst (v := 0) hx hb dX11_rests_1 (by decide) ?_
  refine wputI C hw fpX11_77 (rfl : _ = some (0, 11)) dX11_rests_2 (fun M1 eM1 H locs hw => ?_)
  replace h := letv_at eM1 h
  refine lv_aload_n hx hb dX11_rests_5 rfl (lv_at hl 0 rfl) ?_
  refine lv_iload_n hx hb dX11_rests_6 rfl (lv_at hl 1 rfl) ?_
  refine lv_iload_n hx hb dX11_rests_7 rfl (lv_at hl 2 rfl) ?_
  obtain ⟨r2, e3, h⟩ := bnd_some h
  refine wcallV1 (As := [.int p1, .int p2]) (rest := []) C hw (c_X11_areTwo hW  e3) vlX11_412 ⟨Nat.le_of_ble_eq_true rfl, Nat.le_of_ble_eq_true rfl⟩ (rfl : _ = some (0, 11)) rfl rfl rfl hl.1 (Nat.le_of_ble_eq_true rfl) dX11_rests_8 ⟨Nat.zero_le _, Nat.zero_le _⟩ (fun H locs hw => ?_)
  refine lv_if_ne (tgt := 17) hx hb dX11_rests_11 (by decide) (fun c4 => ?_) (fun c4 => ?_)
  · replace h := (if_neg c4).symm.trans h
    refine lv_iconst (v := 0) hx hb dX11_rests_17 (by decide) ?_
    refine lv_istore_n (lv' := [(3, .int 0), (0, .ref (P.2.2.1 0)), (1, .int p1), (2, .int p2)]) hx hb dX11_rests_18 rfl hl (by decide) rfl (fun ls hl => ?_)
    refine lv_iconst (v := 0) hx hb dX11_rests_19 (by decide) ?_
    refine lv_istore (lv' := [(4, .int 0), (3, .int 0), (0, .ref (P.2.2.1 0)), (1, .int p1), (2, .int p2)]) hx hb dX11_rests_20 hl (by decide) rfl (fun ls hl => ?_)
    exact cut_22 FU 0 0 M1 ls _ _ (lv_sub hl [2, 3, 4, 1, 0] rfl) hw h
  · replace h := (if_pos c4).symm.trans h
    refine lv_bipush (v := (-2)) hx hb dX11_rests_14 (by decide) ?_
    exact wretI_W C hw h dX11_rests_16
set_option maxRecDepth 100000 in
set_option maxHeartbeats 4000000 in
theorem c_X11_gets {l : Launch} {P : Wp} {E : State → Heap → Prop} (hW : Wok shR P E) {p1 : Int32} {p2 : Int32} {p3 : Int32} {p4 : Int32} {p5 : Int32} {M : Mem} {r : Int32} {M' : Mem} (h : f_X11_gets p1 p2 p3 p4 p5 M = some (r, M')) : CT l shR P E yX11_gets bX11_gets 6 ((some .int)) 6 148 [.ref (P.2.2.1 0), .int p1, .int p2, .int p3, .int p4, .int p5] (some (.int r)) M M' := by
  refine ct_of hW (by decide) (Nat.le_of_ble_eq_true rfl) (fun p e s m args below meth c C ls hl hw => ?_)
  have hx := C.1
  have hb := C.2.1
  replace hl : lv_has ls 6 [(0, .ref (P.2.2.1 0)), (1, .int p1), (2, .int p2), (3, .int p3), (4, .int p4), (5, .int p5)] := hl
  refine lv_aload_n hx hb dX11_gets_0 rfl (lv_at hl 0 rfl) ?_
  refine lv_iconst (v := 0) hx hb dX11_gets_1 (by decide) ?_
  refine wputI C hw fpX11_77 (rfl : _ = some (0, 11)) dX11_gets_2 (fun M1 eM1 H locs hw => ?_)
  replace h := letv_at eM1 h
  refine lv_aload_n hx hb dX11_gets_5 rfl (lv_at hl 0 rfl) ?_
  refine lv_iload_n hx hb dX11_gets_6 rfl (lv_at hl 1 rfl) ?_
  refine lv_iload_n hx hb dX11_gets_7 rfl (lv_at hl 2 rfl) ?_
  obtain ⟨r2, e3, h⟩ := bnd_some h
  refine wcallV1 (As := [.int p1, .int p2]) (rest := []) C hw (c_X11_areTwo hW  e3) vlX11_412 ⟨Nat.le_of_ble_eq_true rfl, Nat.le_of_ble_eq_true rfl⟩ (rfl : _ = some (0, 11)) rfl rfl rfl hl.1 (Nat.le_of_ble_eq_true rfl) dX11_gets_8 ⟨Nat.zero_le _, Nat.zero_le _⟩ (fun H locs hw => ?_)
  refine lv_if_eq (tgt := 51) hx hb dX11_gets_11 (by decide) (fun c4 => ?_) (fun c4 => ?_)
  · replace h := (if_pos c4).symm.trans h
    refine lv_sipush (v := (-1000)) hx hb dX11_gets_51 (by decide) ?_
    exact wretI_W C hw h dX11_gets_54
  · replace h := (if_neg c4).symm.trans h
    refine lv_iload_n hx hb dX11_gets_14 rfl (lv_at hl 3 rfl) ?_
    refine wcallS1 (As := [.int p3]) (rest := []) C hw (c_X11_isHalf hW  rfl) slX11_404 ⟨Nat.le_of_ble_eq_true rfl, Nat.le_of_ble_eq_true rfl⟩ rfl rfl hl.1 (Nat.le_of_ble_eq_true rfl) dX11_gets_15 ⟨Nat.zero_le _, Nat.zero_le _⟩ (fun H locs hw => ?_)
    refine lv_if_eq (tgt := 51) hx hb dX11_gets_18 (by decide) (fun c5 => ?_) (fun c5 => ?_)
    · replace h := (if_pos c5).symm.trans h
      refine lv_sipush (v := (-1000)) hx hb dX11_gets_51 (by decide) ?_
      exact wretI_W C hw h dX11_gets_54
    · replace h := (if_neg c5).symm.trans h
      refine lv_iload hx hb dX11_gets_21 (lv_at hl 4 rfl) ?_
      refine wcallS1 (As := [.int p4]) (rest := []) C hw (c_X11_isHalf hW  rfl) slX11_404 ⟨Nat.le_of_ble_eq_true rfl, Nat.le_of_ble_eq_true rfl⟩ rfl rfl hl.1 (Nat.le_of_ble_eq_true rfl) dX11_gets_23 ⟨Nat.zero_le _, Nat.zero_le _⟩ (fun H locs hw => ?_)
      refine lv_if_eq (tgt := 51) hx hb dX11_gets_26 (by decide) (fun c6 => ?_) (fun c6 => ?_)
      · replace h := (if_pos c6).symm.trans h
        refine lv_sipush (v := (-1000)) hx hb dX11_gets_51 (by decide) ?_
        exact wretI_W C hw h dX11_gets_54
      · replace h := (if_neg c6).symm.trans h
        refine lv_iload hx hb dX11_gets_29 (lv_at hl 5 rfl) ?_
        refine wcallS1 (As := [.int p5]) (rest := []) C hw (c_X11_isHalf hW  rfl) slX11_404 ⟨Nat.le_of_ble_eq_true rfl, Nat.le_of_ble_eq_true rfl⟩ rfl rfl hl.1 (Nat.le_of_ble_eq_true rfl) dX11_gets_31 ⟨Nat.zero_le _, Nat.zero_le _⟩ (fun H locs hw => ?_)
        refine lv_if_eq (tgt := 51) hx hb dX11_gets_34 (by decide) (fun c7 => ?_) (fun c7 => ?_)
        · replace h := (if_pos c7).symm.trans h
          refine lv_sipush (v := (-1000)) hx hb dX11_gets_51 (by decide) ?_
          exact wretI_W C hw h dX11_gets_54
        · replace h := (if_neg c7).symm.trans h
          refine lv_aload_n hx hb dX11_gets_37 rfl (lv_at hl 0 rfl) ?_
          refine lv_iload_n hx hb dX11_gets_38 rfl (lv_at hl 1 rfl) ?_
          refine lv_iload_n hx hb dX11_gets_39 rfl (lv_at hl 2 rfl) ?_
          refine lv_iload_n hx hb dX11_gets_40 rfl (lv_at hl 3 rfl) ?_
          refine lv_iload hx hb dX11_gets_41 (lv_at hl 4 rfl) ?_
          refine lv_iload hx hb dX11_gets_43 (lv_at hl 5 rfl) ?_
          obtain ⟨r8, M10, e9, h⟩ := bnd2_some h
          refine wcallV1 (As := [.int p1, .int p2, .int p3, .int p4, .int p5]) (rest := []) C hw (c_X11_getsBy hW  e9) vlX11_415 ⟨Nat.le_of_ble_eq_true rfl, Nat.le_of_ble_eq_true rfl⟩ (rfl : _ = some (0, 11)) rfl rfl rfl hl.1 (Nat.le_of_ble_eq_true rfl) dX11_gets_45 ⟨Nat.zero_le _, Nat.zero_le _⟩ (fun H locs hw => ?_)
          refine lv_goto (tgt := 54) hx hb dX11_gets_48 (by decide) ?_
          exact wretI_W C hw h dX11_gets_54
set_option maxRecDepth 100000 in
set_option maxHeartbeats 4000000 in
theorem cr_X11_power {l : Launch} {P : Wp} {E : State → Heap → Prop} (hW : Wok shR P E) {M : Mem} : ∀ (n : Nat) {p0 : Int64} {p2 : Int32} {r : Int64} (h : fr_X11_power n p0 p2 = some r), CT l shR P E yX11_power bX11_power 3 ((some .long)) n (40 * n) [.long p0, .int p2] (some (.long r)) M M := by
  intro n
  induction n with
  | zero => intro p0 p2 r h; cases h
  | succ n ih =>
    intro p0 p2 r h
    refine ct_of hW (by decide) (Nat.le_of_ble_eq_true rfl) (fun p e s m args below meth c C ls hl hw => ?_)
    have hx := C.1
    have hb := C.2.1
    replace hl : lv_has ls 3 [(0, .long p0), (2, .int p2)] := hl
    refine lv_iload_n hx hb dX11_power_0 rfl (lv_at hl 1 rfl) ?_
    refine lv_if_ne (tgt := 8) hx hb dX11_power_1 (by decide) (fun c1 => ?_) (fun c1 => ?_)
    · replace h := (if_neg c1).symm.trans h
      refine lv_lload_n hx hb dX11_power_8 rfl (lv_at hl 0 rfl) ?_
      refine lv_lload_n hx hb dX11_power_9 rfl (lv_at hl 0 rfl) ?_
      refine lv_iload_n hx hb dX11_power_10 rfl (lv_at hl 1 rfl) ?_
      refine lv_iconst (v := 1) hx hb dX11_power_11 (by decide) ?_
      refine lv_isub hx hb dX11_power_12 ?_
      obtain ⟨r2, e3, h⟩ := bnd_some h
      refine wcallS1 (As := [.long p0, .int (p2 - (1 : Int32))]) (rest := [.long p0]) C hw (ih e3) slX11_419 ⟨Nat.le_refl _, by show 8 + (3 + 11) + 40 * n ≤ 40 * (n + 1); omega⟩ rfl rfl hl.1 (Nat.le_of_ble_eq_true rfl) dX11_power_13 ⟨Nat.zero_le _, Nat.zero_le _⟩ (fun H locs hw => ?_)
      refine lv_lmul hx hb dX11_power_16 ?_
      exact wretJ_R C hw h dX11_power_17
    · replace h := (if_pos c1).symm.trans h
      refine lv_lconst (v := 1) hx hb dX11_power_4 (by decide) ?_
      refine lv_goto (tgt := 17) hx hb dX11_power_5 (by decide) ?_
      exact wretJ_R C hw h dX11_power_17
theorem c_X11_power {l : Launch} {P : Wp} {E : State → Heap → Prop} (hW : Wok shR P E) {p0 : Int64} {p2 : Int32} {M : Mem} {r : Int64} (h : f_X11_power p0 p2 = some r) : CT l shR P E yX11_power bX11_power 3 ((some .long)) 20 800 [.long p0, .int p2] (some (.long r)) M M := cr_X11_power hW 20 h
set_option maxRecDepth 100000 in
set_option maxHeartbeats 4000000 in
theorem c_X11_weightOf {l : Launch} {P : Wp} {E : State → Heap → Prop} (hW : Wok shR P E) {p1 : Int32} {p2 : Int32} {M : Mem} {r : Int64} {M' : Mem} (h : f_X11_weightOf p1 p2 M = some (r, M')) : CT l shR P E yX11_weightOf bX11_weightOf 8 ((some .long)) 21 822 [.ref (P.2.2.1 0), .int p1, .int p2] (some (.long r)) M M' := by
  refine ct_of hW (by decide) (Nat.le_of_ble_eq_true rfl) (fun p e s m args below meth c C ls hl hw => ?_)
  have hx := C.1
  have hb := C.2.1
  replace hl : lv_has ls 8 [(0, .ref (P.2.2.1 0)), (1, .int p1), (2, .int p2)] := hl
  have cut_9 : ∀ (n_9 : Nat) (v3_9 : Int64) (v5_9 : Int32) (M_9 : Mem) (ls : Array Slot) (H : Heap) (locs : List Loc), lv_has ls 8 [(0, .ref (P.2.2.1 0)), (1, .int p1), (2, .int p2), (3, .long v3_9), (5, .int v5_9)] → Hw shR P M_9 s H locs → lq3 (L_X11_weightOf_9 p1 p2) n_9 v3_9 v5_9 M_9 = some (r, M') → W p l e { frames := 21, cells := 0, slots := 0, locals := 822 } s m args below meth c H locs 0 0 (MQ below (CQ shR P E (some (.long r)) M') args s 0 0 (wA shR P)) (F0 m 9 ls []) := by
    intro n_9
    induction n_9 with
    | zero => intro v3_9 v5_9 M_9 ls H locs hl hw h; cases h
    | succ n_9 ih_9 =>
      intro v3_9 v5_9 M_9 ls H locs hl hw h
      replace h := lq3_succ h
      have cut_33 : ∀ (v3_33 : Int64) (v5_33 : Int32) (n_33 : Nat) (v6_33 : Int32) (v7_33 : Int32) (M_33 : Mem) (ls : Array Slot) (H : Heap) (locs : List Loc), lv_has ls 8 [(0, .ref (P.2.2.1 0)), (1, .int p1), (2, .int p2), (3, .long v3_33), (5, .int v5_33), (6, .int v6_33), (7, .int v7_33)] → Hw shR P M_33 s H locs → lq3 (L_X11_weightOf_33 p1 p2 (lq3 (L_X11_weightOf_9 p1 p2) n_9) v3_33 v5_33) n_33 v6_33 v7_33 M_33 = some (r, M') → W p l e { frames := 21, cells := 0, slots := 0, locals := 822 } s m args below meth c H locs 0 0 (MQ below (CQ shR P E (some (.long r)) M') args s 0 0 (wA shR P)) (F0 m 33 ls []) := by
        intro v3_33 v5_33 n_33
        induction n_33 with
        | zero => intro v6_33 v7_33 M_33 ls H locs hl hw h; cases h
        | succ n_33 ih_33 =>
          intro v6_33 v7_33 M_33 ls H locs hl hw h
          replace h := lq3_succ h
          have cut_55 : ∀ (v7_55 : Int32) (w0_55 : Int32) (M_55 : Mem) (ls : Array Slot) (H : Heap) (locs : List Loc), lv_has ls 8 [(0, .ref (P.2.2.1 0)), (1, .int p1), (2, .int p2), (3, .long v3_33), (5, .int v5_33), (7, .int v7_55)] → Hw shR P M_55 s H locs → J_X11_weightOf_55 p1 p2 v3_33 v5_33 (lq3 (L_X11_weightOf_9 p1 p2) n_9) (lq3 (L_X11_weightOf_33 p1 p2 (lq3 (L_X11_weightOf_9 p1 p2) n_9) v3_33 v5_33) n_33) v7_55 w0_55 M_55 = some (r, M') → W p l e { frames := 21, cells := 0, slots := 0, locals := 822 } s m args below meth c H locs 0 0 (MQ below (CQ shR P E (some (.long r)) M') args s 0 0 (wA shR P)) (F0 m 55 ls [.int w0_55]) := by
            intro v7_55 w0_55 M_55 ls H locs hl hw h
            refine lv_aload_n hx hb dX11_weightOf_55 rfl (lv_at hl 0 rfl) ?_
            refine lv_iload hx hb dX11_weightOf_56 (lv_at hl 5 rfl) ?_
            refine lv_iload_n hx hb dX11_weightOf_58 rfl (lv_at hl 2 rfl) ?_
            obtain ⟨r24, e25, h⟩ := bnd_some h
            refine wcallV1 (As := [.int v7_55, .int p2]) (rest := [.int w0_55]) C hw (c_X11_isWhole hW  e25) vlX11_320 ⟨Nat.le_of_ble_eq_true rfl, Nat.le_of_ble_eq_true rfl⟩ (rfl : _ = some (0, 11)) rfl rfl rfl hl.1 (Nat.le_of_ble_eq_true rfl) dX11_weightOf_59 ⟨Nat.zero_le _, Nat.zero_le _⟩ (fun H locs hw => ?_)
            refine lv_if_eq (tgt := 69) hx hb dX11_weightOf_62 (by decide) (fun c26 => ?_) (fun c26 => ?_)
            · replace h := (if_pos c26).symm.trans h
              refine lv_iconst (v := 0) hx hb dX11_weightOf_69 (by decide) ?_
              refine lv_iadd hx hb dX11_weightOf_70 ?_
              refine lv_topi (fun x27 ex27 => ?_)
              replace h := letv_at ex27 h
              refine lv_istore (lv' := [(6, .int x27), (0, .ref (P.2.2.1 0)), (1, .int p1), (2, .int p2), (3, .long v3_33), (5, .int v5_33), (7, .int v7_55)]) hx hb dX11_weightOf_71 hl (by decide) rfl (fun ls hl => ?_)
              refine lv_iinc (v := (v7_55 + 1)) (lv' := [(7, .int (v7_55 + 1)), (6, .int x27), (0, .ref (P.2.2.1 0)), (1, .int p1), (2, .int p2), (3, .long v3_33), (5, .int v5_33)]) (k := 6) hx hb dX11_weightOf_73 hl rfl (congrArg (fun z => v7_55 + z) (by decide)) (by decide) rfl (fun ls hl => ?_)
              refine lv_goto (tgt := 33) hx hb dX11_weightOf_76 (by decide) ?_
              exact ih_33 x27 (v7_55 + 1) M_55 ls _ _ (lv_sub hl [2, 3, 4, 5, 6, 1, 0] rfl) hw h
            · replace h := (if_neg c26).symm.trans h
              refine lv_iconst (v := 1) hx hb dX11_weightOf_65 (by decide) ?_
              refine lv_goto (tgt := 70) hx hb dX11_weightOf_66 (by decide) ?_
              refine lv_iadd hx hb dX11_weightOf_70 ?_
              refine lv_topi (fun x28 ex28 => ?_)
              replace h := letv_at ex28 h
              refine lv_istore (lv' := [(6, .int x28), (0, .ref (P.2.2.1 0)), (1, .int p1), (2, .int p2), (3, .long v3_33), (5, .int v5_33), (7, .int v7_55)]) hx hb dX11_weightOf_71 hl (by decide) rfl (fun ls hl => ?_)
              refine lv_iinc (v := (v7_55 + 1)) (lv' := [(7, .int (v7_55 + 1)), (6, .int x28), (0, .ref (P.2.2.1 0)), (1, .int p1), (2, .int p2), (3, .long v3_33), (5, .int v5_33)]) (k := 6) hx hb dX11_weightOf_73 hl rfl (congrArg (fun z => v7_55 + z) (by decide)) (by decide) rfl (fun ls hl => ?_)
              refine lv_goto (tgt := 33) hx hb dX11_weightOf_76 (by decide) ?_
              exact ih_33 x28 (v7_55 + 1) M_55 ls _ _ (lv_sub hl [2, 3, 4, 5, 6, 1, 0] rfl) hw h
          refine lv_iload hx hb dX11_weightOf_33 (lv_at hl 6 rfl) ?_
          refine lv_aload_n hx hb dX11_weightOf_35 rfl (lv_at hl 0 rfl) ?_
          obtain ⟨r9, e10, h⟩ := bnd_some h
          refine wcallV1 (As := []) (rest := [.int v7_33]) C hw (c_X11_pieces hW  e10) vlX11_227 ⟨Nat.le_of_ble_eq_true rfl, Nat.le_of_ble_eq_true rfl⟩ (rfl : _ = some (0, 11)) rfl rfl rfl hl.1 (Nat.le_of_ble_eq_true rfl) dX11_weightOf_36 ⟨Nat.zero_le _, Nat.zero_le _⟩ (fun H locs hw => ?_)
          refine lv_icmp_ge (tgt := 79) hx hb dX11_weightOf_39 (by decide) (fun c11 => ?_) (fun c11 => ?_)
          · replace h := (if_pos c11).symm.trans h
            refine lv_lload_n hx hb dX11_weightOf_79 rfl (lv_at hl 3 rfl) ?_
            refine lv_aload_n hx hb dX11_weightOf_80 rfl (lv_at hl 0 rfl) ?_
            refine wgetR (t := 7) C hw flX11_34 (rfl : _ = some (0, 11)) rfl dX11_weightOf_81 ?_
            refine lv_iconst (v := 2) hx hb dX11_weightOf_84 (by decide) ?_
            obtain ⟨g12, h⟩ := grd h
            refine wald C hw (rfl : _ = some (1, 40)) g12 dX11_weightOf_85 ?_
            refine lv_i2l hx hb dX11_weightOf_86 rfl ?_
            refine lv_iload hx hb dX11_weightOf_87 (lv_at hl 4 rfl) ?_
            obtain ⟨r13, e14, h⟩ := bnd_some h
            refine wcallS1 (As := [.int v5_33]) (rest := [.long (((M_33.1 7 (ix 2)) : Int32).toInt64), .long v3_33]) C hw (c_X11_sizeOf hW  e14) slX11_335 ⟨Nat.le_of_ble_eq_true rfl, Nat.le_of_ble_eq_true rfl⟩ rfl rfl hl.1 (Nat.le_of_ble_eq_true rfl) dX11_weightOf_89 ⟨Nat.zero_le _, Nat.zero_le _⟩ (fun H locs hw => ?_)
            obtain ⟨r15, e16, h⟩ := bnd_some h
            refine wcallS1 (As := [.long (((M_33.1 7 (ix 2)) : Int32).toInt64), .int r13]) (rest := [.long v3_33]) C hw (c_X11_power hW  e16) slX11_419 ⟨Nat.le_of_ble_eq_true rfl, Nat.le_of_ble_eq_true rfl⟩ rfl rfl hl.1 (Nat.le_of_ble_eq_true rfl) dX11_weightOf_92 ⟨Nat.zero_le _, Nat.zero_le _⟩ (fun H locs hw => ?_)
            refine lv_ldc2 hx hb C.2.2.2.1 (C.2.2.2.2.1 _ (List.mem_cons_of_mem _ (gm kcX11_422 rfl))) dX11_weightOf_95 ?_
            refine lv_aload_n hx hb dX11_weightOf_98 rfl (lv_at hl 0 rfl) ?_
            refine wgetR (t := 7) C hw flX11_34 (rfl : _ = some (0, 11)) rfl dX11_weightOf_99 ?_
            refine lv_iconst (v := 2) hx hb dX11_weightOf_102 (by decide) ?_
            obtain ⟨g17, h⟩ := grd h
            refine wald C hw (rfl : _ = some (1, 40)) g17 dX11_weightOf_103 ?_
            refine lv_i2l hx hb dX11_weightOf_104 rfl ?_
            refine lv_lsub hx hb dX11_weightOf_105 ?_
            refine lv_iload_n hx hb dX11_weightOf_106 rfl (lv_at hl 2 rfl) ?_
            refine lv_iload hx hb dX11_weightOf_107 (lv_at hl 4 rfl) ?_
            obtain ⟨r18, e19, h⟩ := bnd_some h
            refine wcallS1 (As := [.int v5_33]) (rest := [.int p2, .long ((10 : Int64) - (((M_33.1 7 (ix 2)) : Int32).toInt64)), .long r15, .long v3_33]) C hw (c_X11_sizeOf hW  e19) slX11_335 ⟨Nat.le_of_ble_eq_true rfl, Nat.le_of_ble_eq_true rfl⟩ rfl rfl hl.1 (Nat.le_of_ble_eq_true rfl) dX11_weightOf_109 ⟨Nat.zero_le _, Nat.zero_le _⟩ (fun H locs hw => ?_)
            refine lv_isub hx hb dX11_weightOf_112 ?_
            obtain ⟨r20, e21, h⟩ := bnd_some h
            refine wcallS1 (As := [.long ((10 : Int64) - (((M_33.1 7 (ix 2)) : Int32).toInt64)), .int (p2 - r18)]) (rest := [.long r15, .long v3_33]) C hw (c_X11_power hW  e21) slX11_419 ⟨Nat.le_of_ble_eq_true rfl, Nat.le_of_ble_eq_true rfl⟩ rfl rfl hl.1 (Nat.le_of_ble_eq_true rfl) dX11_weightOf_113 ⟨Nat.zero_le _, Nat.zero_le _⟩ (fun H locs hw => ?_)
            refine lv_lmul hx hb dX11_weightOf_116 ?_
            refine lv_iload hx hb dX11_weightOf_117 (lv_at hl 5 rfl) ?_
            refine lv_i2l hx hb dX11_weightOf_119 rfl ?_
            refine lv_lmul hx hb dX11_weightOf_120 ?_
            refine lv_ladd hx hb dX11_weightOf_121 ?_
            refine lv_topl (fun x22 ex22 => ?_)
            replace h := letv_at ex22 h
            refine lv_lstore_n (lv' := [(3, .long x22), (0, .ref (P.2.2.1 0)), (1, .int p1), (2, .int p2), (5, .int v5_33), (6, .int v6_33), (7, .int v7_33)]) hx hb dX11_weightOf_122 rfl hl (by decide) rfl (fun ls hl => ?_)
            refine lv_iinc (v := (v5_33 + 1)) (lv' := [(5, .int (v5_33 + 1)), (3, .long x22), (0, .ref (P.2.2.1 0)), (1, .int p1), (2, .int p2), (6, .int v6_33), (7, .int v7_33)]) (k := 4) hx hb dX11_weightOf_123 hl rfl (congrArg (fun z => v5_33 + z) (by decide)) (by decide) rfl (fun ls hl => ?_)
            refine lv_goto (tgt := 9) hx hb dX11_weightOf_126 (by decide) ?_
            exact ih_9 x22 (v5_33 + 1) M_33 ls _ _ (lv_sub hl [2, 3, 4, 1, 0] rfl) hw h
          · replace h := (if_neg c11).symm.trans h
            refine lv_iload hx hb dX11_weightOf_42 (lv_at hl 5 rfl) ?_
            refine lv_iload_n hx hb dX11_weightOf_44 rfl (lv_at hl 1 rfl) ?_
            refine lv_iconst (v := (-1)) hx hb dX11_weightOf_45 (by decide) ?_
            refine lv_icmp_eq (tgt := 55) hx hb dX11_weightOf_46 (by decide) (fun c23 => ?_) (fun c23 => ?_)
            · replace h := (if_pos c23).symm.trans h
              exact cut_55 v7_33 v6_33 M_33 ls _ _ (lv_sub hl [0, 1, 2, 3, 4, 6] rfl) hw h
            · replace h := (if_neg c23).symm.trans h
              refine lv_iload hx hb dX11_weightOf_49 (lv_at hl 6 rfl) ?_
              refine lv_iload_n hx hb dX11_weightOf_51 rfl (lv_at hl 1 rfl) ?_
              refine lv_icmp_ne (tgt := 69) hx hb dX11_weightOf_52 (by decide) (fun c29 => ?_) (fun c29 => ?_)
              · replace h := (if_neg c29).symm.trans h
                refine lv_iconst (v := 0) hx hb dX11_weightOf_69 (by decide) ?_
                refine lv_iadd hx hb dX11_weightOf_70 ?_
                refine lv_topi (fun x30 ex30 => ?_)
                replace h := letv_at ex30 h
                refine lv_istore (lv' := [(6, .int x30), (0, .ref (P.2.2.1 0)), (1, .int p1), (2, .int p2), (3, .long v3_33), (5, .int v5_33), (7, .int v7_33)]) hx hb dX11_weightOf_71 hl (by decide) rfl (fun ls hl => ?_)
                refine lv_iinc (v := (v7_33 + 1)) (lv' := [(7, .int (v7_33 + 1)), (6, .int x30), (0, .ref (P.2.2.1 0)), (1, .int p1), (2, .int p2), (3, .long v3_33), (5, .int v5_33)]) (k := 6) hx hb dX11_weightOf_73 hl rfl (congrArg (fun z => v7_33 + z) (by decide)) (by decide) rfl (fun ls hl => ?_)
                refine lv_goto (tgt := 33) hx hb dX11_weightOf_76 (by decide) ?_
                exact ih_33 x30 (v7_33 + 1) M_33 ls _ _ (lv_sub hl [2, 3, 4, 5, 6, 1, 0] rfl) hw h
              · replace h := (if_pos c29).symm.trans h
                exact cut_55 v7_33 v6_33 M_33 ls _ _ (lv_sub hl [0, 1, 2, 3, 4, 6] rfl) hw h
      refine lv_iload hx hb dX11_weightOf_9 (lv_at hl 4 rfl) ?_
      refine lv_iconst (v := 1) hx hb dX11_weightOf_11 (by decide) ?_
      refine lv_iload_n hx hb dX11_weightOf_12 rfl (lv_at hl 2 rfl) ?_
      refine lv_ishl hx hb dX11_weightOf_13 ?_
      refine lv_icmp_ge (tgt := 129) hx hb dX11_weightOf_14 (by decide) (fun c4 => ?_) (fun c4 => ?_)
      · replace h := (if_pos c4).symm.trans h
        refine lv_lload_n hx hb dX11_weightOf_129 rfl (lv_at hl 3 rfl) ?_
        exact wretJ_W C hw h dX11_weightOf_130
      · replace h := (if_neg c4).symm.trans h
        refine lv_aload_n hx hb dX11_weightOf_17 rfl (lv_at hl 0 rfl) ?_
        refine lv_iload hx hb dX11_weightOf_18 (lv_at hl 4 rfl) ?_
        refine wputI C hw fpX11_249 (rfl : _ = some (0, 11)) dX11_weightOf_20 (fun M5 eM5 H locs hw => ?_)
        replace h := letv_at eM5 h
        refine lv_aload_n hx hb dX11_weightOf_23 rfl (lv_at hl 0 rfl) ?_
        obtain ⟨M8, e7, h⟩ := bnd_some h
        refine wcallV0 (As := []) (rest := []) C hw (c_X11_runs hW  e7) vlX11_299 ⟨Nat.le_of_ble_eq_true rfl, Nat.le_of_ble_eq_true rfl⟩ (rfl : _ = some (0, 11)) rfl rfl rfl hl.1 (Nat.le_of_ble_eq_true rfl) dX11_weightOf_24 ⟨Nat.zero_le _, Nat.zero_le _⟩ (fun H locs hw => ?_)
        refine lv_iconst (v := 0) hx hb dX11_weightOf_27 (by decide) ?_
        refine lv_istore (lv' := [(6, .int 0), (0, .ref (P.2.2.1 0)), (1, .int p1), (2, .int p2), (3, .long v3_9), (5, .int v5_9)]) hx hb dX11_weightOf_28 hl (by decide) rfl (fun ls hl => ?_)
        refine lv_iconst (v := 0) hx hb dX11_weightOf_30 (by decide) ?_
        refine lv_istore (lv' := [(7, .int 0), (6, .int 0), (0, .ref (P.2.2.1 0)), (1, .int p1), (2, .int p2), (3, .long v3_9), (5, .int v5_9)]) hx hb dX11_weightOf_31 hl (by decide) rfl (fun ls hl => ?_)
        exact cut_33 v3_9 v5_9 FU 0 0 M8 ls _ _ (lv_sub hl [2, 3, 4, 5, 6, 1, 0] rfl) hw h
  refine lv_aload_n hx hb dX11_weightOf_0 rfl (lv_at hl 0 rfl) ?_
  obtain ⟨M3, e2, h⟩ := bnd_some h
  refine wcallV0 (As := []) (rest := []) C hw (c_X11_lays hW  e2) vlX11_296 ⟨Nat.le_of_ble_eq_true rfl, Nat.le_of_ble_eq_true rfl⟩ (rfl : _ = some (0, 11)) rfl rfl rfl hl.1 (Nat.le_of_ble_eq_true rfl) dX11_weightOf_1 ⟨Nat.zero_le _, Nat.zero_le _⟩ (fun H locs hw => ?_)
  refine lv_lconst (v := 0) hx hb dX11_weightOf_4 (by decide) ?_
  refine lv_lstore_n (lv' := [(3, .long 0), (0, .ref (P.2.2.1 0)), (1, .int p1), (2, .int p2)]) hx hb dX11_weightOf_5 rfl hl (by decide) rfl (fun ls hl => ?_)
  refine lv_iconst (v := 0) hx hb dX11_weightOf_6 (by decide) ?_
  refine lv_istore (lv' := [(5, .int 0), (3, .long 0), (0, .ref (P.2.2.1 0)), (1, .int p1), (2, .int p2)]) hx hb dX11_weightOf_7 hl (by decide) rfl (fun ls hl => ?_)
  exact cut_9 FU 0 0 M3 ls _ _ (lv_sub hl [2, 3, 4, 1, 0] rfl) hw h
set_option maxRecDepth 100000 in
set_option maxHeartbeats 4000000 in
theorem c_X11_isSoon {l : Launch} {P : Wp} {E : State → Heap → Prop} (hW : Wok shR P E) {p1 : Int32} {M : Mem} {r : Int32} (h : f_X11_isSoon p1 M = some r) : CT l shR P E yX11_isSoon bX11_isSoon 2 ((some .boolean)) 1 25 [.ref (P.2.2.1 0), .int p1] (some (.int r)) M M := by
  refine ct_of hW (by decide) (Nat.le_of_ble_eq_true rfl) (fun p e s m args below meth c C ls hl hw => ?_)
  have hx := C.1
  have hb := C.2.1
  replace hl : lv_has ls 2 [(0, .ref (P.2.2.1 0)), (1, .int p1)] := hl
  refine lv_aload_n hx hb dX11_isSoon_0 rfl (lv_at hl 0 rfl) ?_
  obtain ⟨r1, e2, h⟩ := bnd_some h
  refine wcallV1 (As := []) (rest := []) C hw (c_X11_isLehr hW  e2) vlX11_231 ⟨Nat.le_of_ble_eq_true rfl, Nat.le_of_ble_eq_true rfl⟩ (rfl : _ = some (0, 11)) rfl rfl rfl hl.1 (Nat.le_of_ble_eq_true rfl) dX11_isSoon_1 ⟨Nat.zero_le _, Nat.zero_le _⟩ (fun H locs hw => ?_)
  refine lv_if_eq (tgt := 30) hx hb dX11_isSoon_4 (by decide) (fun c3 => ?_) (fun c3 => ?_)
  · replace h := (if_pos c3).symm.trans h
    refine lv_iconst (v := 0) hx hb dX11_isSoon_30 (by decide) ?_
    exact wretZ_R C hw (Or.inl rfl) h dX11_isSoon_31
  · replace h := (if_neg c3).symm.trans h
    refine lv_iload_n hx hb dX11_isSoon_7 rfl (lv_at hl 1 rfl) ?_
    refine lv_i2l hx hb dX11_isSoon_8 rfl ?_
    refine lv_lconst (v := 1) hx hb dX11_isSoon_9 (by decide) ?_
    refine lv_bipush (v := 8) hx hb dX11_isSoon_10 (by decide) ?_
    refine lv_aload_n hx hb dX11_isSoon_12 rfl (lv_at hl 0 rfl) ?_
    obtain ⟨r4, e5, h⟩ := bnd_some h
    refine wcallV1 (As := []) (rest := [.int 8, .long 1, .long ((p1 : Int32).toInt64)]) C hw (c_X11_steps hW  e5) vlX11_234 ⟨Nat.le_of_ble_eq_true rfl, Nat.le_of_ble_eq_true rfl⟩ (rfl : _ = some (0, 11)) rfl rfl rfl hl.1 (Nat.le_of_ble_eq_true rfl) dX11_isSoon_13 ⟨Nat.zero_le _, Nat.zero_le _⟩ (fun H locs hw => ?_)
    refine wcallS1 (As := [.int 8, .int r4]) (rest := [.long 1, .long ((p1 : Int32).toInt64)]) C hw (c_X11_lessOf hW  rfl) slX11_283 ⟨Nat.le_of_ble_eq_true rfl, Nat.le_of_ble_eq_true rfl⟩ rfl rfl hl.1 (Nat.le_of_ble_eq_true rfl) dX11_isSoon_16 ⟨Nat.zero_le _, Nat.zero_le _⟩ (fun H locs hw => ?_)
    refine lv_i2l hx hb dX11_isSoon_19 rfl ?_
    refine wcallS1 (As := [.long ((p1 : Int32).toInt64), .long 1, .long (((f_X11_lessOf (8 : Int32) r4 M) : Int32).toInt64)]) (rest := []) C hw (c_X11_in hW  rfl) slX11_82 ⟨Nat.le_of_ble_eq_true rfl, Nat.le_of_ble_eq_true rfl⟩ rfl rfl hl.1 (Nat.le_of_ble_eq_true rfl) dX11_isSoon_20 ⟨Nat.zero_le _, Nat.zero_le _⟩ (fun H locs hw => ?_)
    refine lv_if_eq (tgt := 30) hx hb dX11_isSoon_23 (by decide) (fun c6 => ?_) (fun c6 => ?_)
    · replace h := (if_pos c6).symm.trans h
      refine lv_iconst (v := 0) hx hb dX11_isSoon_30 (by decide) ?_
      exact wretZ_R C hw (Or.inl rfl) h dX11_isSoon_31
    · replace h := (if_neg c6).symm.trans h
      refine lv_iconst (v := 1) hx hb dX11_isSoon_26 (by decide) ?_
      refine lv_goto (tgt := 31) hx hb dX11_isSoon_27 (by decide) ?_
      exact wretZ_R C hw (Or.inr rfl) h dX11_isSoon_31
set_option maxRecDepth 100000 in
set_option maxHeartbeats 4000000 in
theorem c_X11_chance {l : Launch} {P : Wp} {E : State → Heap → Prop} (hW : Wok shR P E) {p1 : Int32} {p2 : Int32} {p3 : Int32} {M : Mem} {r : Int32} {M' : Mem} (h : f_X11_chance p1 p2 p3 M = some (r, M')) : CT l shR P E yX11_chance bX11_chance 4 ((some .int)) 102 4047 [.ref (P.2.2.1 0), .int p1, .int p2, .int p3] (some (.int r)) M M' := by
  refine ct_of hW (by decide) (Nat.le_of_ble_eq_true rfl) (fun p e s m args below meth c C ls hl hw => ?_)
  have hx := C.1
  have hb := C.2.1
  replace hl : lv_has ls 4 [(0, .ref (P.2.2.1 0)), (1, .int p1), (2, .int p2), (3, .int p3)] := hl
  refine lv_aload_n hx hb dX11_chance_0 rfl (lv_at hl 0 rfl) ?_
  refine lv_iconst (v := 0) hx hb dX11_chance_1 (by decide) ?_
  refine wputI C hw fpX11_77 (rfl : _ = some (0, 11)) dX11_chance_2 (fun M1 eM1 H locs hw => ?_)
  replace h := letv_at eM1 h
  refine lv_aload_n hx hb dX11_chance_5 rfl (lv_at hl 0 rfl) ?_
  refine lv_iload_n hx hb dX11_chance_6 rfl (lv_at hl 1 rfl) ?_
  refine lv_i2l hx hb dX11_chance_7 rfl ?_
  obtain ⟨r2, e3, h⟩ := bnd_some h
  refine wcallV1 (As := [.long ((p1 : Int32).toInt64)]) (rest := []) C hw (c_X11_isPiece hW  e3) vlX11_237 ⟨Nat.le_of_ble_eq_true rfl, Nat.le_of_ble_eq_true rfl⟩ (rfl : _ = some (0, 11)) rfl rfl rfl hl.1 (Nat.le_of_ble_eq_true rfl) dX11_chance_8 ⟨Nat.zero_le _, Nat.zero_le _⟩ (fun H locs hw => ?_)
  refine lv_if_eq (tgt := 50) hx hb dX11_chance_11 (by decide) (fun c4 => ?_) (fun c4 => ?_)
  · replace h := (if_pos c4).symm.trans h
    refine lv_bipush (v := (-2)) hx hb dX11_chance_50 (by decide) ?_
    exact wretI_W C hw h dX11_chance_52
  · replace h := (if_neg c4).symm.trans h
    refine lv_aload_n hx hb dX11_chance_14 rfl (lv_at hl 0 rfl) ?_
    refine lv_iload_n hx hb dX11_chance_15 rfl (lv_at hl 2 rfl) ?_
    obtain ⟨r5, e6, h⟩ := bnd_some h
    refine wcallV1 (As := [.int p2]) (rest := []) C hw (c_X11_isSoon hW  e6) vlX11_424 ⟨Nat.le_of_ble_eq_true rfl, Nat.le_of_ble_eq_true rfl⟩ (rfl : _ = some (0, 11)) rfl rfl rfl hl.1 (Nat.le_of_ble_eq_true rfl) dX11_chance_16 ⟨Nat.zero_le _, Nat.zero_le _⟩ (fun H locs hw => ?_)
    refine lv_if_eq (tgt := 50) hx hb dX11_chance_19 (by decide) (fun c7 => ?_) (fun c7 => ?_)
    · replace h := (if_pos c7).symm.trans h
      refine lv_bipush (v := (-2)) hx hb dX11_chance_50 (by decide) ?_
      exact wretI_W C hw h dX11_chance_52
    · replace h := (if_neg c7).symm.trans h
      refine lv_iload_n hx hb dX11_chance_22 rfl (lv_at hl 3 rfl) ?_
      refine wcallS1 (As := [.int p3]) (rest := []) C hw (c_X11_isHalf hW  rfl) slX11_404 ⟨Nat.le_of_ble_eq_true rfl, Nat.le_of_ble_eq_true rfl⟩ rfl rfl hl.1 (Nat.le_of_ble_eq_true rfl) dX11_chance_23 ⟨Nat.zero_le _, Nat.zero_le _⟩ (fun H locs hw => ?_)
      refine lv_if_eq (tgt := 50) hx hb dX11_chance_26 (by decide) (fun c8 => ?_) (fun c8 => ?_)
      · replace h := (if_pos c8).symm.trans h
        refine lv_bipush (v := (-2)) hx hb dX11_chance_50 (by decide) ?_
        exact wretI_W C hw h dX11_chance_52
      · replace h := (if_neg c8).symm.trans h
        refine lv_aload_n hx hb dX11_chance_29 rfl (lv_at hl 0 rfl) ?_
        refine lv_iload_n hx hb dX11_chance_30 rfl (lv_at hl 1 rfl) ?_
        refine lv_iload_n hx hb dX11_chance_31 rfl (lv_at hl 2 rfl) ?_
        obtain ⟨r9, M11, e10, h⟩ := bnd2_some h
        refine wcallV1 (As := [.int p1, .int p2]) (rest := []) C hw (c_X11_weightOf hW  e10) vlX11_427 ⟨Nat.le_of_ble_eq_true rfl, Nat.le_of_ble_eq_true rfl⟩ (rfl : _ = some (0, 11)) rfl rfl rfl hl.1 (Nat.le_of_ble_eq_true rfl) dX11_chance_32 ⟨Nat.zero_le _, Nat.zero_le _⟩ (fun H locs hw => ?_)
        refine lv_ldc2 hx hb C.2.2.2.1 (C.2.2.2.2.1 _ (List.mem_cons_of_mem _ (gm kcX11_422 rfl))) dX11_chance_35 ?_
        refine lv_iload_n hx hb dX11_chance_38 rfl (lv_at hl 2 rfl) ?_
        obtain ⟨r12, e13, h⟩ := bnd_some h
        refine wcallS1 (As := [.long 10, .int p2]) (rest := [.long r9]) C hw (c_X11_power hW  e13) slX11_419 ⟨Nat.le_of_ble_eq_true rfl, Nat.le_of_ble_eq_true rfl⟩ rfl rfl hl.1 (Nat.le_of_ble_eq_true rfl) dX11_chance_39 ⟨Nat.zero_le _, Nat.zero_le _⟩ (fun H locs hw => ?_)
        refine lv_iload_n hx hb dX11_chance_42 rfl (lv_at hl 3 rfl) ?_
        obtain ⟨r14, e15, h⟩ := bnd_some h
        refine wcallS1 (As := [.long r9, .long r12, .int p3]) (rest := []) C hw (c_X11_partOf hW  e15) slX11_408 ⟨Nat.le_of_ble_eq_true rfl, Nat.le_of_ble_eq_true rfl⟩ rfl rfl hl.1 (Nat.le_of_ble_eq_true rfl) dX11_chance_43 ⟨Nat.zero_le _, Nat.zero_le _⟩ (fun H locs hw => ?_)
        refine lv_l2i hx hb dX11_chance_46 rfl ?_
        refine lv_goto (tgt := 52) hx hb dX11_chance_47 (by decide) ?_
        exact wretI_W C hw h dX11_chance_52
set_option maxRecDepth 100000 in
set_option maxHeartbeats 4000000 in
theorem c_X11_mean {l : Launch} {P : Wp} {E : State → Heap → Prop} (hW : Wok shR P E) {p1 : Int32} {p2 : Int32} {M : Mem} {r : Int64} {M' : Mem} (h : f_X11_mean p1 p2 M = some (r, M')) : CT l shR P E yX11_mean bX11_mean 3 ((some .long)) 102 4047 [.ref (P.2.2.1 0), .int p1, .int p2] (some (.long r)) M M' := by
  refine ct_of hW (by decide) (Nat.le_of_ble_eq_true rfl) (fun p e s m args below meth c C ls hl hw => ?_)
  have hx := C.1
  have hb := C.2.1
  replace hl : lv_has ls 3 [(0, .ref (P.2.2.1 0)), (1, .int p1), (2, .int p2)] := hl
  refine lv_aload_n hx hb dX11_mean_0 rfl (lv_at hl 0 rfl) ?_
  refine lv_iconst (v := 0) hx hb dX11_mean_1 (by decide) ?_
  refine wputI C hw fpX11_77 (rfl : _ = some (0, 11)) dX11_mean_2 (fun M1 eM1 H locs hw => ?_)
  replace h := letv_at eM1 h
  refine lv_aload_n hx hb dX11_mean_5 rfl (lv_at hl 0 rfl) ?_
  refine lv_iload_n hx hb dX11_mean_6 rfl (lv_at hl 1 rfl) ?_
  obtain ⟨r2, e3, h⟩ := bnd_some h
  refine wcallV1 (As := [.int p1]) (rest := []) C hw (c_X11_isSoon hW  e3) vlX11_424 ⟨Nat.le_of_ble_eq_true rfl, Nat.le_of_ble_eq_true rfl⟩ (rfl : _ = some (0, 11)) rfl rfl rfl hl.1 (Nat.le_of_ble_eq_true rfl) dX11_mean_7 ⟨Nat.zero_le _, Nat.zero_le _⟩ (fun H locs hw => ?_)
  refine lv_if_eq (tgt := 40) hx hb dX11_mean_10 (by decide) (fun c4 => ?_) (fun c4 => ?_)
  · replace h := (if_pos c4).symm.trans h
    refine lv_ldc2 hx hb C.2.2.2.1 (C.2.2.2.2.1 _ (List.mem_cons_of_mem _ (gm kcX11_431 rfl))) dX11_mean_40 ?_
    exact wretJ_W C hw h dX11_mean_43
  · replace h := (if_neg c4).symm.trans h
    refine lv_iload_n hx hb dX11_mean_13 rfl (lv_at hl 2 rfl) ?_
    refine wcallS1 (As := [.int p2]) (rest := []) C hw (c_X11_isHalf hW  rfl) slX11_404 ⟨Nat.le_of_ble_eq_true rfl, Nat.le_of_ble_eq_true rfl⟩ rfl rfl hl.1 (Nat.le_of_ble_eq_true rfl) dX11_mean_14 ⟨Nat.zero_le _, Nat.zero_le _⟩ (fun H locs hw => ?_)
    refine lv_if_eq (tgt := 40) hx hb dX11_mean_17 (by decide) (fun c5 => ?_) (fun c5 => ?_)
    · replace h := (if_pos c5).symm.trans h
      refine lv_ldc2 hx hb C.2.2.2.1 (C.2.2.2.2.1 _ (List.mem_cons_of_mem _ (gm kcX11_431 rfl))) dX11_mean_40 ?_
      exact wretJ_W C hw h dX11_mean_43
    · replace h := (if_neg c5).symm.trans h
      refine lv_aload_n hx hb dX11_mean_20 rfl (lv_at hl 0 rfl) ?_
      refine lv_iconst (v := (-1)) hx hb dX11_mean_21 (by decide) ?_
      refine lv_iload_n hx hb dX11_mean_22 rfl (lv_at hl 1 rfl) ?_
      obtain ⟨r6, M8, e7, h⟩ := bnd2_some h
      refine wcallV1 (As := [.int (-1), .int p1]) (rest := []) C hw (c_X11_weightOf hW  e7) vlX11_427 ⟨Nat.le_of_ble_eq_true rfl, Nat.le_of_ble_eq_true rfl⟩ (rfl : _ = some (0, 11)) rfl rfl rfl hl.1 (Nat.le_of_ble_eq_true rfl) dX11_mean_23 ⟨Nat.zero_le _, Nat.zero_le _⟩ (fun H locs hw => ?_)
      refine lv_ldc2 hx hb C.2.2.2.1 (C.2.2.2.2.1 _ (List.mem_cons_of_mem _ (gm kcX11_422 rfl))) dX11_mean_26 ?_
      refine lv_iload_n hx hb dX11_mean_29 rfl (lv_at hl 1 rfl) ?_
      obtain ⟨r9, e10, h⟩ := bnd_some h
      refine wcallS1 (As := [.long 10, .int p1]) (rest := [.long r6]) C hw (c_X11_power hW  e10) slX11_419 ⟨Nat.le_of_ble_eq_true rfl, Nat.le_of_ble_eq_true rfl⟩ rfl rfl hl.1 (Nat.le_of_ble_eq_true rfl) dX11_mean_30 ⟨Nat.zero_le _, Nat.zero_le _⟩ (fun H locs hw => ?_)
      refine lv_iload_n hx hb dX11_mean_33 rfl (lv_at hl 2 rfl) ?_
      obtain ⟨r11, e12, h⟩ := bnd_some h
      refine wcallS1 (As := [.long r6, .long r9, .int p2]) (rest := []) C hw (c_X11_partOf hW  e12) slX11_408 ⟨Nat.le_of_ble_eq_true rfl, Nat.le_of_ble_eq_true rfl⟩ rfl rfl hl.1 (Nat.le_of_ble_eq_true rfl) dX11_mean_34 ⟨Nat.zero_le _, Nat.zero_le _⟩ (fun H locs hw => ?_)
      refine lv_goto (tgt := 43) hx hb dX11_mean_37 (by decide) ?_
      exact wretJ_W C hw h dX11_mean_43
set_option maxRecDepth 100000 in
set_option maxHeartbeats 4000000 in
theorem c_X11_draws {l : Launch} {P : Wp} {E : State → Heap → Prop} (hW : Wok shR P E) {p1 : Int64} {M : Mem} {M' : Mem} (h : f_X11_draws p1 M = some M') : CT l shR P E yX11_draws bX11_draws 6 (none) 5 121 [.ref (P.2.2.1 0), .long p1] none M M' := by
  refine ct_of hW (by decide) (Nat.le_of_ble_eq_true rfl) (fun p e s m args below meth c C ls hl hw => ?_)
  have hx := C.1
  have hb := C.2.1
  replace hl : lv_has ls 6 [(0, .ref (P.2.2.1 0)), (1, .long p1)] := hl
  have cut_9 : ∀ (n_9 : Nat) (v3_9 : Int64) (v5_9 : Int32) (M_9 : Mem) (ls : Array Slot) (H : Heap) (locs : List Loc), lv_has ls 6 [(0, .ref (P.2.2.1 0)), (3, .long v3_9), (5, .int v5_9)] → Hw shR P M_9 s H locs → lq3 (L_X11_draws_9 p1) n_9 v3_9 v5_9 M_9 = some M' → W p l e { frames := 5, cells := 0, slots := 0, locals := 121 } s m args below meth c H locs 0 0 (MQ below (CQ shR P E none M') args s 0 0 (wA shR P)) (F0 m 9 ls []) := by
    intro n_9
    induction n_9 with
    | zero => intro v3_9 v5_9 M_9 ls H locs hl hw h; cases h
    | succ n_9 ih_9 =>
      intro v3_9 v5_9 M_9 ls H locs hl hw h
      replace h := lq3_succ h
      refine lv_iload hx hb dX11_draws_9 (lv_at hl 2 rfl) ?_
      refine lv_aload_n hx hb dX11_draws_11 rfl (lv_at hl 0 rfl) ?_
      obtain ⟨r4, e5, h⟩ := bnd_some h
      refine wcallV1 (As := []) (rest := [.int v5_9]) C hw (c_X11_steps hW  e5) vlX11_234 ⟨Nat.le_of_ble_eq_true rfl, Nat.le_of_ble_eq_true rfl⟩ (rfl : _ = some (0, 11)) rfl rfl rfl hl.1 (Nat.le_of_ble_eq_true rfl) dX11_draws_12 ⟨Nat.zero_le _, Nat.zero_le _⟩ (fun H locs hw => ?_)
      refine lv_icmp_ge (tgt := 75) hx hb dX11_draws_15 (by decide) (fun c6 => ?_) (fun c6 => ?_)
      · replace h := (if_pos c6).symm.trans h
        refine lv_aload_n hx hb dX11_draws_75 rfl (lv_at hl 0 rfl) ?_
        obtain ⟨M9, e8, h⟩ := bnd_some h
        refine wcallV0 (As := []) (rest := []) C hw (c_X11_runs hW  e8) vlX11_299 ⟨Nat.le_of_ble_eq_true rfl, Nat.le_of_ble_eq_true rfl⟩ (rfl : _ = some (0, 11)) rfl rfl rfl hl.1 (Nat.le_of_ble_eq_true rfl) dX11_draws_76 ⟨Nat.zero_le _, Nat.zero_le _⟩ (fun H locs hw => ?_)
        exact wretV_W C hw h dX11_draws_79
      · replace h := (if_neg c6).symm.trans h
        refine lv_ldc2 hx hb C.2.2.2.1 (C.2.2.2.2.1 _ (List.mem_cons_of_mem _ (gm kcX11_433 rfl))) dX11_draws_18 ?_
        refine lv_lload_n hx hb dX11_draws_21 rfl (lv_at hl 1 rfl) ?_
        refine lv_lmul hx hb dX11_draws_22 ?_
        refine lv_ldc2 hx hb C.2.2.2.1 (C.2.2.2.2.1 _ (List.mem_cons_of_mem _ (gm kcX11_435 rfl))) dX11_draws_23 ?_
        refine lv_ladd hx hb dX11_draws_26 ?_
        refine lv_ldc2 hx hb C.2.2.2.1 (C.2.2.2.2.1 _ (List.mem_cons_of_mem _ (gm kcX11_437 rfl))) dX11_draws_27 ?_
        refine lv_lrem hx hb dX11_draws_30 (by decide) ?_
        refine lv_topl (fun x10 ex10 => ?_)
        replace h := letv_at ex10 h
        refine lv_lstore_n (lv' := [(3, .long x10), (0, .ref (P.2.2.1 0)), (5, .int v5_9)]) hx hb dX11_draws_31 rfl hl (by decide) rfl (fun ls hl => ?_)
        refine lv_aload_n hx hb dX11_draws_32 rfl (lv_at hl 1 rfl) ?_
        refine lv_dup hx hb dX11_draws_33 rfl ?_
        refine wgetI C hw flX11_249 (rfl : _ = some (0, 11)) dX11_draws_34 ?_
        refine lv_lload_n hx hb dX11_draws_37 rfl (lv_at hl 0 rfl) ?_
        refine lv_ldc2 hx hb C.2.2.2.1 (C.2.2.2.2.1 _ (List.mem_cons_of_mem _ (gm kcX11_439 rfl))) dX11_draws_38 ?_
        refine lv_ldiv hx hb dX11_draws_41 (by decide) ?_
        refine lv_ldc2 hx hb C.2.2.2.1 (C.2.2.2.2.1 _ (List.mem_cons_of_mem _ (gm kcX11_422 rfl))) dX11_draws_42 ?_
        refine lv_lrem hx hb dX11_draws_45 (by decide) ?_
        refine lv_aload_n hx hb dX11_draws_46 rfl (lv_at hl 1 rfl) ?_
        refine wgetR (t := 7) C hw flX11_34 (rfl : _ = some (0, 11)) rfl dX11_draws_47 ?_
        refine lv_iconst (v := 2) hx hb dX11_draws_50 (by decide) ?_
        obtain ⟨g11, h⟩ := grd h
        refine wald C hw (rfl : _ = some (1, 40)) g11 dX11_draws_51 ?_
        refine lv_i2l hx hb dX11_draws_52 rfl ?_
        refine W.lcmp hx hb dX11_draws_53 ?_
        refine lv_if_ge (tgt := 64) hx hb dX11_draws_54 (by decide) (fun c12 => ?_) (fun c12 => ?_)
        · replace h := (if_pos c12).symm.trans h
          refine lv_iconst (v := 0) hx hb dX11_draws_64 (by decide) ?_
          refine lv_ior hx hb dX11_draws_65 ?_
          refine wputI C hw fpX11_249 (rfl : _ = some (0, 11)) dX11_draws_66 (fun M13 eM13 H locs hw => ?_)
          replace h := letv_at eM13 h
          refine lv_iinc (v := (v5_9 + 1)) (lv' := [(5, .int (v5_9 + 1)), (3, .long x10), (0, .ref (P.2.2.1 0))]) (k := 2) hx hb dX11_draws_69 hl rfl (congrArg (fun z => v5_9 + z) (by decide)) (by decide) rfl (fun ls hl => ?_)
          refine lv_goto (tgt := 9) hx hb dX11_draws_72 (by decide) ?_
          exact ih_9 x10 (v5_9 + 1) M13 ls _ _ (lv_sub hl [2, 1, 0] rfl) hw h
        · replace h := (if_neg c12).symm.trans h
          refine lv_iconst (v := 1) hx hb dX11_draws_57 (by decide) ?_
          refine lv_iload hx hb dX11_draws_58 (lv_at hl 2 rfl) ?_
          refine lv_ishl hx hb dX11_draws_60 ?_
          refine lv_goto (tgt := 65) hx hb dX11_draws_61 (by decide) ?_
          refine lv_ior hx hb dX11_draws_65 ?_
          refine wputI C hw fpX11_249 (rfl : _ = some (0, 11)) dX11_draws_66 (fun M14 eM14 H locs hw => ?_)
          replace h := letv_at eM14 h
          refine lv_iinc (v := (v5_9 + 1)) (lv' := [(5, .int (v5_9 + 1)), (3, .long x10), (0, .ref (P.2.2.1 0))]) (k := 2) hx hb dX11_draws_69 hl rfl (congrArg (fun z => v5_9 + z) (by decide)) (by decide) rfl (fun ls hl => ?_)
          refine lv_goto (tgt := 9) hx hb dX11_draws_72 (by decide) ?_
          exact ih_9 x10 (v5_9 + 1) M14 ls _ _ (lv_sub hl [2, 1, 0] rfl) hw h
  refine lv_aload_n hx hb dX11_draws_0 rfl (lv_at hl 0 rfl) ?_
  obtain ⟨M3, e2, h⟩ := bnd_some h
  refine wcallV0 (As := []) (rest := []) C hw (c_X11_lays hW  e2) vlX11_296 ⟨Nat.le_of_ble_eq_true rfl, Nat.le_of_ble_eq_true rfl⟩ (rfl : _ = some (0, 11)) rfl rfl rfl hl.1 (Nat.le_of_ble_eq_true rfl) dX11_draws_1 ⟨Nat.zero_le _, Nat.zero_le _⟩ (fun H locs hw => ?_)
  refine lv_lload_n hx hb dX11_draws_4 rfl (lv_at hl 1 rfl) ?_
  refine lv_lstore_n (lv' := [(3, .long p1), (0, .ref (P.2.2.1 0)), (1, .long p1)]) hx hb dX11_draws_5 rfl hl (by decide) rfl (fun ls hl => ?_)
  refine lv_iconst (v := 0) hx hb dX11_draws_6 (by decide) ?_
  refine lv_istore (lv' := [(5, .int 0), (3, .long p1), (0, .ref (P.2.2.1 0)), (1, .long p1)]) hx hb dX11_draws_7 hl (by decide) rfl (fun ls hl => ?_)
  exact cut_9 FU p1 0 M3 ls _ _ (lv_sub hl [2, 1, 0] rfl) hw h
theorem z_X11_isSeed {p0 : Int32} {M : Mem} : f_X11_isSeed p0 M = 0 ∨ f_X11_isSeed p0 M = 1 := by
  unfold f_X11_isSeed
  repeat' split
  all_goals first | exact Or.inl rfl | exact Or.inr rfl | exact z_X11_in
set_option maxRecDepth 100000 in
set_option maxHeartbeats 4000000 in
theorem c_X11_isSeed {l : Launch} {P : Wp} {E : State → Heap → Prop} (hW : Wok shR P E) {p0 : Int32} {M : Mem} {r : Int32} (h : f_X11_isSeed p0 M = r) : CT l shR P E yX11_isSeed bX11_isSeed 1 ((some .boolean)) 1 25 [.int p0] (some (.int r)) M M := by
  refine ct_of hW (by decide) (Nat.le_of_ble_eq_true rfl) (fun p e s m args below meth c C ls hl hw => ?_)
  have hx := C.1
  have hb := C.2.1
  replace hl : lv_has ls 1 [(0, .int p0)] := hl
  refine lv_iload_n hx hb dX11_isSeed_0 rfl (lv_at hl 0 rfl) ?_
  refine lv_i2l hx hb dX11_isSeed_1 rfl ?_
  refine lv_lconst (v := 0) hx hb dX11_isSeed_2 (by decide) ?_
  refine lv_ldc2 hx hb C.2.2.2.1 (C.2.2.2.2.1 _ (List.mem_cons_of_mem _ (gm kcX11_441 rfl))) dX11_isSeed_3 ?_
  refine wcallS1 (As := [.long ((p0 : Int32).toInt64), .long 0, .long 2000000000]) (rest := []) C hw (c_X11_in hW  rfl) slX11_82 ⟨Nat.le_of_ble_eq_true rfl, Nat.le_of_ble_eq_true rfl⟩ rfl rfl hl.1 (Nat.le_of_ble_eq_true rfl) dX11_isSeed_6 ⟨Nat.zero_le _, Nat.zero_le _⟩ (fun H locs hw => ?_)
  exact wretZ_T C hw z_X11_in h dX11_isSeed_9
set_option maxRecDepth 100000 in
set_option maxHeartbeats 4000000 in
theorem c_X11_drawn {l : Launch} {P : Wp} {E : State → Heap → Prop} (hW : Wok shR P E) {p1 : Int32} {p2 : Int32} {M : Mem} {r : Int32} {M' : Mem} (h : f_X11_drawn p1 p2 M = some (r, M')) : CT l shR P E yX11_drawn bX11_drawn 3 ((some .int)) 6 146 [.ref (P.2.2.1 0), .int p1, .int p2] (some (.int r)) M M' := by
  refine ct_of hW (by decide) (Nat.le_of_ble_eq_true rfl) (fun p e s m args below meth c C ls hl hw => ?_)
  have hx := C.1
  have hb := C.2.1
  replace hl : lv_has ls 3 [(0, .ref (P.2.2.1 0)), (1, .int p1), (2, .int p2)] := hl
  refine lv_aload_n hx hb dX11_drawn_0 rfl (lv_at hl 0 rfl) ?_
  refine lv_iconst (v := 0) hx hb dX11_drawn_1 (by decide) ?_
  refine wputI C hw fpX11_77 (rfl : _ = some (0, 11)) dX11_drawn_2 (fun M1 eM1 H locs hw => ?_)
  replace h := letv_at eM1 h
  refine lv_aload_n hx hb dX11_drawn_5 rfl (lv_at hl 0 rfl) ?_
  obtain ⟨r2, e3, h⟩ := bnd_some h
  refine wcallV1 (As := []) (rest := []) C hw (c_X11_isLehr hW  e3) vlX11_231 ⟨Nat.le_of_ble_eq_true rfl, Nat.le_of_ble_eq_true rfl⟩ (rfl : _ = some (0, 11)) rfl rfl rfl hl.1 (Nat.le_of_ble_eq_true rfl) dX11_drawn_6 ⟨Nat.zero_le _, Nat.zero_le _⟩ (fun H locs hw => ?_)
  refine lv_if_eq (tgt := 26) hx hb dX11_drawn_9 (by decide) (fun c4 => ?_) (fun c4 => ?_)
  · replace h := (if_pos c4).symm.trans h
    refine lv_bipush (v := (-2)) hx hb dX11_drawn_26 (by decide) ?_
    exact wretI_W C hw h dX11_drawn_28
  · replace h := (if_neg c4).symm.trans h
    refine lv_iload_n hx hb dX11_drawn_12 rfl (lv_at hl 1 rfl) ?_
    refine wcallS1 (As := [.int p1]) (rest := []) C hw (c_X11_isSeed hW  rfl) slX11_443 ⟨Nat.le_of_ble_eq_true rfl, Nat.le_of_ble_eq_true rfl⟩ rfl rfl hl.1 (Nat.le_of_ble_eq_true rfl) dX11_drawn_13 ⟨Nat.zero_le _, Nat.zero_le _⟩ (fun H locs hw => ?_)
    refine lv_if_eq (tgt := 26) hx hb dX11_drawn_16 (by decide) (fun c5 => ?_) (fun c5 => ?_)
    · replace h := (if_pos c5).symm.trans h
      refine lv_bipush (v := (-2)) hx hb dX11_drawn_26 (by decide) ?_
      exact wretI_W C hw h dX11_drawn_28
    · replace h := (if_neg c5).symm.trans h
      refine lv_iload_n hx hb dX11_drawn_19 rfl (lv_at hl 2 rfl) ?_
      refine wcallS1 (As := [.int p2]) (rest := []) C hw (c_X11_isHalf hW  rfl) slX11_404 ⟨Nat.le_of_ble_eq_true rfl, Nat.le_of_ble_eq_true rfl⟩ rfl rfl hl.1 (Nat.le_of_ble_eq_true rfl) dX11_drawn_20 ⟨Nat.zero_le _, Nat.zero_le _⟩ (fun H locs hw => ?_)
      refine lv_if_ne (tgt := 29) hx hb dX11_drawn_23 (by decide) (fun c6 => ?_) (fun c6 => ?_)
      · replace h := (if_neg c6).symm.trans h
        refine lv_aload_n hx hb dX11_drawn_29 rfl (lv_at hl 0 rfl) ?_
        refine lv_iload_n hx hb dX11_drawn_30 rfl (lv_at hl 1 rfl) ?_
        refine lv_i2l hx hb dX11_drawn_31 rfl ?_
        obtain ⟨M9, e8, h⟩ := bnd_some h
        refine wcallV0 (As := [.long ((p1 : Int32).toInt64)]) (rest := []) C hw (c_X11_draws hW  e8) vlX11_446 ⟨Nat.le_of_ble_eq_true rfl, Nat.le_of_ble_eq_true rfl⟩ (rfl : _ = some (0, 11)) rfl rfl rfl hl.1 (Nat.le_of_ble_eq_true rfl) dX11_drawn_32 ⟨Nat.zero_le _, Nat.zero_le _⟩ (fun H locs hw => ?_)
        refine lv_iload_n hx hb dX11_drawn_35 rfl (lv_at hl 2 rfl) ?_
        refine lv_if_ne (tgt := 46) hx hb dX11_drawn_36 (by decide) (fun c10 => ?_) (fun c10 => ?_)
        · replace h := (if_neg c10).symm.trans h
          refine lv_aload_n hx hb dX11_drawn_46 rfl (lv_at hl 0 rfl) ?_
          obtain ⟨r11, e12, h⟩ := bnd_some h
          refine wcallV1 (As := []) (rest := []) C hw (c_X11_soundNow hW  e12) vlX11_323 ⟨Nat.le_of_ble_eq_true rfl, Nat.le_of_ble_eq_true rfl⟩ (rfl : _ = some (0, 11)) rfl rfl rfl hl.1 (Nat.le_of_ble_eq_true rfl) dX11_drawn_47 ⟨Nat.zero_le _, Nat.zero_le _⟩ (fun H locs hw => ?_)
          exact wretI_W C hw h dX11_drawn_50
        · replace h := (if_pos c10).symm.trans h
          refine lv_aload_n hx hb dX11_drawn_39 rfl (lv_at hl 0 rfl) ?_
          refine wgetI C hw flX11_249 (rfl : _ = some (0, 11)) dX11_drawn_40 ?_
          refine lv_goto (tgt := 50) hx hb dX11_drawn_43 (by decide) ?_
          exact wretI_W C hw h dX11_drawn_50
      · replace h := (if_pos c6).symm.trans h
        refine lv_bipush (v := (-2)) hx hb dX11_drawn_26 (by decide) ?_
        exact wretI_W C hw h dX11_drawn_28
set_option maxRecDepth 100000 in
set_option maxHeartbeats 4000000 in
theorem c_X11_luck {l : Launch} {P : Wp} {E : State → Heap → Prop} (hW : Wok shR P E) {p1 : Int32} {p2 : Int32} {p3 : Int32} {M : Mem} {r : Int32} {M' : Mem} (h : f_X11_luck p1 p2 p3 M = some (r, M')) : CT l shR P E yX11_luck bX11_luck 6 ((some .int)) 6 146 [.ref (P.2.2.1 0), .int p1, .int p2, .int p3] (some (.int r)) M M' := by
  refine ct_of hW (by decide) (Nat.le_of_ble_eq_true rfl) (fun p e s m args below meth c C ls hl hw => ?_)
  have hx := C.1
  have hb := C.2.1
  replace hl : lv_has ls 6 [(0, .ref (P.2.2.1 0)), (1, .int p1), (2, .int p2), (3, .int p3)] := hl
  have cut_42 : ∀ (n_42 : Nat) (v4_42 : Int32) (v5_42 : Int32) (M_42 : Mem) (ls : Array Slot) (H : Heap) (locs : List Loc), lv_has ls 6 [(0, .ref (P.2.2.1 0)), (1, .int p1), (2, .int p2), (3, .int p3), (4, .int v4_42), (5, .int v5_42)] → Hw shR P M_42 s H locs → lq3 (L_X11_luck_42 p1 p2 p3) n_42 v4_42 v5_42 M_42 = some (r, M') → W p l e { frames := 6, cells := 0, slots := 0, locals := 146 } s m args below meth c H locs 0 0 (MQ below (CQ shR P E (some (.int r)) M') args s 0 0 (wA shR P)) (F0 m 42 ls []) := by
    intro n_42
    induction n_42 with
    | zero => intro v4_42 v5_42 M_42 ls H locs hl hw h; cases h
    | succ n_42 ih_42 =>
      intro v4_42 v5_42 M_42 ls H locs hl hw h
      replace h := lq3_succ h
      refine lv_iload hx hb dX11_luck_42 (lv_at hl 5 rfl) ?_
      refine lv_iload_n hx hb dX11_luck_44 rfl (lv_at hl 2 rfl) ?_
      refine lv_icmp_ge (tgt := 84) hx hb dX11_luck_45 (by decide) (fun c7 => ?_) (fun c7 => ?_)
      · replace h := (if_pos c7).symm.trans h
        refine lv_iload hx hb dX11_luck_84 (lv_at hl 4 rfl) ?_
        exact wretI_W C hw h dX11_luck_86
      · replace h := (if_neg c7).symm.trans h
        refine lv_aload_n hx hb dX11_luck_48 rfl (lv_at hl 0 rfl) ?_
        refine lv_iload_n hx hb dX11_luck_49 rfl (lv_at hl 1 rfl) ?_
        refine lv_i2l hx hb dX11_luck_50 rfl ?_
        refine lv_iload hx hb dX11_luck_51 (lv_at hl 5 rfl) ?_
        refine lv_i2l hx hb dX11_luck_53 rfl ?_
        refine lv_ladd hx hb dX11_luck_54 ?_
        obtain ⟨M10, e9, h⟩ := bnd_some h
        refine wcallV0 (As := [.long (((p1 : Int32).toInt64) + ((v5_42 : Int32).toInt64))]) (rest := []) C hw (c_X11_draws hW  e9) vlX11_446 ⟨Nat.le_of_ble_eq_true rfl, Nat.le_of_ble_eq_true rfl⟩ (rfl : _ = some (0, 11)) rfl rfl rfl hl.1 (Nat.le_of_ble_eq_true rfl) dX11_luck_55 ⟨Nat.zero_le _, Nat.zero_le _⟩ (fun H locs hw => ?_)
        refine lv_iload hx hb dX11_luck_58 (lv_at hl 4 rfl) ?_
        refine lv_aload_n hx hb dX11_luck_60 rfl (lv_at hl 0 rfl) ?_
        refine wgetR (t := 19) C hw flX11_71 (rfl : _ = some (0, 11)) rfl dX11_luck_61 ?_
        refine lv_iload_n hx hb dX11_luck_64 rfl (lv_at hl 3 rfl) ?_
        obtain ⟨g11, h⟩ := grd h
        refine wald C hw (rfl : _ = some (1, 6)) g11 dX11_luck_65 ?_
        refine lv_iconst (v := (-1)) hx hb dX11_luck_66 (by decide) ?_
        refine lv_icmp_ne (tgt := 74) hx hb dX11_luck_67 (by decide) (fun c12 => ?_) (fun c12 => ?_)
        · replace h := (if_neg c12).symm.trans h
          refine lv_iconst (v := 0) hx hb dX11_luck_74 (by decide) ?_
          refine lv_iadd hx hb dX11_luck_75 ?_
          refine lv_topi (fun x13 ex13 => ?_)
          replace h := letv_at ex13 h
          refine lv_istore (lv' := [(4, .int x13), (0, .ref (P.2.2.1 0)), (1, .int p1), (2, .int p2), (3, .int p3), (5, .int v5_42)]) hx hb dX11_luck_76 hl (by decide) rfl (fun ls hl => ?_)
          refine lv_iinc (v := (v5_42 + 1)) (lv' := [(5, .int (v5_42 + 1)), (4, .int x13), (0, .ref (P.2.2.1 0)), (1, .int p1), (2, .int p2), (3, .int p3)]) (k := 5) hx hb dX11_luck_78 hl rfl (congrArg (fun z => v5_42 + z) (by decide)) (by decide) rfl (fun ls hl => ?_)
          refine lv_goto (tgt := 42) hx hb dX11_luck_81 (by decide) ?_
          exact ih_42 x13 (v5_42 + 1) M10 ls _ _ (lv_sub hl [2, 3, 4, 5, 1, 0] rfl) hw h
        · replace h := (if_pos c12).symm.trans h
          refine lv_iconst (v := 1) hx hb dX11_luck_70 (by decide) ?_
          refine lv_goto (tgt := 75) hx hb dX11_luck_71 (by decide) ?_
          refine lv_iadd hx hb dX11_luck_75 ?_
          refine lv_topi (fun x14 ex14 => ?_)
          replace h := letv_at ex14 h
          refine lv_istore (lv' := [(4, .int x14), (0, .ref (P.2.2.1 0)), (1, .int p1), (2, .int p2), (3, .int p3), (5, .int v5_42)]) hx hb dX11_luck_76 hl (by decide) rfl (fun ls hl => ?_)
          refine lv_iinc (v := (v5_42 + 1)) (lv' := [(5, .int (v5_42 + 1)), (4, .int x14), (0, .ref (P.2.2.1 0)), (1, .int p1), (2, .int p2), (3, .int p3)]) (k := 5) hx hb dX11_luck_78 hl rfl (congrArg (fun z => v5_42 + z) (by decide)) (by decide) rfl (fun ls hl => ?_)
          refine lv_goto (tgt := 42) hx hb dX11_luck_81 (by decide) ?_
          exact ih_42 x14 (v5_42 + 1) M10 ls _ _ (lv_sub hl [2, 3, 4, 5, 1, 0] rfl) hw h
  refine lv_aload_n hx hb dX11_luck_0 rfl (lv_at hl 0 rfl) ?_
  refine lv_iconst (v := 0) hx hb dX11_luck_1 (by decide) ?_
  refine wputI C hw fpX11_77 (rfl : _ = some (0, 11)) dX11_luck_2 (fun M1 eM1 H locs hw => ?_)
  replace h := letv_at eM1 h
  refine lv_iload_n hx hb dX11_luck_5 rfl (lv_at hl 1 rfl) ?_
  refine wcallS1 (As := [.int p1]) (rest := []) C hw (c_X11_isSeed hW  rfl) slX11_443 ⟨Nat.le_of_ble_eq_true rfl, Nat.le_of_ble_eq_true rfl⟩ rfl rfl hl.1 (Nat.le_of_ble_eq_true rfl) dX11_luck_6 ⟨Nat.zero_le _, Nat.zero_le _⟩ (fun H locs hw => ?_)
  refine lv_if_eq (tgt := 33) hx hb dX11_luck_9 (by decide) (fun c2 => ?_) (fun c2 => ?_)
  · replace h := (if_pos c2).symm.trans h
    refine lv_bipush (v := (-2)) hx hb dX11_luck_33 (by decide) ?_
    exact wretI_W C hw h dX11_luck_35
  · replace h := (if_neg c2).symm.trans h
    refine lv_iload_n hx hb dX11_luck_12 rfl (lv_at hl 2 rfl) ?_
    refine lv_i2l hx hb dX11_luck_13 rfl ?_
    refine lv_lconst (v := 1) hx hb dX11_luck_14 (by decide) ?_
    refine lv_ldc2 hx hb C.2.2.2.1 (C.2.2.2.2.1 _ (List.mem_cons_of_mem _ (gm kcX11_449 rfl))) dX11_luck_15 ?_
    refine wcallS1 (As := [.long ((p2 : Int32).toInt64), .long 1, .long 20]) (rest := []) C hw (c_X11_in hW  rfl) slX11_82 ⟨Nat.le_of_ble_eq_true rfl, Nat.le_of_ble_eq_true rfl⟩ rfl rfl hl.1 (Nat.le_of_ble_eq_true rfl) dX11_luck_18 ⟨Nat.zero_le _, Nat.zero_le _⟩ (fun H locs hw => ?_)
    refine lv_if_eq (tgt := 33) hx hb dX11_luck_21 (by decide) (fun c3 => ?_) (fun c3 => ?_)
    · replace h := (if_pos c3).symm.trans h
      refine lv_bipush (v := (-2)) hx hb dX11_luck_33 (by decide) ?_
      exact wretI_W C hw h dX11_luck_35
    · replace h := (if_neg c3).symm.trans h
      refine lv_aload_n hx hb dX11_luck_24 rfl (lv_at hl 0 rfl) ?_
      refine lv_iload_n hx hb dX11_luck_25 rfl (lv_at hl 3 rfl) ?_
      refine lv_i2l hx hb dX11_luck_26 rfl ?_
      obtain ⟨r4, e5, h⟩ := bnd_some h
      refine wcallV1 (As := [.long ((p3 : Int32).toInt64)]) (rest := []) C hw (c_X11_isPiece hW  e5) vlX11_237 ⟨Nat.le_of_ble_eq_true rfl, Nat.le_of_ble_eq_true rfl⟩ (rfl : _ = some (0, 11)) rfl rfl rfl hl.1 (Nat.le_of_ble_eq_true rfl) dX11_luck_27 ⟨Nat.zero_le _, Nat.zero_le _⟩ (fun H locs hw => ?_)
      refine lv_if_ne (tgt := 36) hx hb dX11_luck_30 (by decide) (fun c6 => ?_) (fun c6 => ?_)
      · replace h := (if_neg c6).symm.trans h
        refine lv_iconst (v := 0) hx hb dX11_luck_36 (by decide) ?_
        refine lv_istore (lv' := [(4, .int 0), (0, .ref (P.2.2.1 0)), (1, .int p1), (2, .int p2), (3, .int p3)]) hx hb dX11_luck_37 hl (by decide) rfl (fun ls hl => ?_)
        refine lv_iconst (v := 0) hx hb dX11_luck_39 (by decide) ?_
        refine lv_istore (lv' := [(5, .int 0), (4, .int 0), (0, .ref (P.2.2.1 0)), (1, .int p1), (2, .int p2), (3, .int p3)]) hx hb dX11_luck_40 hl (by decide) rfl (fun ls hl => ?_)
        exact cut_42 FU 0 0 M1 ls _ _ (lv_sub hl [2, 3, 4, 5, 1, 0] rfl) hw h
      · replace h := (if_pos c6).symm.trans h
        refine lv_bipush (v := (-2)) hx hb dX11_luck_33 (by decide) ?_
        exact wretI_W C hw h dX11_luck_35
set_option maxRecDepth 100000 in
set_option maxHeartbeats 4000000 in
theorem c_X11_does {l : Launch} {P : Wp} {E : State → Heap → Prop} (hW : Wok shR P E) {p1 : Int32} {p2 : Int32} {p3 : Int32} {p4 : Int32} {M : Mem} {M' : Mem} (h : f_X11_does p1 p2 p3 p4 M = some M') : CT l shR P E yX11_does bX11_does 6 (none) 6 141 [.ref (P.2.2.1 0), .int p1, .int p2, .int p3, .int p4] none M M' := by
  refine ct_of hW (by decide) (Nat.le_of_ble_eq_true rfl) (fun p e s m args below meth c C ls hl hw => ?_)
  have hx := C.1
  have hb := C.2.1
  replace hl : lv_has ls 6 [(0, .ref (P.2.2.1 0)), (1, .int p1), (2, .int p2), (3, .int p3), (4, .int p4)] := hl
  refine lv_iconst (v := 4) hx hb dX11_does_0 (by decide) ?_
  refine lv_aload_n hx hb dX11_does_1 rfl (lv_at hl 0 rfl) ?_
  refine wgetR (t := 7) C hw flX11_34 (rfl : _ = some (0, 11)) rfl dX11_does_2 ?_
  refine lv_bipush (v := 7) hx hb dX11_does_5 (by decide) ?_
  obtain ⟨g1, h⟩ := grd h
  refine wald C hw (rfl : _ = some (1, 40)) g1 dX11_does_7 ?_
  refine lv_imul hx hb dX11_does_8 ?_
  refine lv_topi (fun x2 ex2 => ?_)
  replace h := letv_at ex2 h
  refine lv_istore (lv' := [(5, .int x2), (0, .ref (P.2.2.1 0)), (1, .int p1), (2, .int p2), (3, .int p3), (4, .int p4)]) hx hb dX11_does_9 hl (by decide) rfl (fun ls hl => ?_)
  refine lv_aload_n hx hb dX11_does_11 rfl (lv_at hl 1 rfl) ?_
  refine wgetR (t := 10) C hw flX11_43 (rfl : _ = some (0, 11)) rfl dX11_does_12 ?_
  refine lv_iload hx hb dX11_does_15 (lv_at hl 0 rfl) ?_
  refine lv_iload_n hx hb dX11_does_17 rfl (lv_at hl 2 rfl) ?_
  obtain ⟨g4, h⟩ := grd h
  refine wast C hw (rfl : _ = some (1, 600)) g4 dX11_does_18 (fun M3 eM3 H locs hw => ?_)
  replace h := letv_at eM3 h
  refine lv_aload_n hx hb dX11_does_19 rfl (lv_at hl 1 rfl) ?_
  refine wgetR (t := 10) C hw flX11_43 (rfl : _ = some (0, 11)) rfl dX11_does_20 ?_
  refine lv_iload hx hb dX11_does_23 (lv_at hl 0 rfl) ?_
  refine lv_iconst (v := 1) hx hb dX11_does_25 (by decide) ?_
  refine lv_iadd hx hb dX11_does_26 ?_
  refine lv_iload_n hx hb dX11_does_27 rfl (lv_at hl 3 rfl) ?_
  obtain ⟨g6, h⟩ := grd h
  refine wast C hw (rfl : _ = some (1, 600)) g6 dX11_does_28 (fun M5 eM5 H locs hw => ?_)
  replace h := letv_at eM5 h
  refine lv_aload_n hx hb dX11_does_29 rfl (lv_at hl 1 rfl) ?_
  refine wgetR (t := 10) C hw flX11_43 (rfl : _ = some (0, 11)) rfl dX11_does_30 ?_
  refine lv_iload hx hb dX11_does_33 (lv_at hl 0 rfl) ?_
  refine lv_iconst (v := 2) hx hb dX11_does_35 (by decide) ?_
  refine lv_iadd hx hb dX11_does_36 ?_
  refine lv_iload_n hx hb dX11_does_37 rfl (lv_at hl 4 rfl) ?_
  obtain ⟨g8, h⟩ := grd h
  refine wast C hw (rfl : _ = some (1, 600)) g8 dX11_does_38 (fun M7 eM7 H locs hw => ?_)
  replace h := letv_at eM7 h
  refine lv_aload_n hx hb dX11_does_39 rfl (lv_at hl 1 rfl) ?_
  refine wgetR (t := 10) C hw flX11_43 (rfl : _ = some (0, 11)) rfl dX11_does_40 ?_
  refine lv_iload hx hb dX11_does_43 (lv_at hl 0 rfl) ?_
  refine lv_iconst (v := 3) hx hb dX11_does_45 (by decide) ?_
  refine lv_iadd hx hb dX11_does_46 ?_
  refine lv_iload hx hb dX11_does_47 (lv_at hl 5 rfl) ?_
  obtain ⟨g10, h⟩ := grd h
  refine wast C hw (rfl : _ = some (1, 600)) g10 dX11_does_49 (fun M9 eM9 H locs hw => ?_)
  replace h := letv_at eM9 h
  refine lv_aload_n hx hb dX11_does_50 rfl (lv_at hl 1 rfl) ?_
  refine wgetR (t := 7) C hw flX11_34 (rfl : _ = some (0, 11)) rfl dX11_does_51 ?_
  refine lv_bipush (v := 7) hx hb dX11_does_54 (by decide) ?_
  refine lv_dup2_11 hx hb dX11_does_56 rfl rfl ?_
  obtain ⟨g11, h⟩ := grd h
  refine wald C hw (rfl : _ = some (1, 40)) g11 dX11_does_57 ?_
  refine lv_iconst (v := 1) hx hb dX11_does_58 (by decide) ?_
  refine lv_iadd hx hb dX11_does_59 ?_
  obtain ⟨g13, h⟩ := grd h
  refine wast C hw (rfl : _ = some (1, 40)) g13 dX11_does_60 (fun M12 eM12 H locs hw => ?_)
  replace h := letv_at eM12 h
  refine lv_aload_n hx hb dX11_does_61 rfl (lv_at hl 1 rfl) ?_
  obtain ⟨M16, e15, h⟩ := bnd_some h
  refine wcallV0 (As := []) (rest := []) C hw (c_X11_laysNow hW  e15) vlX11_311 ⟨Nat.le_of_ble_eq_true rfl, Nat.le_of_ble_eq_true rfl⟩ (rfl : _ = some (0, 11)) rfl rfl rfl hl.1 (Nat.le_of_ble_eq_true rfl) dX11_does_62 ⟨Nat.zero_le _, Nat.zero_le _⟩ (fun H locs hw => ?_)
  exact wretV_W C hw h dX11_does_65
set_option maxRecDepth 100000 in
set_option maxHeartbeats 4000000 in
theorem c_X11_fires {l : Launch} {P : Wp} {E : State → Heap → Prop} (hW : Wok shR P E) {p1 : Int32} {p2 : Int32} {p3 : Int32} {M : Mem} {r : Int32} {M' : Mem} (h : f_X11_fires p1 p2 p3 M = some (r, M')) : CT l shR P E yX11_fires bX11_fires 4 ((some .int)) 7 166 [.ref (P.2.2.1 0), .int p1, .int p2, .int p3] (some (.int r)) M M' := by
  refine ct_of hW (by decide) (Nat.le_of_ble_eq_true rfl) (fun p e s m args below meth c C ls hl hw => ?_)
  have hx := C.1
  have hb := C.2.1
  replace hl : lv_has ls 4 [(0, .ref (P.2.2.1 0)), (1, .int p1), (2, .int p2), (3, .int p3)] := hl
  refine lv_aload_n hx hb dX11_fires_0 rfl (lv_at hl 0 rfl) ?_
  refine lv_iconst (v := 0) hx hb dX11_fires_1 (by decide) ?_
  refine wputI C hw fpX11_77 (rfl : _ = some (0, 11)) dX11_fires_2 (fun M1 eM1 H locs hw => ?_)
  replace h := letv_at eM1 h
  refine lv_aload_n hx hb dX11_fires_5 rfl (lv_at hl 0 rfl) ?_
  refine lv_iload_n hx hb dX11_fires_6 rfl (lv_at hl 1 rfl) ?_
  obtain ⟨r2, e3, h⟩ := bnd_some h
  refine wcallV1 (As := [.int p1]) (rest := []) C hw (c_X11_isZone hW  e3) vlX11_302 ⟨Nat.le_of_ble_eq_true rfl, Nat.le_of_ble_eq_true rfl⟩ (rfl : _ = some (0, 11)) rfl rfl rfl hl.1 (Nat.le_of_ble_eq_true rfl) dX11_fires_7 ⟨Nat.zero_le _, Nat.zero_le _⟩ (fun H locs hw => ?_)
  refine lv_if_eq (tgt := 34) hx hb dX11_fires_10 (by decide) (fun c4 => ?_) (fun c4 => ?_)
  · replace h := (if_pos c4).symm.trans h
    refine lv_bipush (v := (-2)) hx hb dX11_fires_34 (by decide) ?_
    exact wretI_W C hw h dX11_fires_36
  · replace h := (if_neg c4).symm.trans h
    refine lv_iload_n hx hb dX11_fires_13 rfl (lv_at hl 2 rfl) ?_
    refine lv_i2l hx hb dX11_fires_14 rfl ?_
    refine lv_lconst (v := 1) hx hb dX11_fires_15 (by decide) ?_
    refine lv_ldc2 hx hb C.2.2.2.1 (C.2.2.2.2.1 _ (List.mem_cons_of_mem _ (gm kcX11_451 rfl))) dX11_fires_16 ?_
    refine wcallS1 (As := [.long ((p2 : Int32).toInt64), .long 1, .long 200]) (rest := []) C hw (c_X11_in hW  rfl) slX11_82 ⟨Nat.le_of_ble_eq_true rfl, Nat.le_of_ble_eq_true rfl⟩ rfl rfl hl.1 (Nat.le_of_ble_eq_true rfl) dX11_fires_19 ⟨Nat.zero_le _, Nat.zero_le _⟩ (fun H locs hw => ?_)
    refine lv_if_eq (tgt := 34) hx hb dX11_fires_22 (by decide) (fun c5 => ?_) (fun c5 => ?_)
    · replace h := (if_pos c5).symm.trans h
      refine lv_bipush (v := (-2)) hx hb dX11_fires_34 (by decide) ?_
      exact wretI_W C hw h dX11_fires_36
    · replace h := (if_neg c5).symm.trans h
      refine lv_aload_n hx hb dX11_fires_25 rfl (lv_at hl 0 rfl) ?_
      refine lv_iload_n hx hb dX11_fires_26 rfl (lv_at hl 3 rfl) ?_
      refine lv_i2l hx hb dX11_fires_27 rfl ?_
      obtain ⟨r6, e7, h⟩ := bnd_some h
      refine wcallV1 (As := [.long ((p3 : Int32).toInt64)]) (rest := []) C hw (c_X11_isStep hW  e7) vlX11_240 ⟨Nat.le_of_ble_eq_true rfl, Nat.le_of_ble_eq_true rfl⟩ (rfl : _ = some (0, 11)) rfl rfl rfl hl.1 (Nat.le_of_ble_eq_true rfl) dX11_fires_28 ⟨Nat.zero_le _, Nat.zero_le _⟩ (fun H locs hw => ?_)
      refine lv_if_ne (tgt := 37) hx hb dX11_fires_31 (by decide) (fun c8 => ?_) (fun c8 => ?_)
      · replace h := (if_neg c8).symm.trans h
        refine lv_aload_n hx hb dX11_fires_37 rfl (lv_at hl 0 rfl) ?_
        refine wgetR (t := 7) C hw flX11_34 (rfl : _ = some (0, 11)) rfl dX11_fires_38 ?_
        refine lv_bipush (v := 7) hx hb dX11_fires_41 (by decide) ?_
        obtain ⟨g9, h⟩ := grd h
        refine wald C hw (rfl : _ = some (1, 40)) g9 dX11_fires_43 ?_
        refine lv_bipush (v := 30) hx hb dX11_fires_44 (by decide) ?_
        refine lv_icmp_ne (tgt := 52) hx hb dX11_fires_46 (by decide) (fun c10 => ?_) (fun c10 => ?_)
        · replace h := (if_neg c10).symm.trans h
          refine lv_aload_n hx hb dX11_fires_52 rfl (lv_at hl 0 rfl) ?_
          refine lv_iconst (v := 0) hx hb dX11_fires_53 (by decide) ?_
          refine lv_iload_n hx hb dX11_fires_54 rfl (lv_at hl 1 rfl) ?_
          refine lv_iload_n hx hb dX11_fires_55 rfl (lv_at hl 2 rfl) ?_
          refine lv_iload_n hx hb dX11_fires_56 rfl (lv_at hl 3 rfl) ?_
          obtain ⟨M13, e12, h⟩ := bnd_some h
          refine wcallV0 (As := [.int 0, .int p1, .int p2, .int p3]) (rest := []) C hw (c_X11_does hW  e12) vlX11_453 ⟨Nat.le_of_ble_eq_true rfl, Nat.le_of_ble_eq_true rfl⟩ (rfl : _ = some (0, 11)) rfl rfl rfl hl.1 (Nat.le_of_ble_eq_true rfl) dX11_fires_57 ⟨Nat.zero_le _, Nat.zero_le _⟩ (fun H locs hw => ?_)
          refine lv_aload_n hx hb dX11_fires_60 rfl (lv_at hl 0 rfl) ?_
          obtain ⟨r14, e15, h⟩ := bnd_some h
          refine wcallV1 (As := []) (rest := []) C hw (c_X11_soundNow hW  e15) vlX11_323 ⟨Nat.le_of_ble_eq_true rfl, Nat.le_of_ble_eq_true rfl⟩ (rfl : _ = some (0, 11)) rfl rfl rfl hl.1 (Nat.le_of_ble_eq_true rfl) dX11_fires_61 ⟨Nat.zero_le _, Nat.zero_le _⟩ (fun H locs hw => ?_)
          obtain ⟨r16, e17, h⟩ := bnd_some h
          refine wcallS1 (As := [.int r14]) (rest := []) C hw (c_X11_sizeOf hW  e17) slX11_335 ⟨Nat.le_of_ble_eq_true rfl, Nat.le_of_ble_eq_true rfl⟩ rfl rfl hl.1 (Nat.le_of_ble_eq_true rfl) dX11_fires_64 ⟨Nat.zero_le _, Nat.zero_le _⟩ (fun H locs hw => ?_)
          exact wretI_W C hw h dX11_fires_67
        · replace h := (if_pos c10).symm.trans h
          refine lv_bipush (v := (-5)) hx hb dX11_fires_49 (by decide) ?_
          exact wretI_W C hw h dX11_fires_51
      · replace h := (if_pos c8).symm.trans h
        refine lv_bipush (v := (-2)) hx hb dX11_fires_34 (by decide) ?_
        exact wretI_W C hw h dX11_fires_36
set_option maxRecDepth 100000 in
set_option maxHeartbeats 4000000 in
theorem c_X11_gusts {l : Launch} {P : Wp} {E : State → Heap → Prop} (hW : Wok shR P E) {p1 : Int32} {M : Mem} {r : Int32} {M' : Mem} (h : f_X11_gusts p1 M = some (r, M')) : CT l shR P E yX11_gusts bX11_gusts 2 ((some .int)) 7 166 [.ref (P.2.2.1 0), .int p1] (some (.int r)) M M' := by
  refine ct_of hW (by decide) (Nat.le_of_ble_eq_true rfl) (fun p e s m args below meth c C ls hl hw => ?_)
  have hx := C.1
  have hb := C.2.1
  replace hl : lv_has ls 2 [(0, .ref (P.2.2.1 0)), (1, .int p1)] := hl
  refine lv_aload_n hx hb dX11_gusts_0 rfl (lv_at hl 0 rfl) ?_
  refine lv_iconst (v := 0) hx hb dX11_gusts_1 (by decide) ?_
  refine wputI C hw fpX11_77 (rfl : _ = some (0, 11)) dX11_gusts_2 (fun M1 eM1 H locs hw => ?_)
  replace h := letv_at eM1 h
  refine lv_aload_n hx hb dX11_gusts_5 rfl (lv_at hl 0 rfl) ?_
  refine lv_iload_n hx hb dX11_gusts_6 rfl (lv_at hl 1 rfl) ?_
  obtain ⟨r2, e3, h⟩ := bnd_some h
  refine wcallV1 (As := [.int p1]) (rest := []) C hw (c_X11_isAhead hW  e3) vlX11_346 ⟨Nat.le_of_ble_eq_true rfl, Nat.le_of_ble_eq_true rfl⟩ (rfl : _ = some (0, 11)) rfl rfl rfl hl.1 (Nat.le_of_ble_eq_true rfl) dX11_gusts_7 ⟨Nat.zero_le _, Nat.zero_le _⟩ (fun H locs hw => ?_)
  refine lv_if_ne (tgt := 16) hx hb dX11_gusts_10 (by decide) (fun c4 => ?_) (fun c4 => ?_)
  · replace h := (if_neg c4).symm.trans h
    refine lv_aload_n hx hb dX11_gusts_16 rfl (lv_at hl 0 rfl) ?_
    refine wgetR (t := 7) C hw flX11_34 (rfl : _ = some (0, 11)) rfl dX11_gusts_17 ?_
    refine lv_bipush (v := 7) hx hb dX11_gusts_20 (by decide) ?_
    obtain ⟨g5, h⟩ := grd h
    refine wald C hw (rfl : _ = some (1, 40)) g5 dX11_gusts_22 ?_
    refine lv_bipush (v := 30) hx hb dX11_gusts_23 (by decide) ?_
    refine lv_icmp_ne (tgt := 31) hx hb dX11_gusts_25 (by decide) (fun c6 => ?_) (fun c6 => ?_)
    · replace h := (if_neg c6).symm.trans h
      refine lv_aload_n hx hb dX11_gusts_31 rfl (lv_at hl 0 rfl) ?_
      refine lv_iconst (v := 1) hx hb dX11_gusts_32 (by decide) ?_
      refine lv_iconst (v := (-1)) hx hb dX11_gusts_33 (by decide) ?_
      refine lv_iconst (v := 0) hx hb dX11_gusts_34 (by decide) ?_
      refine lv_iload_n hx hb dX11_gusts_35 rfl (lv_at hl 1 rfl) ?_
      obtain ⟨M9, e8, h⟩ := bnd_some h
      refine wcallV0 (As := [.int 1, .int (-1), .int 0, .int p1]) (rest := []) C hw (c_X11_does hW  e8) vlX11_453 ⟨Nat.le_of_ble_eq_true rfl, Nat.le_of_ble_eq_true rfl⟩ (rfl : _ = some (0, 11)) rfl rfl rfl hl.1 (Nat.le_of_ble_eq_true rfl) dX11_gusts_36 ⟨Nat.zero_le _, Nat.zero_le _⟩ (fun H locs hw => ?_)
      refine lv_aload_n hx hb dX11_gusts_39 rfl (lv_at hl 0 rfl) ?_
      obtain ⟨r10, e11, h⟩ := bnd_some h
      refine wcallV1 (As := []) (rest := []) C hw (c_X11_soundNow hW  e11) vlX11_323 ⟨Nat.le_of_ble_eq_true rfl, Nat.le_of_ble_eq_true rfl⟩ (rfl : _ = some (0, 11)) rfl rfl rfl hl.1 (Nat.le_of_ble_eq_true rfl) dX11_gusts_40 ⟨Nat.zero_le _, Nat.zero_le _⟩ (fun H locs hw => ?_)
      obtain ⟨r12, e13, h⟩ := bnd_some h
      refine wcallS1 (As := [.int r10]) (rest := []) C hw (c_X11_sizeOf hW  e13) slX11_335 ⟨Nat.le_of_ble_eq_true rfl, Nat.le_of_ble_eq_true rfl⟩ rfl rfl hl.1 (Nat.le_of_ble_eq_true rfl) dX11_gusts_43 ⟨Nat.zero_le _, Nat.zero_le _⟩ (fun H locs hw => ?_)
      exact wretI_W C hw h dX11_gusts_46
    · replace h := (if_pos c6).symm.trans h
      refine lv_bipush (v := (-5)) hx hb dX11_gusts_28 (by decide) ?_
      exact wretI_W C hw h dX11_gusts_30
  · replace h := (if_pos c4).symm.trans h
    refine lv_bipush (v := (-2)) hx hb dX11_gusts_13 (by decide) ?_
    exact wretI_W C hw h dX11_gusts_15
set_option maxRecDepth 100000 in
set_option maxHeartbeats 4000000 in
theorem c_X11_undo {l : Launch} {P : Wp} {E : State → Heap → Prop} (hW : Wok shR P E) {M : Mem} {r : Int32} {M' : Mem} (h : f_X11_undo M = some (r, M')) : CT l shR P E yX11_undo bX11_undo 1 ((some .int)) 1 20 [.ref (P.2.2.1 0)] (some (.int r)) M M' := by
  refine ct_of hW (by decide) (Nat.le_of_ble_eq_true rfl) (fun p e s m args below meth c C ls hl hw => ?_)
  have hx := C.1
  have hb := C.2.1
  replace hl : lv_has ls 1 [(0, .ref (P.2.2.1 0))] := hl
  refine lv_aload_n hx hb dX11_undo_0 rfl (lv_at hl 0 rfl) ?_
  refine lv_iconst (v := 0) hx hb dX11_undo_1 (by decide) ?_
  refine wputI C hw fpX11_77 (rfl : _ = some (0, 11)) dX11_undo_2 (fun M1 eM1 H locs hw => ?_)
  replace h := letv_at eM1 h
  refine lv_aload_n hx hb dX11_undo_5 rfl (lv_at hl 0 rfl) ?_
  obtain ⟨r2, e3, h⟩ := bnd_some h
  refine wcallV1 (As := []) (rest := []) C hw (c_X11_isLehr hW  e3) vlX11_231 ⟨Nat.le_of_ble_eq_true rfl, Nat.le_of_ble_eq_true rfl⟩ (rfl : _ = some (0, 11)) rfl rfl rfl hl.1 (Nat.le_of_ble_eq_true rfl) dX11_undo_6 ⟨Nat.zero_le _, Nat.zero_le _⟩ (fun H locs hw => ?_)
  refine lv_if_ne (tgt := 15) hx hb dX11_undo_9 (by decide) (fun c4 => ?_) (fun c4 => ?_)
  · replace h := (if_neg c4).symm.trans h
    refine lv_aload_n hx hb dX11_undo_15 rfl (lv_at hl 0 rfl) ?_
    refine wgetR (t := 7) C hw flX11_34 (rfl : _ = some (0, 11)) rfl dX11_undo_16 ?_
    refine lv_bipush (v := 7) hx hb dX11_undo_19 (by decide) ?_
    obtain ⟨g5, h⟩ := grd h
    refine wald C hw (rfl : _ = some (1, 40)) g5 dX11_undo_21 ?_
    refine lv_if_ne (tgt := 28) hx hb dX11_undo_22 (by decide) (fun c6 => ?_) (fun c6 => ?_)
    · replace h := (if_neg c6).symm.trans h
      refine lv_aload_n hx hb dX11_undo_28 rfl (lv_at hl 0 rfl) ?_
      refine wgetR (t := 7) C hw flX11_34 (rfl : _ = some (0, 11)) rfl dX11_undo_29 ?_
      refine lv_bipush (v := 7) hx hb dX11_undo_32 (by decide) ?_
      refine lv_dup2_11 hx hb dX11_undo_34 rfl rfl ?_
      obtain ⟨g7, h⟩ := grd h
      refine wald C hw (rfl : _ = some (1, 40)) g7 dX11_undo_35 ?_
      refine lv_iconst (v := 1) hx hb dX11_undo_36 (by decide) ?_
      refine lv_isub hx hb dX11_undo_37 ?_
      obtain ⟨g9, h⟩ := grd h
      refine wast C hw (rfl : _ = some (1, 40)) g9 dX11_undo_38 (fun M8 eM8 H locs hw => ?_)
      replace h := letv_at eM8 h
      refine lv_aload_n hx hb dX11_undo_39 rfl (lv_at hl 0 rfl) ?_
      refine wgetR (t := 7) C hw flX11_34 (rfl : _ = some (0, 11)) rfl dX11_undo_40 ?_
      refine lv_bipush (v := 7) hx hb dX11_undo_43 (by decide) ?_
      obtain ⟨g10, h⟩ := grd h
      refine wald C hw (rfl : _ = some (1, 40)) g10 dX11_undo_45 ?_
      exact wretI_W C hw h dX11_undo_46
    · replace h := (if_pos c6).symm.trans h
      refine lv_bipush (v := (-5)) hx hb dX11_undo_25 (by decide) ?_
      exact wretI_W C hw h dX11_undo_27
  · replace h := (if_pos c4).symm.trans h
    refine lv_bipush (v := (-2)) hx hb dX11_undo_12 (by decide) ?_
    exact wretI_W C hw h dX11_undo_14
set_option maxRecDepth 100000 in
set_option maxHeartbeats 4000000 in
theorem c_X11_anew {l : Launch} {P : Wp} {E : State → Heap → Prop} (hW : Wok shR P E) {M : Mem} {r : Int32} {M' : Mem} (h : f_X11_anew M = some (r, M')) : CT l shR P E yX11_anew bX11_anew 2 ((some .int)) 1 20 [.ref (P.2.2.1 0)] (some (.int r)) M M' := by
  refine ct_of hW (by decide) (Nat.le_of_ble_eq_true rfl) (fun p e s m args below meth c C ls hl hw => ?_)
  have hx := C.1
  have hb := C.2.1
  replace hl : lv_has ls 2 [(0, .ref (P.2.2.1 0))] := hl
  refine lv_aload_n hx hb dX11_anew_0 rfl (lv_at hl 0 rfl) ?_
  refine lv_iconst (v := 0) hx hb dX11_anew_1 (by decide) ?_
  refine wputI C hw fpX11_77 (rfl : _ = some (0, 11)) dX11_anew_2 (fun M1 eM1 H locs hw => ?_)
  replace h := letv_at eM1 h
  refine lv_aload_n hx hb dX11_anew_5 rfl (lv_at hl 0 rfl) ?_
  obtain ⟨r2, e3, h⟩ := bnd_some h
  refine wcallV1 (As := []) (rest := []) C hw (c_X11_isLehr hW  e3) vlX11_231 ⟨Nat.le_of_ble_eq_true rfl, Nat.le_of_ble_eq_true rfl⟩ (rfl : _ = some (0, 11)) rfl rfl rfl hl.1 (Nat.le_of_ble_eq_true rfl) dX11_anew_6 ⟨Nat.zero_le _, Nat.zero_le _⟩ (fun H locs hw => ?_)
  refine lv_if_ne (tgt := 15) hx hb dX11_anew_9 (by decide) (fun c4 => ?_) (fun c4 => ?_)
  · replace h := (if_neg c4).symm.trans h
    refine lv_aload_n hx hb dX11_anew_15 rfl (lv_at hl 0 rfl) ?_
    refine wgetR (t := 7) C hw flX11_34 (rfl : _ = some (0, 11)) rfl dX11_anew_16 ?_
    refine lv_bipush (v := 7) hx hb dX11_anew_19 (by decide) ?_
    obtain ⟨g5, h⟩ := grd h
    refine wald C hw (rfl : _ = some (1, 40)) g5 dX11_anew_21 ?_
    refine lv_topi (fun x6 ex6 => ?_)
    replace h := letv_at ex6 h
    refine lv_istore_n (lv' := [(1, .int x6), (0, .ref (P.2.2.1 0))]) hx hb dX11_anew_22 rfl hl (by decide) rfl (fun ls hl => ?_)
    refine lv_aload_n hx hb dX11_anew_23 rfl (lv_at hl 1 rfl) ?_
    refine wgetR (t := 7) C hw flX11_34 (rfl : _ = some (0, 11)) rfl dX11_anew_24 ?_
    refine lv_bipush (v := 7) hx hb dX11_anew_27 (by decide) ?_
    refine lv_iconst (v := 0) hx hb dX11_anew_29 (by decide) ?_
    obtain ⟨g8, h⟩ := grd h
    refine wast C hw (rfl : _ = some (1, 40)) g8 dX11_anew_30 (fun M7 eM7 H locs hw => ?_)
    replace h := letv_at eM7 h
    refine lv_iload_n hx hb dX11_anew_31 rfl (lv_at hl 0 rfl) ?_
    exact wretI_W C hw h dX11_anew_32
  · replace h := (if_pos c4).symm.trans h
    refine lv_bipush (v := (-2)) hx hb dX11_anew_12 (by decide) ?_
    exact wretI_W C hw h dX11_anew_14
set_option maxRecDepth 100000 in
set_option maxHeartbeats 4000000 in
theorem c_X11_rate {l : Launch} {P : Wp} {E : State → Heap → Prop} (hW : Wok shR P E) {p1 : Int32} {p2 : Int32} {M : Mem} {r : Int32} {M' : Mem} (h : f_X11_rate p1 p2 M = some (r, M')) : CT l shR P E yX11_rate bX11_rate 4 ((some .int)) 2 47 [.ref (P.2.2.1 0), .int p1, .int p2] (some (.int r)) M M' := by
  refine ct_of hW (by decide) (Nat.le_of_ble_eq_true rfl) (fun p e s m args below meth c C ls hl hw => ?_)
  have hx := C.1
  have hb := C.2.1
  replace hl : lv_has ls 4 [(0, .ref (P.2.2.1 0)), (1, .int p1), (2, .int p2)] := hl
  refine lv_aload_n hx hb dX11_rate_0 rfl (lv_at hl 0 rfl) ?_
  refine lv_iconst (v := 0) hx hb dX11_rate_1 (by decide) ?_
  refine wputI C hw fpX11_77 (rfl : _ = some (0, 11)) dX11_rate_2 (fun M1 eM1 H locs hw => ?_)
  replace h := letv_at eM1 h
  refine lv_aload_n hx hb dX11_rate_5 rfl (lv_at hl 0 rfl) ?_
  refine lv_iload_n hx hb dX11_rate_6 rfl (lv_at hl 1 rfl) ?_
  refine lv_i2l hx hb dX11_rate_7 rfl ?_
  obtain ⟨r2, e3, h⟩ := bnd_some h
  refine wcallV1 (As := [.long ((p1 : Int32).toInt64)]) (rest := []) C hw (c_X11_isPiece hW  e3) vlX11_237 ⟨Nat.le_of_ble_eq_true rfl, Nat.le_of_ble_eq_true rfl⟩ (rfl : _ = some (0, 11)) rfl rfl rfl hl.1 (Nat.le_of_ble_eq_true rfl) dX11_rate_8 ⟨Nat.zero_le _, Nat.zero_le _⟩ (fun H locs hw => ?_)
  refine lv_if_eq (tgt := 26) hx hb dX11_rate_11 (by decide) (fun c4 => ?_) (fun c4 => ?_)
  · replace h := (if_pos c4).symm.trans h
    refine lv_bipush (v := (-2)) hx hb dX11_rate_26 (by decide) ?_
    exact wretI_W C hw h dX11_rate_28
  · replace h := (if_neg c4).symm.trans h
    refine lv_iload_n hx hb dX11_rate_14 rfl (lv_at hl 2 rfl) ?_
    refine lv_i2l hx hb dX11_rate_15 rfl ?_
    refine lv_lconst (v := 0) hx hb dX11_rate_16 (by decide) ?_
    refine lv_ldc2 hx hb C.2.2.2.1 (C.2.2.2.2.1 _ (List.mem_cons_of_mem _ (gm kcX11_457 rfl))) dX11_rate_17 ?_
    refine wcallS1 (As := [.long ((p2 : Int32).toInt64), .long 0, .long 300]) (rest := []) C hw (c_X11_in hW  rfl) slX11_82 ⟨Nat.le_of_ble_eq_true rfl, Nat.le_of_ble_eq_true rfl⟩ rfl rfl hl.1 (Nat.le_of_ble_eq_true rfl) dX11_rate_20 ⟨Nat.zero_le _, Nat.zero_le _⟩ (fun H locs hw => ?_)
    refine lv_if_ne (tgt := 29) hx hb dX11_rate_23 (by decide) (fun c5 => ?_) (fun c5 => ?_)
    · replace h := (if_neg c5).symm.trans h
      refine lv_aload_n hx hb dX11_rate_29 rfl (lv_at hl 0 rfl) ?_
      refine wgetR (t := 7) C hw flX11_34 (rfl : _ = some (0, 11)) rfl dX11_rate_30 ?_
      refine lv_bipush (v := 7) hx hb dX11_rate_33 (by decide) ?_
      obtain ⟨g6, h⟩ := grd h
      refine wald C hw (rfl : _ = some (1, 40)) g6 dX11_rate_35 ?_
      refine lv_if_le (tgt := 42) hx hb dX11_rate_36 (by decide) (fun c7 => ?_) (fun c7 => ?_)
      · replace h := (if_pos c7).symm.trans h
        refine lv_aload_n hx hb dX11_rate_42 rfl (lv_at hl 0 rfl) ?_
        refine wgetR (t := 9) C hw flX11_40 (rfl : _ = some (0, 11)) rfl dX11_rate_43 ?_
        refine lv_iconst (v := 4) hx hb dX11_rate_46 (by decide) ?_
        refine lv_iload_n hx hb dX11_rate_47 rfl (lv_at hl 1 rfl) ?_
        refine lv_imul hx hb dX11_rate_48 ?_
        refine lv_iconst (v := 2) hx hb dX11_rate_49 (by decide) ?_
        refine lv_iadd hx hb dX11_rate_50 ?_
        obtain ⟨g8, h⟩ := grd h
        refine wald C hw (rfl : _ = some (1, 120)) g8 dX11_rate_51 ?_
        refine lv_topi (fun x9 ex9 => ?_)
        replace h := letv_at ex9 h
        refine lv_istore_n (lv' := [(3, .int x9), (0, .ref (P.2.2.1 0)), (1, .int p1), (2, .int p2)]) hx hb dX11_rate_52 rfl hl (by decide) rfl (fun ls hl => ?_)
        refine lv_aload_n hx hb dX11_rate_53 rfl (lv_at hl 1 rfl) ?_
        refine wgetR (t := 9) C hw flX11_40 (rfl : _ = some (0, 11)) rfl dX11_rate_54 ?_
        refine lv_iconst (v := 4) hx hb dX11_rate_57 (by decide) ?_
        refine lv_iload_n hx hb dX11_rate_58 rfl (lv_at hl 2 rfl) ?_
        refine lv_imul hx hb dX11_rate_59 ?_
        refine lv_iconst (v := 2) hx hb dX11_rate_60 (by decide) ?_
        refine lv_iadd hx hb dX11_rate_61 ?_
        refine lv_iload_n hx hb dX11_rate_62 rfl (lv_at hl 3 rfl) ?_
        obtain ⟨g11, h⟩ := grd h
        refine wast C hw (rfl : _ = some (1, 120)) g11 dX11_rate_63 (fun M10 eM10 H locs hw => ?_)
        replace h := letv_at eM10 h
        refine lv_iload_n hx hb dX11_rate_64 rfl (lv_at hl 0 rfl) ?_
        exact wretI_W C hw h dX11_rate_65
      · replace h := (if_neg c7).symm.trans h
        refine lv_bipush (v := (-5)) hx hb dX11_rate_39 (by decide) ?_
        exact wretI_W C hw h dX11_rate_41
    · replace h := (if_pos c5).symm.trans h
      refine lv_bipush (v := (-2)) hx hb dX11_rate_26 (by decide) ?_
      exact wretI_W C hw h dX11_rate_28
set_option maxRecDepth 100000 in
set_option maxHeartbeats 4000000 in
theorem c_X11_count {l : Launch} {P : Wp} {E : State → Heap → Prop} (hW : Wok shR P E) {p1 : Int32} {M : Mem} {r : Int32} {M' : Mem} (h : f_X11_count p1 M = some (r, M')) : CT l shR P E yX11_count bX11_count 4 ((some .int)) 1 25 [.ref (P.2.2.1 0), .int p1] (some (.int r)) M M' := by
  refine ct_of hW (by decide) (Nat.le_of_ble_eq_true rfl) (fun p e s m args below meth c C ls hl hw => ?_)
  have hx := C.1
  have hb := C.2.1
  replace hl : lv_has ls 4 [(0, .ref (P.2.2.1 0)), (1, .int p1)] := hl
  have cut_66 : ∀ (n_66 : Nat) (v2_66 : Int32) (v3_66 : Int32) (M_66 : Mem) (ls : Array Slot) (H : Heap) (locs : List Loc), lv_has ls 4 [(0, .ref (P.2.2.1 0)), (2, .int v2_66), (3, .int v3_66)] → Hw shR P M_66 s H locs → lq3 (L_X11_count_66 p1) n_66 v2_66 v3_66 M_66 = some (r, M') → W p l e { frames := 1, cells := 0, slots := 0, locals := 25 } s m args below meth c H locs 0 0 (MQ below (CQ shR P E (some (.int r)) M') args s 0 0 (wA shR P)) (F0 m 66 ls []) := by
    intro n_66
    induction n_66 with
    | zero => intro v2_66 v3_66 M_66 ls H locs hl hw h; cases h
    | succ n_66 ih_66 =>
      intro v2_66 v3_66 M_66 ls H locs hl hw h
      replace h := lq3_succ h
      refine lv_iload_n hx hb dX11_count_66 rfl (lv_at hl 2 rfl) ?_
      refine lv_iconst (v := 4) hx hb dX11_count_67 (by decide) ?_
      refine lv_icmp_ge (tgt := 95) hx hb dX11_count_68 (by decide) (fun c7 => ?_) (fun c7 => ?_)
      · replace h := (if_pos c7).symm.trans h
        refine lv_iload_n hx hb dX11_count_95 rfl (lv_at hl 1 rfl) ?_
        exact wretI_W C hw h dX11_count_96
      · replace h := (if_neg c7).symm.trans h
        refine lv_iload_n hx hb dX11_count_71 rfl (lv_at hl 1 rfl) ?_
        refine lv_aload_n hx hb dX11_count_72 rfl (lv_at hl 0 rfl) ?_
        refine wgetR (t := 1) C hw flX11_7 (rfl : _ = some (0, 11)) rfl dX11_count_73 ?_
        refine lv_iload_n hx hb dX11_count_76 rfl (lv_at hl 2 rfl) ?_
        obtain ⟨g8, h⟩ := grd h
        refine wald C hw (rfl : _ = some (1, 4)) g8 dX11_count_77 ?_
        refine lv_iconst (v := (-1)) hx hb dX11_count_78 (by decide) ?_
        refine lv_icmp_ne (tgt := 86) hx hb dX11_count_79 (by decide) (fun c9 => ?_) (fun c9 => ?_)
        · replace h := (if_neg c9).symm.trans h
          refine lv_iconst (v := 1) hx hb dX11_count_86 (by decide) ?_
          refine lv_iadd hx hb dX11_count_87 ?_
          refine lv_topi (fun x10 ex10 => ?_)
          replace h := letv_at ex10 h
          refine lv_istore_n (lv' := [(2, .int x10), (0, .ref (P.2.2.1 0)), (3, .int v3_66)]) hx hb dX11_count_88 rfl hl (by decide) rfl (fun ls hl => ?_)
          refine lv_iinc (v := (v3_66 + 1)) (lv' := [(3, .int (v3_66 + 1)), (2, .int x10), (0, .ref (P.2.2.1 0))]) (k := 2) hx hb dX11_count_89 hl rfl (congrArg (fun z => v3_66 + z) (by decide)) (by decide) rfl (fun ls hl => ?_)
          refine lv_goto (tgt := 66) hx hb dX11_count_92 (by decide) ?_
          exact ih_66 x10 (v3_66 + 1) M_66 ls _ _ (lv_sub hl [2, 1, 0] rfl) hw h
        · replace h := (if_pos c9).symm.trans h
          refine lv_iconst (v := 0) hx hb dX11_count_82 (by decide) ?_
          refine lv_goto (tgt := 87) hx hb dX11_count_83 (by decide) ?_
          refine lv_iadd hx hb dX11_count_87 ?_
          refine lv_topi (fun x11 ex11 => ?_)
          replace h := letv_at ex11 h
          refine lv_istore_n (lv' := [(2, .int x11), (0, .ref (P.2.2.1 0)), (3, .int v3_66)]) hx hb dX11_count_88 rfl hl (by decide) rfl (fun ls hl => ?_)
          refine lv_iinc (v := (v3_66 + 1)) (lv' := [(3, .int (v3_66 + 1)), (2, .int x11), (0, .ref (P.2.2.1 0))]) (k := 2) hx hb dX11_count_89 hl rfl (congrArg (fun z => v3_66 + z) (by decide)) (by decide) rfl (fun ls hl => ?_)
          refine lv_goto (tgt := 66) hx hb dX11_count_92 (by decide) ?_
          exact ih_66 x11 (v3_66 + 1) M_66 ls _ _ (lv_sub hl [2, 1, 0] rfl) hw h
  refine lv_aload_n hx hb dX11_count_0 rfl (lv_at hl 0 rfl) ?_
  refine lv_iconst (v := 0) hx hb dX11_count_1 (by decide) ?_
  refine wputI C hw fpX11_77 (rfl : _ = some (0, 11)) dX11_count_2 (fun M1 eM1 H locs hw => ?_)
  replace h := letv_at eM1 h
  refine lv_iload_n hx hb dX11_count_5 rfl (lv_at hl 1 rfl) ?_
  refine lv_i2l hx hb dX11_count_6 rfl ?_
  refine lv_lconst (v := 0) hx hb dX11_count_7 (by decide) ?_
  refine lv_ldc2 hx hb C.2.2.2.1 (C.2.2.2.2.1 _ (List.mem_cons_of_mem _ (gm kcX11_459 rfl))) dX11_count_8 ?_
  refine wcallS1 (As := [.long ((p1 : Int32).toInt64), .long 0, .long 7]) (rest := []) C hw (c_X11_in hW  rfl) slX11_82 ⟨Nat.le_of_ble_eq_true rfl, Nat.le_of_ble_eq_true rfl⟩ rfl rfl hl.1 (Nat.le_of_ble_eq_true rfl) dX11_count_11 ⟨Nat.zero_le _, Nat.zero_le _⟩ (fun H locs hw => ?_)
  refine lv_if_eq (tgt := 24) hx hb dX11_count_14 (by decide) (fun c2 => ?_) (fun c2 => ?_)
  · replace h := (if_pos c2).symm.trans h
    refine lv_iconst (v := 0) hx hb dX11_count_24 (by decide) ?_
    refine lv_istore_n (lv' := [(2, .int 0), (0, .ref (P.2.2.1 0)), (1, .int p1)]) hx hb dX11_count_25 rfl hl (by decide) rfl (fun ls hl => ?_)
    refine lv_iload_n hx hb dX11_count_26 rfl (lv_at hl 2 rfl) ?_
    by_cases c3 : p1 = 8
    · replace h := (if_pos c3).symm.trans h
      refine lv_tableIn (off := 25) (tgt := 52) hx hb dX11_count_27 (by rw [c3]; decide) (by rw [c3]; decide) (by rw [c3]; decide) (by decide) ?_
      refine lv_aload_n hx hb dX11_count_52 rfl (lv_at hl 1 rfl) ?_
      refine wgetR (t := 6) C hw flX11_31 (rfl : _ = some (0, 11)) rfl dX11_count_53 ?_
      refine lv_iconst (v := 0) hx hb dX11_count_56 (by decide) ?_
      obtain ⟨g6, h⟩ := grd h
      refine wald C hw (rfl : _ = some (1, 5)) g6 dX11_count_57 ?_
      exact wretI_W C hw h dX11_count_58
    · replace h := (if_neg c3).symm.trans h
      by_cases c4 : p1 = 9
      · replace h := (if_pos c4).symm.trans h
        refine lv_tableIn (off := 32) (tgt := 59) hx hb dX11_count_27 (by rw [c4]; decide) (by rw [c4]; decide) (by rw [c4]; decide) (by decide) ?_
        refine lv_aload_n hx hb dX11_count_59 rfl (lv_at hl 1 rfl) ?_
        refine wgetI C hw flX11_94 (rfl : _ = some (0, 11)) dX11_count_60 ?_
        exact wretI_W C hw h dX11_count_63
      · replace h := (if_neg c4).symm.trans h
        by_cases c5 : p1 = 10
        · replace h := (if_pos c5).symm.trans h
          refine lv_tableIn (off := 37) (tgt := 64) hx hb dX11_count_27 (by rw [c5]; decide) (by rw [c5]; decide) (by rw [c5]; decide) (by decide) ?_
          refine lv_iconst (v := 0) hx hb dX11_count_64 (by decide) ?_
          refine lv_istore_n (lv' := [(3, .int 0), (2, .int 0), (0, .ref (P.2.2.1 0)), (1, .int p1)]) hx hb dX11_count_65 rfl hl (by decide) rfl (fun ls hl => ?_)
          exact cut_66 FU 0 0 M1 ls _ _ (lv_sub hl [2, 1, 0] rfl) hw h
        · replace h := (if_neg c5).symm.trans h
          refine lv_tableOut (tgt := 97) hx hb dX11_count_27 (by have q0 := lv_neT (a := 8) c3 (by decide); have q1 := lv_neT (a := 9) c4 (by decide); have q2 := lv_neT (a := 10) c5 (by decide); omega) (by decide) ?_
          refine lv_iconst (v := (-1)) hx hb dX11_count_97 (by decide) ?_
          exact wretI_W C hw h dX11_count_98
  · replace h := (if_neg c2).symm.trans h
    refine lv_aload_n hx hb dX11_count_17 rfl (lv_at hl 0 rfl) ?_
    refine wgetR (t := 7) C hw flX11_34 (rfl : _ = some (0, 11)) rfl dX11_count_18 ?_
    refine lv_iload_n hx hb dX11_count_21 rfl (lv_at hl 1 rfl) ?_
    obtain ⟨g12, h⟩ := grd h
    refine wald C hw (rfl : _ = some (1, 40)) g12 dX11_count_22 ?_
    exact wretI_W C hw h dX11_count_23
set_option maxRecDepth 100000 in
set_option maxHeartbeats 4000000 in
theorem c_X11_image {l : Launch} {P : Wp} {E : State → Heap → Prop} (hW : Wok shR P E) {p1 : Int32} {M : Mem} {r : Int32} {M' : Mem} (h : f_X11_image p1 M = some (r, M')) : CT l shR P E yX11_image bX11_image 2 ((some .int)) 2 46 [.ref (P.2.2.1 0), .int p1] (some (.int r)) M M' := by
  refine ct_of hW (by decide) (Nat.le_of_ble_eq_true rfl) (fun p e s m args below meth c C ls hl hw => ?_)
  have hx := C.1
  have hb := C.2.1
  replace hl : lv_has ls 2 [(0, .ref (P.2.2.1 0)), (1, .int p1)] := hl
  refine lv_aload_n hx hb dX11_image_0 rfl (lv_at hl 0 rfl) ?_
  refine lv_iconst (v := 0) hx hb dX11_image_1 (by decide) ?_
  refine wputI C hw fpX11_77 (rfl : _ = some (0, 11)) dX11_image_2 (fun M1 eM1 H locs hw => ?_)
  replace h := letv_at eM1 h
  refine lv_iload_n hx hb dX11_image_5 rfl (lv_at hl 1 rfl) ?_
  refine lv_i2l hx hb dX11_image_6 rfl ?_
  refine lv_lconst (v := 0) hx hb dX11_image_7 (by decide) ?_
  refine lv_ldc2 hx hb C.2.2.2.1 (C.2.2.2.2.1 _ (List.mem_cons_of_mem _ (gm kcX11_350 rfl))) dX11_image_8 ?_
  refine wcallS1 (As := [.long ((p1 : Int32).toInt64), .long 0, .long 2]) (rest := []) C hw (c_X11_in hW  rfl) slX11_82 ⟨Nat.le_of_ble_eq_true rfl, Nat.le_of_ble_eq_true rfl⟩ rfl rfl hl.1 (Nat.le_of_ble_eq_true rfl) dX11_image_11 ⟨Nat.zero_le _, Nat.zero_le _⟩ (fun H locs hw => ?_)
  refine lv_if_ne (tgt := 20) hx hb dX11_image_14 (by decide) (fun c2 => ?_) (fun c2 => ?_)
  · replace h := (if_neg c2).symm.trans h
    refine lv_aload_n hx hb dX11_image_20 rfl (lv_at hl 0 rfl) ?_
    refine lv_iconst (v := 0) hx hb dX11_image_21 (by decide) ?_
    refine lv_iconst (v := 1) hx hb dX11_image_22 (by decide) ?_
    refine lv_iload_n hx hb dX11_image_23 rfl (lv_at hl 1 rfl) ?_
    refine lv_iadd hx hb dX11_image_24 ?_
    obtain ⟨M5, e4, h⟩ := bnd_some h
    refine wcallV0 (As := [.int 0, .int ((1 : Int32) + p1)]) (rest := []) C hw (c_X11_copyLehr hW  e4) vlX11_220 ⟨Nat.le_of_ble_eq_true rfl, Nat.le_of_ble_eq_true rfl⟩ (rfl : _ = some (0, 11)) rfl rfl rfl hl.1 (Nat.le_of_ble_eq_true rfl) dX11_image_25 ⟨Nat.zero_le _, Nat.zero_le _⟩ (fun H locs hw => ?_)
    refine lv_aload_n hx hb dX11_image_28 rfl (lv_at hl 0 rfl) ?_
    refine wgetR (t := 11) C hw flX11_46 (rfl : _ = some (0, 11)) rfl dX11_image_29 ?_
    refine lv_iload_n hx hb dX11_image_32 rfl (lv_at hl 1 rfl) ?_
    refine lv_iconst (v := 1) hx hb dX11_image_33 (by decide) ?_
    obtain ⟨g7, h⟩ := grd h
    refine wzast C hw (rfl : _ = some (3, 3)) g7 dX11_image_34 (fun M6 eM6 H locs hw => ?_)
    replace h := letv_at eM6 h
    refine lv_iconst (v := 0) hx hb dX11_image_35 (by decide) ?_
    exact wretI_W C hw h dX11_image_36
  · replace h := (if_pos c2).symm.trans h
    refine lv_bipush (v := (-2)) hx hb dX11_image_17 (by decide) ?_
    exact wretI_W C hw h dX11_image_19
set_option maxRecDepth 100000 in
set_option maxHeartbeats 4000000 in
theorem c_X11_back {l : Launch} {P : Wp} {E : State → Heap → Prop} (hW : Wok shR P E) {p1 : Int32} {M : Mem} {r : Int32} {M' : Mem} (h : f_X11_back p1 M = some (r, M')) : CT l shR P E yX11_back bX11_back 2 ((some .int)) 2 46 [.ref (P.2.2.1 0), .int p1] (some (.int r)) M M' := by
  refine ct_of hW (by decide) (Nat.le_of_ble_eq_true rfl) (fun p e s m args below meth c C ls hl hw => ?_)
  have hx := C.1
  have hb := C.2.1
  replace hl : lv_has ls 2 [(0, .ref (P.2.2.1 0)), (1, .int p1)] := hl
  refine lv_aload_n hx hb dX11_back_0 rfl (lv_at hl 0 rfl) ?_
  refine lv_iconst (v := 0) hx hb dX11_back_1 (by decide) ?_
  refine wputI C hw fpX11_77 (rfl : _ = some (0, 11)) dX11_back_2 (fun M1 eM1 H locs hw => ?_)
  replace h := letv_at eM1 h
  refine lv_iload_n hx hb dX11_back_5 rfl (lv_at hl 1 rfl) ?_
  refine lv_i2l hx hb dX11_back_6 rfl ?_
  refine lv_lconst (v := 0) hx hb dX11_back_7 (by decide) ?_
  refine lv_ldc2 hx hb C.2.2.2.1 (C.2.2.2.2.1 _ (List.mem_cons_of_mem _ (gm kcX11_350 rfl))) dX11_back_8 ?_
  refine wcallS1 (As := [.long ((p1 : Int32).toInt64), .long 0, .long 2]) (rest := []) C hw (c_X11_in hW  rfl) slX11_82 ⟨Nat.le_of_ble_eq_true rfl, Nat.le_of_ble_eq_true rfl⟩ rfl rfl hl.1 (Nat.le_of_ble_eq_true rfl) dX11_back_11 ⟨Nat.zero_le _, Nat.zero_le _⟩ (fun H locs hw => ?_)
  refine lv_if_ne (tgt := 20) hx hb dX11_back_14 (by decide) (fun c2 => ?_) (fun c2 => ?_)
  · replace h := (if_neg c2).symm.trans h
    refine lv_aload_n hx hb dX11_back_20 rfl (lv_at hl 0 rfl) ?_
    refine wgetR (t := 11) C hw flX11_46 (rfl : _ = some (0, 11)) rfl dX11_back_21 ?_
    refine lv_iload_n hx hb dX11_back_24 rfl (lv_at hl 1 rfl) ?_
    obtain ⟨g3, h⟩ := grd h
    refine wzald C hw (rfl : _ = some (3, 3)) g3 dX11_back_25 ?_
    refine lv_if_ne (tgt := 32) hx hb dX11_back_26 (by decide) (fun c4 => ?_) (fun c4 => ?_)
    · replace h := (if_neg c4).symm.trans h
      refine lv_aload_n hx hb dX11_back_32 rfl (lv_at hl 0 rfl) ?_
      refine lv_iconst (v := 1) hx hb dX11_back_33 (by decide) ?_
      refine lv_iload_n hx hb dX11_back_34 rfl (lv_at hl 1 rfl) ?_
      refine lv_iadd hx hb dX11_back_35 ?_
      refine lv_iconst (v := 0) hx hb dX11_back_36 (by decide) ?_
      obtain ⟨M7, e6, h⟩ := bnd_some h
      refine wcallV0 (As := [.int ((1 : Int32) + p1), .int 0]) (rest := []) C hw (c_X11_copyLehr hW  e6) vlX11_220 ⟨Nat.le_of_ble_eq_true rfl, Nat.le_of_ble_eq_true rfl⟩ (rfl : _ = some (0, 11)) rfl rfl rfl hl.1 (Nat.le_of_ble_eq_true rfl) dX11_back_37 ⟨Nat.zero_le _, Nat.zero_le _⟩ (fun H locs hw => ?_)
      refine lv_iconst (v := 0) hx hb dX11_back_40 (by decide) ?_
      exact wretI_W C hw h dX11_back_41
    · replace h := (if_pos c4).symm.trans h
      refine lv_bipush (v := (-6)) hx hb dX11_back_29 (by decide) ?_
      exact wretI_W C hw h dX11_back_31
  · replace h := (if_pos c2).symm.trans h
    refine lv_bipush (v := (-2)) hx hb dX11_back_17 (by decide) ?_
    exact wretI_W C hw h dX11_back_19
