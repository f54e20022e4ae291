theorem vlX11_317 : VL "LehrBeltModel" 317 yX11_hasCome bX11_hasCome 3 ((some .boolean)) 2 := ⟨List.mem_of_getElem? (i := 1901) (by decide +kernel), List.mem_of_getElem? (i := 1903) (by decide +kernel), List.mem_of_getElem? (i := 77) (by decide +kernel), List.mem_of_getElem? (i := 115) (by decide +kernel), List.mem_of_getElem? (i := 1904) (by decide +kernel), by decide +kernel, by decide +kernel, by decide +kernel⟩
theorem vlX11_320 : VL "LehrBeltModel" 320 yX11_isWhole bX11_isWhole 3 ((some .boolean)) 2 := ⟨List.mem_of_getElem? (i := 1905) (by decide +kernel), List.mem_of_getElem? (i := 1907) (by decide +kernel), List.mem_of_getElem? (i := 78) (by decide +kernel), List.mem_of_getElem? (i := 115) (by decide +kernel), List.mem_of_getElem? (i := 1908) (by decide +kernel), by decide +kernel, by decide +kernel, by decide +kernel⟩
theorem vlX11_323 : VL "LehrBeltModel" 323 yX11_soundNow bX11_soundNow 3 ((some .int)) 0 := ⟨List.mem_of_getElem? (i := 1913) (by decide +kernel), List.mem_of_getElem? (i := 1915) (by decide +kernel), List.mem_of_getElem? (i := 79) (by decide +kernel), List.mem_of_getElem? (i := 115) (by decide +kernel), List.mem_of_getElem? (i := 1916) (by decide +kernel), by decide +kernel, by decide +kernel, by decide +kernel⟩
theorem vlX11_326 : VL "LehrBeltModel" 326 yX11_markOf bX11_markOf 4 ((some .int)) 3 := ⟨List.mem_of_getElem? (i := 1929) (by decide +kernel), List.mem_of_getElem? (i := 1931) (by decide +kernel), List.mem_of_getElem? (i := 81) (by decide +kernel), List.mem_of_getElem? (i := 115) (by decide +kernel), List.mem_of_getElem? (i := 1932) (by decide +kernel), by decide +kernel, by decide +kernel, by decide +kernel⟩
theorem vlX11_329 : VL "LehrBeltModel" 329 yX11_mostAt bX11_mostAt 5 ((some .int)) 2 := ⟨List.mem_of_getElem? (i := 1925) (by decide +kernel), List.mem_of_getElem? (i := 1927) (by decide +kernel), List.mem_of_getElem? (i := 80) (by decide +kernel), List.mem_of_getElem? (i := 115) (by decide +kernel), List.mem_of_getElem? (i := 1928) (by decide +kernel), by decide +kernel, by decide +kernel, by decide +kernel⟩
theorem vlX11_332 : VL "LehrBeltModel" 332 yX11_crackedIn bX11_crackedIn 4 ((some .int)) 1 := ⟨List.mem_of_getElem? (i := 1949) (by decide +kernel), List.mem_of_getElem? (i := 1951) (by decide +kernel), List.mem_of_getElem? (i := 82) (by decide +kernel), List.mem_of_getElem? (i := 115) (by decide +kernel), List.mem_of_getElem? (i := 1952) (by decide +kernel), by decide +kernel, by decide +kernel, by decide +kernel⟩
theorem slX11_335 : SL "LehrBeltModel" 335 yX11_sizeOf bX11_sizeOf 3 ((some .int)) 1 := ⟨List.mem_of_getElem? (i := 1953) (by decide +kernel), List.mem_of_getElem? (i := 1954) (by decide +kernel), List.mem_of_getElem? (i := 115) (by decide +kernel), List.mem_of_getElem? (i := 1955) (by decide +kernel), by decide +kernel, by decide +kernel, by decide +kernel⟩
theorem kcX11_338 : Cond.constantLong "LehrBeltModel" 338 600 ∈ lw_tbl := List.mem_of_getElem? (i := 1972) (by decide +kernel)
theorem vlX11_340 : VL "LehrBeltModel" 340 yX11_fallOf bX11_fallOf 3 ((some .int)) 2 := ⟨List.mem_of_getElem? (i := 1993) (by decide +kernel), List.mem_of_getElem? (i := 1995) (by decide +kernel), List.mem_of_getElem? (i := 83) (by decide +kernel), List.mem_of_getElem? (i := 115) (by decide +kernel), List.mem_of_getElem? (i := 1996) (by decide +kernel), by decide +kernel, by decide +kernel, by decide +kernel⟩
theorem vlX11_343 : VL "LehrBeltModel" 343 yX11_dropOf bX11_dropOf 3 ((some .int)) 2 := ⟨List.mem_of_getElem? (i := 2009) (by decide +kernel), List.mem_of_getElem? (i := 2011) (by decide +kernel), List.mem_of_getElem? (i := 84) (by decide +kernel), List.mem_of_getElem? (i := 115) (by decide +kernel), List.mem_of_getElem? (i := 2012) (by decide +kernel), by decide +kernel, by decide +kernel, by decide +kernel⟩
theorem kcX11_349 : Cond.constant "LehrBeltModel" 349 (-100000) ∈ lw_tbl := List.mem_of_getElem? (i := 2021) (by decide +kernel)
theorem vlX11_346 : VL "LehrBeltModel" 346 yX11_isAhead bX11_isAhead 2 ((some .boolean)) 1 := ⟨List.mem_of_getElem? (i := 2017) (by decide +kernel), List.mem_of_getElem? (i := 2019) (by decide +kernel), List.mem_of_getElem? (i := 85) (by decide +kernel), List.mem_of_getElem? (i := 115) (by decide +kernel), List.mem_of_getElem? (i := 2020) (by decide +kernel), by decide +kernel, by decide +kernel, by decide +kernel⟩
theorem kcX11_350 : Cond.constantLong "LehrBeltModel" 350 2 ∈ lw_tbl := List.mem_of_getElem? (i := 2042) (by decide +kernel)
set_option maxRecDepth 100000 in
set_option maxHeartbeats 4000000 in
theorem c_X11_whole {l : Launch} {P : Wp} {E : State → Heap → Prop} (hW : Wok shR P E) {p1 : Int32} {M : Mem} {r : Int32} {M' : Mem} (h : f_X11_whole p1 M = some (r, M')) : CT l shR P E yX11_whole bX11_whole 4 ((some .int)) 6 141 [.ref (P.2.2.1 0), .int p1] (some (.int r)) M M' := by
  refine ct_of hW (by decide) (Nat.le_of_ble_eq_true rfl) (fun p e s m args below meth c C ls hl hw => ?_)
  have hx := C.1
  have hb := C.2.1
  replace hl : lv_has ls 4 [(0, .ref (P.2.2.1 0)), (1, .int p1)] := hl
  have cut_25 : ∀ (n_25 : Nat) (v2_25 : Int32) (v3_25 : Int32) (M_25 : Mem) (ls : Array Slot) (H : Heap) (locs : List Loc), lv_has ls 4 [(0, .ref (P.2.2.1 0)), (1, .int p1), (2, .int v2_25), (3, .int v3_25)] → Hw shR P M_25 s H locs → lq3 (L_X11_whole_25 p1) n_25 v2_25 v3_25 M_25 = some (r, M') → W p l e { frames := 6, cells := 0, slots := 0, locals := 141 } s m args below meth c H locs 0 0 (MQ below (CQ shR P E (some (.int r)) M') args s 0 0 (wA shR P)) (F0 m 25 ls []) := by
    intro n_25
    induction n_25 with
    | zero => intro v2_25 v3_25 M_25 ls H locs hl hw h; cases h
    | succ n_25 ih_25 =>
      intro v2_25 v3_25 M_25 ls H locs hl hw h
      replace h := lq3_succ h
      refine lv_iload_n hx hb dX11_whole_25 rfl (lv_at hl 3 rfl) ?_
      refine lv_aload_n hx hb dX11_whole_26 rfl (lv_at hl 0 rfl) ?_
      obtain ⟨r8, e9, h⟩ := bnd_some h
      refine wcallV1 (As := []) (rest := [.int v3_25]) C hw (c_X11_pieces hW  e9) vlX11_227 ⟨Nat.le_of_ble_eq_true rfl, Nat.le_of_ble_eq_true rfl⟩ (rfl : _ = some (0, 11)) rfl rfl rfl hl.1 (Nat.le_of_ble_eq_true rfl) dX11_whole_27 ⟨Nat.zero_le _, Nat.zero_le _⟩ (fun H locs hw => ?_)
      refine lv_icmp_ge (tgt := 67) hx hb dX11_whole_30 (by decide) (fun c10 => ?_) (fun c10 => ?_)
      · replace h := (if_pos c10).symm.trans h
        refine lv_iload_n hx hb dX11_whole_67 rfl (lv_at hl 2 rfl) ?_
        exact wretI_W C hw h dX11_whole_68
      · replace h := (if_neg c10).symm.trans h
        refine lv_iload_n hx hb dX11_whole_33 rfl (lv_at hl 2 rfl) ?_
        refine lv_aload_n hx hb dX11_whole_34 rfl (lv_at hl 0 rfl) ?_
        refine lv_iload_n hx hb dX11_whole_35 rfl (lv_at hl 3 rfl) ?_
        refine lv_iload_n hx hb dX11_whole_36 rfl (lv_at hl 1 rfl) ?_
        obtain ⟨r11, e12, h⟩ := bnd_some h
        refine wcallV1 (As := [.int v3_25, .int p1]) (rest := [.int v2_25]) C hw (c_X11_hasCome hW  e12) vlX11_317 ⟨Nat.le_of_ble_eq_true rfl, Nat.le_of_ble_eq_true rfl⟩ (rfl : _ = some (0, 11)) rfl rfl rfl hl.1 (Nat.le_of_ble_eq_true rfl) dX11_whole_37 ⟨Nat.zero_le _, Nat.zero_le _⟩ (fun H locs hw => ?_)
        refine lv_if_eq (tgt := 58) hx hb dX11_whole_40 (by decide) (fun c13 => ?_) (fun c13 => ?_)
        · replace h := (if_pos c13).symm.trans h
          refine lv_iconst (v := 0) hx hb dX11_whole_58 (by decide) ?_
          refine lv_ior hx hb dX11_whole_59 ?_
          refine lv_topi (fun x14 ex14 => ?_)
          replace h := letv_at ex14 h
          refine lv_istore_n (lv' := [(2, .int x14), (0, .ref (P.2.2.1 0)), (1, .int p1), (3, .int v3_25)]) hx hb dX11_whole_60 rfl hl (by decide) rfl (fun ls hl => ?_)
          refine lv_iinc (v := (v3_25 + 1)) (lv' := [(3, .int (v3_25 + 1)), (2, .int x14), (0, .ref (P.2.2.1 0)), (1, .int p1)]) (k := 3) hx hb dX11_whole_61 hl rfl (congrArg (fun z => v3_25 + z) (by decide)) (by decide) rfl (fun ls hl => ?_)
          refine lv_goto (tgt := 25) hx hb dX11_whole_64 (by decide) ?_
          exact ih_25 x14 (v3_25 + 1) M_25 ls _ _ (lv_sub hl [2, 3, 1, 0] rfl) hw h
        · replace h := (if_neg c13).symm.trans h
          refine lv_aload_n hx hb dX11_whole_43 rfl (lv_at hl 0 rfl) ?_
          refine lv_iload_n hx hb dX11_whole_44 rfl (lv_at hl 3 rfl) ?_
          refine lv_iload_n hx hb dX11_whole_45 rfl (lv_at hl 1 rfl) ?_
          obtain ⟨r15, e16, h⟩ := bnd_some h
          refine wcallV1 (As := [.int v3_25, .int p1]) (rest := [.int v2_25]) C hw (c_X11_isWhole hW  e16) vlX11_320 ⟨Nat.le_of_ble_eq_true rfl, Nat.le_of_ble_eq_true rfl⟩ (rfl : _ = some (0, 11)) rfl rfl rfl hl.1 (Nat.le_of_ble_eq_true rfl) dX11_whole_46 ⟨Nat.zero_le _, Nat.zero_le _⟩ (fun H locs hw => ?_)
          refine lv_if_eq (tgt := 58) hx hb dX11_whole_49 (by decide) (fun c17 => ?_) (fun c17 => ?_)
          · replace h := (if_pos c17).symm.trans h
            refine lv_iconst (v := 0) hx hb dX11_whole_58 (by decide) ?_
            refine lv_ior hx hb dX11_whole_59 ?_
            refine lv_topi (fun x18 ex18 => ?_)
            replace h := letv_at ex18 h
            refine lv_istore_n (lv' := [(2, .int x18), (0, .ref (P.2.2.1 0)), (1, .int p1), (3, .int v3_25)]) hx hb dX11_whole_60 rfl hl (by decide) rfl (fun ls hl => ?_)
            refine lv_iinc (v := (v3_25 + 1)) (lv' := [(3, .int (v3_25 + 1)), (2, .int x18), (0, .ref (P.2.2.1 0)), (1, .int p1)]) (k := 3) hx hb dX11_whole_61 hl rfl (congrArg (fun z => v3_25 + z) (by decide)) (by decide) rfl (fun ls hl => ?_)
            refine lv_goto (tgt := 25) hx hb dX11_whole_64 (by decide) ?_
            exact ih_25 x18 (v3_25 + 1) M_25 ls _ _ (lv_sub hl [2, 3, 1, 0] rfl) hw h
          · replace h := (if_neg c17).symm.trans h
            refine lv_iconst (v := 1) hx hb dX11_whole_52 (by decide) ?_
            refine lv_iload_n hx hb dX11_whole_53 rfl (lv_at hl 3 rfl) ?_
            refine lv_ishl hx hb dX11_whole_54 ?_
            refine lv_goto (tgt := 59) hx hb dX11_whole_55 (by decide) ?_
            refine lv_ior hx hb dX11_whole_59 ?_
            refine lv_topi (fun x19 ex19 => ?_)
            replace h := letv_at ex19 h
            refine lv_istore_n (lv' := [(2, .int x19), (0, .ref (P.2.2.1 0)), (1, .int p1), (3, .int v3_25)]) hx hb dX11_whole_60 rfl hl (by decide) rfl (fun ls hl => ?_)
            refine lv_iinc (v := (v3_25 + 1)) (lv' := [(3, .int (v3_25 + 1)), (2, .int x19), (0, .ref (P.2.2.1 0)), (1, .int p1)]) (k := 3) hx hb dX11_whole_61 hl rfl (congrArg (fun z => v3_25 + z) (by decide)) (by decide) rfl (fun ls hl => ?_)
            refine lv_goto (tgt := 25) hx hb dX11_whole_64 (by decide) ?_
            exact ih_25 x19 (v3_25 + 1) M_25 ls _ _ (lv_sub hl [2, 3, 1, 0] rfl) hw h
  refine lv_aload_n hx hb dX11_whole_0 rfl (lv_at hl 0 rfl) ?_
  refine lv_iconst (v := 0) hx hb dX11_whole_1 (by decide) ?_
  refine wputI C hw fpX11_77 (rfl : _ = some (0, 11)) dX11_whole_2 (fun M1 eM1 H locs hw => ?_)
  replace h := letv_at eM1 h
  refine lv_aload_n hx hb dX11_whole_5 rfl (lv_at hl 0 rfl) ?_
  refine lv_iload_n hx hb dX11_whole_6 rfl (lv_at hl 1 rfl) ?_
  refine lv_i2l hx hb dX11_whole_7 rfl ?_
  obtain ⟨r2, e3, h⟩ := bnd_some h
  refine wcallV1 (As := [.long ((p1 : Int32).toInt64)]) (rest := []) C hw (c_X11_isStep hW  e3) vlX11_240 ⟨Nat.le_of_ble_eq_true rfl, Nat.le_of_ble_eq_true rfl⟩ (rfl : _ = some (0, 11)) rfl rfl rfl hl.1 (Nat.le_of_ble_eq_true rfl) dX11_whole_8 ⟨Nat.zero_le _, Nat.zero_le _⟩ (fun H locs hw => ?_)
  refine lv_if_ne (tgt := 17) hx hb dX11_whole_11 (by decide) (fun c4 => ?_) (fun c4 => ?_)
  · replace h := (if_neg c4).symm.trans h
    refine lv_aload_n hx hb dX11_whole_17 rfl (lv_at hl 0 rfl) ?_
    obtain ⟨M7, e6, h⟩ := bnd_some h
    refine wcallV0 (As := []) (rest := []) C hw (c_X11_laysNow hW  e6) vlX11_311 ⟨Nat.le_of_ble_eq_true rfl, Nat.le_of_ble_eq_true rfl⟩ (rfl : _ = some (0, 11)) rfl rfl rfl hl.1 (Nat.le_of_ble_eq_true rfl) dX11_whole_18 ⟨Nat.zero_le _, Nat.zero_le _⟩ (fun H locs hw => ?_)
    refine lv_iconst (v := 0) hx hb dX11_whole_21 (by decide) ?_
    refine lv_istore_n (lv' := [(2, .int 0), (0, .ref (P.2.2.1 0)), (1, .int p1)]) hx hb dX11_whole_22 rfl hl (by decide) rfl (fun ls hl => ?_)
    refine lv_iconst (v := 0) hx hb dX11_whole_23 (by decide) ?_
    refine lv_istore_n (lv' := [(3, .int 0), (2, .int 0), (0, .ref (P.2.2.1 0)), (1, .int p1)]) hx hb dX11_whole_24 rfl hl (by decide) rfl (fun ls hl => ?_)
    exact cut_25 FU 0 0 M7 ls _ _ (lv_sub hl [2, 3, 1, 0] rfl) hw h
  · replace h := (if_pos c4).symm.trans h
    refine lv_bipush (v := (-2)) hx hb dX11_whole_14 (by decide) ?_
    exact wretI_W C hw h dX11_whole_16
set_option maxRecDepth 100000 in
set_option maxHeartbeats 4000000 in
theorem c_X11_sound {l : Launch} {P : Wp} {E : State → Heap → Prop} (hW : Wok shR P E) {M : Mem} {r : Int32} {M' : Mem} (h : f_X11_sound M = some (r, M')) : CT l shR P E yX11_sound bX11_sound 1 ((some .int)) 6 141 [.ref (P.2.2.1 0)] (some (.int r)) M M' := by
  refine ct_of hW (by decide) (Nat.le_of_ble_eq_true rfl) (fun p e s m args below meth c C ls hl hw => ?_)
  have hx := C.1
  have hb := C.2.1
  replace hl : lv_has ls 1 [(0, .ref (P.2.2.1 0))] := hl
  refine lv_aload_n hx hb dX11_sound_0 rfl (lv_at hl 0 rfl) ?_
  refine lv_iconst (v := 0) hx hb dX11_sound_1 (by decide) ?_
  refine wputI C hw fpX11_77 (rfl : _ = some (0, 11)) dX11_sound_2 (fun M1 eM1 H locs hw => ?_)
  replace h := letv_at eM1 h
  refine lv_aload_n hx hb dX11_sound_5 rfl (lv_at hl 0 rfl) ?_
  obtain ⟨r2, e3, h⟩ := bnd_some h
  refine wcallV1 (As := []) (rest := []) C hw (c_X11_isLehr hW  e3) vlX11_231 ⟨Nat.le_of_ble_eq_true rfl, Nat.le_of_ble_eq_true rfl⟩ (rfl : _ = some (0, 11)) rfl rfl rfl hl.1 (Nat.le_of_ble_eq_true rfl) dX11_sound_6 ⟨Nat.zero_le _, Nat.zero_le _⟩ (fun H locs hw => ?_)
  refine lv_if_ne (tgt := 15) hx hb dX11_sound_9 (by decide) (fun c4 => ?_) (fun c4 => ?_)
  · replace h := (if_neg c4).symm.trans h
    refine lv_aload_n hx hb dX11_sound_15 rfl (lv_at hl 0 rfl) ?_
    obtain ⟨M7, e6, h⟩ := bnd_some h
    refine wcallV0 (As := []) (rest := []) C hw (c_X11_laysNow hW  e6) vlX11_311 ⟨Nat.le_of_ble_eq_true rfl, Nat.le_of_ble_eq_true rfl⟩ (rfl : _ = some (0, 11)) rfl rfl rfl hl.1 (Nat.le_of_ble_eq_true rfl) dX11_sound_16 ⟨Nat.zero_le _, Nat.zero_le _⟩ (fun H locs hw => ?_)
    refine lv_aload_n hx hb dX11_sound_19 rfl (lv_at hl 0 rfl) ?_
    obtain ⟨r8, e9, h⟩ := bnd_some h
    refine wcallV1 (As := []) (rest := []) C hw (c_X11_soundNow hW  e9) vlX11_323 ⟨Nat.le_of_ble_eq_true rfl, Nat.le_of_ble_eq_true rfl⟩ (rfl : _ = some (0, 11)) rfl rfl rfl hl.1 (Nat.le_of_ble_eq_true rfl) dX11_sound_20 ⟨Nat.zero_le _, Nat.zero_le _⟩ (fun H locs hw => ?_)
    exact wretI_W C hw h dX11_sound_23
  · replace h := (if_pos c4).symm.trans h
    refine lv_bipush (v := (-2)) hx hb dX11_sound_12 (by decide) ?_
    exact wretI_W C hw h dX11_sound_14
set_option maxRecDepth 100000 in
set_option maxHeartbeats 4000000 in
theorem c_X11_good {l : Launch} {P : Wp} {E : State → Heap → Prop} (hW : Wok shR P E) {M : Mem} {r : Int32} {M' : Mem} (h : f_X11_good M = some (r, M')) : CT l shR P E yX11_good bX11_good 1 ((some .int)) 6 141 [.ref (P.2.2.1 0)] (some (.int r)) M M' := by
  refine ct_of hW (by decide) (Nat.le_of_ble_eq_true rfl) (fun p e s m args below meth c C ls hl hw => ?_)
  have hx := C.1
  have hb := C.2.1
  replace hl : lv_has ls 1 [(0, .ref (P.2.2.1 0))] := hl
  refine lv_aload_n hx hb dX11_good_0 rfl (lv_at hl 0 rfl) ?_
  refine lv_iconst (v := 0) hx hb dX11_good_1 (by decide) ?_
  refine wputI C hw fpX11_77 (rfl : _ = some (0, 11)) dX11_good_2 (fun M1 eM1 H locs hw => ?_)
  replace h := letv_at eM1 h
  refine lv_aload_n hx hb dX11_good_5 rfl (lv_at hl 0 rfl) ?_
  obtain ⟨r2, e3, h⟩ := bnd_some h
  refine wcallV1 (As := []) (rest := []) C hw (c_X11_isLehr hW  e3) vlX11_231 ⟨Nat.le_of_ble_eq_true rfl, Nat.le_of_ble_eq_true rfl⟩ (rfl : _ = some (0, 11)) rfl rfl rfl hl.1 (Nat.le_of_ble_eq_true rfl) dX11_good_6 ⟨Nat.zero_le _, Nat.zero_le _⟩ (fun H locs hw => ?_)
  refine lv_if_ne (tgt := 15) hx hb dX11_good_9 (by decide) (fun c4 => ?_) (fun c4 => ?_)
  · replace h := (if_neg c4).symm.trans h
    refine lv_aload_n hx hb dX11_good_15 rfl (lv_at hl 0 rfl) ?_
    obtain ⟨M7, e6, h⟩ := bnd_some h
    refine wcallV0 (As := []) (rest := []) C hw (c_X11_laysNow hW  e6) vlX11_311 ⟨Nat.le_of_ble_eq_true rfl, Nat.le_of_ble_eq_true rfl⟩ (rfl : _ = some (0, 11)) rfl rfl rfl hl.1 (Nat.le_of_ble_eq_true rfl) dX11_good_16 ⟨Nat.zero_le _, Nat.zero_le _⟩ (fun H locs hw => ?_)
    refine lv_aload_n hx hb dX11_good_19 rfl (lv_at hl 0 rfl) ?_
    refine lv_bipush (v := 10) hx hb dX11_good_20 (by decide) ?_
    refine lv_aload_n hx hb dX11_good_22 rfl (lv_at hl 0 rfl) ?_
    obtain ⟨r8, e9, h⟩ := bnd_some h
    refine wcallV1 (As := []) (rest := [.int 10, .ref (P.2.2.1 0)]) C hw (c_X11_steps hW  e9) vlX11_234 ⟨Nat.le_of_ble_eq_true rfl, Nat.le_of_ble_eq_true rfl⟩ (rfl : _ = some (0, 11)) rfl rfl rfl hl.1 (Nat.le_of_ble_eq_true rfl) dX11_good_23 ⟨Nat.zero_le _, Nat.zero_le _⟩ (fun H locs hw => ?_)
    obtain ⟨r10, e11, h⟩ := bnd_some h
    refine wcallV1 (As := [.int 10, .int r8]) (rest := []) C hw (c_X11_insideOf hW  e11) vlX11_308 ⟨Nat.le_of_ble_eq_true rfl, Nat.le_of_ble_eq_true rfl⟩ (rfl : _ = some (0, 11)) rfl rfl rfl hl.1 (Nat.le_of_ble_eq_true rfl) dX11_good_26 ⟨Nat.zero_le _, Nat.zero_le _⟩ (fun H locs hw => ?_)
    refine lv_aload_n hx hb dX11_good_29 rfl (lv_at hl 0 rfl) ?_
    obtain ⟨r12, e13, h⟩ := bnd_some h
    refine wcallV1 (As := []) (rest := [.int r10]) C hw (c_X11_soundNow hW  e13) vlX11_323 ⟨Nat.le_of_ble_eq_true rfl, Nat.le_of_ble_eq_true rfl⟩ (rfl : _ = some (0, 11)) rfl rfl rfl hl.1 (Nat.le_of_ble_eq_true rfl) dX11_good_30 ⟨Nat.zero_le _, Nat.zero_le _⟩ (fun H locs hw => ?_)
    refine lv_iand hx hb dX11_good_33 ?_
    exact wretI_W C hw h dX11_good_34
  · replace h := (if_pos c4).symm.trans h
    refine lv_bipush (v := (-2)) hx hb dX11_good_12 (by decide) ?_
    exact wretI_W C hw h dX11_good_14
set_option maxRecDepth 100000 in
set_option maxHeartbeats 4000000 in
theorem c_X11_markOf {l : Launch} {P : Wp} {E : State → Heap → Prop} (hW : Wok shR P E) {p1 : Int32} {p2 : Int32} {p3 : Int32} {M : Mem} {r : Int32} (h : f_X11_markOf p1 p2 p3 M = some r) : CT l shR P E yX11_markOf bX11_markOf 4 ((some .int)) 2 44 [.ref (P.2.2.1 0), .int p1, .int p2, .int p3] (some (.int r)) M M := by
  refine ct_of hW (by decide) (Nat.le_of_ble_eq_true rfl) (fun p e s m args below meth c C ls hl hw => ?_)
  have hx := C.1
  have hb := C.2.1
  replace hl : lv_has ls 4 [(0, .ref (P.2.2.1 0)), (1, .int p1), (2, .int p2), (3, .int p3)] := hl
  refine lv_iload_n hx hb dX11_markOf_0 rfl (lv_at hl 3 rfl) ?_
  refine lv_if_ne (tgt := 13) hx hb dX11_markOf_1 (by decide) (fun c1 => ?_) (fun c1 => ?_)
  · replace h := (if_neg c1).symm.trans h
    refine lv_iload_n hx hb dX11_markOf_13 rfl (lv_at hl 3 rfl) ?_
    refine lv_iconst (v := 1) hx hb dX11_markOf_14 (by decide) ?_
    refine lv_icmp_ne (tgt := 27) hx hb dX11_markOf_15 (by decide) (fun c2 => ?_) (fun c2 => ?_)
    · replace h := (if_neg c2).symm.trans h
      refine lv_aload_n hx hb dX11_markOf_27 rfl (lv_at hl 0 rfl) ?_
      refine lv_iload_n hx hb dX11_markOf_28 rfl (lv_at hl 1 rfl) ?_
      refine lv_iload_n hx hb dX11_markOf_29 rfl (lv_at hl 2 rfl) ?_
      obtain ⟨r3, e4, h⟩ := bnd_some h
      refine wcallV1 (As := [.int p1, .int p2]) (rest := []) C hw (c_X11_coreOf hW  e4) vlX11_271 ⟨Nat.le_of_ble_eq_true rfl, Nat.le_of_ble_eq_true rfl⟩ (rfl : _ = some (0, 11)) rfl rfl rfl hl.1 (Nat.le_of_ble_eq_true rfl) dX11_markOf_30 ⟨Nat.zero_le _, Nat.zero_le _⟩ (fun H locs hw => ?_)
      exact wretI_R C hw h dX11_markOf_33
    · replace h := (if_pos c2).symm.trans h
      refine lv_aload_n hx hb dX11_markOf_18 rfl (lv_at hl 0 rfl) ?_
      refine lv_iload_n hx hb dX11_markOf_19 rfl (lv_at hl 1 rfl) ?_
      refine lv_iload_n hx hb dX11_markOf_20 rfl (lv_at hl 2 rfl) ?_
      obtain ⟨r5, e6, h⟩ := bnd_some h
      refine wcallV1 (As := [.int p1, .int p2]) (rest := []) C hw (c_X11_skinOf hW  e6) vlX11_268 ⟨Nat.le_of_ble_eq_true rfl, Nat.le_of_ble_eq_true rfl⟩ (rfl : _ = some (0, 11)) rfl rfl rfl hl.1 (Nat.le_of_ble_eq_true rfl) dX11_markOf_21 ⟨Nat.zero_le _, Nat.zero_le _⟩ (fun H locs hw => ?_)
      refine lv_goto (tgt := 33) hx hb dX11_markOf_24 (by decide) ?_
      exact wretI_R C hw h dX11_markOf_33
  · replace h := (if_pos c1).symm.trans h
    refine lv_aload_n hx hb dX11_markOf_4 rfl (lv_at hl 0 rfl) ?_
    refine lv_iload_n hx hb dX11_markOf_5 rfl (lv_at hl 1 rfl) ?_
    refine lv_iload_n hx hb dX11_markOf_6 rfl (lv_at hl 2 rfl) ?_
    obtain ⟨r7, e8, h⟩ := bnd_some h
    refine wcallV1 (As := [.int p1, .int p2]) (rest := []) C hw (c_X11_strainOf hW  e8) vlX11_290 ⟨Nat.le_of_ble_eq_true rfl, Nat.le_of_ble_eq_true rfl⟩ (rfl : _ = some (0, 11)) rfl rfl rfl hl.1 (Nat.le_of_ble_eq_true rfl) dX11_markOf_7 ⟨Nat.zero_le _, Nat.zero_le _⟩ (fun H locs hw => ?_)
    refine lv_goto (tgt := 33) hx hb dX11_markOf_10 (by decide) ?_
    exact wretI_R C hw h dX11_markOf_33
set_option maxRecDepth 100000 in
set_option maxHeartbeats 4000000 in
theorem c_X11_mostAt {l : Launch} {P : Wp} {E : State → Heap → Prop} (hW : Wok shR P E) {p1 : Int32} {p2 : Int32} {M : Mem} {r : Int32} (h : f_X11_mostAt p1 p2 M = some r) : CT l shR P E yX11_mostAt bX11_mostAt 5 ((some .int)) 3 67 [.ref (P.2.2.1 0), .int p1, .int p2] (some (.int r)) M M := by
  refine ct_of hW (by decide) (Nat.le_of_ble_eq_true rfl) (fun p e s m args below meth c C ls hl hw => ?_)
  have hx := C.1
  have hb := C.2.1
  replace hl : lv_has ls 5 [(0, .ref (P.2.2.1 0)), (1, .int p1), (2, .int p2)] := hl
  have cut_5 : ∀ (n_5 : Nat) (v3_5 : Int32) (v4_5 : Int32) (ls : Array Slot) (H : Heap) (locs : List Loc), lv_has ls 5 [(0, .ref (P.2.2.1 0)), (1, .int p1), (2, .int p2), (3, .int v3_5), (4, .int v4_5)] → Hw shR P M s H locs → lq2 (L_X11_mostAt_5 p1 p2 M) n_5 v3_5 v4_5 = some r → W p l e { frames := 3, cells := 0, slots := 0, locals := 67 } s m args below meth c H locs 0 0 (MQ below (CQ shR P E (some (.int r)) M) args s 0 0 (wA shR P)) (F0 m 5 ls []) := by
    intro n_5
    induction n_5 with
    | zero => intro v3_5 v4_5 ls H locs hl hw h; cases h
    | succ n_5 ih_5 =>
      intro v3_5 v4_5 ls H locs hl hw h
      replace h := lq2_succ h
      refine lv_iload hx hb dX11_mostAt_5 (lv_at hl 4 rfl) ?_
      refine lv_aload_n hx hb dX11_mostAt_7 rfl (lv_at hl 0 rfl) ?_
      obtain ⟨r1, e2, h⟩ := bnd_some h
      refine wcallV1 (As := []) (rest := [.int v4_5]) C hw (c_X11_pieces hW  e2) vlX11_227 ⟨Nat.le_of_ble_eq_true rfl, Nat.le_of_ble_eq_true rfl⟩ (rfl : _ = some (0, 11)) rfl rfl rfl hl.1 (Nat.le_of_ble_eq_true rfl) dX11_mostAt_8 ⟨Nat.zero_le _, Nat.zero_le _⟩ (fun H locs hw => ?_)
      refine lv_icmp_ge (tgt := 56) hx hb dX11_mostAt_11 (by decide) (fun c3 => ?_) (fun c3 => ?_)
      · replace h := (if_pos c3).symm.trans h
        refine lv_iload_n hx hb dX11_mostAt_56 rfl (lv_at hl 3 rfl) ?_
        exact wretI_R C hw h dX11_mostAt_57
      · replace h := (if_neg c3).symm.trans h
        refine lv_aload_n hx hb dX11_mostAt_14 rfl (lv_at hl 0 rfl) ?_
        refine lv_iload hx hb dX11_mostAt_15 (lv_at hl 4 rfl) ?_
        refine lv_iload_n hx hb dX11_mostAt_17 rfl (lv_at hl 1 rfl) ?_
        obtain ⟨r4, e5, h⟩ := bnd_some h
        refine wcallV1 (As := [.int v4_5, .int p1]) (rest := []) C hw (c_X11_hasCome hW  e5) vlX11_317 ⟨Nat.le_of_ble_eq_true rfl, Nat.le_of_ble_eq_true rfl⟩ (rfl : _ = some (0, 11)) rfl rfl rfl hl.1 (Nat.le_of_ble_eq_true rfl) dX11_mostAt_18 ⟨Nat.zero_le _, Nat.zero_le _⟩ (fun H locs hw => ?_)
        refine lv_if_eq (tgt := 50) hx hb dX11_mostAt_21 (by decide) (fun c6 => ?_) (fun c6 => ?_)
        · replace h := (if_pos c6).symm.trans h
          refine lv_iinc (v := (v4_5 + 1)) (lv' := [(4, .int (v4_5 + 1)), (0, .ref (P.2.2.1 0)), (1, .int p1), (2, .int p2), (3, .int v3_5)]) (k := 4) hx hb dX11_mostAt_50 hl rfl (congrArg (fun z => v4_5 + z) (by decide)) (by decide) rfl (fun ls hl => ?_)
          refine lv_goto (tgt := 5) hx hb dX11_mostAt_53 (by decide) ?_
          exact ih_5 v3_5 (v4_5 + 1) ls _ _ (lv_sub hl [1, 2, 3, 4, 0] rfl) hw h
        · replace h := (if_neg c6).symm.trans h
          refine lv_iload_n hx hb dX11_mostAt_24 rfl (lv_at hl 3 rfl) ?_
          refine lv_iconst (v := (-1)) hx hb dX11_mostAt_25 (by decide) ?_
          refine lv_icmp_eq (tgt := 47) hx hb dX11_mostAt_26 (by decide) (fun c7 => ?_) (fun c7 => ?_)
          · replace h := (if_pos c7).symm.trans h
            refine lv_iload hx hb dX11_mostAt_47 (lv_at hl 4 rfl) ?_
            refine lv_istore_n (lv' := [(3, .int v4_5), (0, .ref (P.2.2.1 0)), (1, .int p1), (2, .int p2), (4, .int v4_5)]) hx hb dX11_mostAt_49 rfl hl (by decide) rfl (fun ls hl => ?_)
            refine lv_iinc (v := (v4_5 + 1)) (lv' := [(4, .int (v4_5 + 1)), (3, .int v4_5), (0, .ref (P.2.2.1 0)), (1, .int p1), (2, .int p2)]) (k := 4) hx hb dX11_mostAt_50 hl rfl (congrArg (fun z => v4_5 + z) (by decide)) (by decide) rfl (fun ls hl => ?_)
            refine lv_goto (tgt := 5) hx hb dX11_mostAt_53 (by decide) ?_
            exact ih_5 v4_5 (v4_5 + 1) ls _ _ (lv_sub hl [2, 3, 4, 1, 0] rfl) hw h
          · replace h := (if_neg c7).symm.trans h
            refine lv_aload_n hx hb dX11_mostAt_29 rfl (lv_at hl 0 rfl) ?_
            refine lv_iload hx hb dX11_mostAt_30 (lv_at hl 4 rfl) ?_
            refine lv_iload_n hx hb dX11_mostAt_32 rfl (lv_at hl 1 rfl) ?_
            refine lv_iload_n hx hb dX11_mostAt_33 rfl (lv_at hl 2 rfl) ?_
            obtain ⟨r8, e9, h⟩ := bnd_some h
            refine wcallV1 (As := [.int v4_5, .int p1, .int p2]) (rest := []) C hw (c_X11_markOf hW  e9) vlX11_326 ⟨Nat.le_of_ble_eq_true rfl, Nat.le_of_ble_eq_true rfl⟩ (rfl : _ = some (0, 11)) rfl rfl rfl hl.1 (Nat.le_of_ble_eq_true rfl) dX11_mostAt_34 ⟨Nat.zero_le _, Nat.zero_le _⟩ (fun H locs hw => ?_)
            refine lv_aload_n hx hb dX11_mostAt_37 rfl (lv_at hl 0 rfl) ?_
            refine lv_iload_n hx hb dX11_mostAt_38 rfl (lv_at hl 3 rfl) ?_
            refine lv_iload_n hx hb dX11_mostAt_39 rfl (lv_at hl 1 rfl) ?_
            refine lv_iload_n hx hb dX11_mostAt_40 rfl (lv_at hl 2 rfl) ?_
            obtain ⟨r10, e11, h⟩ := bnd_some h
            refine wcallV1 (As := [.int v3_5, .int p1, .int p2]) (rest := [.int r8]) C hw (c_X11_markOf hW  e11) vlX11_326 ⟨Nat.le_of_ble_eq_true rfl, Nat.le_of_ble_eq_true rfl⟩ (rfl : _ = some (0, 11)) rfl rfl rfl hl.1 (Nat.le_of_ble_eq_true rfl) dX11_mostAt_41 ⟨Nat.zero_le _, Nat.zero_le _⟩ (fun H locs hw => ?_)
            refine lv_icmp_le (tgt := 50) hx hb dX11_mostAt_44 (by decide) (fun c12 => ?_) (fun c12 => ?_)
            · replace h := (if_pos c12).symm.trans h
              refine lv_iinc (v := (v4_5 + 1)) (lv' := [(4, .int (v4_5 + 1)), (0, .ref (P.2.2.1 0)), (1, .int p1), (2, .int p2), (3, .int v3_5)]) (k := 4) hx hb dX11_mostAt_50 hl rfl (congrArg (fun z => v4_5 + z) (by decide)) (by decide) rfl (fun ls hl => ?_)
              refine lv_goto (tgt := 5) hx hb dX11_mostAt_53 (by decide) ?_
              exact ih_5 v3_5 (v4_5 + 1) ls _ _ (lv_sub hl [1, 2, 3, 4, 0] rfl) hw h
            · replace h := (if_neg c12).symm.trans h
              refine lv_iload hx hb dX11_mostAt_47 (lv_at hl 4 rfl) ?_
              refine lv_istore_n (lv' := [(3, .int v4_5), (0, .ref (P.2.2.1 0)), (1, .int p1), (2, .int p2), (4, .int v4_5)]) hx hb dX11_mostAt_49 rfl hl (by decide) rfl (fun ls hl => ?_)
              refine lv_iinc (v := (v4_5 + 1)) (lv' := [(4, .int (v4_5 + 1)), (3, .int v4_5), (0, .ref (P.2.2.1 0)), (1, .int p1), (2, .int p2)]) (k := 4) hx hb dX11_mostAt_50 hl rfl (congrArg (fun z => v4_5 + z) (by decide)) (by decide) rfl (fun ls hl => ?_)
              refine lv_goto (tgt := 5) hx hb dX11_mostAt_53 (by decide) ?_
              exact ih_5 v4_5 (v4_5 + 1) ls _ _ (lv_sub hl [2, 3, 4, 1, 0] rfl) hw h
  refine lv_iconst (v := (-1)) hx hb dX11_mostAt_0 (by decide) ?_
  refine lv_istore_n (lv' := [(3, .int (-1)), (0, .ref (P.2.2.1 0)), (1, .int p1), (2, .int p2)]) hx hb dX11_mostAt_1 rfl hl (by decide) rfl (fun ls hl => ?_)
  refine lv_iconst (v := 0) hx hb dX11_mostAt_2 (by decide) ?_
  refine lv_istore (lv' := [(4, .int 0), (3, .int (-1)), (0, .ref (P.2.2.1 0)), (1, .int p1), (2, .int p2)]) hx hb dX11_mostAt_3 hl (by decide) rfl (fun ls hl => ?_)
  exact cut_5 FU (-1) 0 ls _ _ (lv_sub hl [2, 3, 4, 1, 0] rfl) hw h
set_option maxRecDepth 100000 in
set_option maxHeartbeats 4000000 in
theorem c_X11_tight {l : Launch} {P : Wp} {E : State → Heap → Prop} (hW : Wok shR P E) {p1 : Int32} {M : Mem} {r : Int32} {M' : Mem} (h : f_X11_tight p1 M = some (r, M')) : CT l shR P E yX11_tight bX11_tight 2 ((some .int)) 6 141 [.ref (P.2.2.1 0), .int p1] (some (.int r)) M M' := by
  refine ct_of hW (by decide) (Nat.le_of_ble_eq_true rfl) (fun p e s m args below meth c C ls hl hw => ?_)
  have hx := C.1
  have hb := C.2.1
  replace hl : lv_has ls 2 [(0, .ref (P.2.2.1 0)), (1, .int p1)] := hl
  refine lv_aload_n hx hb dX11_tight_0 rfl (lv_at hl 0 rfl) ?_
  refine lv_iconst (v := 0) hx hb dX11_tight_1 (by decide) ?_
  refine wputI C hw fpX11_77 (rfl : _ = some (0, 11)) dX11_tight_2 (fun M1 eM1 H locs hw => ?_)
  replace h := letv_at eM1 h
  refine lv_aload_n hx hb dX11_tight_5 rfl (lv_at hl 0 rfl) ?_
  refine lv_iload_n hx hb dX11_tight_6 rfl (lv_at hl 1 rfl) ?_
  refine lv_i2l hx hb dX11_tight_7 rfl ?_
  obtain ⟨r2, e3, h⟩ := bnd_some h
  refine wcallV1 (As := [.long ((p1 : Int32).toInt64)]) (rest := []) C hw (c_X11_isStep hW  e3) vlX11_240 ⟨Nat.le_of_ble_eq_true rfl, Nat.le_of_ble_eq_true rfl⟩ (rfl : _ = some (0, 11)) rfl rfl rfl hl.1 (Nat.le_of_ble_eq_true rfl) dX11_tight_8 ⟨Nat.zero_le _, Nat.zero_le _⟩ (fun H locs hw => ?_)
  refine lv_if_ne (tgt := 17) hx hb dX11_tight_11 (by decide) (fun c4 => ?_) (fun c4 => ?_)
  · replace h := (if_neg c4).symm.trans h
    refine lv_aload_n hx hb dX11_tight_17 rfl (lv_at hl 0 rfl) ?_
    obtain ⟨M7, e6, h⟩ := bnd_some h
    refine wcallV0 (As := []) (rest := []) C hw (c_X11_laysNow hW  e6) vlX11_311 ⟨Nat.le_of_ble_eq_true rfl, Nat.le_of_ble_eq_true rfl⟩ (rfl : _ = some (0, 11)) rfl rfl rfl hl.1 (Nat.le_of_ble_eq_true rfl) dX11_tight_18 ⟨Nat.zero_le _, Nat.zero_le _⟩ (fun H locs hw => ?_)
    refine lv_aload_n hx hb dX11_tight_21 rfl (lv_at hl 0 rfl) ?_
    refine lv_iload_n hx hb dX11_tight_22 rfl (lv_at hl 1 rfl) ?_
    refine lv_iconst (v := 0) hx hb dX11_tight_23 (by decide) ?_
    obtain ⟨r8, e9, h⟩ := bnd_some h
    refine wcallV1 (As := [.int p1, .int 0]) (rest := []) C hw (c_X11_mostAt hW  e9) vlX11_329 ⟨Nat.le_of_ble_eq_true rfl, Nat.le_of_ble_eq_true rfl⟩ (rfl : _ = some (0, 11)) rfl rfl rfl hl.1 (Nat.le_of_ble_eq_true rfl) dX11_tight_24 ⟨Nat.zero_le _, Nat.zero_le _⟩ (fun H locs hw => ?_)
    exact wretI_W C hw h dX11_tight_27
  · replace h := (if_pos c4).symm.trans h
    refine lv_bipush (v := (-2)) hx hb dX11_tight_14 (by decide) ?_
    exact wretI_W C hw h dX11_tight_16
set_option maxRecDepth 100000 in
set_option maxHeartbeats 4000000 in
theorem c_X11_hottest {l : Launch} {P : Wp} {E : State → Heap → Prop} (hW : Wok shR P E) {p1 : Int32} {M : Mem} {r : Int32} {M' : Mem} (h : f_X11_hottest p1 M = some (r, M')) : CT l shR P E yX11_hottest bX11_hottest 2 ((some .int)) 6 141 [.ref (P.2.2.1 0), .int p1] (some (.int r)) M M' := by
  refine ct_of hW (by decide) (Nat.le_of_ble_eq_true rfl) (fun p e s m args below meth c C ls hl hw => ?_)
  have hx := C.1
  have hb := C.2.1
  replace hl : lv_has ls 2 [(0, .ref (P.2.2.1 0)), (1, .int p1)] := hl
  refine lv_aload_n hx hb dX11_hottest_0 rfl (lv_at hl 0 rfl) ?_
  refine lv_iconst (v := 0) hx hb dX11_hottest_1 (by decide) ?_
  refine wputI C hw fpX11_77 (rfl : _ = some (0, 11)) dX11_hottest_2 (fun M1 eM1 H locs hw => ?_)
  replace h := letv_at eM1 h
  refine lv_aload_n hx hb dX11_hottest_5 rfl (lv_at hl 0 rfl) ?_
  refine lv_iload_n hx hb dX11_hottest_6 rfl (lv_at hl 1 rfl) ?_
  refine lv_i2l hx hb dX11_hottest_7 rfl ?_
  obtain ⟨r2, e3, h⟩ := bnd_some h
  refine wcallV1 (As := [.long ((p1 : Int32).toInt64)]) (rest := []) C hw (c_X11_isStep hW  e3) vlX11_240 ⟨Nat.le_of_ble_eq_true rfl, Nat.le_of_ble_eq_true rfl⟩ (rfl : _ = some (0, 11)) rfl rfl rfl hl.1 (Nat.le_of_ble_eq_true rfl) dX11_hottest_8 ⟨Nat.zero_le _, Nat.zero_le _⟩ (fun H locs hw => ?_)
  refine lv_if_ne (tgt := 17) hx hb dX11_hottest_11 (by decide) (fun c4 => ?_) (fun c4 => ?_)
  · replace h := (if_neg c4).symm.trans h
    refine lv_aload_n hx hb dX11_hottest_17 rfl (lv_at hl 0 rfl) ?_
    obtain ⟨M7, e6, h⟩ := bnd_some h
    refine wcallV0 (As := []) (rest := []) C hw (c_X11_laysNow hW  e6) vlX11_311 ⟨Nat.le_of_ble_eq_true rfl, Nat.le_of_ble_eq_true rfl⟩ (rfl : _ = some (0, 11)) rfl rfl rfl hl.1 (Nat.le_of_ble_eq_true rfl) dX11_hottest_18 ⟨Nat.zero_le _, Nat.zero_le _⟩ (fun H locs hw => ?_)
    refine lv_aload_n hx hb dX11_hottest_21 rfl (lv_at hl 0 rfl) ?_
    refine lv_iload_n hx hb dX11_hottest_22 rfl (lv_at hl 1 rfl) ?_
    refine lv_iconst (v := 1) hx hb dX11_hottest_23 (by decide) ?_
    obtain ⟨r8, e9, h⟩ := bnd_some h
    refine wcallV1 (As := [.int p1, .int 1]) (rest := []) C hw (c_X11_mostAt hW  e9) vlX11_329 ⟨Nat.le_of_ble_eq_true rfl, Nat.le_of_ble_eq_true rfl⟩ (rfl : _ = some (0, 11)) rfl rfl rfl hl.1 (Nat.le_of_ble_eq_true rfl) dX11_hottest_24 ⟨Nat.zero_le _, Nat.zero_le _⟩ (fun H locs hw => ?_)
    exact wretI_W C hw h dX11_hottest_27
  · replace h := (if_pos c4).symm.trans h
    refine lv_bipush (v := (-2)) hx hb dX11_hottest_14 (by decide) ?_
    exact wretI_W C hw h dX11_hottest_16
set_option maxRecDepth 100000 in
set_option maxHeartbeats 4000000 in
theorem c_X11_kernel {l : Launch} {P : Wp} {E : State → Heap → Prop} (hW : Wok shR P E) {p1 : Int32} {M : Mem} {r : Int32} {M' : Mem} (h : f_X11_kernel p1 M = some (r, M')) : CT l shR P E yX11_kernel bX11_kernel 2 ((some .int)) 6 141 [.ref (P.2.2.1 0), .int p1] (some (.int r)) M M' := by
  refine ct_of hW (by decide) (Nat.le_of_ble_eq_true rfl) (fun p e s m args below meth c C ls hl hw => ?_)
  have hx := C.1
  have hb := C.2.1
  replace hl : lv_has ls 2 [(0, .ref (P.2.2.1 0)), (1, .int p1)] := hl
  refine lv_aload_n hx hb dX11_kernel_0 rfl (lv_at hl 0 rfl) ?_
  refine lv_iconst (v := 0) hx hb dX11_kernel_1 (by decide) ?_
  refine wputI C hw fpX11_77 (rfl : _ = some (0, 11)) dX11_kernel_2 (fun M1 eM1 H locs hw => ?_)
  replace h := letv_at eM1 h
  refine lv_aload_n hx hb dX11_kernel_5 rfl (lv_at hl 0 rfl) ?_
  refine lv_iload_n hx hb dX11_kernel_6 rfl (lv_at hl 1 rfl) ?_
  refine lv_i2l hx hb dX11_kernel_7 rfl ?_
  obtain ⟨r2, e3, h⟩ := bnd_some h
  refine wcallV1 (As := [.long ((p1 : Int32).toInt64)]) (rest := []) C hw (c_X11_isStep hW  e3) vlX11_240 ⟨Nat.le_of_ble_eq_true rfl, Nat.le_of_ble_eq_true rfl⟩ (rfl : _ = some (0, 11)) rfl rfl rfl hl.1 (Nat.le_of_ble_eq_true rfl) dX11_kernel_8 ⟨Nat.zero_le _, Nat.zero_le _⟩ (fun H locs hw => ?_)
  refine lv_if_ne (tgt := 17) hx hb dX11_kernel_11 (by decide) (fun c4 => ?_) (fun c4 => ?_)
  · replace h := (if_neg c4).symm.trans h
    refine lv_aload_n hx hb dX11_kernel_17 rfl (lv_at hl 0 rfl) ?_
    obtain ⟨M7, e6, h⟩ := bnd_some h
    refine wcallV0 (As := []) (rest := []) C hw (c_X11_laysNow hW  e6) vlX11_311 ⟨Nat.le_of_ble_eq_true rfl, Nat.le_of_ble_eq_true rfl⟩ (rfl : _ = some (0, 11)) rfl rfl rfl hl.1 (Nat.le_of_ble_eq_true rfl) dX11_kernel_18 ⟨Nat.zero_le _, Nat.zero_le _⟩ (fun H locs hw => ?_)
    refine lv_aload_n hx hb dX11_kernel_21 rfl (lv_at hl 0 rfl) ?_
    refine lv_iload_n hx hb dX11_kernel_22 rfl (lv_at hl 1 rfl) ?_
    refine lv_iconst (v := 2) hx hb dX11_kernel_23 (by decide) ?_
    obtain ⟨r8, e9, h⟩ := bnd_some h
    refine wcallV1 (As := [.int p1, .int 2]) (rest := []) C hw (c_X11_mostAt hW  e9) vlX11_329 ⟨Nat.le_of_ble_eq_true rfl, Nat.le_of_ble_eq_true rfl⟩ (rfl : _ = some (0, 11)) rfl rfl rfl hl.1 (Nat.le_of_ble_eq_true rfl) dX11_kernel_24 ⟨Nat.zero_le _, Nat.zero_le _⟩ (fun H locs hw => ?_)
    exact wretI_W C hw h dX11_kernel_27
  · replace h := (if_pos c4).symm.trans h
    refine lv_bipush (v := (-2)) hx hb dX11_kernel_14 (by decide) ?_
    exact wretI_W C hw h dX11_kernel_16
set_option maxRecDepth 100000 in
set_option maxHeartbeats 4000000 in
theorem c_X11_glow {l : Launch} {P : Wp} {E : State → Heap → Prop} (hW : Wok shR P E) {p1 : Int32} {M : Mem} {r : Int32} {M' : Mem} (h : f_X11_glow p1 M = some (r, M')) : CT l shR P E yX11_glow bX11_glow 4 ((some .int)) 6 141 [.ref (P.2.2.1 0), .int p1] (some (.int r)) M M' := by
  refine ct_of hW (by decide) (Nat.le_of_ble_eq_true rfl) (fun p e s m args below meth c C ls hl hw => ?_)
  have hx := C.1
  have hb := C.2.1
  replace hl : lv_has ls 4 [(0, .ref (P.2.2.1 0)), (1, .int p1)] := hl
  have cut_25 : ∀ (n_25 : Nat) (v2_25 : Int32) (v3_25 : Int32) (M_25 : Mem) (ls : Array Slot) (H : Heap) (locs : List Loc), lv_has ls 4 [(0, .ref (P.2.2.1 0)), (1, .int p1), (2, .int v2_25), (3, .int v3_25)] → Hw shR P M_25 s H locs → lq3 (L_X11_glow_25 p1) n_25 v2_25 v3_25 M_25 = some (r, M') → W p l e { frames := 6, cells := 0, slots := 0, locals := 141 } s m args below meth c H locs 0 0 (MQ below (CQ shR P E (some (.int r)) M') args s 0 0 (wA shR P)) (F0 m 25 ls []) := by
    intro n_25
    induction n_25 with
    | zero => intro v2_25 v3_25 M_25 ls H locs hl hw h; cases h
    | succ n_25 ih_25 =>
      intro v2_25 v3_25 M_25 ls H locs hl hw h
      replace h := lq3_succ h
      refine lv_iload_n hx hb dX11_glow_25 rfl (lv_at hl 3 rfl) ?_
      refine lv_aload_n hx hb dX11_glow_26 rfl (lv_at hl 0 rfl) ?_
      obtain ⟨r8, e9, h⟩ := bnd_some h
      refine wcallV1 (As := []) (rest := [.int v3_25]) C hw (c_X11_pieces hW  e9) vlX11_227 ⟨Nat.le_of_ble_eq_true rfl, Nat.le_of_ble_eq_true rfl⟩ (rfl : _ = some (0, 11)) rfl rfl rfl hl.1 (Nat.le_of_ble_eq_true rfl) dX11_glow_27 ⟨Nat.zero_le _, Nat.zero_le _⟩ (fun H locs hw => ?_)
      refine lv_icmp_ge (tgt := 61) hx hb dX11_glow_30 (by decide) (fun c10 => ?_) (fun c10 => ?_)
      · replace h := (if_pos c10).symm.trans h
        refine lv_iload_n hx hb dX11_glow_61 rfl (lv_at hl 2 rfl) ?_
        exact wretI_W C hw h dX11_glow_62
      · replace h := (if_neg c10).symm.trans h
        refine lv_iload_n hx hb dX11_glow_33 rfl (lv_at hl 2 rfl) ?_
        refine lv_aload_n hx hb dX11_glow_34 rfl (lv_at hl 0 rfl) ?_
        refine lv_iload_n hx hb dX11_glow_35 rfl (lv_at hl 3 rfl) ?_
        refine lv_iload_n hx hb dX11_glow_36 rfl (lv_at hl 1 rfl) ?_
        obtain ⟨r11, e12, h⟩ := bnd_some h
        refine wcallV1 (As := [.int v3_25, .int p1]) (rest := [.int v2_25]) C hw (c_X11_hasCome hW  e12) vlX11_317 ⟨Nat.le_of_ble_eq_true rfl, Nat.le_of_ble_eq_true rfl⟩ (rfl : _ = some (0, 11)) rfl rfl rfl hl.1 (Nat.le_of_ble_eq_true rfl) dX11_glow_37 ⟨Nat.zero_le _, Nat.zero_le _⟩ (fun H locs hw => ?_)
        refine lv_if_eq (tgt := 52) hx hb dX11_glow_40 (by decide) (fun c13 => ?_) (fun c13 => ?_)
        · replace h := (if_pos c13).symm.trans h
          refine lv_iconst (v := 0) hx hb dX11_glow_52 (by decide) ?_
          refine lv_iadd hx hb dX11_glow_53 ?_
          refine lv_topi (fun x14 ex14 => ?_)
          replace h := letv_at ex14 h
          refine lv_istore_n (lv' := [(2, .int x14), (0, .ref (P.2.2.1 0)), (1, .int p1), (3, .int v3_25)]) hx hb dX11_glow_54 rfl hl (by decide) rfl (fun ls hl => ?_)
          refine lv_iinc (v := (v3_25 + 1)) (lv' := [(3, .int (v3_25 + 1)), (2, .int x14), (0, .ref (P.2.2.1 0)), (1, .int p1)]) (k := 3) hx hb dX11_glow_55 hl rfl (congrArg (fun z => v3_25 + z) (by decide)) (by decide) rfl (fun ls hl => ?_)
          refine lv_goto (tgt := 25) hx hb dX11_glow_58 (by decide) ?_
          exact ih_25 x14 (v3_25 + 1) M_25 ls _ _ (lv_sub hl [2, 3, 1, 0] rfl) hw h
        · replace h := (if_neg c13).symm.trans h
          refine lv_aload_n hx hb dX11_glow_43 rfl (lv_at hl 0 rfl) ?_
          refine lv_iload_n hx hb dX11_glow_44 rfl (lv_at hl 3 rfl) ?_
          refine lv_iload_n hx hb dX11_glow_45 rfl (lv_at hl 1 rfl) ?_
          obtain ⟨r15, e16, h⟩ := bnd_some h
          refine wcallV1 (As := [.int v3_25, .int p1]) (rest := [.int v2_25]) C hw (c_X11_skinOf hW  e16) vlX11_268 ⟨Nat.le_of_ble_eq_true rfl, Nat.le_of_ble_eq_true rfl⟩ (rfl : _ = some (0, 11)) rfl rfl rfl hl.1 (Nat.le_of_ble_eq_true rfl) dX11_glow_46 ⟨Nat.zero_le _, Nat.zero_le _⟩ (fun H locs hw => ?_)
          refine lv_goto (tgt := 53) hx hb dX11_glow_49 (by decide) ?_
          refine lv_iadd hx hb dX11_glow_53 ?_
          refine lv_topi (fun x17 ex17 => ?_)
          replace h := letv_at ex17 h
          refine lv_istore_n (lv' := [(2, .int x17), (0, .ref (P.2.2.1 0)), (1, .int p1), (3, .int v3_25)]) hx hb dX11_glow_54 rfl hl (by decide) rfl (fun ls hl => ?_)
          refine lv_iinc (v := (v3_25 + 1)) (lv' := [(3, .int (v3_25 + 1)), (2, .int x17), (0, .ref (P.2.2.1 0)), (1, .int p1)]) (k := 3) hx hb dX11_glow_55 hl rfl (congrArg (fun z => v3_25 + z) (by decide)) (by decide) rfl (fun ls hl => ?_)
          refine lv_goto (tgt := 25) hx hb dX11_glow_58 (by decide) ?_
          exact ih_25 x17 (v3_25 + 1) M_25 ls _ _ (lv_sub hl [2, 3, 1, 0] rfl) hw h
  refine lv_aload_n hx hb dX11_glow_0 rfl (lv_at hl 0 rfl) ?_
  refine lv_iconst (v := 0) hx hb dX11_glow_1 (by decide) ?_
  refine wputI C hw fpX11_77 (rfl : _ = some (0, 11)) dX11_glow_2 (fun M1 eM1 H locs hw => ?_)
  replace h := letv_at eM1 h
  refine lv_aload_n hx hb dX11_glow_5 rfl (lv_at hl 0 rfl) ?_
  refine lv_iload_n hx hb dX11_glow_6 rfl (lv_at hl 1 rfl) ?_
  refine lv_i2l hx hb dX11_glow_7 rfl ?_
  obtain ⟨r2, e3, h⟩ := bnd_some h
  refine wcallV1 (As := [.long ((p1 : Int32).toInt64)]) (rest := []) C hw (c_X11_isStep hW  e3) vlX11_240 ⟨Nat.le_of_ble_eq_true rfl, Nat.le_of_ble_eq_true rfl⟩ (rfl : _ = some (0, 11)) rfl rfl rfl hl.1 (Nat.le_of_ble_eq_true rfl) dX11_glow_8 ⟨Nat.zero_le _, Nat.zero_le _⟩ (fun H locs hw => ?_)
  refine lv_if_ne (tgt := 17) hx hb dX11_glow_11 (by decide) (fun c4 => ?_) (fun c4 => ?_)
  · replace h := (if_neg c4).symm.trans h
    refine lv_aload_n hx hb dX11_glow_17 rfl (lv_at hl 0 rfl) ?_
    obtain ⟨M7, e6, h⟩ := bnd_some h
    refine wcallV0 (As := []) (rest := []) C hw (c_X11_laysNow hW  e6) vlX11_311 ⟨Nat.le_of_ble_eq_true rfl, Nat.le_of_ble_eq_true rfl⟩ (rfl : _ = some (0, 11)) rfl rfl rfl hl.1 (Nat.le_of_ble_eq_true rfl) dX11_glow_18 ⟨Nat.zero_le _, Nat.zero_le _⟩ (fun H locs hw => ?_)
    refine lv_iconst (v := 0) hx hb dX11_glow_21 (by decide) ?_
    refine lv_istore_n (lv' := [(2, .int 0), (0, .ref (P.2.2.1 0)), (1, .int p1)]) hx hb dX11_glow_22 rfl hl (by decide) rfl (fun ls hl => ?_)
    refine lv_iconst (v := 0) hx hb dX11_glow_23 (by decide) ?_
    refine lv_istore_n (lv' := [(3, .int 0), (2, .int 0), (0, .ref (P.2.2.1 0)), (1, .int p1)]) hx hb dX11_glow_24 rfl hl (by decide) rfl (fun ls hl => ?_)
    exact cut_25 FU 0 0 M7 ls _ _ (lv_sub hl [2, 3, 1, 0] rfl) hw h
  · replace h := (if_pos c4).symm.trans h
    refine lv_bipush (v := (-2)) hx hb dX11_glow_14 (by decide) ?_
    exact wretI_W C hw h dX11_glow_16
set_option maxRecDepth 100000 in
set_option maxHeartbeats 4000000 in
theorem c_X11_crackedIn {l : Launch} {P : Wp} {E : State → Heap → Prop} (hW : Wok shR P E) {p1 : Int32} {M : Mem} {r : Int32} (h : f_X11_crackedIn p1 M = some r) : CT l shR P E yX11_crackedIn bX11_crackedIn 4 ((some .int)) 1 20 [.ref (P.2.2.1 0), .int p1] (some (.int r)) M M := by
  refine ct_of hW (by decide) (Nat.le_of_ble_eq_true rfl) (fun p e s m args below meth c C ls hl hw => ?_)
  have hx := C.1
  have hb := C.2.1
  replace hl : lv_has ls 4 [(0, .ref (P.2.2.1 0)), (1, .int p1)] := hl
  have cut_4 : ∀ (n_4 : Nat) (v2_4 : Int32) (v3_4 : Int32) (ls : Array Slot) (H : Heap) (locs : List Loc), lv_has ls 4 [(0, .ref (P.2.2.1 0)), (1, .int p1), (2, .int v2_4), (3, .int v3_4)] → Hw shR P M s H locs → lq2 (L_X11_crackedIn_4 p1 M) n_4 v2_4 v3_4 = some r → W p l e { frames := 1, cells := 0, slots := 0, locals := 20 } s m args below meth c H locs 0 0 (MQ below (CQ shR P E (some (.int r)) M) args s 0 0 (wA shR P)) (F0 m 4 ls []) := by
    intro n_4
    induction n_4 with
    | zero => intro v2_4 v3_4 ls H locs hl hw h; cases h
    | succ n_4 ih_4 =>
      intro v2_4 v3_4 ls H locs hl hw h
      replace h := lq2_succ h
      refine lv_iload_n hx hb dX11_crackedIn_4 rfl (lv_at hl 3 rfl) ?_
      refine lv_aload_n hx hb dX11_crackedIn_5 rfl (lv_at hl 0 rfl) ?_
      obtain ⟨r1, e2, h⟩ := bnd_some h
      refine wcallV1 (As := []) (rest := [.int v3_4]) C hw (c_X11_pieces hW  e2) vlX11_227 ⟨Nat.le_of_ble_eq_true rfl, Nat.le_of_ble_eq_true rfl⟩ (rfl : _ = some (0, 11)) rfl rfl rfl hl.1 (Nat.le_of_ble_eq_true rfl) dX11_crackedIn_6 ⟨Nat.zero_le _, Nat.zero_le _⟩ (fun H locs hw => ?_)
      refine lv_icmp_ge (tgt := 38) hx hb dX11_crackedIn_9 (by decide) (fun c3 => ?_) (fun c3 => ?_)
      · replace h := (if_pos c3).symm.trans h
        refine lv_iload_n hx hb dX11_crackedIn_38 rfl (lv_at hl 2 rfl) ?_
        exact wretI_R C hw h dX11_crackedIn_39
      · replace h := (if_neg c3).symm.trans h
        refine lv_iload_n hx hb dX11_crackedIn_12 rfl (lv_at hl 2 rfl) ?_
        refine lv_aload_n hx hb dX11_crackedIn_13 rfl (lv_at hl 0 rfl) ?_
        refine wgetR (t := 19) C hw flX11_71 (rfl : _ = some (0, 11)) rfl dX11_crackedIn_14 ?_
        refine lv_iload_n hx hb dX11_crackedIn_17 rfl (lv_at hl 3 rfl) ?_
        obtain ⟨g4, h⟩ := grd h
        refine wald C hw (rfl : _ = some (1, 6)) g4 dX11_crackedIn_18 ?_
        refine lv_iload_n hx hb dX11_crackedIn_19 rfl (lv_at hl 1 rfl) ?_
        refine lv_icmp_ne (tgt := 29) hx hb dX11_crackedIn_20 (by decide) (fun c5 => ?_) (fun c5 => ?_)
        · replace h := (if_neg c5).symm.trans h
          refine lv_iconst (v := 0) hx hb dX11_crackedIn_29 (by decide) ?_
          refine lv_ior hx hb dX11_crackedIn_30 ?_
          refine lv_topi (fun x6 ex6 => ?_)
          replace h := letv_at ex6 h
          refine lv_istore_n (lv' := [(2, .int x6), (0, .ref (P.2.2.1 0)), (1, .int p1), (3, .int v3_4)]) hx hb dX11_crackedIn_31 rfl hl (by decide) rfl (fun ls hl => ?_)
          refine lv_iinc (v := (v3_4 + 1)) (lv' := [(3, .int (v3_4 + 1)), (2, .int x6), (0, .ref (P.2.2.1 0)), (1, .int p1)]) (k := 3) hx hb dX11_crackedIn_32 hl rfl (congrArg (fun z => v3_4 + z) (by decide)) (by decide) rfl (fun ls hl => ?_)
          refine lv_goto (tgt := 4) hx hb dX11_crackedIn_35 (by decide) ?_
          exact ih_4 x6 (v3_4 + 1) ls _ _ (lv_sub hl [2, 3, 1, 0] rfl) hw h
        · replace h := (if_pos c5).symm.trans h
          refine lv_iconst (v := 1) hx hb dX11_crackedIn_23 (by decide) ?_
          refine lv_iload_n hx hb dX11_crackedIn_24 rfl (lv_at hl 3 rfl) ?_
          refine lv_ishl hx hb dX11_crackedIn_25 ?_
          refine lv_goto (tgt := 30) hx hb dX11_crackedIn_26 (by decide) ?_
          refine lv_ior hx hb dX11_crackedIn_30 ?_
          refine lv_topi (fun x7 ex7 => ?_)
          replace h := letv_at ex7 h
          refine lv_istore_n (lv' := [(2, .int x7), (0, .ref (P.2.2.1 0)), (1, .int p1), (3, .int v3_4)]) hx hb dX11_crackedIn_31 rfl hl (by decide) rfl (fun ls hl => ?_)
          refine lv_iinc (v := (v3_4 + 1)) (lv' := [(3, .int (v3_4 + 1)), (2, .int x7), (0, .ref (P.2.2.1 0)), (1, .int p1)]) (k := 3) hx hb dX11_crackedIn_32 hl rfl (congrArg (fun z => v3_4 + z) (by decide)) (by decide) rfl (fun ls hl => ?_)
          refine lv_goto (tgt := 4) hx hb dX11_crackedIn_35 (by decide) ?_
          exact ih_4 x7 (v3_4 + 1) ls _ _ (lv_sub hl [2, 3, 1, 0] rfl) hw h
  refine lv_iconst (v := 0) hx hb dX11_crackedIn_0 (by decide) ?_
  refine lv_istore_n (lv' := [(2, .int 0), (0, .ref (P.2.2.1 0)), (1, .int p1)]) hx hb dX11_crackedIn_1 rfl hl (by decide) rfl (fun ls hl => ?_)
  refine lv_iconst (v := 0) hx hb dX11_crackedIn_2 (by decide) ?_
  refine lv_istore_n (lv' := [(3, .int 0), (2, .int 0), (0, .ref (P.2.2.1 0)), (1, .int p1)]) hx hb dX11_crackedIn_3 rfl hl (by decide) rfl (fun ls hl => ?_)
  exact cut_4 FU 0 0 ls _ _ (lv_sub hl [2, 3, 1, 0] rfl) hw h
set_option maxRecDepth 100000 in
set_option maxHeartbeats 4000000 in
theorem c_X11_worst {l : Launch} {P : Wp} {E : State → Heap → Prop} (hW : Wok shR P E) {M : Mem} {r : Int32} {M' : Mem} (h : f_X11_worst M = some (r, M')) : CT l shR P E yX11_worst bX11_worst 3 ((some .int)) 6 141 [.ref (P.2.2.1 0)] (some (.int r)) M M' := by
  refine ct_of hW (by decide) (Nat.le_of_ble_eq_true rfl) (fun p e s m args below meth c C ls hl hw => ?_)
  have hx := C.1
  have hb := C.2.1
  replace hl : lv_has ls 3 [(0, .ref (P.2.2.1 0))] := hl
  have cut_23 : ∀ (n_23 : Nat) (v1_23 : Int32) (v2_23 : Int32) (M_23 : Mem) (ls : Array Slot) (H : Heap) (locs : List Loc), lv_has ls 3 [(0, .ref (P.2.2.1 0)), (1, .int v1_23), (2, .int v2_23)] → Hw shR P M_23 s H locs → lq3 (L_X11_worst_23) n_23 v1_23 v2_23 M_23 = some (r, M') → W p l e { frames := 6, cells := 0, slots := 0, locals := 141 } s m args below meth c H locs 0 0 (MQ below (CQ shR P E (some (.int r)) M') args s 0 0 (wA shR P)) (F0 m 23 ls []) := by
    intro n_23
    induction n_23 with
    | zero => intro v1_23 v2_23 M_23 ls H locs hl hw h; cases h
    | succ n_23 ih_23 =>
      intro v1_23 v2_23 M_23 ls H locs hl hw h
      replace h := lq3_succ h
      refine lv_iload_n hx hb dX11_worst_23 rfl (lv_at hl 2 rfl) ?_
      refine lv_aload_n hx hb dX11_worst_24 rfl (lv_at hl 0 rfl) ?_
      obtain ⟨r8, e9, h⟩ := bnd_some h
      refine wcallV1 (As := []) (rest := [.int v2_23]) C hw (c_X11_steps hW  e9) vlX11_234 ⟨Nat.le_of_ble_eq_true rfl, Nat.le_of_ble_eq_true rfl⟩ (rfl : _ = some (0, 11)) rfl rfl rfl hl.1 (Nat.le_of_ble_eq_true rfl) dX11_worst_25 ⟨Nat.zero_le _, Nat.zero_le _⟩ (fun H locs hw => ?_)
      refine lv_icmp_gt (tgt := 67) hx hb dX11_worst_28 (by decide) (fun c10 => ?_) (fun c10 => ?_)
      · replace h := (if_pos c10).symm.trans h
        refine lv_iload_n hx hb dX11_worst_67 rfl (lv_at hl 1 rfl) ?_
        exact wretI_W C hw h dX11_worst_68
      · replace h := (if_neg c10).symm.trans h
        refine lv_aload_n hx hb dX11_worst_31 rfl (lv_at hl 0 rfl) ?_
        refine lv_iload_n hx hb dX11_worst_32 rfl (lv_at hl 2 rfl) ?_
        obtain ⟨r11, e12, h⟩ := bnd_some h
        refine wcallV1 (As := [.int v2_23]) (rest := []) C hw (c_X11_crackedIn hW  e12) vlX11_332 ⟨Nat.le_of_ble_eq_true rfl, Nat.le_of_ble_eq_true rfl⟩ (rfl : _ = some (0, 11)) rfl rfl rfl hl.1 (Nat.le_of_ble_eq_true rfl) dX11_worst_33 ⟨Nat.zero_le _, Nat.zero_le _⟩ (fun H locs hw => ?_)
        obtain ⟨r13, e14, h⟩ := bnd_some h
        refine wcallS1 (As := [.int r11]) (rest := []) C hw (c_X11_sizeOf hW  e14) slX11_335 ⟨Nat.le_of_ble_eq_true rfl, Nat.le_of_ble_eq_true rfl⟩ rfl rfl hl.1 (Nat.le_of_ble_eq_true rfl) dX11_worst_36 ⟨Nat.zero_le _, Nat.zero_le _⟩ (fun H locs hw => ?_)
        refine lv_iload_n hx hb dX11_worst_39 rfl (lv_at hl 1 rfl) ?_
        refine lv_iconst (v := (-1)) hx hb dX11_worst_40 (by decide) ?_
        refine lv_icmp_ne (tgt := 48) hx hb dX11_worst_41 (by decide) (fun c15 => ?_) (fun c15 => ?_)
        · replace h := (if_neg c15).symm.trans h
          refine lv_aload_n hx hb dX11_worst_48 rfl (lv_at hl 0 rfl) ?_
          refine lv_iload_n hx hb dX11_worst_49 rfl (lv_at hl 1 rfl) ?_
          obtain ⟨r16, e17, h⟩ := bnd_some h
          refine wcallV1 (As := [.int v1_23]) (rest := [.int r13]) C hw (c_X11_crackedIn hW  e17) vlX11_332 ⟨Nat.le_of_ble_eq_true rfl, Nat.le_of_ble_eq_true rfl⟩ (rfl : _ = some (0, 11)) rfl rfl rfl hl.1 (Nat.le_of_ble_eq_true rfl) dX11_worst_50 ⟨Nat.zero_le _, Nat.zero_le _⟩ (fun H locs hw => ?_)
          obtain ⟨r18, e19, h⟩ := bnd_some h
          refine wcallS1 (As := [.int r16]) (rest := [.int r13]) C hw (c_X11_sizeOf hW  e19) slX11_335 ⟨Nat.le_of_ble_eq_true rfl, Nat.le_of_ble_eq_true rfl⟩ rfl rfl hl.1 (Nat.le_of_ble_eq_true rfl) dX11_worst_53 ⟨Nat.zero_le _, Nat.zero_le _⟩ (fun H locs hw => ?_)
          refine lv_icmp_le (tgt := 61) hx hb dX11_worst_56 (by decide) (fun c20 => ?_) (fun c20 => ?_)
          · replace h := (if_pos c20).symm.trans h
            refine lv_iinc (v := (v2_23 + 1)) (lv' := [(2, .int (v2_23 + 1)), (0, .ref (P.2.2.1 0)), (1, .int v1_23)]) (k := 2) hx hb dX11_worst_61 hl rfl (congrArg (fun z => v2_23 + z) (by decide)) (by decide) rfl (fun ls hl => ?_)
            refine lv_goto (tgt := 23) hx hb dX11_worst_64 (by decide) ?_
            exact ih_23 v1_23 (v2_23 + 1) M_23 ls _ _ (lv_sub hl [1, 2, 0] rfl) hw h
          · replace h := (if_neg c20).symm.trans h
            refine lv_iload_n hx hb dX11_worst_59 rfl (lv_at hl 2 rfl) ?_
            refine lv_istore_n (lv' := [(1, .int v2_23), (0, .ref (P.2.2.1 0)), (2, .int v2_23)]) hx hb dX11_worst_60 rfl hl (by decide) rfl (fun ls hl => ?_)
            refine lv_iinc (v := (v2_23 + 1)) (lv' := [(2, .int (v2_23 + 1)), (1, .int v2_23), (0, .ref (P.2.2.1 0))]) (k := 2) hx hb dX11_worst_61 hl rfl (congrArg (fun z => v2_23 + z) (by decide)) (by decide) rfl (fun ls hl => ?_)
            refine lv_goto (tgt := 23) hx hb dX11_worst_64 (by decide) ?_
            exact ih_23 v2_23 (v2_23 + 1) M_23 ls _ _ (lv_sub hl [2, 1, 0] rfl) hw h
        · replace h := (if_pos c15).symm.trans h
          refine lv_iconst (v := 0) hx hb dX11_worst_44 (by decide) ?_
          refine lv_goto (tgt := 56) hx hb dX11_worst_45 (by decide) ?_
          refine lv_icmp_le (tgt := 61) hx hb dX11_worst_56 (by decide) (fun c21 => ?_) (fun c21 => ?_)
          · replace h := (if_pos c21).symm.trans h
            refine lv_iinc (v := (v2_23 + 1)) (lv' := [(2, .int (v2_23 + 1)), (0, .ref (P.2.2.1 0)), (1, .int v1_23)]) (k := 2) hx hb dX11_worst_61 hl rfl (congrArg (fun z => v2_23 + z) (by decide)) (by decide) rfl (fun ls hl => ?_)
            refine lv_goto (tgt := 23) hx hb dX11_worst_64 (by decide) ?_
            exact ih_23 v1_23 (v2_23 + 1) M_23 ls _ _ (lv_sub hl [1, 2, 0] rfl) hw h
          · replace h := (if_neg c21).symm.trans h
            refine lv_iload_n hx hb dX11_worst_59 rfl (lv_at hl 2 rfl) ?_
            refine lv_istore_n (lv' := [(1, .int v2_23), (0, .ref (P.2.2.1 0)), (2, .int v2_23)]) hx hb dX11_worst_60 rfl hl (by decide) rfl (fun ls hl => ?_)
            refine lv_iinc (v := (v2_23 + 1)) (lv' := [(2, .int (v2_23 + 1)), (1, .int v2_23), (0, .ref (P.2.2.1 0))]) (k := 2) hx hb dX11_worst_61 hl rfl (congrArg (fun z => v2_23 + z) (by decide)) (by decide) rfl (fun ls hl => ?_)
            refine lv_goto (tgt := 23) hx hb dX11_worst_64 (by decide) ?_
            exact ih_23 v2_23 (v2_23 + 1) M_23 ls _ _ (lv_sub hl [2, 1, 0] rfl) hw h
  refine lv_aload_n hx hb dX11_worst_0 rfl (lv_at hl 0 rfl) ?_
  refine lv_iconst (v := 0) hx hb dX11_worst_1 (by decide) ?_
  refine wputI C hw fpX11_77 (rfl : _ = some (0, 11)) dX11_worst_2 (fun M1 eM1 H locs hw => ?_)
  replace h := letv_at eM1 h
  refine lv_aload_n hx hb dX11_worst_5 rfl (lv_at hl 0 rfl) ?_
  obtain ⟨r2, e3, h⟩ := bnd_some h
  refine wcallV1 (As := []) (rest := []) C hw (c_X11_isLehr hW  e3) vlX11_231 ⟨Nat.le_of_ble_eq_true rfl, Nat.le_of_ble_eq_true rfl⟩ (rfl : _ = some (0, 11)) rfl rfl rfl hl.1 (Nat.le_of_ble_eq_true rfl) dX11_worst_6 ⟨Nat.zero_le _, Nat.zero_le _⟩ (fun H locs hw => ?_)
  refine lv_if_ne (tgt := 15) hx hb dX11_worst_9 (by decide) (fun c4 => ?_) (fun c4 => ?_)
  · replace h := (if_neg c4).symm.trans h
    refine lv_aload_n hx hb dX11_worst_15 rfl (lv_at hl 0 rfl) ?_
    obtain ⟨M7, e6, h⟩ := bnd_some h
    refine wcallV0 (As := []) (rest := []) C hw (c_X11_laysNow hW  e6) vlX11_311 ⟨Nat.le_of_ble_eq_true rfl, Nat.le_of_ble_eq_true rfl⟩ (rfl : _ = some (0, 11)) rfl rfl rfl hl.1 (Nat.le_of_ble_eq_true rfl) dX11_worst_16 ⟨Nat.zero_le _, Nat.zero_le _⟩ (fun H locs hw => ?_)
    refine lv_iconst (v := (-1)) hx hb dX11_worst_19 (by decide) ?_
    refine lv_istore_n (lv' := [(1, .int (-1)), (0, .ref (P.2.2.1 0))]) hx hb dX11_worst_20 rfl hl (by decide) rfl (fun ls hl => ?_)
    refine lv_iconst (v := 0) hx hb dX11_worst_21 (by decide) ?_
    refine lv_istore_n (lv' := [(2, .int 0), (1, .int (-1)), (0, .ref (P.2.2.1 0))]) hx hb dX11_worst_22 rfl hl (by decide) rfl (fun ls hl => ?_)
    exact cut_23 FU (-1) 0 M7 ls _ _ (lv_sub hl [2, 1, 0] rfl) hw h
  · replace h := (if_pos c4).symm.trans h
    refine lv_bipush (v := (-2)) hx hb dX11_worst_12 (by decide) ?_
    exact wretI_W C hw h dX11_worst_14
set_option maxRecDepth 100000 in
set_option maxHeartbeats 4000000 in
theorem c_X11_sore {l : Launch} {P : Wp} {E : State → Heap → Prop} (hW : Wok shR P E) {M : Mem} {r : Int32} {M' : Mem} (h : f_X11_sore M = some (r, M')) : CT l shR P E yX11_sore bX11_sore 6 ((some .int)) 6 141 [.ref (P.2.2.1 0)] (some (.int r)) M M' := by
  refine ct_of hW (by decide) (Nat.le_of_ble_eq_true rfl) (fun p e s m args below meth c C ls hl hw => ?_)
  have hx := C.1
  have hb := C.2.1
  replace hl : lv_has ls 6 [(0, .ref (P.2.2.1 0))] := hl
  have cut_25 : ∀ (n_25 : Nat) (v1_25 : Int32) (v2_25 : Int32) (v3_25 : Int32) (M_25 : Mem) (ls : Array Slot) (H : Heap) (locs : List Loc), lv_has ls 6 [(0, .ref (P.2.2.1 0)), (1, .int v1_25), (2, .int v2_25), (3, .int v3_25)] → Hw shR P M_25 s H locs → lq4 (L_X11_sore_25) n_25 v1_25 v2_25 v3_25 M_25 = some (r, M') → W p l e { frames := 6, cells := 0, slots := 0, locals := 141 } s m args below meth c H locs 0 0 (MQ below (CQ shR P E (some (.int r)) M') args s 0 0 (wA shR P)) (F0 m 25 ls []) := by
    intro n_25
    induction n_25 with
    | zero => intro v1_25 v2_25 v3_25 M_25 ls H locs hl hw h; cases h
    | succ n_25 ih_25 =>
      intro v1_25 v2_25 v3_25 M_25 ls H locs hl hw h
      replace h := lq4_succ h
      have cut_39 : ∀ (v1_39 : Int32) (v2_39 : Int32) (v3_39 : Int32) (n_39 : Nat) (v4_39 : Int32) (v5_39 : Int32) (M_39 : Mem) (ls : Array Slot) (H : Heap) (locs : List Loc), lv_has ls 6 [(0, .ref (P.2.2.1 0)), (1, .int v1_39), (2, .int v2_39), (3, .int v3_39), (4, .int v4_39), (5, .int v5_39)] → Hw shR P M_39 s H locs → lq3 (L_X11_sore_39 (lq4 (L_X11_sore_25) n_25) v1_39 v2_39 v3_39) n_39 v4_39 v5_39 M_39 = some (r, M') → W p l e { frames := 6, cells := 0, slots := 0, locals := 141 } s m args below meth c H locs 0 0 (MQ below (CQ shR P E (some (.int r)) M') args s 0 0 (wA shR P)) (F0 m 39 ls []) := by
        intro v1_39 v2_39 v3_39 n_39
        induction n_39 with
        | zero => intro v4_39 v5_39 M_39 ls H locs hl hw h; cases h
        | succ n_39 ih_39 =>
          intro v4_39 v5_39 M_39 ls H locs hl hw h
          replace h := lq3_succ h
          refine lv_iload hx hb dX11_sore_39 (lv_at hl 5 rfl) ?_
          refine lv_aload_n hx hb dX11_sore_41 rfl (lv_at hl 0 rfl) ?_
          obtain ⟨r9, e10, h⟩ := bnd_some h
          refine wcallV1 (As := []) (rest := [.int v5_39]) C hw (c_X11_pieces hW  e10) vlX11_227 ⟨Nat.le_of_ble_eq_true rfl, Nat.le_of_ble_eq_true rfl⟩ (rfl : _ = some (0, 11)) rfl rfl rfl hl.1 (Nat.le_of_ble_eq_true rfl) dX11_sore_42 ⟨Nat.zero_le _, Nat.zero_le _⟩ (fun H locs hw => ?_)
          refine lv_icmp_ge (tgt := 92) hx hb dX11_sore_45 (by decide) (fun c11 => ?_) (fun c11 => ?_)
          · replace h := (if_pos c11).symm.trans h
            refine lv_iload hx hb dX11_sore_92 (lv_at hl 4 rfl) ?_
            refine lv_iload_n hx hb dX11_sore_94 rfl (lv_at hl 2 rfl) ?_
            refine lv_icmp_gt (tgt := 101) hx hb dX11_sore_95 (by decide) (fun c12 => ?_) (fun c12 => ?_)
            · replace h := (if_pos c12).symm.trans h
              refine lv_iload_n hx hb dX11_sore_101 rfl (lv_at hl 3 rfl) ?_
              refine lv_istore_n (lv' := [(1, .int v3_39), (0, .ref (P.2.2.1 0)), (2, .int v2_39), (3, .int v3_39), (4, .int v4_39), (5, .int v5_39)]) hx hb dX11_sore_102 rfl hl (by decide) rfl (fun ls hl => ?_)
              refine lv_iload hx hb dX11_sore_103 (lv_at hl 4 rfl) ?_
              refine lv_istore_n (lv' := [(2, .int v4_39), (1, .int v3_39), (0, .ref (P.2.2.1 0)), (3, .int v3_39), (4, .int v4_39), (5, .int v5_39)]) hx hb dX11_sore_105 rfl hl (by decide) rfl (fun ls hl => ?_)
              refine lv_iinc (v := (v3_39 + 1)) (lv' := [(3, .int (v3_39 + 1)), (2, .int v4_39), (1, .int v3_39), (0, .ref (P.2.2.1 0)), (4, .int v4_39), (5, .int v5_39)]) (k := 3) hx hb dX11_sore_106 hl rfl (congrArg (fun z => v3_39 + z) (by decide)) (by decide) rfl (fun ls hl => ?_)
              refine lv_goto (tgt := 25) hx hb dX11_sore_109 (by decide) ?_
              exact ih_25 v3_39 v4_39 (v3_39 + 1) M_39 ls _ _ (lv_sub hl [3, 2, 1, 0] rfl) hw h
            · replace h := (if_neg c12).symm.trans h
              refine lv_goto (tgt := 106) hx hb dX11_sore_98 (by decide) ?_
              refine lv_iinc (v := (v3_39 + 1)) (lv' := [(3, .int (v3_39 + 1)), (0, .ref (P.2.2.1 0)), (1, .int v1_39), (2, .int v2_39), (4, .int v4_39), (5, .int v5_39)]) (k := 3) hx hb dX11_sore_106 hl rfl (congrArg (fun z => v3_39 + z) (by decide)) (by decide) rfl (fun ls hl => ?_)
              refine lv_goto (tgt := 25) hx hb dX11_sore_109 (by decide) ?_
              exact ih_25 v1_39 v2_39 (v3_39 + 1) M_39 ls _ _ (lv_sub hl [1, 2, 3, 0] rfl) hw h
          · replace h := (if_neg c11).symm.trans h
            refine lv_iload hx hb dX11_sore_48 (lv_at hl 4 rfl) ?_
            refine lv_aload_n hx hb dX11_sore_50 rfl (lv_at hl 0 rfl) ?_
            refine wgetR (t := 19) C hw flX11_71 (rfl : _ = some (0, 11)) rfl dX11_sore_51 ?_
            refine lv_iload hx hb dX11_sore_54 (lv_at hl 5 rfl) ?_
            obtain ⟨g13, h⟩ := grd h
            refine wald C hw (rfl : _ = some (1, 6)) g13 dX11_sore_56 ?_
            refine lv_iconst (v := (-1)) hx hb dX11_sore_57 (by decide) ?_
            refine lv_icmp_eq (tgt := 82) hx hb dX11_sore_58 (by decide) (fun c14 => ?_) (fun c14 => ?_)
            · replace h := (if_pos c14).symm.trans h
              refine lv_iconst (v := 0) hx hb dX11_sore_82 (by decide) ?_
              refine lv_iadd hx hb dX11_sore_83 ?_
              refine lv_topi (fun x15 ex15 => ?_)
              replace h := letv_at ex15 h
              refine lv_istore (lv' := [(4, .int x15), (0, .ref (P.2.2.1 0)), (1, .int v1_39), (2, .int v2_39), (3, .int v3_39), (5, .int v5_39)]) hx hb dX11_sore_84 hl (by decide) rfl (fun ls hl => ?_)
              refine lv_iinc (v := (v5_39 + 1)) (lv' := [(5, .int (v5_39 + 1)), (4, .int x15), (0, .ref (P.2.2.1 0)), (1, .int v1_39), (2, .int v2_39), (3, .int v3_39)]) (k := 5) hx hb dX11_sore_86 hl rfl (congrArg (fun z => v5_39 + z) (by decide)) (by decide) rfl (fun ls hl => ?_)
              refine lv_goto (tgt := 39) hx hb dX11_sore_89 (by decide) ?_
              exact ih_39 x15 (v5_39 + 1) M_39 ls _ _ (lv_sub hl [2, 3, 4, 5, 1, 0] rfl) hw h
            · replace h := (if_neg c14).symm.trans h
              refine lv_aload_n hx hb dX11_sore_61 rfl (lv_at hl 0 rfl) ?_
              refine lv_iload hx hb dX11_sore_62 (lv_at hl 5 rfl) ?_
              refine lv_aload_n hx hb dX11_sore_64 rfl (lv_at hl 0 rfl) ?_
              refine wgetR (t := 19) C hw flX11_71 (rfl : _ = some (0, 11)) rfl dX11_sore_65 ?_
              refine lv_iload hx hb dX11_sore_68 (lv_at hl 5 rfl) ?_
              obtain ⟨g16, h⟩ := grd h
              refine wald C hw (rfl : _ = some (1, 6)) g16 dX11_sore_70 ?_
              obtain ⟨r17, e18, h⟩ := bnd_some h
              refine wcallV1 (As := [.int v5_39, .int (M_39.1 19 (ix v5_39))]) (rest := [.int v4_39]) C hw (c_X11_whereOf hW  e18) vlX11_280 ⟨Nat.le_of_ble_eq_true rfl, Nat.le_of_ble_eq_true rfl⟩ (rfl : _ = some (0, 11)) rfl rfl rfl hl.1 (Nat.le_of_ble_eq_true rfl) dX11_sore_71 ⟨Nat.zero_le _, Nat.zero_le _⟩ (fun H locs hw => ?_)
              refine lv_iload_n hx hb dX11_sore_74 rfl (lv_at hl 3 rfl) ?_
              refine lv_icmp_ne (tgt := 82) hx hb dX11_sore_75 (by decide) (fun c19 => ?_) (fun c19 => ?_)
              · replace h := (if_neg c19).symm.trans h
                refine lv_iconst (v := 0) hx hb dX11_sore_82 (by decide) ?_
                refine lv_iadd hx hb dX11_sore_83 ?_
                refine lv_topi (fun x20 ex20 => ?_)
                replace h := letv_at ex20 h
                refine lv_istore (lv' := [(4, .int x20), (0, .ref (P.2.2.1 0)), (1, .int v1_39), (2, .int v2_39), (3, .int v3_39), (5, .int v5_39)]) hx hb dX11_sore_84 hl (by decide) rfl (fun ls hl => ?_)
                refine lv_iinc (v := (v5_39 + 1)) (lv' := [(5, .int (v5_39 + 1)), (4, .int x20), (0, .ref (P.2.2.1 0)), (1, .int v1_39), (2, .int v2_39), (3, .int v3_39)]) (k := 5) hx hb dX11_sore_86 hl rfl (congrArg (fun z => v5_39 + z) (by decide)) (by decide) rfl (fun ls hl => ?_)
                refine lv_goto (tgt := 39) hx hb dX11_sore_89 (by decide) ?_
                exact ih_39 x20 (v5_39 + 1) M_39 ls _ _ (lv_sub hl [2, 3, 4, 5, 1, 0] rfl) hw h
              · replace h := (if_pos c19).symm.trans h
                refine lv_iconst (v := 1) hx hb dX11_sore_78 (by decide) ?_
                refine lv_goto (tgt := 83) hx hb dX11_sore_79 (by decide) ?_
                refine lv_iadd hx hb dX11_sore_83 ?_
                refine lv_topi (fun x21 ex21 => ?_)
                replace h := letv_at ex21 h
                refine lv_istore (lv' := [(4, .int x21), (0, .ref (P.2.2.1 0)), (1, .int v1_39), (2, .int v2_39), (3, .int v3_39), (5, .int v5_39)]) hx hb dX11_sore_84 hl (by decide) rfl (fun ls hl => ?_)
                refine lv_iinc (v := (v5_39 + 1)) (lv' := [(5, .int (v5_39 + 1)), (4, .int x21), (0, .ref (P.2.2.1 0)), (1, .int v1_39), (2, .int v2_39), (3, .int v3_39)]) (k := 5) hx hb dX11_sore_86 hl rfl (congrArg (fun z => v5_39 + z) (by decide)) (by decide) rfl (fun ls hl => ?_)
                refine lv_goto (tgt := 39) hx hb dX11_sore_89 (by decide) ?_
                exact ih_39 x21 (v5_39 + 1) M_39 ls _ _ (lv_sub hl [2, 3, 4, 5, 1, 0] rfl) hw h
      refine lv_iload_n hx hb dX11_sore_25 rfl (lv_at hl 3 rfl) ?_
      refine lv_aload_n hx hb dX11_sore_26 rfl (lv_at hl 0 rfl) ?_
      refine wgetI C hw flX11_252 (rfl : _ = some (0, 11)) dX11_sore_27 ?_
      refine lv_icmp_ge (tgt := 112) hx hb dX11_sore_30 (by decide) (fun c8 => ?_) (fun c8 => ?_)
      · replace h := (if_pos c8).symm.trans h
        refine lv_iload_n hx hb dX11_sore_112 rfl (lv_at hl 1 rfl) ?_
        exact wretI_W C hw h dX11_sore_113
      · replace h := (if_neg c8).symm.trans h
        refine lv_iconst (v := 0) hx hb dX11_sore_33 (by decide) ?_
        refine lv_istore (lv' := [(4, .int 0), (0, .ref (P.2.2.1 0)), (1, .int v1_25), (2, .int v2_25), (3, .int v3_25)]) hx hb dX11_sore_34 hl (by decide) rfl (fun ls hl => ?_)
        refine lv_iconst (v := 0) hx hb dX11_sore_36 (by decide) ?_
        refine lv_istore (lv' := [(5, .int 0), (4, .int 0), (0, .ref (P.2.2.1 0)), (1, .int v1_25), (2, .int v2_25), (3, .int v3_25)]) hx hb dX11_sore_37 hl (by decide) rfl (fun ls hl => ?_)
        exact cut_39 v1_25 v2_25 v3_25 FU 0 0 M_25 ls _ _ (lv_sub hl [2, 3, 4, 5, 1, 0] rfl) hw h
  refine lv_aload_n hx hb dX11_sore_0 rfl (lv_at hl 0 rfl) ?_
  refine lv_iconst (v := 0) hx hb dX11_sore_1 (by decide) ?_
  refine wputI C hw fpX11_77 (rfl : _ = some (0, 11)) dX11_sore_2 (fun M1 eM1 H locs hw => ?_)
  replace h := letv_at eM1 h
  refine lv_aload_n hx hb dX11_sore_5 rfl (lv_at hl 0 rfl) ?_
  obtain ⟨r2, e3, h⟩ := bnd_some h
  refine wcallV1 (As := []) (rest := []) C hw (c_X11_isLehr hW  e3) vlX11_231 ⟨Nat.le_of_ble_eq_true rfl, Nat.le_of_ble_eq_true rfl⟩ (rfl : _ = some (0, 11)) rfl rfl rfl hl.1 (Nat.le_of_ble_eq_true rfl) dX11_sore_6 ⟨Nat.zero_le _, Nat.zero_le _⟩ (fun H locs hw => ?_)
  refine lv_if_ne (tgt := 15) hx hb dX11_sore_9 (by decide) (fun c4 => ?_) (fun c4 => ?_)
  · replace h := (if_neg c4).symm.trans h
    refine lv_aload_n hx hb dX11_sore_15 rfl (lv_at hl 0 rfl) ?_
    obtain ⟨M7, e6, h⟩ := bnd_some h
    refine wcallV0 (As := []) (rest := []) C hw (c_X11_laysNow hW  e6) vlX11_311 ⟨Nat.le_of_ble_eq_true rfl, Nat.le_of_ble_eq_true rfl⟩ (rfl : _ = some (0, 11)) rfl rfl rfl hl.1 (Nat.le_of_ble_eq_true rfl) dX11_sore_16 ⟨Nat.zero_le _, Nat.zero_le _⟩ (fun H locs hw => ?_)
    refine lv_iconst (v := (-1)) hx hb dX11_sore_19 (by decide) ?_
    refine lv_istore_n (lv' := [(1, .int (-1)), (0, .ref (P.2.2.1 0))]) hx hb dX11_sore_20 rfl hl (by decide) rfl (fun ls hl => ?_)
    refine lv_iconst (v := 0) hx hb dX11_sore_21 (by decide) ?_
    refine lv_istore_n (lv' := [(2, .int 0), (1, .int (-1)), (0, .ref (P.2.2.1 0))]) hx hb dX11_sore_22 rfl hl (by decide) rfl (fun ls hl => ?_)
    refine lv_iconst (v := 0) hx hb dX11_sore_23 (by decide) ?_
    refine lv_istore_n (lv' := [(3, .int 0), (2, .int 0), (1, .int (-1)), (0, .ref (P.2.2.1 0))]) hx hb dX11_sore_24 rfl hl (by decide) rfl (fun ls hl => ?_)
    exact cut_25 FU (-1) 0 0 M7 ls _ _ (lv_sub hl [3, 2, 1, 0] rfl) hw h
  · replace h := (if_pos c4).symm.trans h
    refine lv_bipush (v := (-2)) hx hb dX11_sore_12 (by decide) ?_
    exact wretI_W C hw h dX11_sore_14
set_option maxRecDepth 100000 in
set_option maxHeartbeats 4000000 in
theorem c_X11_tense {l : Launch} {P : Wp} {E : State → Heap → Prop} (hW : Wok shR P E) {p1 : Int32} {M : Mem} {r : Int32} {M' : Mem} (h : f_X11_tense p1 M = some (r, M')) : CT l shR P E yX11_tense bX11_tense 4 ((some .int)) 6 141 [.ref (P.2.2.1 0), .int p1] (some (.int r)) M M' := by
  refine ct_of hW (by decide) (Nat.le_of_ble_eq_true rfl) (fun p e s m args below meth c C ls hl hw => ?_)
  have hx := C.1
  have hb := C.2.1
  replace hl : lv_has ls 4 [(0, .ref (P.2.2.1 0)), (1, .int p1)] := hl
  have cut_29 : ∀ (n_29 : Nat) (v2_29 : Int32) (v3_29 : Int32) (M_29 : Mem) (ls : Array Slot) (H : Heap) (locs : List Loc), lv_has ls 4 [(0, .ref (P.2.2.1 0)), (1, .int p1), (2, .int v2_29), (3, .int v3_29)] → Hw shR P M_29 s H locs → lq3 (L_X11_tense_29 p1) n_29 v2_29 v3_29 M_29 = some (r, M') → W p l e { frames := 6, cells := 0, slots := 0, locals := 141 } s m args below meth c H locs 0 0 (MQ below (CQ shR P E (some (.int r)) M') args s 0 0 (wA shR P)) (F0 m 29 ls []) := by
    intro n_29
    induction n_29 with
    | zero => intro v2_29 v3_29 M_29 ls H locs hl hw h; cases h
    | succ n_29 ih_29 =>
      intro v2_29 v3_29 M_29 ls H locs hl hw h
      replace h := lq3_succ h
      refine lv_iload_n hx hb dX11_tense_29 rfl (lv_at hl 3 rfl) ?_
      refine lv_aload_n hx hb dX11_tense_30 rfl (lv_at hl 0 rfl) ?_
      obtain ⟨r10, e11, h⟩ := bnd_some h
      refine wcallV1 (As := []) (rest := [.int v3_29]) C hw (c_X11_steps hW  e11) vlX11_234 ⟨Nat.le_of_ble_eq_true rfl, Nat.le_of_ble_eq_true rfl⟩ (rfl : _ = some (0, 11)) rfl rfl rfl hl.1 (Nat.le_of_ble_eq_true rfl) dX11_tense_31 ⟨Nat.zero_le _, Nat.zero_le _⟩ (fun H locs hw => ?_)
      refine lv_icmp_gt (tgt := 66) hx hb dX11_tense_34 (by decide) (fun c12 => ?_) (fun c12 => ?_)
      · replace h := (if_pos c12).symm.trans h
        refine lv_iload_n hx hb dX11_tense_66 rfl (lv_at hl 2 rfl) ?_
        exact wretI_W C hw h dX11_tense_67
      · replace h := (if_neg c12).symm.trans h
        refine lv_iload_n hx hb dX11_tense_37 rfl (lv_at hl 2 rfl) ?_
        refine lv_aload_n hx hb dX11_tense_38 rfl (lv_at hl 0 rfl) ?_
        refine lv_iload_n hx hb dX11_tense_39 rfl (lv_at hl 1 rfl) ?_
        refine lv_iload_n hx hb dX11_tense_40 rfl (lv_at hl 3 rfl) ?_
        obtain ⟨r13, e14, h⟩ := bnd_some h
        refine wcallV1 (As := [.int p1, .int v3_29]) (rest := [.int v2_29]) C hw (c_X11_skinOf hW  e14) vlX11_268 ⟨Nat.le_of_ble_eq_true rfl, Nat.le_of_ble_eq_true rfl⟩ (rfl : _ = some (0, 11)) rfl rfl rfl hl.1 (Nat.le_of_ble_eq_true rfl) dX11_tense_41 ⟨Nat.zero_le _, Nat.zero_le _⟩ (fun H locs hw => ?_)
        refine lv_aload_n hx hb dX11_tense_44 rfl (lv_at hl 0 rfl) ?_
        refine lv_iload_n hx hb dX11_tense_45 rfl (lv_at hl 1 rfl) ?_
        refine lv_iload_n hx hb dX11_tense_46 rfl (lv_at hl 3 rfl) ?_
        obtain ⟨r15, e16, h⟩ := bnd_some h
        refine wcallV1 (As := [.int p1, .int v3_29]) (rest := [.int r13, .int v2_29]) C hw (c_X11_coreOf hW  e16) vlX11_271 ⟨Nat.le_of_ble_eq_true rfl, Nat.le_of_ble_eq_true rfl⟩ (rfl : _ = some (0, 11)) rfl rfl rfl hl.1 (Nat.le_of_ble_eq_true rfl) dX11_tense_47 ⟨Nat.zero_le _, Nat.zero_le _⟩ (fun H locs hw => ?_)
        refine lv_icmp_ge (tgt := 57) hx hb dX11_tense_50 (by decide) (fun c17 => ?_) (fun c17 => ?_)
        · replace h := (if_pos c17).symm.trans h
          refine lv_iconst (v := 0) hx hb dX11_tense_57 (by decide) ?_
          refine lv_iadd hx hb dX11_tense_58 ?_
          refine lv_topi (fun x18 ex18 => ?_)
          replace h := letv_at ex18 h
          refine lv_istore_n (lv' := [(2, .int x18), (0, .ref (P.2.2.1 0)), (1, .int p1), (3, .int v3_29)]) hx hb dX11_tense_59 rfl hl (by decide) rfl (fun ls hl => ?_)
          refine lv_iinc (v := (v3_29 + 1)) (lv' := [(3, .int (v3_29 + 1)), (2, .int x18), (0, .ref (P.2.2.1 0)), (1, .int p1)]) (k := 3) hx hb dX11_tense_60 hl rfl (congrArg (fun z => v3_29 + z) (by decide)) (by decide) rfl (fun ls hl => ?_)
          refine lv_goto (tgt := 29) hx hb dX11_tense_63 (by decide) ?_
          exact ih_29 x18 (v3_29 + 1) M_29 ls _ _ (lv_sub hl [2, 3, 1, 0] rfl) hw h
        · replace h := (if_neg c17).symm.trans h
          refine lv_iconst (v := 1) hx hb dX11_tense_53 (by decide) ?_
          refine lv_goto (tgt := 58) hx hb dX11_tense_54 (by decide) ?_
          refine lv_iadd hx hb dX11_tense_58 ?_
          refine lv_topi (fun x19 ex19 => ?_)
          replace h := letv_at ex19 h
          refine lv_istore_n (lv' := [(2, .int x19), (0, .ref (P.2.2.1 0)), (1, .int p1), (3, .int v3_29)]) hx hb dX11_tense_59 rfl hl (by decide) rfl (fun ls hl => ?_)
          refine lv_iinc (v := (v3_29 + 1)) (lv' := [(3, .int (v3_29 + 1)), (2, .int x19), (0, .ref (P.2.2.1 0)), (1, .int p1)]) (k := 3) hx hb dX11_tense_60 hl rfl (congrArg (fun z => v3_29 + z) (by decide)) (by decide) rfl (fun ls hl => ?_)
          refine lv_goto (tgt := 29) hx hb dX11_tense_63 (by decide) ?_
          exact ih_29 x19 (v3_29 + 1) M_29 ls _ _ (lv_sub hl [2, 3, 1, 0] rfl) hw h
  refine lv_aload_n hx hb dX11_tense_0 rfl (lv_at hl 0 rfl) ?_
  refine lv_iconst (v := 0) hx hb dX11_tense_1 (by decide) ?_
  refine wputI C hw fpX11_77 (rfl : _ = some (0, 11)) dX11_tense_2 (fun M1 eM1 H locs hw => ?_)
  replace h := letv_at eM1 h
  refine lv_aload_n hx hb dX11_tense_5 rfl (lv_at hl 0 rfl) ?_
  refine lv_iload_n hx hb dX11_tense_6 rfl (lv_at hl 1 rfl) ?_
  refine lv_i2l hx hb dX11_tense_7 rfl ?_
  obtain ⟨r2, e3, h⟩ := bnd_some h
  refine wcallV1 (As := [.long ((p1 : Int32).toInt64)]) (rest := []) C hw (c_X11_isPiece hW  e3) vlX11_237 ⟨Nat.le_of_ble_eq_true rfl, Nat.le_of_ble_eq_true rfl⟩ (rfl : _ = some (0, 11)) rfl rfl rfl hl.1 (Nat.le_of_ble_eq_true rfl) dX11_tense_8 ⟨Nat.zero_le _, Nat.zero_le _⟩ (fun H locs hw => ?_)
  refine lv_if_ne (tgt := 17) hx hb dX11_tense_11 (by decide) (fun c4 => ?_) (fun c4 => ?_)
  · replace h := (if_neg c4).symm.trans h
    refine lv_aload_n hx hb dX11_tense_17 rfl (lv_at hl 0 rfl) ?_
    obtain ⟨M7, e6, h⟩ := bnd_some h
    refine wcallV0 (As := []) (rest := []) C hw (c_X11_laysNow hW  e6) vlX11_311 ⟨Nat.le_of_ble_eq_true rfl, Nat.le_of_ble_eq_true rfl⟩ (rfl : _ = some (0, 11)) rfl rfl rfl hl.1 (Nat.le_of_ble_eq_true rfl) dX11_tense_18 ⟨Nat.zero_le _, Nat.zero_le _⟩ (fun H locs hw => ?_)
    refine lv_iconst (v := 0) hx hb dX11_tense_21 (by decide) ?_
    refine lv_istore_n (lv' := [(2, .int 0), (0, .ref (P.2.2.1 0)), (1, .int p1)]) hx hb dX11_tense_22 rfl hl (by decide) rfl (fun ls hl => ?_)
    refine lv_aload_n hx hb dX11_tense_23 rfl (lv_at hl 1 rfl) ?_
    refine lv_iload_n hx hb dX11_tense_24 rfl (lv_at hl 2 rfl) ?_
    obtain ⟨r8, e9, h⟩ := bnd_some h
    refine wcallV1 (As := [.int p1]) (rest := []) C hw (c_X11_comes hW  e9) vlX11_265 ⟨Nat.le_of_ble_eq_true rfl, Nat.le_of_ble_eq_true rfl⟩ (rfl : _ = some (0, 11)) rfl rfl rfl hl.1 (Nat.le_of_ble_eq_true rfl) dX11_tense_25 ⟨Nat.zero_le _, Nat.zero_le _⟩ (fun H locs hw => ?_)
    refine lv_istore_n (lv' := [(3, .int r8), (2, .int 0), (0, .ref (P.2.2.1 0)), (1, .int p1)]) hx hb dX11_tense_28 rfl hl (by decide) rfl (fun ls hl => ?_)
    exact cut_29 FU 0 r8 M7 ls _ _ (lv_sub hl [2, 3, 1, 0] rfl) hw h
  · replace h := (if_pos c4).symm.trans h
    refine lv_bipush (v := (-2)) hx hb dX11_tense_14 (by decide) ?_
    exact wretI_W C hw h dX11_tense_16
set_option maxRecDepth 100000 in
set_option maxHeartbeats 4000000 in
theorem c_X11_warms {l : Launch} {P : Wp} {E : State → Heap → Prop} (hW : Wok shR P E) {p1 : Int32} {M : Mem} {r : Int32} {M' : Mem} (h : f_X11_warms p1 M = some (r, M')) : CT l shR P E yX11_warms bX11_warms 4 ((some .int)) 6 141 [.ref (P.2.2.1 0), .int p1] (some (.int r)) M M' := by
  refine ct_of hW (by decide) (Nat.le_of_ble_eq_true rfl) (fun p e s m args below meth c C ls hl hw => ?_)
  have hx := C.1
  have hb := C.2.1
  replace hl : lv_has ls 4 [(0, .ref (P.2.2.1 0)), (1, .int p1)] := hl
  have cut_25 : ∀ (n_25 : Nat) (v2_25 : Int32) (v3_25 : Int32) (M_25 : Mem) (ls : Array Slot) (H : Heap) (locs : List Loc), lv_has ls 4 [(0, .ref (P.2.2.1 0)), (1, .int p1), (2, .int v2_25), (3, .int v3_25)] → Hw shR P M_25 s H locs → lq3 (L_X11_warms_25 p1) n_25 v2_25 v3_25 M_25 = some (r, M') → W p l e { frames := 6, cells := 0, slots := 0, locals := 141 } s m args below meth c H locs 0 0 (MQ below (CQ shR P E (some (.int r)) M') args s 0 0 (wA shR P)) (F0 m 25 ls []) := by
    intro n_25
    induction n_25 with
    | zero => intro v2_25 v3_25 M_25 ls H locs hl hw h; cases h
    | succ n_25 ih_25 =>
      intro v2_25 v3_25 M_25 ls H locs hl hw h
      replace h := lq3_succ h
      refine lv_iload_n hx hb dX11_warms_25 rfl (lv_at hl 3 rfl) ?_
      refine lv_aload_n hx hb dX11_warms_26 rfl (lv_at hl 0 rfl) ?_
      obtain ⟨r8, e9, h⟩ := bnd_some h
      refine wcallV1 (As := []) (rest := [.int v3_25]) C hw (c_X11_steps hW  e9) vlX11_234 ⟨Nat.le_of_ble_eq_true rfl, Nat.le_of_ble_eq_true rfl⟩ (rfl : _ = some (0, 11)) rfl rfl rfl hl.1 (Nat.le_of_ble_eq_true rfl) dX11_warms_27 ⟨Nat.zero_le _, Nat.zero_le _⟩ (fun H locs hw => ?_)
      refine lv_icmp_gt (tgt := 64) hx hb dX11_warms_30 (by decide) (fun c10 => ?_) (fun c10 => ?_)
      · replace h := (if_pos c10).symm.trans h
        refine lv_iload_n hx hb dX11_warms_64 rfl (lv_at hl 2 rfl) ?_
        exact wretI_W C hw h dX11_warms_65
      · replace h := (if_neg c10).symm.trans h
        refine lv_iload_n hx hb dX11_warms_33 rfl (lv_at hl 2 rfl) ?_
        refine lv_aload_n hx hb dX11_warms_34 rfl (lv_at hl 0 rfl) ?_
        refine lv_iload_n hx hb dX11_warms_35 rfl (lv_at hl 1 rfl) ?_
        refine lv_iload_n hx hb dX11_warms_36 rfl (lv_at hl 3 rfl) ?_
        obtain ⟨r11, e12, h⟩ := bnd_some h
        refine wcallV1 (As := [.int p1, .int v3_25]) (rest := [.int v2_25]) C hw (c_X11_skinOf hW  e12) vlX11_268 ⟨Nat.le_of_ble_eq_true rfl, Nat.le_of_ble_eq_true rfl⟩ (rfl : _ = some (0, 11)) rfl rfl rfl hl.1 (Nat.le_of_ble_eq_true rfl) dX11_warms_37 ⟨Nat.zero_le _, Nat.zero_le _⟩ (fun H locs hw => ?_)
        refine lv_aload_n hx hb dX11_warms_40 rfl (lv_at hl 0 rfl) ?_
        refine lv_iload_n hx hb dX11_warms_41 rfl (lv_at hl 1 rfl) ?_
        refine lv_iload_n hx hb dX11_warms_42 rfl (lv_at hl 3 rfl) ?_
        refine lv_iconst (v := 1) hx hb dX11_warms_43 (by decide) ?_
        refine lv_isub hx hb dX11_warms_44 ?_
        obtain ⟨r13, e14, h⟩ := bnd_some h
        refine wcallV1 (As := [.int p1, .int (v3_25 - (1 : Int32))]) (rest := [.int r11, .int v2_25]) C hw (c_X11_skinOf hW  e14) vlX11_268 ⟨Nat.le_of_ble_eq_true rfl, Nat.le_of_ble_eq_true rfl⟩ (rfl : _ = some (0, 11)) rfl rfl rfl hl.1 (Nat.le_of_ble_eq_true rfl) dX11_warms_45 ⟨Nat.zero_le _, Nat.zero_le _⟩ (fun H locs hw => ?_)
        refine lv_icmp_le (tgt := 55) hx hb dX11_warms_48 (by decide) (fun c15 => ?_) (fun c15 => ?_)
        · replace h := (if_pos c15).symm.trans h
          refine lv_iconst (v := 0) hx hb dX11_warms_55 (by decide) ?_
          refine lv_iadd hx hb dX11_warms_56 ?_
          refine lv_topi (fun x16 ex16 => ?_)
          replace h := letv_at ex16 h
          refine lv_istore_n (lv' := [(2, .int x16), (0, .ref (P.2.2.1 0)), (1, .int p1), (3, .int v3_25)]) hx hb dX11_warms_57 rfl hl (by decide) rfl (fun ls hl => ?_)
          refine lv_iinc (v := (v3_25 + 1)) (lv' := [(3, .int (v3_25 + 1)), (2, .int x16), (0, .ref (P.2.2.1 0)), (1, .int p1)]) (k := 3) hx hb dX11_warms_58 hl rfl (congrArg (fun z => v3_25 + z) (by decide)) (by decide) rfl (fun ls hl => ?_)
          refine lv_goto (tgt := 25) hx hb dX11_warms_61 (by decide) ?_
          exact ih_25 x16 (v3_25 + 1) M_25 ls _ _ (lv_sub hl [2, 3, 1, 0] rfl) hw h
        · replace h := (if_neg c15).symm.trans h
          refine lv_iconst (v := 1) hx hb dX11_warms_51 (by decide) ?_
          refine lv_goto (tgt := 56) hx hb dX11_warms_52 (by decide) ?_
          refine lv_iadd hx hb dX11_warms_56 ?_
          refine lv_topi (fun x17 ex17 => ?_)
          replace h := letv_at ex17 h
          refine lv_istore_n (lv' := [(2, .int x17), (0, .ref (P.2.2.1 0)), (1, .int p1), (3, .int v3_25)]) hx hb dX11_warms_57 rfl hl (by decide) rfl (fun ls hl => ?_)
          refine lv_iinc (v := (v3_25 + 1)) (lv' := [(3, .int (v3_25 + 1)), (2, .int x17), (0, .ref (P.2.2.1 0)), (1, .int p1)]) (k := 3) hx hb dX11_warms_58 hl rfl (congrArg (fun z => v3_25 + z) (by decide)) (by decide) rfl (fun ls hl => ?_)
          refine lv_goto (tgt := 25) hx hb dX11_warms_61 (by decide) ?_
          exact ih_25 x17 (v3_25 + 1) M_25 ls _ _ (lv_sub hl [2, 3, 1, 0] rfl) hw h
  refine lv_aload_n hx hb dX11_warms_0 rfl (lv_at hl 0 rfl) ?_
  refine lv_iconst (v := 0) hx hb dX11_warms_1 (by decide) ?_
  refine wputI C hw fpX11_77 (rfl : _ = some (0, 11)) dX11_warms_2 (fun M1 eM1 H locs hw => ?_)
  replace h := letv_at eM1 h
  refine lv_aload_n hx hb dX11_warms_5 rfl (lv_at hl 0 rfl) ?_
  refine lv_iload_n hx hb dX11_warms_6 rfl (lv_at hl 1 rfl) ?_
  refine lv_i2l hx hb dX11_warms_7 rfl ?_
  obtain ⟨r2, e3, h⟩ := bnd_some h
  refine wcallV1 (As := [.long ((p1 : Int32).toInt64)]) (rest := []) C hw (c_X11_isPiece hW  e3) vlX11_237 ⟨Nat.le_of_ble_eq_true rfl, Nat.le_of_ble_eq_true rfl⟩ (rfl : _ = some (0, 11)) rfl rfl rfl hl.1 (Nat.le_of_ble_eq_true rfl) dX11_warms_8 ⟨Nat.zero_le _, Nat.zero_le _⟩ (fun H locs hw => ?_)
  refine lv_if_ne (tgt := 17) hx hb dX11_warms_11 (by decide) (fun c4 => ?_) (fun c4 => ?_)
  · replace h := (if_neg c4).symm.trans h
    refine lv_aload_n hx hb dX11_warms_17 rfl (lv_at hl 0 rfl) ?_
    obtain ⟨M7, e6, h⟩ := bnd_some h
    refine wcallV0 (As := []) (rest := []) C hw (c_X11_laysNow hW  e6) vlX11_311 ⟨Nat.le_of_ble_eq_true rfl, Nat.le_of_ble_eq_true rfl⟩ (rfl : _ = some (0, 11)) rfl rfl rfl hl.1 (Nat.le_of_ble_eq_true rfl) dX11_warms_18 ⟨Nat.zero_le _, Nat.zero_le _⟩ (fun H locs hw => ?_)
    refine lv_iconst (v := 0) hx hb dX11_warms_21 (by decide) ?_
    refine lv_istore_n (lv' := [(2, .int 0), (0, .ref (P.2.2.1 0)), (1, .int p1)]) hx hb dX11_warms_22 rfl hl (by decide) rfl (fun ls hl => ?_)
    refine lv_iconst (v := 1) hx hb dX11_warms_23 (by decide) ?_
    refine lv_istore_n (lv' := [(3, .int 1), (2, .int 0), (0, .ref (P.2.2.1 0)), (1, .int p1)]) hx hb dX11_warms_24 rfl hl (by decide) rfl (fun ls hl => ?_)
    exact cut_25 FU 0 1 M7 ls _ _ (lv_sub hl [2, 3, 1, 0] rfl) hw h
  · replace h := (if_pos c4).symm.trans h
    refine lv_bipush (v := (-2)) hx hb dX11_warms_14 (by decide) ?_
    exact wretI_W C hw h dX11_warms_16
set_option maxRecDepth 100000 in
set_option maxHeartbeats 4000000 in
theorem c_X11_cool {l : Launch} {P : Wp} {E : State → Heap → Prop} (hW : Wok shR P E) {p1 : Int32} {p2 : Int32} {M : Mem} {r : Int32} {M' : Mem} (h : f_X11_cool p1 p2 M = some (r, M')) : CT l shR P E yX11_cool bX11_cool 4 ((some .int)) 6 141 [.ref (P.2.2.1 0), .int p1, .int p2] (some (.int r)) M M' := by
  refine ct_of hW (by decide) (Nat.le_of_ble_eq_true rfl) (fun p e s m args below meth c C ls hl hw => ?_)
  have hx := C.1
  have hb := C.2.1
  replace hl : lv_has ls 4 [(0, .ref (P.2.2.1 0)), (1, .int p1), (2, .int p2)] := hl
  have cut_39 : ∀ (n_39 : Nat) (v3_39 : Int32) (M_39 : Mem) (ls : Array Slot) (H : Heap) (locs : List Loc), lv_has ls 4 [(0, .ref (P.2.2.1 0)), (1, .int p1), (2, .int p2), (3, .int v3_39)] → Hw shR P M_39 s H locs → lq2 (L_X11_cool_39 p1 p2) n_39 v3_39 M_39 = some (r, M') → W p l e { frames := 6, cells := 0, slots := 0, locals := 141 } s m args below meth c H locs 0 0 (MQ below (CQ shR P E (some (.int r)) M') args s 0 0 (wA shR P)) (F0 m 39 ls []) := by
    intro n_39
    induction n_39 with
    | zero => intro v3_39 M_39 ls H locs hl hw h; cases h
    | succ n_39 ih_39 =>
      intro v3_39 M_39 ls H locs hl hw h
      replace h := lq2_succ h
      refine lv_iload_n hx hb dX11_cool_39 rfl (lv_at hl 3 rfl) ?_
      refine lv_aload_n hx hb dX11_cool_40 rfl (lv_at hl 0 rfl) ?_
      obtain ⟨r11, e12, h⟩ := bnd_some h
      refine wcallV1 (As := []) (rest := [.int v3_39]) C hw (c_X11_steps hW  e12) vlX11_234 ⟨Nat.le_of_ble_eq_true rfl, Nat.le_of_ble_eq_true rfl⟩ (rfl : _ = some (0, 11)) rfl rfl rfl hl.1 (Nat.le_of_ble_eq_true rfl) dX11_cool_41 ⟨Nat.zero_le _, Nat.zero_le _⟩ (fun H locs hw => ?_)
      refine lv_icmp_gt (tgt := 65) hx hb dX11_cool_44 (by decide) (fun c13 => ?_) (fun c13 => ?_)
      · replace h := (if_pos c13).symm.trans h
        refine lv_iconst (v := (-1)) hx hb dX11_cool_65 (by decide) ?_
        exact wretI_W C hw h dX11_cool_66
      · replace h := (if_neg c13).symm.trans h
        refine lv_aload_n hx hb dX11_cool_47 rfl (lv_at hl 0 rfl) ?_
        refine lv_iload_n hx hb dX11_cool_48 rfl (lv_at hl 1 rfl) ?_
        refine lv_iload_n hx hb dX11_cool_49 rfl (lv_at hl 3 rfl) ?_
        obtain ⟨r14, e15, h⟩ := bnd_some h
        refine wcallV1 (As := [.int p1, .int v3_39]) (rest := []) C hw (c_X11_skinOf hW  e15) vlX11_268 ⟨Nat.le_of_ble_eq_true rfl, Nat.le_of_ble_eq_true rfl⟩ (rfl : _ = some (0, 11)) rfl rfl rfl hl.1 (Nat.le_of_ble_eq_true rfl) dX11_cool_50 ⟨Nat.zero_le _, Nat.zero_le _⟩ (fun H locs hw => ?_)
        refine lv_iload_n hx hb dX11_cool_53 rfl (lv_at hl 2 rfl) ?_
        refine lv_icmp_gt (tgt := 59) hx hb dX11_cool_54 (by decide) (fun c16 => ?_) (fun c16 => ?_)
        · replace h := (if_pos c16).symm.trans h
          refine lv_iinc (v := (v3_39 + 1)) (lv' := [(3, .int (v3_39 + 1)), (0, .ref (P.2.2.1 0)), (1, .int p1), (2, .int p2)]) (k := 3) hx hb dX11_cool_59 hl rfl (congrArg (fun z => v3_39 + z) (by decide)) (by decide) rfl (fun ls hl => ?_)
          refine lv_goto (tgt := 39) hx hb dX11_cool_62 (by decide) ?_
          exact ih_39 (v3_39 + 1) M_39 ls _ _ (lv_sub hl [1, 2, 3, 0] rfl) hw h
        · replace h := (if_neg c16).symm.trans h
          refine lv_iload_n hx hb dX11_cool_57 rfl (lv_at hl 3 rfl) ?_
          exact wretI_W C hw h dX11_cool_58
  refine lv_aload_n hx hb dX11_cool_0 rfl (lv_at hl 0 rfl) ?_
  refine lv_iconst (v := 0) hx hb dX11_cool_1 (by decide) ?_
  refine wputI C hw fpX11_77 (rfl : _ = some (0, 11)) dX11_cool_2 (fun M1 eM1 H locs hw => ?_)
  replace h := letv_at eM1 h
  refine lv_aload_n hx hb dX11_cool_5 rfl (lv_at hl 0 rfl) ?_
  refine lv_iload_n hx hb dX11_cool_6 rfl (lv_at hl 1 rfl) ?_
  refine lv_i2l hx hb dX11_cool_7 rfl ?_
  obtain ⟨r2, e3, h⟩ := bnd_some h
  refine wcallV1 (As := [.long ((p1 : Int32).toInt64)]) (rest := []) C hw (c_X11_isPiece hW  e3) vlX11_237 ⟨Nat.le_of_ble_eq_true rfl, Nat.le_of_ble_eq_true rfl⟩ (rfl : _ = some (0, 11)) rfl rfl rfl hl.1 (Nat.le_of_ble_eq_true rfl) dX11_cool_8 ⟨Nat.zero_le _, Nat.zero_le _⟩ (fun H locs hw => ?_)
  refine lv_if_eq (tgt := 26) hx hb dX11_cool_11 (by decide) (fun c4 => ?_) (fun c4 => ?_)
  · replace h := (if_pos c4).symm.trans h
    refine lv_bipush (v := (-2)) hx hb dX11_cool_26 (by decide) ?_
    exact wretI_W C hw h dX11_cool_28
  · replace h := (if_neg c4).symm.trans h
    refine lv_iload_n hx hb dX11_cool_14 rfl (lv_at hl 2 rfl) ?_
    refine lv_i2l hx hb dX11_cool_15 rfl ?_
    refine lv_lconst (v := 0) hx hb dX11_cool_16 (by decide) ?_
    refine lv_ldc2 hx hb C.2.2.2.1 (C.2.2.2.2.1 _ (List.mem_cons_of_mem _ (gm kcX11_338 rfl))) dX11_cool_17 ?_
    refine wcallS1 (As := [.long ((p2 : Int32).toInt64), .long 0, .long 600]) (rest := []) C hw (c_X11_in hW  rfl) slX11_82 ⟨Nat.le_of_ble_eq_true rfl, Nat.le_of_ble_eq_true rfl⟩ rfl rfl hl.1 (Nat.le_of_ble_eq_true rfl) dX11_cool_20 ⟨Nat.zero_le _, Nat.zero_le _⟩ (fun H locs hw => ?_)
    refine lv_if_ne (tgt := 29) hx hb dX11_cool_23 (by decide) (fun c5 => ?_) (fun c5 => ?_)
    · replace h := (if_neg c5).symm.trans h
      refine lv_aload_n hx hb dX11_cool_29 rfl (lv_at hl 0 rfl) ?_
      obtain ⟨M8, e7, h⟩ := bnd_some h
      refine wcallV0 (As := []) (rest := []) C hw (c_X11_laysNow hW  e7) vlX11_311 ⟨Nat.le_of_ble_eq_true rfl, Nat.le_of_ble_eq_true rfl⟩ (rfl : _ = some (0, 11)) rfl rfl rfl hl.1 (Nat.le_of_ble_eq_true rfl) dX11_cool_30 ⟨Nat.zero_le _, Nat.zero_le _⟩ (fun H locs hw => ?_)
      refine lv_aload_n hx hb dX11_cool_33 rfl (lv_at hl 0 rfl) ?_
      refine lv_iload_n hx hb dX11_cool_34 rfl (lv_at hl 1 rfl) ?_
      obtain ⟨r9, e10, h⟩ := bnd_some h
      refine wcallV1 (As := [.int p1]) (rest := []) C hw (c_X11_comes hW  e10) vlX11_265 ⟨Nat.le_of_ble_eq_true rfl, Nat.le_of_ble_eq_true rfl⟩ (rfl : _ = some (0, 11)) rfl rfl rfl hl.1 (Nat.le_of_ble_eq_true rfl) dX11_cool_35 ⟨Nat.zero_le _, Nat.zero_le _⟩ (fun H locs hw => ?_)
      refine lv_istore_n (lv' := [(3, .int r9), (0, .ref (P.2.2.1 0)), (1, .int p1), (2, .int p2)]) hx hb dX11_cool_38 rfl hl (by decide) rfl (fun ls hl => ?_)
      exact cut_39 FU r9 M8 ls _ _ (lv_sub hl [1, 2, 3, 0] rfl) hw h
    · replace h := (if_pos c5).symm.trans h
      refine lv_bipush (v := (-2)) hx hb dX11_cool_26 (by decide) ?_
      exact wretI_W C hw h dX11_cool_28
set_option maxRecDepth 100000 in
set_option maxHeartbeats 4000000 in
theorem c_X11_still {l : Launch} {P : Wp} {E : State → Heap → Prop} (hW : Wok shR P E) {p1 : Int32} {M : Mem} {r : Int32} {M' : Mem} (h : f_X11_still p1 M = some (r, M')) : CT l shR P E yX11_still bX11_still 3 ((some .int)) 6 141 [.ref (P.2.2.1 0), .int p1] (some (.int r)) M M' := by
  refine ct_of hW (by decide) (Nat.le_of_ble_eq_true rfl) (fun p e s m args below meth c C ls hl hw => ?_)
  have hx := C.1
  have hb := C.2.1
  replace hl : lv_has ls 3 [(0, .ref (P.2.2.1 0)), (1, .int p1)] := hl
  have cut_26 : ∀ (n_26 : Nat) (v2_26 : Int32) (M_26 : Mem) (ls : Array Slot) (H : Heap) (locs : List Loc), lv_has ls 3 [(0, .ref (P.2.2.1 0)), (1, .int p1), (2, .int v2_26)] → Hw shR P M_26 s H locs → lq2 (L_X11_still_26 p1) n_26 v2_26 M_26 = some (r, M') → W p l e { frames := 6, cells := 0, slots := 0, locals := 141 } s m args below meth c H locs 0 0 (MQ below (CQ shR P E (some (.int r)) M') args s 0 0 (wA shR P)) (F0 m 26 ls []) := by
    intro n_26
    induction n_26 with
    | zero => intro v2_26 M_26 ls H locs hl hw h; cases h
    | succ n_26 ih_26 =>
      intro v2_26 M_26 ls H locs hl hw h
      replace h := lq2_succ h
      refine lv_iload_n hx hb dX11_still_26 rfl (lv_at hl 2 rfl) ?_
      refine lv_if_le (tgt := 56) hx hb dX11_still_27 (by decide) (fun c10 => ?_) (fun c10 => ?_)
      · replace h := (if_pos c10).symm.trans h
        refine lv_iload_n hx hb dX11_still_56 rfl (lv_at hl 2 rfl) ?_
        exact wretI_W C hw h dX11_still_57
      · replace h := (if_neg c10).symm.trans h
        refine lv_aload_n hx hb dX11_still_30 rfl (lv_at hl 0 rfl) ?_
        refine lv_iload_n hx hb dX11_still_31 rfl (lv_at hl 1 rfl) ?_
        refine lv_iload_n hx hb dX11_still_32 rfl (lv_at hl 2 rfl) ?_
        refine lv_iconst (v := 1) hx hb dX11_still_33 (by decide) ?_
        refine lv_isub hx hb dX11_still_34 ?_
        obtain ⟨r11, e12, h⟩ := bnd_some h
        refine wcallV1 (As := [.int p1, .int (v2_26 - (1 : Int32))]) (rest := []) C hw (c_X11_skinOf hW  e12) vlX11_268 ⟨Nat.le_of_ble_eq_true rfl, Nat.le_of_ble_eq_true rfl⟩ (rfl : _ = some (0, 11)) rfl rfl rfl hl.1 (Nat.le_of_ble_eq_true rfl) dX11_still_35 ⟨Nat.zero_le _, Nat.zero_le _⟩ (fun H locs hw => ?_)
        refine lv_aload_n hx hb dX11_still_38 rfl (lv_at hl 0 rfl) ?_
        refine lv_iload_n hx hb dX11_still_39 rfl (lv_at hl 1 rfl) ?_
        refine lv_aload_n hx hb dX11_still_40 rfl (lv_at hl 0 rfl) ?_
        obtain ⟨r13, e14, h⟩ := bnd_some h
        refine wcallV1 (As := []) (rest := [.int p1, .ref (P.2.2.1 0), .int r11]) C hw (c_X11_steps hW  e14) vlX11_234 ⟨Nat.le_of_ble_eq_true rfl, Nat.le_of_ble_eq_true rfl⟩ (rfl : _ = some (0, 11)) rfl rfl rfl hl.1 (Nat.le_of_ble_eq_true rfl) dX11_still_41 ⟨Nat.zero_le _, Nat.zero_le _⟩ (fun H locs hw => ?_)
        obtain ⟨r15, e16, h⟩ := bnd_some h
        refine wcallV1 (As := [.int p1, .int r13]) (rest := [.int r11]) C hw (c_X11_skinOf hW  e16) vlX11_268 ⟨Nat.le_of_ble_eq_true rfl, Nat.le_of_ble_eq_true rfl⟩ (rfl : _ = some (0, 11)) rfl rfl rfl hl.1 (Nat.le_of_ble_eq_true rfl) dX11_still_44 ⟨Nat.zero_le _, Nat.zero_le _⟩ (fun H locs hw => ?_)
        refine lv_icmp_ne (tgt := 56) hx hb dX11_still_47 (by decide) (fun c17 => ?_) (fun c17 => ?_)
        · replace h := (if_neg c17).symm.trans h
          refine lv_iload_n hx hb dX11_still_56 rfl (lv_at hl 2 rfl) ?_
          exact wretI_W C hw h dX11_still_57
        · replace h := (if_pos c17).symm.trans h
          refine lv_iinc (v := (v2_26 + (-1))) (lv' := [(2, .int (v2_26 + (-1))), (0, .ref (P.2.2.1 0)), (1, .int p1)]) (k := 2) hx hb dX11_still_50 hl rfl (congrArg (fun z => v2_26 + z) (by decide)) (by decide) rfl (fun ls hl => ?_)
          refine lv_goto (tgt := 26) hx hb dX11_still_53 (by decide) ?_
          exact ih_26 (v2_26 + (-1)) M_26 ls _ _ (lv_sub hl [1, 2, 0] rfl) hw h
  refine lv_aload_n hx hb dX11_still_0 rfl (lv_at hl 0 rfl) ?_
  refine lv_iconst (v := 0) hx hb dX11_still_1 (by decide) ?_
  refine wputI C hw fpX11_77 (rfl : _ = some (0, 11)) dX11_still_2 (fun M1 eM1 H locs hw => ?_)
  replace h := letv_at eM1 h
  refine lv_aload_n hx hb dX11_still_5 rfl (lv_at hl 0 rfl) ?_
  refine lv_iload_n hx hb dX11_still_6 rfl (lv_at hl 1 rfl) ?_
  refine lv_i2l hx hb dX11_still_7 rfl ?_
  obtain ⟨r2, e3, h⟩ := bnd_some h
  refine wcallV1 (As := [.long ((p1 : Int32).toInt64)]) (rest := []) C hw (c_X11_isPiece hW  e3) vlX11_237 ⟨Nat.le_of_ble_eq_true rfl, Nat.le_of_ble_eq_true rfl⟩ (rfl : _ = some (0, 11)) rfl rfl rfl hl.1 (Nat.le_of_ble_eq_true rfl) dX11_still_8 ⟨Nat.zero_le _, Nat.zero_le _⟩ (fun H locs hw => ?_)
  refine lv_if_ne (tgt := 17) hx hb dX11_still_11 (by decide) (fun c4 => ?_) (fun c4 => ?_)
  · replace h := (if_neg c4).symm.trans h
    refine lv_aload_n hx hb dX11_still_17 rfl (lv_at hl 0 rfl) ?_
    obtain ⟨M7, e6, h⟩ := bnd_some h
    refine wcallV0 (As := []) (rest := []) C hw (c_X11_laysNow hW  e6) vlX11_311 ⟨Nat.le_of_ble_eq_true rfl, Nat.le_of_ble_eq_true rfl⟩ (rfl : _ = some (0, 11)) rfl rfl rfl hl.1 (Nat.le_of_ble_eq_true rfl) dX11_still_18 ⟨Nat.zero_le _, Nat.zero_le _⟩ (fun H locs hw => ?_)
    refine lv_aload_n hx hb dX11_still_21 rfl (lv_at hl 0 rfl) ?_
    obtain ⟨r8, e9, h⟩ := bnd_some h
    refine wcallV1 (As := []) (rest := []) C hw (c_X11_steps hW  e9) vlX11_234 ⟨Nat.le_of_ble_eq_true rfl, Nat.le_of_ble_eq_true rfl⟩ (rfl : _ = some (0, 11)) rfl rfl rfl hl.1 (Nat.le_of_ble_eq_true rfl) dX11_still_22 ⟨Nat.zero_le _, Nat.zero_le _⟩ (fun H locs hw => ?_)
    refine lv_istore_n (lv' := [(2, .int r8), (0, .ref (P.2.2.1 0)), (1, .int p1)]) hx hb dX11_still_25 rfl hl (by decide) rfl (fun ls hl => ?_)
    exact cut_26 FU r8 M7 ls _ _ (lv_sub hl [1, 2, 0] rfl) hw h
  · replace h := (if_pos c4).symm.trans h
    refine lv_bipush (v := (-2)) hx hb dX11_still_14 (by decide) ?_
    exact wretI_W C hw h dX11_still_16
set_option maxRecDepth 100000 in
set_option maxHeartbeats 4000000 in
theorem c_X11_pairs {l : Launch} {P : Wp} {E : State → Heap → Prop} (hW : Wok shR P E) {p1 : Int32} {M : Mem} {r : Int32} {M' : Mem} (h : f_X11_pairs p1 M = some (r, M')) : CT l shR P E yX11_pairs bX11_pairs 5 ((some .int)) 3 68 [.ref (P.2.2.1 0), .int p1] (some (.int r)) M M' := by
  refine ct_of hW (by decide) (Nat.le_of_ble_eq_true rfl) (fun p e s m args below meth c C ls hl hw => ?_)
  have hx := C.1
  have hb := C.2.1
  replace hl : lv_has ls 5 [(0, .ref (P.2.2.1 0)), (1, .int p1)] := hl
  have cut_25 : ∀ (n_25 : Nat) (v2_25 : Int32) (v3_25 : Int32) (M_25 : Mem) (ls : Array Slot) (H : Heap) (locs : List Loc), lv_has ls 5 [(0, .ref (P.2.2.1 0)), (1, .int p1), (2, .int v2_25), (3, .int v3_25)] → Hw shR P M_25 s H locs → lq3 (L_X11_pairs_25 p1) n_25 v2_25 v3_25 M_25 = some (r, M') → W p l e { frames := 3, cells := 0, slots := 0, locals := 68 } s m args below meth c H locs 0 0 (MQ below (CQ shR P E (some (.int r)) M') args s 0 0 (wA shR P)) (F0 m 25 ls []) := by
    intro n_25
    induction n_25 with
    | zero => intro v2_25 v3_25 M_25 ls H locs hl hw h; cases h
    | succ n_25 ih_25 =>
      intro v2_25 v3_25 M_25 ls H locs hl hw h
      replace h := lq3_succ h
      refine lv_iload_n hx hb dX11_pairs_25 rfl (lv_at hl 3 rfl) ?_
      refine lv_aload_n hx hb dX11_pairs_26 rfl (lv_at hl 0 rfl) ?_
      refine wgetI C hw flX11_252 (rfl : _ = some (0, 11)) dX11_pairs_27 ?_
      refine lv_icmp_ge (tgt := 62) hx hb dX11_pairs_30 (by decide) (fun c8 => ?_) (fun c8 => ?_)
      · replace h := (if_pos c8).symm.trans h
        refine lv_iload_n hx hb dX11_pairs_62 rfl (lv_at hl 2 rfl) ?_
        exact wretI_W C hw h dX11_pairs_63
      · replace h := (if_neg c8).symm.trans h
        refine lv_aload_n hx hb dX11_pairs_33 rfl (lv_at hl 0 rfl) ?_
        refine lv_iload_n hx hb dX11_pairs_34 rfl (lv_at hl 3 rfl) ?_
        refine lv_iload_n hx hb dX11_pairs_35 rfl (lv_at hl 1 rfl) ?_
        obtain ⟨r9, e10, h⟩ := bnd_some h
        refine wcallV1 (As := [.int v3_25, .int p1]) (rest := []) C hw (c_X11_insideOf hW  e10) vlX11_308 ⟨Nat.le_of_ble_eq_true rfl, Nat.le_of_ble_eq_true rfl⟩ (rfl : _ = some (0, 11)) rfl rfl rfl hl.1 (Nat.le_of_ble_eq_true rfl) dX11_pairs_36 ⟨Nat.zero_le _, Nat.zero_le _⟩ (fun H locs hw => ?_)
        obtain ⟨r11, e12, h⟩ := bnd_some h
        refine wcallS1 (As := [.int r9]) (rest := []) C hw (c_X11_sizeOf hW  e12) slX11_335 ⟨Nat.le_of_ble_eq_true rfl, Nat.le_of_ble_eq_true rfl⟩ rfl rfl hl.1 (Nat.le_of_ble_eq_true rfl) dX11_pairs_39 ⟨Nat.zero_le _, Nat.zero_le _⟩ (fun H locs hw => ?_)
        refine lv_istore (lv' := [(4, .int r11), (0, .ref (P.2.2.1 0)), (1, .int p1), (2, .int v2_25), (3, .int v3_25)]) hx hb dX11_pairs_42 hl (by decide) rfl (fun ls hl => ?_)
        refine lv_iload_n hx hb dX11_pairs_44 rfl (lv_at hl 3 rfl) ?_
        refine lv_iload hx hb dX11_pairs_45 (lv_at hl 0 rfl) ?_
        refine lv_iload hx hb dX11_pairs_47 (lv_at hl 0 rfl) ?_
        refine lv_iconst (v := 1) hx hb dX11_pairs_49 (by decide) ?_
        refine lv_isub hx hb dX11_pairs_50 ?_
        refine lv_imul hx hb dX11_pairs_51 ?_
        refine lv_iconst (v := 2) hx hb dX11_pairs_52 (by decide) ?_
        refine lv_idiv hx hb dX11_pairs_53 (by decide) ?_
        refine lv_iadd hx hb dX11_pairs_54 ?_
        refine lv_topi (fun x13 ex13 => ?_)
        replace h := letv_at ex13 h
        refine lv_istore_n (lv' := [(2, .int x13), (4, .int r11), (0, .ref (P.2.2.1 0)), (1, .int p1), (3, .int v3_25)]) hx hb dX11_pairs_55 rfl hl (by decide) rfl (fun ls hl => ?_)
        refine lv_iinc (v := (v3_25 + 1)) (lv' := [(3, .int (v3_25 + 1)), (2, .int x13), (4, .int r11), (0, .ref (P.2.2.1 0)), (1, .int p1)]) (k := 4) hx hb dX11_pairs_56 hl rfl (congrArg (fun z => v3_25 + z) (by decide)) (by decide) rfl (fun ls hl => ?_)
        refine lv_goto (tgt := 25) hx hb dX11_pairs_59 (by decide) ?_
        exact ih_25 x13 (v3_25 + 1) M_25 ls _ _ (lv_sub hl [3, 4, 1, 0] rfl) hw h
  refine lv_aload_n hx hb dX11_pairs_0 rfl (lv_at hl 0 rfl) ?_
  refine lv_iconst (v := 0) hx hb dX11_pairs_1 (by decide) ?_
  refine wputI C hw fpX11_77 (rfl : _ = some (0, 11)) dX11_pairs_2 (fun M1 eM1 H locs hw => ?_)
  replace h := letv_at eM1 h
  refine lv_aload_n hx hb dX11_pairs_5 rfl (lv_at hl 0 rfl) ?_
  refine lv_iload_n hx hb dX11_pairs_6 rfl (lv_at hl 1 rfl) ?_
  refine lv_i2l hx hb dX11_pairs_7 rfl ?_
  obtain ⟨r2, e3, h⟩ := bnd_some h
  refine wcallV1 (As := [.long ((p1 : Int32).toInt64)]) (rest := []) C hw (c_X11_isStep hW  e3) vlX11_240 ⟨Nat.le_of_ble_eq_true rfl, Nat.le_of_ble_eq_true rfl⟩ (rfl : _ = some (0, 11)) rfl rfl rfl hl.1 (Nat.le_of_ble_eq_true rfl) dX11_pairs_8 ⟨Nat.zero_le _, Nat.zero_le _⟩ (fun H locs hw => ?_)
  refine lv_if_ne (tgt := 17) hx hb dX11_pairs_11 (by decide) (fun c4 => ?_) (fun c4 => ?_)
  · replace h := (if_neg c4).symm.trans h
    refine lv_aload_n hx hb dX11_pairs_17 rfl (lv_at hl 0 rfl) ?_
    obtain ⟨M7, e6, h⟩ := bnd_some h
    refine wcallV0 (As := []) (rest := []) C hw (c_X11_lays hW  e6) vlX11_296 ⟨Nat.le_of_ble_eq_true rfl, Nat.le_of_ble_eq_true rfl⟩ (rfl : _ = some (0, 11)) rfl rfl rfl hl.1 (Nat.le_of_ble_eq_true rfl) dX11_pairs_18 ⟨Nat.zero_le _, Nat.zero_le _⟩ (fun H locs hw => ?_)
    refine lv_iconst (v := 0) hx hb dX11_pairs_21 (by decide) ?_
    refine lv_istore_n (lv' := [(2, .int 0), (0, .ref (P.2.2.1 0)), (1, .int p1)]) hx hb dX11_pairs_22 rfl hl (by decide) rfl (fun ls hl => ?_)
    refine lv_iconst (v := 0) hx hb dX11_pairs_23 (by decide) ?_
    refine lv_istore_n (lv' := [(3, .int 0), (2, .int 0), (0, .ref (P.2.2.1 0)), (1, .int p1)]) hx hb dX11_pairs_24 rfl hl (by decide) rfl (fun ls hl => ?_)
    exact cut_25 FU 0 0 M7 ls _ _ (lv_sub hl [2, 3, 1, 0] rfl) hw h
  · replace h := (if_pos c4).symm.trans h
    refine lv_bipush (v := (-2)) hx hb dX11_pairs_14 (by decide) ?_
    exact wretI_W C hw h dX11_pairs_16
set_option maxRecDepth 100000 in
set_option maxHeartbeats 4000000 in
theorem c_X11_crowd {l : Launch} {P : Wp} {E : State → Heap → Prop} (hW : Wok shR P E) {M : Mem} {r : Int32} {M' : Mem} (h : f_X11_crowd M = some (r, M')) : CT l shR P E yX11_crowd bX11_crowd 4 ((some .int)) 3 68 [.ref (P.2.2.1 0)] (some (.int r)) M M' := by
  refine ct_of hW (by decide) (Nat.le_of_ble_eq_true rfl) (fun p e s m args below meth c C ls hl hw => ?_)
  have hx := C.1
  have hb := C.2.1
  replace hl : lv_has ls 4 [(0, .ref (P.2.2.1 0))] := hl
  have cut_23 : ∀ (n_23 : Nat) (v1_23 : Int32) (v2_23 : Int32) (M_23 : Mem) (ls : Array Slot) (H : Heap) (locs : List Loc), lv_has ls 4 [(0, .ref (P.2.2.1 0)), (1, .int v1_23), (2, .int v2_23)] → Hw shR P M_23 s H locs → lq3 (L_X11_crowd_23) n_23 v1_23 v2_23 M_23 = some (r, M') → W p l e { frames := 3, cells := 0, slots := 0, locals := 68 } s m args below meth c H locs 0 0 (MQ below (CQ shR P E (some (.int r)) M') args s 0 0 (wA shR P)) (F0 m 23 ls []) := by
    intro n_23
    induction n_23 with
    | zero => intro v1_23 v2_23 M_23 ls H locs hl hw h; cases h
    | succ n_23 ih_23 =>
      intro v1_23 v2_23 M_23 ls H locs hl hw h
      replace h := lq3_succ h
      have cut_33 : ∀ (v2_33 : Int32) (n_33 : Nat) (v1_33 : Int32) (v3_33 : Int32) (M_33 : Mem) (ls : Array Slot) (H : Heap) (locs : List Loc), lv_has ls 4 [(0, .ref (P.2.2.1 0)), (1, .int v1_33), (2, .int v2_33), (3, .int v3_33)] → Hw shR P M_33 s H locs → lq3 (L_X11_crowd_33 (lq3 (L_X11_crowd_23) n_23) v2_33) n_33 v1_33 v3_33 M_33 = some (r, M') → W p l e { frames := 3, cells := 0, slots := 0, locals := 68 } s m args below meth c H locs 0 0 (MQ below (CQ shR P E (some (.int r)) M') args s 0 0 (wA shR P)) (F0 m 33 ls []) := by
        intro v2_33 n_33
        induction n_33 with
        | zero => intro v1_33 v3_33 M_33 ls H locs hl hw h; cases h
        | succ n_33 ih_33 =>
          intro v1_33 v3_33 M_33 ls H locs hl hw h
          replace h := lq3_succ h
          refine lv_iload_n hx hb dX11_crowd_33 rfl (lv_at hl 3 rfl) ?_
          refine lv_aload_n hx hb dX11_crowd_34 rfl (lv_at hl 0 rfl) ?_
          refine wgetI C hw flX11_252 (rfl : _ = some (0, 11)) dX11_crowd_35 ?_
          refine lv_icmp_ge (tgt := 61) hx hb dX11_crowd_38 (by decide) (fun c11 => ?_) (fun c11 => ?_)
          · replace h := (if_pos c11).symm.trans h
            refine lv_iinc (v := (v2_33 + 1)) (lv' := [(2, .int (v2_33 + 1)), (0, .ref (P.2.2.1 0)), (1, .int v1_33), (3, .int v3_33)]) (k := 2) hx hb dX11_crowd_61 hl rfl (congrArg (fun z => v2_33 + z) (by decide)) (by decide) rfl (fun ls hl => ?_)
            refine lv_goto (tgt := 23) hx hb dX11_crowd_64 (by decide) ?_
            exact ih_23 v1_33 (v2_33 + 1) M_33 ls _ _ (lv_sub hl [1, 2, 0] rfl) hw h
          · replace h := (if_neg c11).symm.trans h
            refine lv_iload_n hx hb dX11_crowd_41 rfl (lv_at hl 1 rfl) ?_
            refine lv_aload_n hx hb dX11_crowd_42 rfl (lv_at hl 0 rfl) ?_
            refine lv_iload_n hx hb dX11_crowd_43 rfl (lv_at hl 3 rfl) ?_
            refine lv_iload_n hx hb dX11_crowd_44 rfl (lv_at hl 2 rfl) ?_
            obtain ⟨r12, e13, h⟩ := bnd_some h
            refine wcallV1 (As := [.int v3_33, .int v2_33]) (rest := [.int v1_33]) C hw (c_X11_insideOf hW  e13) vlX11_308 ⟨Nat.le_of_ble_eq_true rfl, Nat.le_of_ble_eq_true rfl⟩ (rfl : _ = some (0, 11)) rfl rfl rfl hl.1 (Nat.le_of_ble_eq_true rfl) dX11_crowd_45 ⟨Nat.zero_le _, Nat.zero_le _⟩ (fun H locs hw => ?_)
            obtain ⟨r14, e15, h⟩ := bnd_some h
            refine wcallS1 (As := [.int r12]) (rest := [.int v1_33]) C hw (c_X11_sizeOf hW  e15) slX11_335 ⟨Nat.le_of_ble_eq_true rfl, Nat.le_of_ble_eq_true rfl⟩ rfl rfl hl.1 (Nat.le_of_ble_eq_true rfl) dX11_crowd_48 ⟨Nat.zero_le _, Nat.zero_le _⟩ (fun H locs hw => ?_)
            refine wcallS1 (As := [.int v1_33, .int r14]) (rest := []) C hw (c_X11_moreOf hW  rfl) slX11_262 ⟨Nat.le_of_ble_eq_true rfl, Nat.le_of_ble_eq_true rfl⟩ rfl rfl hl.1 (Nat.le_of_ble_eq_true rfl) dX11_crowd_51 ⟨Nat.zero_le _, Nat.zero_le _⟩ (fun H locs hw => ?_)
            refine lv_topi (fun x16 ex16 => ?_)
            replace h := letv_at ex16 h
            refine lv_istore_n (lv' := [(1, .int x16), (0, .ref (P.2.2.1 0)), (2, .int v2_33), (3, .int v3_33)]) hx hb dX11_crowd_54 rfl hl (by decide) rfl (fun ls hl => ?_)
            refine lv_iinc (v := (v3_33 + 1)) (lv' := [(3, .int (v3_33 + 1)), (1, .int x16), (0, .ref (P.2.2.1 0)), (2, .int v2_33)]) (k := 3) hx hb dX11_crowd_55 hl rfl (congrArg (fun z => v3_33 + z) (by decide)) (by decide) rfl (fun ls hl => ?_)
            refine lv_goto (tgt := 33) hx hb dX11_crowd_58 (by decide) ?_
            exact ih_33 x16 (v3_33 + 1) M_33 ls _ _ (lv_sub hl [2, 1, 3, 0] rfl) hw h
      refine lv_iload_n hx hb dX11_crowd_23 rfl (lv_at hl 2 rfl) ?_
      refine lv_aload_n hx hb dX11_crowd_24 rfl (lv_at hl 0 rfl) ?_
      obtain ⟨r8, e9, h⟩ := bnd_some h
      refine wcallV1 (As := []) (rest := [.int v2_23]) C hw (c_X11_steps hW  e9) vlX11_234 ⟨Nat.le_of_ble_eq_true rfl, Nat.le_of_ble_eq_true rfl⟩ (rfl : _ = some (0, 11)) rfl rfl rfl hl.1 (Nat.le_of_ble_eq_true rfl) dX11_crowd_25 ⟨Nat.zero_le _, Nat.zero_le _⟩ (fun H locs hw => ?_)
      refine lv_icmp_gt (tgt := 67) hx hb dX11_crowd_28 (by decide) (fun c10 => ?_) (fun c10 => ?_)
      · replace h := (if_pos c10).symm.trans h
        refine lv_iload_n hx hb dX11_crowd_67 rfl (lv_at hl 1 rfl) ?_
        exact wretI_W C hw h dX11_crowd_68
      · replace h := (if_neg c10).symm.trans h
        refine lv_iconst (v := 0) hx hb dX11_crowd_31 (by decide) ?_
        refine lv_istore_n (lv' := [(3, .int 0), (0, .ref (P.2.2.1 0)), (1, .int v1_23), (2, .int v2_23)]) hx hb dX11_crowd_32 rfl hl (by decide) rfl (fun ls hl => ?_)
        exact cut_33 v2_23 FU v1_23 0 M_23 ls _ _ (lv_sub hl [1, 2, 3, 0] rfl) hw h
  refine lv_aload_n hx hb dX11_crowd_0 rfl (lv_at hl 0 rfl) ?_
  refine lv_iconst (v := 0) hx hb dX11_crowd_1 (by decide) ?_
  refine wputI C hw fpX11_77 (rfl : _ = some (0, 11)) dX11_crowd_2 (fun M1 eM1 H locs hw => ?_)
  replace h := letv_at eM1 h
  refine lv_aload_n hx hb dX11_crowd_5 rfl (lv_at hl 0 rfl) ?_
  obtain ⟨r2, e3, h⟩ := bnd_some h
  refine wcallV1 (As := []) (rest := []) C hw (c_X11_isLehr hW  e3) vlX11_231 ⟨Nat.le_of_ble_eq_true rfl, Nat.le_of_ble_eq_true rfl⟩ (rfl : _ = some (0, 11)) rfl rfl rfl hl.1 (Nat.le_of_ble_eq_true rfl) dX11_crowd_6 ⟨Nat.zero_le _, Nat.zero_le _⟩ (fun H locs hw => ?_)
  refine lv_if_ne (tgt := 15) hx hb dX11_crowd_9 (by decide) (fun c4 => ?_) (fun c4 => ?_)
  · replace h := (if_neg c4).symm.trans h
    refine lv_aload_n hx hb dX11_crowd_15 rfl (lv_at hl 0 rfl) ?_
    obtain ⟨M7, e6, h⟩ := bnd_some h
    refine wcallV0 (As := []) (rest := []) C hw (c_X11_lays hW  e6) vlX11_296 ⟨Nat.le_of_ble_eq_true rfl, Nat.le_of_ble_eq_true rfl⟩ (rfl : _ = some (0, 11)) rfl rfl rfl hl.1 (Nat.le_of_ble_eq_true rfl) dX11_crowd_16 ⟨Nat.zero_le _, Nat.zero_le _⟩ (fun H locs hw => ?_)
    refine lv_iconst (v := 0) hx hb dX11_crowd_19 (by decide) ?_
    refine lv_istore_n (lv' := [(1, .int 0), (0, .ref (P.2.2.1 0))]) hx hb dX11_crowd_20 rfl hl (by decide) rfl (fun ls hl => ?_)
    refine lv_iconst (v := 0) hx hb dX11_crowd_21 (by decide) ?_
    refine lv_istore_n (lv' := [(2, .int 0), (1, .int 0), (0, .ref (P.2.2.1 0))]) hx hb dX11_crowd_22 rfl hl (by decide) rfl (fun ls hl => ?_)
    exact cut_23 FU 0 0 M7 ls _ _ (lv_sub hl [2, 1, 0] rfl) hw h
  · replace h := (if_pos c4).symm.trans h
    refine lv_bipush (v := (-2)) hx hb dX11_crowd_12 (by decide) ?_
    exact wretI_W C hw h dX11_crowd_14
set_option maxRecDepth 100000 in
set_option maxHeartbeats 4000000 in
theorem c_X11_oven {l : Launch} {P : Wp} {E : State → Heap → Prop} (hW : Wok shR P E) {p1 : Int32} {M : Mem} {r : Int32} {M' : Mem} (h : f_X11_oven p1 M = some (r, M')) : CT l shR P E yX11_oven bX11_oven 4 ((some .int)) 2 47 [.ref (P.2.2.1 0), .int p1] (some (.int r)) M M' := by
  refine ct_of hW (by decide) (Nat.le_of_ble_eq_true rfl) (fun p e s m args below meth c C ls hl hw => ?_)
  have hx := C.1
  have hb := C.2.1
  replace hl : lv_has ls 4 [(0, .ref (P.2.2.1 0)), (1, .int p1)] := hl
  have cut_25 : ∀ (n_25 : Nat) (v2_25 : Int32) (v3_25 : Int32) (M_25 : Mem) (ls : Array Slot) (H : Heap) (locs : List Loc), lv_has ls 4 [(0, .ref (P.2.2.1 0)), (1, .int p1), (2, .int v2_25), (3, .int v3_25)] → Hw shR P M_25 s H locs → lq3 (L_X11_oven_25 p1) n_25 v2_25 v3_25 M_25 = some (r, M') → W p l e { frames := 2, cells := 0, slots := 0, locals := 47 } s m args below meth c H locs 0 0 (MQ below (CQ shR P E (some (.int r)) M') args s 0 0 (wA shR P)) (F0 m 25 ls []) := by
    intro n_25
    induction n_25 with
    | zero => intro v2_25 v3_25 M_25 ls H locs hl hw h; cases h
    | succ n_25 ih_25 =>
      intro v2_25 v3_25 M_25 ls H locs hl hw h
      replace h := lq3_succ h
      refine lv_iload_n hx hb dX11_oven_25 rfl (lv_at hl 3 rfl) ?_
      refine lv_aload_n hx hb dX11_oven_26 rfl (lv_at hl 0 rfl) ?_
      refine wgetI C hw flX11_252 (rfl : _ = some (0, 11)) dX11_oven_27 ?_
      refine lv_icmp_ge (tgt := 61) hx hb dX11_oven_30 (by decide) (fun c8 => ?_) (fun c8 => ?_)
      · replace h := (if_pos c8).symm.trans h
        refine lv_iload_n hx hb dX11_oven_61 rfl (lv_at hl 2 rfl) ?_
        exact wretI_W C hw h dX11_oven_62
      · replace h := (if_neg c8).symm.trans h
        refine lv_iload_n hx hb dX11_oven_33 rfl (lv_at hl 2 rfl) ?_
        refine lv_iconst (v := (-1)) hx hb dX11_oven_34 (by decide) ?_
        refine lv_icmp_eq (tgt := 53) hx hb dX11_oven_35 (by decide) (fun c9 => ?_) (fun c9 => ?_)
        · replace h := (if_pos c9).symm.trans h
          refine lv_iload_n hx hb dX11_oven_53 rfl (lv_at hl 3 rfl) ?_
          refine lv_istore_n (lv' := [(2, .int v3_25), (0, .ref (P.2.2.1 0)), (1, .int p1), (3, .int v3_25)]) hx hb dX11_oven_54 rfl hl (by decide) rfl (fun ls hl => ?_)
          refine lv_iinc (v := (v3_25 + 1)) (lv' := [(3, .int (v3_25 + 1)), (2, .int v3_25), (0, .ref (P.2.2.1 0)), (1, .int p1)]) (k := 3) hx hb dX11_oven_55 hl rfl (congrArg (fun z => v3_25 + z) (by decide)) (by decide) rfl (fun ls hl => ?_)
          refine lv_goto (tgt := 25) hx hb dX11_oven_58 (by decide) ?_
          exact ih_25 v3_25 (v3_25 + 1) M_25 ls _ _ (lv_sub hl [2, 3, 1, 0] rfl) hw h
        · replace h := (if_neg c9).symm.trans h
          refine lv_aload_n hx hb dX11_oven_38 rfl (lv_at hl 0 rfl) ?_
          refine lv_iload_n hx hb dX11_oven_39 rfl (lv_at hl 3 rfl) ?_
          refine lv_iload_n hx hb dX11_oven_40 rfl (lv_at hl 1 rfl) ?_
          obtain ⟨r10, e11, h⟩ := bnd_some h
          refine wcallV1 (As := [.int v3_25, .int p1]) (rest := []) C hw (c_X11_airOf hW  e11) vlX11_277 ⟨Nat.le_of_ble_eq_true rfl, Nat.le_of_ble_eq_true rfl⟩ (rfl : _ = some (0, 11)) rfl rfl rfl hl.1 (Nat.le_of_ble_eq_true rfl) dX11_oven_41 ⟨Nat.zero_le _, Nat.zero_le _⟩ (fun H locs hw => ?_)
          refine lv_aload_n hx hb dX11_oven_44 rfl (lv_at hl 0 rfl) ?_
          refine lv_iload_n hx hb dX11_oven_45 rfl (lv_at hl 2 rfl) ?_
          refine lv_iload_n hx hb dX11_oven_46 rfl (lv_at hl 1 rfl) ?_
          obtain ⟨r12, e13, h⟩ := bnd_some h
          refine wcallV1 (As := [.int v2_25, .int p1]) (rest := [.int r10]) C hw (c_X11_airOf hW  e13) vlX11_277 ⟨Nat.le_of_ble_eq_true rfl, Nat.le_of_ble_eq_true rfl⟩ (rfl : _ = some (0, 11)) rfl rfl rfl hl.1 (Nat.le_of_ble_eq_true rfl) dX11_oven_47 ⟨Nat.zero_le _, Nat.zero_le _⟩ (fun H locs hw => ?_)
          refine lv_icmp_le (tgt := 55) hx hb dX11_oven_50 (by decide) (fun c14 => ?_) (fun c14 => ?_)
          · replace h := (if_pos c14).symm.trans h
            refine lv_iinc (v := (v3_25 + 1)) (lv' := [(3, .int (v3_25 + 1)), (0, .ref (P.2.2.1 0)), (1, .int p1), (2, .int v2_25)]) (k := 3) hx hb dX11_oven_55 hl rfl (congrArg (fun z => v3_25 + z) (by decide)) (by decide) rfl (fun ls hl => ?_)
            refine lv_goto (tgt := 25) hx hb dX11_oven_58 (by decide) ?_
            exact ih_25 v2_25 (v3_25 + 1) M_25 ls _ _ (lv_sub hl [1, 2, 3, 0] rfl) hw h
          · replace h := (if_neg c14).symm.trans h
            refine lv_iload_n hx hb dX11_oven_53 rfl (lv_at hl 3 rfl) ?_
            refine lv_istore_n (lv' := [(2, .int v3_25), (0, .ref (P.2.2.1 0)), (1, .int p1), (3, .int v3_25)]) hx hb dX11_oven_54 rfl hl (by decide) rfl (fun ls hl => ?_)
            refine lv_iinc (v := (v3_25 + 1)) (lv' := [(3, .int (v3_25 + 1)), (2, .int v3_25), (0, .ref (P.2.2.1 0)), (1, .int p1)]) (k := 3) hx hb dX11_oven_55 hl rfl (congrArg (fun z => v3_25 + z) (by decide)) (by decide) rfl (fun ls hl => ?_)
            refine lv_goto (tgt := 25) hx hb dX11_oven_58 (by decide) ?_
            exact ih_25 v3_25 (v3_25 + 1) M_25 ls _ _ (lv_sub hl [2, 3, 1, 0] rfl) hw h
  refine lv_aload_n hx hb dX11_oven_0 rfl (lv_at hl 0 rfl) ?_
  refine lv_iconst (v := 0) hx hb dX11_oven_1 (by decide) ?_
  refine wputI C hw fpX11_77 (rfl : _ = some (0, 11)) dX11_oven_2 (fun M1 eM1 H locs hw => ?_)
  replace h := letv_at eM1 h
  refine lv_aload_n hx hb dX11_oven_5 rfl (lv_at hl 0 rfl) ?_
  refine lv_iload_n hx hb dX11_oven_6 rfl (lv_at hl 1 rfl) ?_
  refine lv_i2l hx hb dX11_oven_7 rfl ?_
  obtain ⟨r2, e3, h⟩ := bnd_some h
  refine wcallV1 (As := [.long ((p1 : Int32).toInt64)]) (rest := []) C hw (c_X11_isStep hW  e3) vlX11_240 ⟨Nat.le_of_ble_eq_true rfl, Nat.le_of_ble_eq_true rfl⟩ (rfl : _ = some (0, 11)) rfl rfl rfl hl.1 (Nat.le_of_ble_eq_true rfl) dX11_oven_8 ⟨Nat.zero_le _, Nat.zero_le _⟩ (fun H locs hw => ?_)
  refine lv_if_ne (tgt := 17) hx hb dX11_oven_11 (by decide) (fun c4 => ?_) (fun c4 => ?_)
  · replace h := (if_neg c4).symm.trans h
    refine lv_aload_n hx hb dX11_oven_17 rfl (lv_at hl 0 rfl) ?_
    obtain ⟨M7, e6, h⟩ := bnd_some h
    refine wcallV0 (As := []) (rest := []) C hw (c_X11_lays hW  e6) vlX11_296 ⟨Nat.le_of_ble_eq_true rfl, Nat.le_of_ble_eq_true rfl⟩ (rfl : _ = some (0, 11)) rfl rfl rfl hl.1 (Nat.le_of_ble_eq_true rfl) dX11_oven_18 ⟨Nat.zero_le _, Nat.zero_le _⟩ (fun H locs hw => ?_)
    refine lv_iconst (v := (-1)) hx hb dX11_oven_21 (by decide) ?_
    refine lv_istore_n (lv' := [(2, .int (-1)), (0, .ref (P.2.2.1 0)), (1, .int p1)]) hx hb dX11_oven_22 rfl hl (by decide) rfl (fun ls hl => ?_)
    refine lv_iconst (v := 0) hx hb dX11_oven_23 (by decide) ?_
    refine lv_istore_n (lv' := [(3, .int 0), (2, .int (-1)), (0, .ref (P.2.2.1 0)), (1, .int p1)]) hx hb dX11_oven_24 rfl hl (by decide) rfl (fun ls hl => ?_)
    exact cut_25 FU (-1) 0 M7 ls _ _ (lv_sub hl [2, 3, 1, 0] rfl) hw h
  · replace h := (if_pos c4).symm.trans h
    refine lv_bipush (v := (-2)) hx hb dX11_oven_14 (by decide) ?_
    exact wretI_W C hw h dX11_oven_16
set_option maxRecDepth 100000 in
set_option maxHeartbeats 4000000 in
theorem c_X11_fallOf {l : Launch} {P : Wp} {E : State → Heap → Prop} (hW : Wok shR P E) {p1 : Int32} {p2 : Int32} {M : Mem} {r : Int32} (h : f_X11_fallOf p1 p2 M = some r) : CT l shR P E yX11_fallOf bX11_fallOf 3 ((some .int)) 2 47 [.ref (P.2.2.1 0), .int p1, .int p2] (some (.int r)) M M := by
  refine ct_of hW (by decide) (Nat.le_of_ble_eq_true rfl) (fun p e s m args below meth c C ls hl hw => ?_)
  have hx := C.1
  have hb := C.2.1
  replace hl : lv_has ls 3 [(0, .ref (P.2.2.1 0)), (1, .int p1), (2, .int p2)] := hl
  refine lv_aload_n hx hb dX11_fallOf_0 rfl (lv_at hl 0 rfl) ?_
  refine lv_iload_n hx hb dX11_fallOf_1 rfl (lv_at hl 1 rfl) ?_
  refine lv_iload_n hx hb dX11_fallOf_2 rfl (lv_at hl 2 rfl) ?_
  obtain ⟨r1, e2, h⟩ := bnd_some h
  refine wcallV1 (As := [.int p1, .int p2]) (rest := []) C hw (c_X11_airOf hW  e2) vlX11_277 ⟨Nat.le_of_ble_eq_true rfl, Nat.le_of_ble_eq_true rfl⟩ (rfl : _ = some (0, 11)) rfl rfl rfl hl.1 (Nat.le_of_ble_eq_true rfl) dX11_fallOf_3 ⟨Nat.zero_le _, Nat.zero_le _⟩ (fun H locs hw => ?_)
  refine lv_aload_n hx hb dX11_fallOf_6 rfl (lv_at hl 0 rfl) ?_
  refine lv_iload_n hx hb dX11_fallOf_7 rfl (lv_at hl 1 rfl) ?_
  refine lv_iconst (v := 1) hx hb dX11_fallOf_8 (by decide) ?_
  refine lv_iadd hx hb dX11_fallOf_9 ?_
  refine lv_iload_n hx hb dX11_fallOf_10 rfl (lv_at hl 2 rfl) ?_
  obtain ⟨r3, e4, h⟩ := bnd_some h
  refine wcallV1 (As := [.int (p1 + (1 : Int32)), .int p2]) (rest := [.int r1]) C hw (c_X11_airOf hW  e4) vlX11_277 ⟨Nat.le_of_ble_eq_true rfl, Nat.le_of_ble_eq_true rfl⟩ (rfl : _ = some (0, 11)) rfl rfl rfl hl.1 (Nat.le_of_ble_eq_true rfl) dX11_fallOf_11 ⟨Nat.zero_le _, Nat.zero_le _⟩ (fun H locs hw => ?_)
  refine lv_isub hx hb dX11_fallOf_14 ?_
  exact wretI_R C hw h dX11_fallOf_15
set_option maxRecDepth 100000 in
set_option maxHeartbeats 4000000 in
theorem c_X11_fall {l : Launch} {P : Wp} {E : State → Heap → Prop} (hW : Wok shR P E) {p1 : Int32} {p2 : Int32} {M : Mem} {r : Int32} {M' : Mem} (h : f_X11_fall p1 p2 M = some (r, M')) : CT l shR P E yX11_fall bX11_fall 3 ((some .int)) 3 69 [.ref (P.2.2.1 0), .int p1, .int p2] (some (.int r)) M M' := by
  refine ct_of hW (by decide) (Nat.le_of_ble_eq_true rfl) (fun p e s m args below meth c C ls hl hw => ?_)
  have hx := C.1
  have hb := C.2.1
  replace hl : lv_has ls 3 [(0, .ref (P.2.2.1 0)), (1, .int p1), (2, .int p2)] := hl
  refine lv_aload_n hx hb dX11_fall_0 rfl (lv_at hl 0 rfl) ?_
  refine lv_iconst (v := 0) hx hb dX11_fall_1 (by decide) ?_
  refine wputI C hw fpX11_77 (rfl : _ = some (0, 11)) dX11_fall_2 (fun M1 eM1 H locs hw => ?_)
  replace h := letv_at eM1 h
  refine lv_aload_n hx hb dX11_fall_5 rfl (lv_at hl 0 rfl) ?_
  refine lv_iload_n hx hb dX11_fall_6 rfl (lv_at hl 1 rfl) ?_
  obtain ⟨r2, e3, h⟩ := bnd_some h
  refine wcallV1 (As := [.int p1]) (rest := []) C hw (c_X11_isZone hW  e3) vlX11_302 ⟨Nat.le_of_ble_eq_true rfl, Nat.le_of_ble_eq_true rfl⟩ (rfl : _ = some (0, 11)) rfl rfl rfl hl.1 (Nat.le_of_ble_eq_true rfl) dX11_fall_7 ⟨Nat.zero_le _, Nat.zero_le _⟩ (fun H locs hw => ?_)
  refine lv_if_eq (tgt := 34) hx hb dX11_fall_10 (by decide) (fun c4 => ?_) (fun c4 => ?_)
  · replace h := (if_pos c4).symm.trans h
    refine lv_sipush (v := (-10000)) hx hb dX11_fall_34 (by decide) ?_
    exact wretI_W C hw h dX11_fall_37
  · replace h := (if_neg c4).symm.trans h
    refine lv_iload_n hx hb dX11_fall_13 rfl (lv_at hl 1 rfl) ?_
    refine lv_aload_n hx hb dX11_fall_14 rfl (lv_at hl 0 rfl) ?_
    refine wgetR (t := 7) C hw flX11_34 (rfl : _ = some (0, 11)) rfl dX11_fall_15 ?_
    refine lv_iconst (v := 5) hx hb dX11_fall_18 (by decide) ?_
    obtain ⟨g5, h⟩ := grd h
    refine wald C hw (rfl : _ = some (1, 40)) g5 dX11_fall_19 ?_
    refine lv_iconst (v := 1) hx hb dX11_fall_20 (by decide) ?_
    refine lv_isub hx hb dX11_fall_21 ?_
    refine lv_icmp_eq (tgt := 34) hx hb dX11_fall_22 (by decide) (fun c6 => ?_) (fun c6 => ?_)
    · replace h := (if_pos c6).symm.trans h
      refine lv_sipush (v := (-10000)) hx hb dX11_fall_34 (by decide) ?_
      exact wretI_W C hw h dX11_fall_37
    · replace h := (if_neg c6).symm.trans h
      refine lv_aload_n hx hb dX11_fall_25 rfl (lv_at hl 0 rfl) ?_
      refine lv_iload_n hx hb dX11_fall_26 rfl (lv_at hl 2 rfl) ?_
      refine lv_i2l hx hb dX11_fall_27 rfl ?_
      obtain ⟨r7, e8, h⟩ := bnd_some h
      refine wcallV1 (As := [.long ((p2 : Int32).toInt64)]) (rest := []) C hw (c_X11_isStep hW  e8) vlX11_240 ⟨Nat.le_of_ble_eq_true rfl, Nat.le_of_ble_eq_true rfl⟩ (rfl : _ = some (0, 11)) rfl rfl rfl hl.1 (Nat.le_of_ble_eq_true rfl) dX11_fall_28 ⟨Nat.zero_le _, Nat.zero_le _⟩ (fun H locs hw => ?_)
      refine lv_if_ne (tgt := 38) hx hb dX11_fall_31 (by decide) (fun c9 => ?_) (fun c9 => ?_)
      · replace h := (if_neg c9).symm.trans h
        refine lv_aload_n hx hb dX11_fall_38 rfl (lv_at hl 0 rfl) ?_
        obtain ⟨M12, e11, h⟩ := bnd_some h
        refine wcallV0 (As := []) (rest := []) C hw (c_X11_lays hW  e11) vlX11_296 ⟨Nat.le_of_ble_eq_true rfl, Nat.le_of_ble_eq_true rfl⟩ (rfl : _ = some (0, 11)) rfl rfl rfl hl.1 (Nat.le_of_ble_eq_true rfl) dX11_fall_39 ⟨Nat.zero_le _, Nat.zero_le _⟩ (fun H locs hw => ?_)
        refine lv_aload_n hx hb dX11_fall_42 rfl (lv_at hl 0 rfl) ?_
        refine lv_iload_n hx hb dX11_fall_43 rfl (lv_at hl 1 rfl) ?_
        refine lv_iload_n hx hb dX11_fall_44 rfl (lv_at hl 2 rfl) ?_
        obtain ⟨r13, e14, h⟩ := bnd_some h
        refine wcallV1 (As := [.int p1, .int p2]) (rest := []) C hw (c_X11_fallOf hW  e14) vlX11_340 ⟨Nat.le_of_ble_eq_true rfl, Nat.le_of_ble_eq_true rfl⟩ (rfl : _ = some (0, 11)) rfl rfl rfl hl.1 (Nat.le_of_ble_eq_true rfl) dX11_fall_45 ⟨Nat.zero_le _, Nat.zero_le _⟩ (fun H locs hw => ?_)
        exact wretI_W C hw h dX11_fall_48
      · replace h := (if_pos c9).symm.trans h
        refine lv_sipush (v := (-10000)) hx hb dX11_fall_34 (by decide) ?_
        exact wretI_W C hw h dX11_fall_37
set_option maxRecDepth 100000 in
set_option maxHeartbeats 4000000 in
theorem c_X11_cliff {l : Launch} {P : Wp} {E : State → Heap → Prop} (hW : Wok shR P E) {p1 : Int32} {M : Mem} {r : Int32} {M' : Mem} (h : f_X11_cliff p1 M = some (r, M')) : CT l shR P E yX11_cliff bX11_cliff 4 ((some .int)) 3 69 [.ref (P.2.2.1 0), .int p1] (some (.int r)) M M' := by
  refine ct_of hW (by decide) (Nat.le_of_ble_eq_true rfl) (fun p e s m args below meth c C ls hl hw => ?_)
  have hx := C.1
  have hb := C.2.1
  replace hl : lv_has ls 4 [(0, .ref (P.2.2.1 0)), (1, .int p1)] := hl
  have cut_25 : ∀ (n_25 : Nat) (v2_25 : Int32) (v3_25 : Int32) (M_25 : Mem) (ls : Array Slot) (H : Heap) (locs : List Loc), lv_has ls 4 [(0, .ref (P.2.2.1 0)), (1, .int p1), (2, .int v2_25), (3, .int v3_25)] → Hw shR P M_25 s H locs → lq3 (L_X11_cliff_25 p1) n_25 v2_25 v3_25 M_25 = some (r, M') → W p l e { frames := 3, cells := 0, slots := 0, locals := 69 } s m args below meth c H locs 0 0 (MQ below (CQ shR P E (some (.int r)) M') args s 0 0 (wA shR P)) (F0 m 25 ls []) := by
    intro n_25
    induction n_25 with
    | zero => intro v2_25 v3_25 M_25 ls H locs hl hw h; cases h
    | succ n_25 ih_25 =>
      intro v2_25 v3_25 M_25 ls H locs hl hw h
      replace h := lq3_succ h
      refine lv_iload_n hx hb dX11_cliff_25 rfl (lv_at hl 3 rfl) ?_
      refine lv_iconst (v := 1) hx hb dX11_cliff_26 (by decide) ?_
      refine lv_iadd hx hb dX11_cliff_27 ?_
      refine lv_aload_n hx hb dX11_cliff_28 rfl (lv_at hl 0 rfl) ?_
      refine wgetI C hw flX11_252 (rfl : _ = some (0, 11)) dX11_cliff_29 ?_
      refine lv_icmp_ge (tgt := 63) hx hb dX11_cliff_32 (by decide) (fun c8 => ?_) (fun c8 => ?_)
      · replace h := (if_pos c8).symm.trans h
        refine lv_iload_n hx hb dX11_cliff_63 rfl (lv_at hl 2 rfl) ?_
        exact wretI_W C hw h dX11_cliff_64
      · replace h := (if_neg c8).symm.trans h
        refine lv_iload_n hx hb dX11_cliff_35 rfl (lv_at hl 2 rfl) ?_
        refine lv_iconst (v := (-1)) hx hb dX11_cliff_36 (by decide) ?_
        refine lv_icmp_eq (tgt := 55) hx hb dX11_cliff_37 (by decide) (fun c9 => ?_) (fun c9 => ?_)
        · replace h := (if_pos c9).symm.trans h
          refine lv_iload_n hx hb dX11_cliff_55 rfl (lv_at hl 3 rfl) ?_
          refine lv_istore_n (lv' := [(2, .int v3_25), (0, .ref (P.2.2.1 0)), (1, .int p1), (3, .int v3_25)]) hx hb dX11_cliff_56 rfl hl (by decide) rfl (fun ls hl => ?_)
          refine lv_iinc (v := (v3_25 + 1)) (lv' := [(3, .int (v3_25 + 1)), (2, .int v3_25), (0, .ref (P.2.2.1 0)), (1, .int p1)]) (k := 3) hx hb dX11_cliff_57 hl rfl (congrArg (fun z => v3_25 + z) (by decide)) (by decide) rfl (fun ls hl => ?_)
          refine lv_goto (tgt := 25) hx hb dX11_cliff_60 (by decide) ?_
          exact ih_25 v3_25 (v3_25 + 1) M_25 ls _ _ (lv_sub hl [2, 3, 1, 0] rfl) hw h
        · replace h := (if_neg c9).symm.trans h
          refine lv_aload_n hx hb dX11_cliff_40 rfl (lv_at hl 0 rfl) ?_
          refine lv_iload_n hx hb dX11_cliff_41 rfl (lv_at hl 3 rfl) ?_
          refine lv_iload_n hx hb dX11_cliff_42 rfl (lv_at hl 1 rfl) ?_
          obtain ⟨r10, e11, h⟩ := bnd_some h
          refine wcallV1 (As := [.int v3_25, .int p1]) (rest := []) C hw (c_X11_fallOf hW  e11) vlX11_340 ⟨Nat.le_of_ble_eq_true rfl, Nat.le_of_ble_eq_true rfl⟩ (rfl : _ = some (0, 11)) rfl rfl rfl hl.1 (Nat.le_of_ble_eq_true rfl) dX11_cliff_43 ⟨Nat.zero_le _, Nat.zero_le _⟩ (fun H locs hw => ?_)
          refine lv_aload_n hx hb dX11_cliff_46 rfl (lv_at hl 0 rfl) ?_
          refine lv_iload_n hx hb dX11_cliff_47 rfl (lv_at hl 2 rfl) ?_
          refine lv_iload_n hx hb dX11_cliff_48 rfl (lv_at hl 1 rfl) ?_
          obtain ⟨r12, e13, h⟩ := bnd_some h
          refine wcallV1 (As := [.int v2_25, .int p1]) (rest := [.int r10]) C hw (c_X11_fallOf hW  e13) vlX11_340 ⟨Nat.le_of_ble_eq_true rfl, Nat.le_of_ble_eq_true rfl⟩ (rfl : _ = some (0, 11)) rfl rfl rfl hl.1 (Nat.le_of_ble_eq_true rfl) dX11_cliff_49 ⟨Nat.zero_le _, Nat.zero_le _⟩ (fun H locs hw => ?_)
          refine lv_icmp_le (tgt := 57) hx hb dX11_cliff_52 (by decide) (fun c14 => ?_) (fun c14 => ?_)
          · replace h := (if_pos c14).symm.trans h
            refine lv_iinc (v := (v3_25 + 1)) (lv' := [(3, .int (v3_25 + 1)), (0, .ref (P.2.2.1 0)), (1, .int p1), (2, .int v2_25)]) (k := 3) hx hb dX11_cliff_57 hl rfl (congrArg (fun z => v3_25 + z) (by decide)) (by decide) rfl (fun ls hl => ?_)
            refine lv_goto (tgt := 25) hx hb dX11_cliff_60 (by decide) ?_
            exact ih_25 v2_25 (v3_25 + 1) M_25 ls _ _ (lv_sub hl [1, 2, 3, 0] rfl) hw h
          · replace h := (if_neg c14).symm.trans h
            refine lv_iload_n hx hb dX11_cliff_55 rfl (lv_at hl 3 rfl) ?_
            refine lv_istore_n (lv' := [(2, .int v3_25), (0, .ref (P.2.2.1 0)), (1, .int p1), (3, .int v3_25)]) hx hb dX11_cliff_56 rfl hl (by decide) rfl (fun ls hl => ?_)
            refine lv_iinc (v := (v3_25 + 1)) (lv' := [(3, .int (v3_25 + 1)), (2, .int v3_25), (0, .ref (P.2.2.1 0)), (1, .int p1)]) (k := 3) hx hb dX11_cliff_57 hl rfl (congrArg (fun z => v3_25 + z) (by decide)) (by decide) rfl (fun ls hl => ?_)
            refine lv_goto (tgt := 25) hx hb dX11_cliff_60 (by decide) ?_
            exact ih_25 v3_25 (v3_25 + 1) M_25 ls _ _ (lv_sub hl [2, 3, 1, 0] rfl) hw h
  refine lv_aload_n hx hb dX11_cliff_0 rfl (lv_at hl 0 rfl) ?_
  refine lv_iconst (v := 0) hx hb dX11_cliff_1 (by decide) ?_
  refine wputI C hw fpX11_77 (rfl : _ = some (0, 11)) dX11_cliff_2 (fun M1 eM1 H locs hw => ?_)
  replace h := letv_at eM1 h
  refine lv_aload_n hx hb dX11_cliff_5 rfl (lv_at hl 0 rfl) ?_
  refine lv_iload_n hx hb dX11_cliff_6 rfl (lv_at hl 1 rfl) ?_
  refine lv_i2l hx hb dX11_cliff_7 rfl ?_
  obtain ⟨r2, e3, h⟩ := bnd_some h
  refine wcallV1 (As := [.long ((p1 : Int32).toInt64)]) (rest := []) C hw (c_X11_isStep hW  e3) vlX11_240 ⟨Nat.le_of_ble_eq_true rfl, Nat.le_of_ble_eq_true rfl⟩ (rfl : _ = some (0, 11)) rfl rfl rfl hl.1 (Nat.le_of_ble_eq_true rfl) dX11_cliff_8 ⟨Nat.zero_le _, Nat.zero_le _⟩ (fun H locs hw => ?_)
  refine lv_if_ne (tgt := 17) hx hb dX11_cliff_11 (by decide) (fun c4 => ?_) (fun c4 => ?_)
  · replace h := (if_neg c4).symm.trans h
    refine lv_aload_n hx hb dX11_cliff_17 rfl (lv_at hl 0 rfl) ?_
    obtain ⟨M7, e6, h⟩ := bnd_some h
    refine wcallV0 (As := []) (rest := []) C hw (c_X11_lays hW  e6) vlX11_296 ⟨Nat.le_of_ble_eq_true rfl, Nat.le_of_ble_eq_true rfl⟩ (rfl : _ = some (0, 11)) rfl rfl rfl hl.1 (Nat.le_of_ble_eq_true rfl) dX11_cliff_18 ⟨Nat.zero_le _, Nat.zero_le _⟩ (fun H locs hw => ?_)
    refine lv_iconst (v := (-1)) hx hb dX11_cliff_21 (by decide) ?_
    refine lv_istore_n (lv' := [(2, .int (-1)), (0, .ref (P.2.2.1 0)), (1, .int p1)]) hx hb dX11_cliff_22 rfl hl (by decide) rfl (fun ls hl => ?_)
    refine lv_iconst (v := 0) hx hb dX11_cliff_23 (by decide) ?_
    refine lv_istore_n (lv' := [(3, .int 0), (2, .int (-1)), (0, .ref (P.2.2.1 0)), (1, .int p1)]) hx hb dX11_cliff_24 rfl hl (by decide) rfl (fun ls hl => ?_)
    exact cut_25 FU (-1) 0 M7 ls _ _ (lv_sub hl [2, 3, 1, 0] rfl) hw h
  · replace h := (if_pos c4).symm.trans h
    refine lv_bipush (v := (-2)) hx hb dX11_cliff_14 (by decide) ?_
    exact wretI_W C hw h dX11_cliff_16
set_option maxRecDepth 100000 in
set_option maxHeartbeats 4000000 in
theorem c_X11_least {l : Launch} {P : Wp} {E : State → Heap → Prop} (hW : Wok shR P E) {p1 : Int32} {M : Mem} {r : Int32} {M' : Mem} (h : f_X11_least p1 M = some (r, M')) : CT l shR P E yX11_least bX11_least 4 ((some .int)) 6 141 [.ref (P.2.2.1 0), .int p1] (some (.int r)) M M' := by
  refine ct_of hW (by decide) (Nat.le_of_ble_eq_true rfl) (fun p e s m args below meth c C ls hl hw => ?_)
  have hx := C.1
  have hb := C.2.1
  replace hl : lv_has ls 4 [(0, .ref (P.2.2.1 0)), (1, .int p1)] := hl
  have cut_29 : ∀ (n_29 : Nat) (v2_29 : Int32) (v3_29 : Int32) (M_29 : Mem) (ls : Array Slot) (H : Heap) (locs : List Loc), lv_has ls 4 [(0, .ref (P.2.2.1 0)), (1, .int p1), (2, .int v2_29), (3, .int v3_29)] → Hw shR P M_29 s H locs → lq3 (L_X11_least_29 p1) n_29 v2_29 v3_29 M_29 = some (r, M') → W p l e { frames := 6, cells := 0, slots := 0, locals := 141 } s m args below meth c H locs 0 0 (MQ below (CQ shR P E (some (.int r)) M') args s 0 0 (wA shR P)) (F0 m 29 ls []) := by
    intro n_29
    induction n_29 with
    | zero => intro v2_29 v3_29 M_29 ls H locs hl hw h; cases h
    | succ n_29 ih_29 =>
      intro v2_29 v3_29 M_29 ls H locs hl hw h
      replace h := lq3_succ h
      refine lv_iload_n hx hb dX11_least_29 rfl (lv_at hl 3 rfl) ?_
      refine lv_aload_n hx hb dX11_least_30 rfl (lv_at hl 0 rfl) ?_
      obtain ⟨r10, e11, h⟩ := bnd_some h
      refine wcallV1 (As := []) (rest := [.int v3_29]) C hw (c_X11_steps hW  e11) vlX11_234 ⟨Nat.le_of_ble_eq_true rfl, Nat.le_of_ble_eq_true rfl⟩ (rfl : _ = some (0, 11)) rfl rfl rfl hl.1 (Nat.le_of_ble_eq_true rfl) dX11_least_31 ⟨Nat.zero_le _, Nat.zero_le _⟩ (fun H locs hw => ?_)
      refine lv_icmp_gt (tgt := 68) hx hb dX11_least_34 (by decide) (fun c12 => ?_) (fun c12 => ?_)
      · replace h := (if_pos c12).symm.trans h
        refine lv_iload_n hx hb dX11_least_68 rfl (lv_at hl 2 rfl) ?_
        exact wretI_W C hw h dX11_least_69
      · replace h := (if_neg c12).symm.trans h
        refine lv_iload_n hx hb dX11_least_37 rfl (lv_at hl 2 rfl) ?_
        refine lv_iconst (v := (-1)) hx hb dX11_least_38 (by decide) ?_
        refine lv_icmp_ne (tgt := 51) hx hb dX11_least_39 (by decide) (fun c13 => ?_) (fun c13 => ?_)
        · replace h := (if_neg c13).symm.trans h
          refine lv_iload_n hx hb dX11_least_51 rfl (lv_at hl 2 rfl) ?_
          refine lv_aload_n hx hb dX11_least_52 rfl (lv_at hl 0 rfl) ?_
          refine lv_iload_n hx hb dX11_least_53 rfl (lv_at hl 1 rfl) ?_
          refine lv_iload_n hx hb dX11_least_54 rfl (lv_at hl 3 rfl) ?_
          obtain ⟨r14, e15, h⟩ := bnd_some h
          refine wcallV1 (As := [.int p1, .int v3_29]) (rest := [.int v2_29]) C hw (c_X11_skinOf hW  e15) vlX11_268 ⟨Nat.le_of_ble_eq_true rfl, Nat.le_of_ble_eq_true rfl⟩ (rfl : _ = some (0, 11)) rfl rfl rfl hl.1 (Nat.le_of_ble_eq_true rfl) dX11_least_55 ⟨Nat.zero_le _, Nat.zero_le _⟩ (fun H locs hw => ?_)
          refine wcallS1 (As := [.int v2_29, .int r14]) (rest := []) C hw (c_X11_lessOf hW  rfl) slX11_283 ⟨Nat.le_of_ble_eq_true rfl, Nat.le_of_ble_eq_true rfl⟩ rfl rfl hl.1 (Nat.le_of_ble_eq_true rfl) dX11_least_58 ⟨Nat.zero_le _, Nat.zero_le _⟩ (fun H locs hw => ?_)
          refine lv_topi (fun x16 ex16 => ?_)
          replace h := letv_at ex16 h
          refine lv_istore_n (lv' := [(2, .int x16), (0, .ref (P.2.2.1 0)), (1, .int p1), (3, .int v3_29)]) hx hb dX11_least_61 rfl hl (by decide) rfl (fun ls hl => ?_)
          refine lv_iinc (v := (v3_29 + 1)) (lv' := [(3, .int (v3_29 + 1)), (2, .int x16), (0, .ref (P.2.2.1 0)), (1, .int p1)]) (k := 3) hx hb dX11_least_62 hl rfl (congrArg (fun z => v3_29 + z) (by decide)) (by decide) rfl (fun ls hl => ?_)
          refine lv_goto (tgt := 29) hx hb dX11_least_65 (by decide) ?_
          exact ih_29 x16 (v3_29 + 1) M_29 ls _ _ (lv_sub hl [2, 3, 1, 0] rfl) hw h
        · replace h := (if_pos c13).symm.trans h
          refine lv_aload_n hx hb dX11_least_42 rfl (lv_at hl 0 rfl) ?_
          refine lv_iload_n hx hb dX11_least_43 rfl (lv_at hl 1 rfl) ?_
          refine lv_iload_n hx hb dX11_least_44 rfl (lv_at hl 3 rfl) ?_
          obtain ⟨r17, e18, h⟩ := bnd_some h
          refine wcallV1 (As := [.int p1, .int v3_29]) (rest := []) C hw (c_X11_skinOf hW  e18) vlX11_268 ⟨Nat.le_of_ble_eq_true rfl, Nat.le_of_ble_eq_true rfl⟩ (rfl : _ = some (0, 11)) rfl rfl rfl hl.1 (Nat.le_of_ble_eq_true rfl) dX11_least_45 ⟨Nat.zero_le _, Nat.zero_le _⟩ (fun H locs hw => ?_)
          refine lv_goto (tgt := 61) hx hb dX11_least_48 (by decide) ?_
          refine lv_istore_n (lv' := [(2, .int r17), (0, .ref (P.2.2.1 0)), (1, .int p1), (3, .int v3_29)]) hx hb dX11_least_61 rfl hl (by decide) rfl (fun ls hl => ?_)
          refine lv_iinc (v := (v3_29 + 1)) (lv' := [(3, .int (v3_29 + 1)), (2, .int r17), (0, .ref (P.2.2.1 0)), (1, .int p1)]) (k := 3) hx hb dX11_least_62 hl rfl (congrArg (fun z => v3_29 + z) (by decide)) (by decide) rfl (fun ls hl => ?_)
          refine lv_goto (tgt := 29) hx hb dX11_least_65 (by decide) ?_
          exact ih_29 r17 (v3_29 + 1) M_29 ls _ _ (lv_sub hl [2, 3, 1, 0] rfl) hw h
  refine lv_aload_n hx hb dX11_least_0 rfl (lv_at hl 0 rfl) ?_
  refine lv_iconst (v := 0) hx hb dX11_least_1 (by decide) ?_
  refine wputI C hw fpX11_77 (rfl : _ = some (0, 11)) dX11_least_2 (fun M1 eM1 H locs hw => ?_)
  replace h := letv_at eM1 h
  refine lv_aload_n hx hb dX11_least_5 rfl (lv_at hl 0 rfl) ?_
  refine lv_iload_n hx hb dX11_least_6 rfl (lv_at hl 1 rfl) ?_
  refine lv_i2l hx hb dX11_least_7 rfl ?_
  obtain ⟨r2, e3, h⟩ := bnd_some h
  refine wcallV1 (As := [.long ((p1 : Int32).toInt64)]) (rest := []) C hw (c_X11_isPiece hW  e3) vlX11_237 ⟨Nat.le_of_ble_eq_true rfl, Nat.le_of_ble_eq_true rfl⟩ (rfl : _ = some (0, 11)) rfl rfl rfl hl.1 (Nat.le_of_ble_eq_true rfl) dX11_least_8 ⟨Nat.zero_le _, Nat.zero_le _⟩ (fun H locs hw => ?_)
  refine lv_if_ne (tgt := 17) hx hb dX11_least_11 (by decide) (fun c4 => ?_) (fun c4 => ?_)
  · replace h := (if_neg c4).symm.trans h
    refine lv_aload_n hx hb dX11_least_17 rfl (lv_at hl 0 rfl) ?_
    obtain ⟨M7, e6, h⟩ := bnd_some h
    refine wcallV0 (As := []) (rest := []) C hw (c_X11_laysNow hW  e6) vlX11_311 ⟨Nat.le_of_ble_eq_true rfl, Nat.le_of_ble_eq_true rfl⟩ (rfl : _ = some (0, 11)) rfl rfl rfl hl.1 (Nat.le_of_ble_eq_true rfl) dX11_least_18 ⟨Nat.zero_le _, Nat.zero_le _⟩ (fun H locs hw => ?_)
    refine lv_iconst (v := (-1)) hx hb dX11_least_21 (by decide) ?_
    refine lv_istore_n (lv' := [(2, .int (-1)), (0, .ref (P.2.2.1 0)), (1, .int p1)]) hx hb dX11_least_22 rfl hl (by decide) rfl (fun ls hl => ?_)
    refine lv_aload_n hx hb dX11_least_23 rfl (lv_at hl 1 rfl) ?_
    refine lv_iload_n hx hb dX11_least_24 rfl (lv_at hl 2 rfl) ?_
    obtain ⟨r8, e9, h⟩ := bnd_some h
    refine wcallV1 (As := [.int p1]) (rest := []) C hw (c_X11_comes hW  e9) vlX11_265 ⟨Nat.le_of_ble_eq_true rfl, Nat.le_of_ble_eq_true rfl⟩ (rfl : _ = some (0, 11)) rfl rfl rfl hl.1 (Nat.le_of_ble_eq_true rfl) dX11_least_25 ⟨Nat.zero_le _, Nat.zero_le _⟩ (fun H locs hw => ?_)
    refine lv_istore_n (lv' := [(3, .int r8), (2, .int (-1)), (0, .ref (P.2.2.1 0)), (1, .int p1)]) hx hb dX11_least_28 rfl hl (by decide) rfl (fun ls hl => ?_)
    exact cut_29 FU (-1) r8 M7 ls _ _ (lv_sub hl [2, 3, 1, 0] rfl) hw h
  · replace h := (if_pos c4).symm.trans h
    refine lv_bipush (v := (-2)) hx hb dX11_least_14 (by decide) ?_
    exact wretI_W C hw h dX11_least_16
set_option maxRecDepth 100000 in
set_option maxHeartbeats 4000000 in
theorem c_X11_dropOf {l : Launch} {P : Wp} {E : State → Heap → Prop} (hW : Wok shR P E) {p1 : Int32} {p2 : Int32} {M : Mem} {r : Int32} (h : f_X11_dropOf p1 p2 M = some r) : CT l shR P E yX11_dropOf bX11_dropOf 3 ((some .int)) 1 22 [.ref (P.2.2.1 0), .int p1, .int p2] (some (.int r)) M M := by
  refine ct_of hW (by decide) (Nat.le_of_ble_eq_true rfl) (fun p e s m args below meth c C ls hl hw => ?_)
  have hx := C.1
  have hb := C.2.1
  replace hl : lv_has ls 3 [(0, .ref (P.2.2.1 0)), (1, .int p1), (2, .int p2)] := hl
  refine lv_aload_n hx hb dX11_dropOf_0 rfl (lv_at hl 0 rfl) ?_
  refine lv_iload_n hx hb dX11_dropOf_1 rfl (lv_at hl 1 rfl) ?_
  refine lv_iload_n hx hb dX11_dropOf_2 rfl (lv_at hl 2 rfl) ?_
  obtain ⟨r1, e2, h⟩ := bnd_some h
  refine wcallV1 (As := [.int p1, .int p2]) (rest := []) C hw (c_X11_skinOf hW  e2) vlX11_268 ⟨Nat.le_of_ble_eq_true rfl, Nat.le_of_ble_eq_true rfl⟩ (rfl : _ = some (0, 11)) rfl rfl rfl hl.1 (Nat.le_of_ble_eq_true rfl) dX11_dropOf_3 ⟨Nat.zero_le _, Nat.zero_le _⟩ (fun H locs hw => ?_)
  refine lv_aload_n hx hb dX11_dropOf_6 rfl (lv_at hl 0 rfl) ?_
  refine lv_iload_n hx hb dX11_dropOf_7 rfl (lv_at hl 1 rfl) ?_
  refine lv_iload_n hx hb dX11_dropOf_8 rfl (lv_at hl 2 rfl) ?_
  refine lv_iconst (v := 1) hx hb dX11_dropOf_9 (by decide) ?_
  refine lv_iadd hx hb dX11_dropOf_10 ?_
  obtain ⟨r3, e4, h⟩ := bnd_some h
  refine wcallV1 (As := [.int p1, .int (p2 + (1 : Int32))]) (rest := [.int r1]) C hw (c_X11_skinOf hW  e4) vlX11_268 ⟨Nat.le_of_ble_eq_true rfl, Nat.le_of_ble_eq_true rfl⟩ (rfl : _ = some (0, 11)) rfl rfl rfl hl.1 (Nat.le_of_ble_eq_true rfl) dX11_dropOf_11 ⟨Nat.zero_le _, Nat.zero_le _⟩ (fun H locs hw => ?_)
  refine lv_isub hx hb dX11_dropOf_14 ?_
  exact wretI_R C hw h dX11_dropOf_15
set_option maxRecDepth 100000 in
set_option maxHeartbeats 4000000 in
theorem c_X11_chill {l : Launch} {P : Wp} {E : State → Heap → Prop} (hW : Wok shR P E) {p1 : Int32} {M : Mem} {r : Int32} {M' : Mem} (h : f_X11_chill p1 M = some (r, M')) : CT l shR P E yX11_chill bX11_chill 4 ((some .int)) 6 141 [.ref (P.2.2.1 0), .int p1] (some (.int r)) M M' := by
  refine ct_of hW (by decide) (Nat.le_of_ble_eq_true rfl) (fun p e s m args below meth c C ls hl hw => ?_)
  have hx := C.1
  have hb := C.2.1
  replace hl : lv_has ls 4 [(0, .ref (P.2.2.1 0)), (1, .int p1)] := hl
  have cut_25 : ∀ (n_25 : Nat) (v2_25 : Int32) (v3_25 : Int32) (M_25 : Mem) (ls : Array Slot) (H : Heap) (locs : List Loc), lv_has ls 4 [(0, .ref (P.2.2.1 0)), (1, .int p1), (2, .int v2_25), (3, .int v3_25)] → Hw shR P M_25 s H locs → lq3 (L_X11_chill_25 p1) n_25 v2_25 v3_25 M_25 = some (r, M') → W p l e { frames := 6, cells := 0, slots := 0, locals := 141 } s m args below meth c H locs 0 0 (MQ below (CQ shR P E (some (.int r)) M') args s 0 0 (wA shR P)) (F0 m 25 ls []) := by
    intro n_25
    induction n_25 with
    | zero => intro v2_25 v3_25 M_25 ls H locs hl hw h; cases h
    | succ n_25 ih_25 =>
      intro v2_25 v3_25 M_25 ls H locs hl hw h
      replace h := lq3_succ h
      refine lv_iload_n hx hb dX11_chill_25 rfl (lv_at hl 3 rfl) ?_
      refine lv_aload_n hx hb dX11_chill_26 rfl (lv_at hl 0 rfl) ?_
      obtain ⟨r8, e9, h⟩ := bnd_some h
      refine wcallV1 (As := []) (rest := [.int v3_25]) C hw (c_X11_steps hW  e9) vlX11_234 ⟨Nat.le_of_ble_eq_true rfl, Nat.le_of_ble_eq_true rfl⟩ (rfl : _ = some (0, 11)) rfl rfl rfl hl.1 (Nat.le_of_ble_eq_true rfl) dX11_chill_27 ⟨Nat.zero_le _, Nat.zero_le _⟩ (fun H locs hw => ?_)
      refine lv_icmp_ge (tgt := 65) hx hb dX11_chill_30 (by decide) (fun c10 => ?_) (fun c10 => ?_)
      · replace h := (if_pos c10).symm.trans h
        refine lv_iload_n hx hb dX11_chill_65 rfl (lv_at hl 2 rfl) ?_
        exact wretI_W C hw h dX11_chill_66
      · replace h := (if_neg c10).symm.trans h
        refine lv_aload_n hx hb dX11_chill_33 rfl (lv_at hl 0 rfl) ?_
        refine lv_iload_n hx hb dX11_chill_34 rfl (lv_at hl 1 rfl) ?_
        refine lv_iload_n hx hb dX11_chill_35 rfl (lv_at hl 3 rfl) ?_
        obtain ⟨r11, e12, h⟩ := bnd_some h
        refine wcallV1 (As := [.int p1, .int v3_25]) (rest := []) C hw (c_X11_dropOf hW  e12) vlX11_343 ⟨Nat.le_of_ble_eq_true rfl, Nat.le_of_ble_eq_true rfl⟩ (rfl : _ = some (0, 11)) rfl rfl rfl hl.1 (Nat.le_of_ble_eq_true rfl) dX11_chill_36 ⟨Nat.zero_le _, Nat.zero_le _⟩ (fun H locs hw => ?_)
        refine lv_iload_n hx hb dX11_chill_39 rfl (lv_at hl 2 rfl) ?_
        refine lv_iconst (v := (-1)) hx hb dX11_chill_40 (by decide) ?_
        refine lv_icmp_ne (tgt := 48) hx hb dX11_chill_41 (by decide) (fun c13 => ?_) (fun c13 => ?_)
        · replace h := (if_neg c13).symm.trans h
          refine lv_aload_n hx hb dX11_chill_48 rfl (lv_at hl 0 rfl) ?_
          refine lv_iload_n hx hb dX11_chill_49 rfl (lv_at hl 1 rfl) ?_
          refine lv_iload_n hx hb dX11_chill_50 rfl (lv_at hl 2 rfl) ?_
          obtain ⟨r14, e15, h⟩ := bnd_some h
          refine wcallV1 (As := [.int p1, .int v2_25]) (rest := [.int r11]) C hw (c_X11_dropOf hW  e15) vlX11_343 ⟨Nat.le_of_ble_eq_true rfl, Nat.le_of_ble_eq_true rfl⟩ (rfl : _ = some (0, 11)) rfl rfl rfl hl.1 (Nat.le_of_ble_eq_true rfl) dX11_chill_51 ⟨Nat.zero_le _, Nat.zero_le _⟩ (fun H locs hw => ?_)
          refine lv_icmp_le (tgt := 59) hx hb dX11_chill_54 (by decide) (fun c16 => ?_) (fun c16 => ?_)
          · replace h := (if_pos c16).symm.trans h
            refine lv_iinc (v := (v3_25 + 1)) (lv' := [(3, .int (v3_25 + 1)), (0, .ref (P.2.2.1 0)), (1, .int p1), (2, .int v2_25)]) (k := 3) hx hb dX11_chill_59 hl rfl (congrArg (fun z => v3_25 + z) (by decide)) (by decide) rfl (fun ls hl => ?_)
            refine lv_goto (tgt := 25) hx hb dX11_chill_62 (by decide) ?_
            exact ih_25 v2_25 (v3_25 + 1) M_25 ls _ _ (lv_sub hl [1, 2, 3, 0] rfl) hw h
          · replace h := (if_neg c16).symm.trans h
            refine lv_iload_n hx hb dX11_chill_57 rfl (lv_at hl 3 rfl) ?_
            refine lv_istore_n (lv' := [(2, .int v3_25), (0, .ref (P.2.2.1 0)), (1, .int p1), (3, .int v3_25)]) hx hb dX11_chill_58 rfl hl (by decide) rfl (fun ls hl => ?_)
            refine lv_iinc (v := (v3_25 + 1)) (lv' := [(3, .int (v3_25 + 1)), (2, .int v3_25), (0, .ref (P.2.2.1 0)), (1, .int p1)]) (k := 3) hx hb dX11_chill_59 hl rfl (congrArg (fun z => v3_25 + z) (by decide)) (by decide) rfl (fun ls hl => ?_)
            refine lv_goto (tgt := 25) hx hb dX11_chill_62 (by decide) ?_
            exact ih_25 v3_25 (v3_25 + 1) M_25 ls _ _ (lv_sub hl [2, 3, 1, 0] rfl) hw h
        · replace h := (if_pos c13).symm.trans h
          refine lv_iconst (v := 0) hx hb dX11_chill_44 (by decide) ?_
          refine lv_goto (tgt := 54) hx hb dX11_chill_45 (by decide) ?_
          refine lv_icmp_le (tgt := 59) hx hb dX11_chill_54 (by decide) (fun c17 => ?_) (fun c17 => ?_)
          · replace h := (if_pos c17).symm.trans h
            refine lv_iinc (v := (v3_25 + 1)) (lv' := [(3, .int (v3_25 + 1)), (0, .ref (P.2.2.1 0)), (1, .int p1), (2, .int v2_25)]) (k := 3) hx hb dX11_chill_59 hl rfl (congrArg (fun z => v3_25 + z) (by decide)) (by decide) rfl (fun ls hl => ?_)
            refine lv_goto (tgt := 25) hx hb dX11_chill_62 (by decide) ?_
            exact ih_25 v2_25 (v3_25 + 1) M_25 ls _ _ (lv_sub hl [1, 2, 3, 0] rfl) hw h
          · replace h := (if_neg c17).symm.trans h
            refine lv_iload_n hx hb dX11_chill_57 rfl (lv_at hl 3 rfl) ?_
            refine lv_istore_n (lv' := [(2, .int v3_25), (0, .ref (P.2.2.1 0)), (1, .int p1), (3, .int v3_25)]) hx hb dX11_chill_58 rfl hl (by decide) rfl (fun ls hl => ?_)
            refine lv_iinc (v := (v3_25 + 1)) (lv' := [(3, .int (v3_25 + 1)), (2, .int v3_25), (0, .ref (P.2.2.1 0)), (1, .int p1)]) (k := 3) hx hb dX11_chill_59 hl rfl (congrArg (fun z => v3_25 + z) (by decide)) (by decide) rfl (fun ls hl => ?_)
            refine lv_goto (tgt := 25) hx hb dX11_chill_62 (by decide) ?_
            exact ih_25 v3_25 (v3_25 + 1) M_25 ls _ _ (lv_sub hl [2, 3, 1, 0] rfl) hw h
  refine lv_aload_n hx hb dX11_chill_0 rfl (lv_at hl 0 rfl) ?_
  refine lv_iconst (v := 0) hx hb dX11_chill_1 (by decide) ?_
  refine wputI C hw fpX11_77 (rfl : _ = some (0, 11)) dX11_chill_2 (fun M1 eM1 H locs hw => ?_)
  replace h := letv_at eM1 h
  refine lv_aload_n hx hb dX11_chill_5 rfl (lv_at hl 0 rfl) ?_
  refine lv_iload_n hx hb dX11_chill_6 rfl (lv_at hl 1 rfl) ?_
  refine lv_i2l hx hb dX11_chill_7 rfl ?_
  obtain ⟨r2, e3, h⟩ := bnd_some h
  refine wcallV1 (As := [.long ((p1 : Int32).toInt64)]) (rest := []) C hw (c_X11_isPiece hW  e3) vlX11_237 ⟨Nat.le_of_ble_eq_true rfl, Nat.le_of_ble_eq_true rfl⟩ (rfl : _ = some (0, 11)) rfl rfl rfl hl.1 (Nat.le_of_ble_eq_true rfl) dX11_chill_8 ⟨Nat.zero_le _, Nat.zero_le _⟩ (fun H locs hw => ?_)
  refine lv_if_ne (tgt := 17) hx hb dX11_chill_11 (by decide) (fun c4 => ?_) (fun c4 => ?_)
  · replace h := (if_neg c4).symm.trans h
    refine lv_aload_n hx hb dX11_chill_17 rfl (lv_at hl 0 rfl) ?_
    obtain ⟨M7, e6, h⟩ := bnd_some h
    refine wcallV0 (As := []) (rest := []) C hw (c_X11_laysNow hW  e6) vlX11_311 ⟨Nat.le_of_ble_eq_true rfl, Nat.le_of_ble_eq_true rfl⟩ (rfl : _ = some (0, 11)) rfl rfl rfl hl.1 (Nat.le_of_ble_eq_true rfl) dX11_chill_18 ⟨Nat.zero_le _, Nat.zero_le _⟩ (fun H locs hw => ?_)
    refine lv_iconst (v := (-1)) hx hb dX11_chill_21 (by decide) ?_
    refine lv_istore_n (lv' := [(2, .int (-1)), (0, .ref (P.2.2.1 0)), (1, .int p1)]) hx hb dX11_chill_22 rfl hl (by decide) rfl (fun ls hl => ?_)
    refine lv_iconst (v := 0) hx hb dX11_chill_23 (by decide) ?_
    refine lv_istore_n (lv' := [(3, .int 0), (2, .int (-1)), (0, .ref (P.2.2.1 0)), (1, .int p1)]) hx hb dX11_chill_24 rfl hl (by decide) rfl (fun ls hl => ?_)
    exact cut_25 FU (-1) 0 M7 ls _ _ (lv_sub hl [2, 3, 1, 0] rfl) hw h
  · replace h := (if_pos c4).symm.trans h
    refine lv_bipush (v := (-2)) hx hb dX11_chill_14 (by decide) ?_
    exact wretI_W C hw h dX11_chill_16
set_option maxRecDepth 100000 in
set_option maxHeartbeats 4000000 in
theorem c_X11_drop {l : Launch} {P : Wp} {E : State → Heap → Prop} (hW : Wok shR P E) {p1 : Int32} {p2 : Int32} {M : Mem} {r : Int32} {M' : Mem} (h : f_X11_drop p1 p2 M = some (r, M')) : CT l shR P E yX11_drop bX11_drop 3 ((some .int)) 6 141 [.ref (P.2.2.1 0), .int p1, .int p2] (some (.int r)) M M' := by
  refine ct_of hW (by decide) (Nat.le_of_ble_eq_true rfl) (fun p e s m args below meth c C ls hl hw => ?_)
  have hx := C.1
  have hb := C.2.1
  replace hl : lv_has ls 3 [(0, .ref (P.2.2.1 0)), (1, .int p1), (2, .int p2)] := hl
  refine lv_aload_n hx hb dX11_drop_0 rfl (lv_at hl 0 rfl) ?_
  refine lv_iconst (v := 0) hx hb dX11_drop_1 (by decide) ?_
  refine wputI C hw fpX11_77 (rfl : _ = some (0, 11)) dX11_drop_2 (fun M1 eM1 H locs hw => ?_)
  replace h := letv_at eM1 h
  refine lv_aload_n hx hb dX11_drop_5 rfl (lv_at hl 0 rfl) ?_
  refine lv_iload_n hx hb dX11_drop_6 rfl (lv_at hl 1 rfl) ?_
  refine lv_i2l hx hb dX11_drop_7 rfl ?_
  obtain ⟨r2, e3, h⟩ := bnd_some h
  refine wcallV1 (As := [.long ((p1 : Int32).toInt64)]) (rest := []) C hw (c_X11_isPiece hW  e3) vlX11_237 ⟨Nat.le_of_ble_eq_true rfl, Nat.le_of_ble_eq_true rfl⟩ (rfl : _ = some (0, 11)) rfl rfl rfl hl.1 (Nat.le_of_ble_eq_true rfl) dX11_drop_8 ⟨Nat.zero_le _, Nat.zero_le _⟩ (fun H locs hw => ?_)
  refine lv_if_eq (tgt := 22) hx hb dX11_drop_11 (by decide) (fun c4 => ?_) (fun c4 => ?_)
  · replace h := (if_pos c4).symm.trans h
    refine lv_ldcw hx hb C.2.2.2.1 (C.2.2.2.2.1 _ (List.mem_cons_of_mem _ (gm kcX11_349 rfl))) dX11_drop_22 ?_
    exact wretI_W C hw h dX11_drop_25
  · replace h := (if_neg c4).symm.trans h
    refine lv_aload_n hx hb dX11_drop_14 rfl (lv_at hl 0 rfl) ?_
    refine lv_iload_n hx hb dX11_drop_15 rfl (lv_at hl 2 rfl) ?_
    obtain ⟨r5, e6, h⟩ := bnd_some h
    refine wcallV1 (As := [.int p2]) (rest := []) C hw (c_X11_isAhead hW  e6) vlX11_346 ⟨Nat.le_of_ble_eq_true rfl, Nat.le_of_ble_eq_true rfl⟩ (rfl : _ = some (0, 11)) rfl rfl rfl hl.1 (Nat.le_of_ble_eq_true rfl) dX11_drop_16 ⟨Nat.zero_le _, Nat.zero_le _⟩ (fun H locs hw => ?_)
    refine lv_if_ne (tgt := 26) hx hb dX11_drop_19 (by decide) (fun c7 => ?_) (fun c7 => ?_)
    · replace h := (if_neg c7).symm.trans h
      refine lv_aload_n hx hb dX11_drop_26 rfl (lv_at hl 0 rfl) ?_
      obtain ⟨M10, e9, h⟩ := bnd_some h
      refine wcallV0 (As := []) (rest := []) C hw (c_X11_laysNow hW  e9) vlX11_311 ⟨Nat.le_of_ble_eq_true rfl, Nat.le_of_ble_eq_true rfl⟩ (rfl : _ = some (0, 11)) rfl rfl rfl hl.1 (Nat.le_of_ble_eq_true rfl) dX11_drop_27 ⟨Nat.zero_le _, Nat.zero_le _⟩ (fun H locs hw => ?_)
      refine lv_aload_n hx hb dX11_drop_30 rfl (lv_at hl 0 rfl) ?_
      refine lv_iload_n hx hb dX11_drop_31 rfl (lv_at hl 1 rfl) ?_
      refine lv_iload_n hx hb dX11_drop_32 rfl (lv_at hl 2 rfl) ?_
      obtain ⟨r11, e12, h⟩ := bnd_some h
      refine wcallV1 (As := [.int p1, .int p2]) (rest := []) C hw (c_X11_dropOf hW  e12) vlX11_343 ⟨Nat.le_of_ble_eq_true rfl, Nat.le_of_ble_eq_true rfl⟩ (rfl : _ = some (0, 11)) rfl rfl rfl hl.1 (Nat.le_of_ble_eq_true rfl) dX11_drop_33 ⟨Nat.zero_le _, Nat.zero_le _⟩ (fun H locs hw => ?_)
      exact wretI_W C hw h dX11_drop_36
    · replace h := (if_pos c7).symm.trans h
      refine lv_ldcw hx hb C.2.2.2.1 (C.2.2.2.2.1 _ (List.mem_cons_of_mem _ (gm kcX11_349 rfl))) dX11_drop_22 ?_
      exact wretI_W C hw h dX11_drop_25
set_option maxRecDepth 100000 in
set_option maxHeartbeats 4000000 in
theorem c_X11_gaps {l : Launch} {P : Wp} {E : State → Heap → Prop} (hW : Wok shR P E) {p1 : Int32} {M : Mem} {r : Int32} {M' : Mem} (h : f_X11_gaps p1 M = some (r, M')) : CT l shR P E yX11_gaps bX11_gaps 4 ((some .int)) 6 141 [.ref (P.2.2.1 0), .int p1] (some (.int r)) M M' := by
  refine ct_of hW (by decide) (Nat.le_of_ble_eq_true rfl) (fun p e s m args below meth c C ls hl hw => ?_)
  have hx := C.1
  have hb := C.2.1
  replace hl : lv_has ls 4 [(0, .ref (P.2.2.1 0)), (1, .int p1)] := hl
  have cut_25 : ∀ (n_25 : Nat) (v2_25 : Int32) (v3_25 : Int32) (M_25 : Mem) (ls : Array Slot) (H : Heap) (locs : List Loc), lv_has ls 4 [(0, .ref (P.2.2.1 0)), (1, .int p1), (2, .int v2_25), (3, .int v3_25)] → Hw shR P M_25 s H locs → lq3 (L_X11_gaps_25 p1) n_25 v2_25 v3_25 M_25 = some (r, M') → W p l e { frames := 6, cells := 0, slots := 0, locals := 141 } s m args below meth c H locs 0 0 (MQ below (CQ shR P E (some (.int r)) M') args s 0 0 (wA shR P)) (F0 m 25 ls []) := by
    intro n_25
    induction n_25 with
    | zero => intro v2_25 v3_25 M_25 ls H locs hl hw h; cases h
    | succ n_25 ih_25 =>
      intro v2_25 v3_25 M_25 ls H locs hl hw h
      replace h := lq3_succ h
      refine lv_iload_n hx hb dX11_gaps_25 rfl (lv_at hl 3 rfl) ?_
      refine lv_aload_n hx hb dX11_gaps_26 rfl (lv_at hl 0 rfl) ?_
      obtain ⟨r8, e9, h⟩ := bnd_some h
      refine wcallV1 (As := []) (rest := [.int v3_25]) C hw (c_X11_steps hW  e9) vlX11_234 ⟨Nat.le_of_ble_eq_true rfl, Nat.le_of_ble_eq_true rfl⟩ (rfl : _ = some (0, 11)) rfl rfl rfl hl.1 (Nat.le_of_ble_eq_true rfl) dX11_gaps_27 ⟨Nat.zero_le _, Nat.zero_le _⟩ (fun H locs hw => ?_)
      refine lv_icmp_gt (tgt := 68) hx hb dX11_gaps_30 (by decide) (fun c10 => ?_) (fun c10 => ?_)
      · replace h := (if_pos c10).symm.trans h
        refine lv_iload_n hx hb dX11_gaps_68 rfl (lv_at hl 2 rfl) ?_
        exact wretI_W C hw h dX11_gaps_69
      · replace h := (if_neg c10).symm.trans h
        refine lv_iload_n hx hb dX11_gaps_33 rfl (lv_at hl 2 rfl) ?_
        refine lv_aload_n hx hb dX11_gaps_34 rfl (lv_at hl 0 rfl) ?_
        refine lv_iload_n hx hb dX11_gaps_35 rfl (lv_at hl 1 rfl) ?_
        refine lv_iload_n hx hb dX11_gaps_36 rfl (lv_at hl 3 rfl) ?_
        obtain ⟨r11, e12, h⟩ := bnd_some h
        refine wcallV1 (As := [.int p1, .int v3_25]) (rest := [.int v2_25]) C hw (c_X11_strainOf hW  e12) vlX11_290 ⟨Nat.le_of_ble_eq_true rfl, Nat.le_of_ble_eq_true rfl⟩ (rfl : _ = some (0, 11)) rfl rfl rfl hl.1 (Nat.le_of_ble_eq_true rfl) dX11_gaps_37 ⟨Nat.zero_le _, Nat.zero_le _⟩ (fun H locs hw => ?_)
        refine lv_aload_n hx hb dX11_gaps_40 rfl (lv_at hl 0 rfl) ?_
        refine wgetR (t := 9) C hw flX11_40 (rfl : _ = some (0, 11)) rfl dX11_gaps_41 ?_
        refine lv_iconst (v := 4) hx hb dX11_gaps_44 (by decide) ?_
        refine lv_iload_n hx hb dX11_gaps_45 rfl (lv_at hl 1 rfl) ?_
        refine lv_imul hx hb dX11_gaps_46 ?_
        refine lv_iconst (v := 2) hx hb dX11_gaps_47 (by decide) ?_
        refine lv_iadd hx hb dX11_gaps_48 ?_
        obtain ⟨g13, h⟩ := grd h
        refine wald C hw (rfl : _ = some (1, 120)) g13 dX11_gaps_49 ?_
        refine lv_iconst (v := 2) hx hb dX11_gaps_50 (by decide) ?_
        refine lv_idiv hx hb dX11_gaps_51 (by decide) ?_
        refine lv_icmp_le (tgt := 59) hx hb dX11_gaps_52 (by decide) (fun c14 => ?_) (fun c14 => ?_)
        · replace h := (if_pos c14).symm.trans h
          refine lv_iconst (v := 0) hx hb dX11_gaps_59 (by decide) ?_
          refine lv_iadd hx hb dX11_gaps_60 ?_
          refine lv_topi (fun x15 ex15 => ?_)
          replace h := letv_at ex15 h
          refine lv_istore_n (lv' := [(2, .int x15), (0, .ref (P.2.2.1 0)), (1, .int p1), (3, .int v3_25)]) hx hb dX11_gaps_61 rfl hl (by decide) rfl (fun ls hl => ?_)
          refine lv_iinc (v := (v3_25 + 1)) (lv' := [(3, .int (v3_25 + 1)), (2, .int x15), (0, .ref (P.2.2.1 0)), (1, .int p1)]) (k := 3) hx hb dX11_gaps_62 hl rfl (congrArg (fun z => v3_25 + z) (by decide)) (by decide) rfl (fun ls hl => ?_)
          refine lv_goto (tgt := 25) hx hb dX11_gaps_65 (by decide) ?_
          exact ih_25 x15 (v3_25 + 1) M_25 ls _ _ (lv_sub hl [2, 3, 1, 0] rfl) hw h
        · replace h := (if_neg c14).symm.trans h
          refine lv_iconst (v := 1) hx hb dX11_gaps_55 (by decide) ?_
          refine lv_goto (tgt := 60) hx hb dX11_gaps_56 (by decide) ?_
          refine lv_iadd hx hb dX11_gaps_60 ?_
          refine lv_topi (fun x16 ex16 => ?_)
          replace h := letv_at ex16 h
          refine lv_istore_n (lv' := [(2, .int x16), (0, .ref (P.2.2.1 0)), (1, .int p1), (3, .int v3_25)]) hx hb dX11_gaps_61 rfl hl (by decide) rfl (fun ls hl => ?_)
          refine lv_iinc (v := (v3_25 + 1)) (lv' := [(3, .int (v3_25 + 1)), (2, .int x16), (0, .ref (P.2.2.1 0)), (1, .int p1)]) (k := 3) hx hb dX11_gaps_62 hl rfl (congrArg (fun z => v3_25 + z) (by decide)) (by decide) rfl (fun ls hl => ?_)
          refine lv_goto (tgt := 25) hx hb dX11_gaps_65 (by decide) ?_
          exact ih_25 x16 (v3_25 + 1) M_25 ls _ _ (lv_sub hl [2, 3, 1, 0] rfl) hw h
  refine lv_aload_n hx hb dX11_gaps_0 rfl (lv_at hl 0 rfl) ?_
  refine lv_iconst (v := 0) hx hb dX11_gaps_1 (by decide) ?_
  refine wputI C hw fpX11_77 (rfl : _ = some (0, 11)) dX11_gaps_2 (fun M1 eM1 H locs hw => ?_)
  replace h := letv_at eM1 h
  refine lv_aload_n hx hb dX11_gaps_5 rfl (lv_at hl 0 rfl) ?_
  refine lv_iload_n hx hb dX11_gaps_6 rfl (lv_at hl 1 rfl) ?_
  refine lv_i2l hx hb dX11_gaps_7 rfl ?_
  obtain ⟨r2, e3, h⟩ := bnd_some h
  refine wcallV1 (As := [.long ((p1 : Int32).toInt64)]) (rest := []) C hw (c_X11_isPiece hW  e3) vlX11_237 ⟨Nat.le_of_ble_eq_true rfl, Nat.le_of_ble_eq_true rfl⟩ (rfl : _ = some (0, 11)) rfl rfl rfl hl.1 (Nat.le_of_ble_eq_true rfl) dX11_gaps_8 ⟨Nat.zero_le _, Nat.zero_le _⟩ (fun H locs hw => ?_)
  refine lv_if_ne (tgt := 17) hx hb dX11_gaps_11 (by decide) (fun c4 => ?_) (fun c4 => ?_)
  · replace h := (if_neg c4).symm.trans h
    refine lv_aload_n hx hb dX11_gaps_17 rfl (lv_at hl 0 rfl) ?_
    obtain ⟨M7, e6, h⟩ := bnd_some h
    refine wcallV0 (As := []) (rest := []) C hw (c_X11_laysNow hW  e6) vlX11_311 ⟨Nat.le_of_ble_eq_true rfl, Nat.le_of_ble_eq_true rfl⟩ (rfl : _ = some (0, 11)) rfl rfl rfl hl.1 (Nat.le_of_ble_eq_true rfl) dX11_gaps_18 ⟨Nat.zero_le _, Nat.zero_le _⟩ (fun H locs hw => ?_)
    refine lv_iconst (v := 0) hx hb dX11_gaps_21 (by decide) ?_
    refine lv_istore_n (lv' := [(2, .int 0), (0, .ref (P.2.2.1 0)), (1, .int p1)]) hx hb dX11_gaps_22 rfl hl (by decide) rfl (fun ls hl => ?_)
    refine lv_iconst (v := 0) hx hb dX11_gaps_23 (by decide) ?_
    refine lv_istore_n (lv' := [(3, .int 0), (2, .int 0), (0, .ref (P.2.2.1 0)), (1, .int p1)]) hx hb dX11_gaps_24 rfl hl (by decide) rfl (fun ls hl => ?_)
    exact cut_25 FU 0 0 M7 ls _ _ (lv_sub hl [2, 3, 1, 0] rfl) hw h
  · replace h := (if_pos c4).symm.trans h
    refine lv_bipush (v := (-2)) hx hb dX11_gaps_14 (by decide) ?_
    exact wretI_W C hw h dX11_gaps_16
set_option maxRecDepth 100000 in
set_option maxHeartbeats 4000000 in
theorem c_X11_spread {l : Launch} {P : Wp} {E : State → Heap → Prop} (hW : Wok shR P E) {p1 : Int32} {M : Mem} {r : Int32} {M' : Mem} (h : f_X11_spread p1 M = some (r, M')) : CT l shR P E yX11_spread bX11_spread 5 ((some .int)) 6 141 [.ref (P.2.2.1 0), .int p1] (some (.int r)) M M' := by
  refine ct_of hW (by decide) (Nat.le_of_ble_eq_true rfl) (fun p e s m args below meth c C ls hl hw => ?_)
  have hx := C.1
  have hb := C.2.1
  replace hl : lv_has ls 5 [(0, .ref (P.2.2.1 0)), (1, .int p1)] := hl
  have cut_33 : ∀ (v2_33 : Int32) (n_33 : Nat) (v3_33 : Int32) (v4_33 : Int32) (M_33 : Mem) (ls : Array Slot) (H : Heap) (locs : List Loc), lv_has ls 5 [(0, .ref (P.2.2.1 0)), (1, .int p1), (2, .int v2_33), (3, .int v3_33), (4, .int v4_33)] → Hw shR P M_33 s H locs → lq3 (L_X11_spread_33 p1 v2_33) n_33 v3_33 v4_33 M_33 = some (r, M') → W p l e { frames := 6, cells := 0, slots := 0, locals := 141 } s m args below meth c H locs 0 0 (MQ below (CQ shR P E (some (.int r)) M') args s 0 0 (wA shR P)) (F0 m 33 ls []) := by
    intro v2_33 n_33
    induction n_33 with
    | zero => intro v3_33 v4_33 M_33 ls H locs hl hw h; cases h
    | succ n_33 ih_33 =>
      intro v3_33 v4_33 M_33 ls H locs hl hw h
      replace h := lq3_succ h
      refine lv_iload hx hb dX11_spread_33 (lv_at hl 4 rfl) ?_
      refine lv_aload_n hx hb dX11_spread_35 rfl (lv_at hl 0 rfl) ?_
      obtain ⟨r10, e11, h⟩ := bnd_some h
      refine wcallV1 (As := []) (rest := [.int v4_33]) C hw (c_X11_pieces hW  e11) vlX11_227 ⟨Nat.le_of_ble_eq_true rfl, Nat.le_of_ble_eq_true rfl⟩ (rfl : _ = some (0, 11)) rfl rfl rfl hl.1 (Nat.le_of_ble_eq_true rfl) dX11_spread_36 ⟨Nat.zero_le _, Nat.zero_le _⟩ (fun H locs hw => ?_)
      refine lv_icmp_ge (tgt := 77) hx hb dX11_spread_39 (by decide) (fun c12 => ?_) (fun c12 => ?_)
      · replace h := (if_pos c12).symm.trans h
        refine lv_iload_n hx hb dX11_spread_77 rfl (lv_at hl 3 rfl) ?_
        exact wretI_W C hw h dX11_spread_78
      · replace h := (if_neg c12).symm.trans h
        refine lv_aload_n hx hb dX11_spread_42 rfl (lv_at hl 0 rfl) ?_
        refine lv_iload hx hb dX11_spread_43 (lv_at hl 4 rfl) ?_
        refine lv_iload_n hx hb dX11_spread_45 rfl (lv_at hl 1 rfl) ?_
        obtain ⟨r13, e14, h⟩ := bnd_some h
        refine wcallV1 (As := [.int v4_33, .int p1]) (rest := []) C hw (c_X11_hasCome hW  e14) vlX11_317 ⟨Nat.le_of_ble_eq_true rfl, Nat.le_of_ble_eq_true rfl⟩ (rfl : _ = some (0, 11)) rfl rfl rfl hl.1 (Nat.le_of_ble_eq_true rfl) dX11_spread_46 ⟨Nat.zero_le _, Nat.zero_le _⟩ (fun H locs hw => ?_)
        refine lv_if_eq (tgt := 71) hx hb dX11_spread_49 (by decide) (fun c15 => ?_) (fun c15 => ?_)
        · replace h := (if_pos c15).symm.trans h
          refine lv_iinc (v := (v4_33 + 1)) (lv' := [(4, .int (v4_33 + 1)), (0, .ref (P.2.2.1 0)), (1, .int p1), (2, .int v2_33), (3, .int v3_33)]) (k := 4) hx hb dX11_spread_71 hl rfl (congrArg (fun z => v4_33 + z) (by decide)) (by decide) rfl (fun ls hl => ?_)
          refine lv_goto (tgt := 33) hx hb dX11_spread_74 (by decide) ?_
          exact ih_33 v3_33 (v4_33 + 1) M_33 ls _ _ (lv_sub hl [1, 2, 3, 4, 0] rfl) hw h
        · replace h := (if_neg c15).symm.trans h
          refine lv_iload_n hx hb dX11_spread_52 rfl (lv_at hl 3 rfl) ?_
          refine lv_aload_n hx hb dX11_spread_53 rfl (lv_at hl 0 rfl) ?_
          refine lv_iload_n hx hb dX11_spread_54 rfl (lv_at hl 2 rfl) ?_
          refine lv_iload_n hx hb dX11_spread_55 rfl (lv_at hl 1 rfl) ?_
          obtain ⟨r16, e17, h⟩ := bnd_some h
          refine wcallV1 (As := [.int v2_33, .int p1]) (rest := [.int v3_33]) C hw (c_X11_skinOf hW  e17) vlX11_268 ⟨Nat.le_of_ble_eq_true rfl, Nat.le_of_ble_eq_true rfl⟩ (rfl : _ = some (0, 11)) rfl rfl rfl hl.1 (Nat.le_of_ble_eq_true rfl) dX11_spread_56 ⟨Nat.zero_le _, Nat.zero_le _⟩ (fun H locs hw => ?_)
          refine lv_aload_n hx hb dX11_spread_59 rfl (lv_at hl 0 rfl) ?_
          refine lv_iload hx hb dX11_spread_60 (lv_at hl 4 rfl) ?_
          refine lv_iload_n hx hb dX11_spread_62 rfl (lv_at hl 1 rfl) ?_
          obtain ⟨r18, e19, h⟩ := bnd_some h
          refine wcallV1 (As := [.int v4_33, .int p1]) (rest := [.int r16, .int v3_33]) C hw (c_X11_skinOf hW  e19) vlX11_268 ⟨Nat.le_of_ble_eq_true rfl, Nat.le_of_ble_eq_true rfl⟩ (rfl : _ = some (0, 11)) rfl rfl rfl hl.1 (Nat.le_of_ble_eq_true rfl) dX11_spread_63 ⟨Nat.zero_le _, Nat.zero_le _⟩ (fun H locs hw => ?_)
          refine lv_isub hx hb dX11_spread_66 ?_
          refine wcallS1 (As := [.int v3_33, .int (r16 - r18)]) (rest := []) C hw (c_X11_moreOf hW  rfl) slX11_262 ⟨Nat.le_of_ble_eq_true rfl, Nat.le_of_ble_eq_true rfl⟩ rfl rfl hl.1 (Nat.le_of_ble_eq_true rfl) dX11_spread_67 ⟨Nat.zero_le _, Nat.zero_le _⟩ (fun H locs hw => ?_)
          refine lv_topi (fun x20 ex20 => ?_)
          replace h := letv_at ex20 h
          refine lv_istore_n (lv' := [(3, .int x20), (0, .ref (P.2.2.1 0)), (1, .int p1), (2, .int v2_33), (4, .int v4_33)]) hx hb dX11_spread_70 rfl hl (by decide) rfl (fun ls hl => ?_)
          refine lv_iinc (v := (v4_33 + 1)) (lv' := [(4, .int (v4_33 + 1)), (3, .int x20), (0, .ref (P.2.2.1 0)), (1, .int p1), (2, .int v2_33)]) (k := 4) hx hb dX11_spread_71 hl rfl (congrArg (fun z => v4_33 + z) (by decide)) (by decide) rfl (fun ls hl => ?_)
          refine lv_goto (tgt := 33) hx hb dX11_spread_74 (by decide) ?_
          exact ih_33 x20 (v4_33 + 1) M_33 ls _ _ (lv_sub hl [2, 3, 4, 1, 0] rfl) hw h
  refine lv_aload_n hx hb dX11_spread_0 rfl (lv_at hl 0 rfl) ?_
  refine lv_iconst (v := 0) hx hb dX11_spread_1 (by decide) ?_
  refine wputI C hw fpX11_77 (rfl : _ = some (0, 11)) dX11_spread_2 (fun M1 eM1 H locs hw => ?_)
  replace h := letv_at eM1 h
  refine lv_aload_n hx hb dX11_spread_5 rfl (lv_at hl 0 rfl) ?_
  refine lv_iload_n hx hb dX11_spread_6 rfl (lv_at hl 1 rfl) ?_
  refine lv_i2l hx hb dX11_spread_7 rfl ?_
  obtain ⟨r2, e3, h⟩ := bnd_some h
  refine wcallV1 (As := [.long ((p1 : Int32).toInt64)]) (rest := []) C hw (c_X11_isStep hW  e3) vlX11_240 ⟨Nat.le_of_ble_eq_true rfl, Nat.le_of_ble_eq_true rfl⟩ (rfl : _ = some (0, 11)) rfl rfl rfl hl.1 (Nat.le_of_ble_eq_true rfl) dX11_spread_8 ⟨Nat.zero_le _, Nat.zero_le _⟩ (fun H locs hw => ?_)
  refine lv_if_ne (tgt := 17) hx hb dX11_spread_11 (by decide) (fun c4 => ?_) (fun c4 => ?_)
  · replace h := (if_neg c4).symm.trans h
    refine lv_aload_n hx hb dX11_spread_17 rfl (lv_at hl 0 rfl) ?_
    obtain ⟨M7, e6, h⟩ := bnd_some h
    refine wcallV0 (As := []) (rest := []) C hw (c_X11_laysNow hW  e6) vlX11_311 ⟨Nat.le_of_ble_eq_true rfl, Nat.le_of_ble_eq_true rfl⟩ (rfl : _ = some (0, 11)) rfl rfl rfl hl.1 (Nat.le_of_ble_eq_true rfl) dX11_spread_18 ⟨Nat.zero_le _, Nat.zero_le _⟩ (fun H locs hw => ?_)
    refine lv_aload_n hx hb dX11_spread_21 rfl (lv_at hl 0 rfl) ?_
    refine lv_iload_n hx hb dX11_spread_22 rfl (lv_at hl 1 rfl) ?_
    refine lv_iconst (v := 1) hx hb dX11_spread_23 (by decide) ?_
    obtain ⟨r8, e9, h⟩ := bnd_some h
    refine wcallV1 (As := [.int p1, .int 1]) (rest := []) C hw (c_X11_mostAt hW  e9) vlX11_329 ⟨Nat.le_of_ble_eq_true rfl, Nat.le_of_ble_eq_true rfl⟩ (rfl : _ = some (0, 11)) rfl rfl rfl hl.1 (Nat.le_of_ble_eq_true rfl) dX11_spread_24 ⟨Nat.zero_le _, Nat.zero_le _⟩ (fun H locs hw => ?_)
    refine lv_istore_n (lv' := [(2, .int r8), (0, .ref (P.2.2.1 0)), (1, .int p1)]) hx hb dX11_spread_27 rfl hl (by decide) rfl (fun ls hl => ?_)
    refine lv_iconst (v := 0) hx hb dX11_spread_28 (by decide) ?_
    refine lv_istore_n (lv' := [(3, .int 0), (2, .int r8), (0, .ref (P.2.2.1 0)), (1, .int p1)]) hx hb dX11_spread_29 rfl hl (by decide) rfl (fun ls hl => ?_)
    refine lv_iconst (v := 0) hx hb dX11_spread_30 (by decide) ?_
    refine lv_istore (lv' := [(4, .int 0), (3, .int 0), (2, .int r8), (0, .ref (P.2.2.1 0)), (1, .int p1)]) hx hb dX11_spread_31 hl (by decide) rfl (fun ls hl => ?_)
    exact cut_33 r8 FU 0 0 M7 ls _ _ (lv_sub hl [3, 4, 2, 1, 0] rfl) hw h
  · replace h := (if_pos c4).symm.trans h
    refine lv_bipush (v := (-2)) hx hb dX11_spread_14 (by decide) ?_
    exact wretI_W C hw h dX11_spread_16
set_option maxRecDepth 100000 in
set_option maxHeartbeats 4000000 in
theorem c_X11_coming {l : Launch} {P : Wp} {E : State → Heap → Prop} (hW : Wok shR P E) {p1 : Int32} {M : Mem} {r : Int32} {M' : Mem} (h : f_X11_coming p1 M = some (r, M')) : CT l shR P E yX11_coming bX11_coming 4 ((some .int)) 2 47 [.ref (P.2.2.1 0), .int p1] (some (.int r)) M M' := by
  refine ct_of hW (by decide) (Nat.le_of_ble_eq_true rfl) (fun p e s m args below meth c C ls hl hw => ?_)
  have hx := C.1
  have hb := C.2.1
  replace hl : lv_has ls 4 [(0, .ref (P.2.2.1 0)), (1, .int p1)] := hl
  have cut_21 : ∀ (n_21 : Nat) (v2_21 : Int32) (v3_21 : Int32) (M_21 : Mem) (ls : Array Slot) (H : Heap) (locs : List Loc), lv_has ls 4 [(0, .ref (P.2.2.1 0)), (1, .int p1), (2, .int v2_21), (3, .int v3_21)] → Hw shR P M_21 s H locs → lq3 (L_X11_coming_21 p1) n_21 v2_21 v3_21 M_21 = some (r, M') → W p l e { frames := 2, cells := 0, slots := 0, locals := 47 } s m args below meth c H locs 0 0 (MQ below (CQ shR P E (some (.int r)) M') args s 0 0 (wA shR P)) (F0 m 21 ls []) := by
    intro n_21
    induction n_21 with
    | zero => intro v2_21 v3_21 M_21 ls H locs hl hw h; cases h
    | succ n_21 ih_21 =>
      intro v2_21 v3_21 M_21 ls H locs hl hw h
      replace h := lq3_succ h
      refine lv_iload_n hx hb dX11_coming_21 rfl (lv_at hl 3 rfl) ?_
      refine lv_aload_n hx hb dX11_coming_22 rfl (lv_at hl 0 rfl) ?_
      obtain ⟨r5, e6, h⟩ := bnd_some h
      refine wcallV1 (As := []) (rest := [.int v3_21]) C hw (c_X11_pieces hW  e6) vlX11_227 ⟨Nat.le_of_ble_eq_true rfl, Nat.le_of_ble_eq_true rfl⟩ (rfl : _ = some (0, 11)) rfl rfl rfl hl.1 (Nat.le_of_ble_eq_true rfl) dX11_coming_23 ⟨Nat.zero_le _, Nat.zero_le _⟩ (fun H locs hw => ?_)
      refine lv_icmp_ge (tgt := 54) hx hb dX11_coming_26 (by decide) (fun c7 => ?_) (fun c7 => ?_)
      · replace h := (if_pos c7).symm.trans h
        refine lv_iload_n hx hb dX11_coming_54 rfl (lv_at hl 2 rfl) ?_
        exact wretI_W C hw h dX11_coming_55
      · replace h := (if_neg c7).symm.trans h
        refine lv_iload_n hx hb dX11_coming_29 rfl (lv_at hl 2 rfl) ?_
        refine lv_aload_n hx hb dX11_coming_30 rfl (lv_at hl 0 rfl) ?_
        refine lv_iload_n hx hb dX11_coming_31 rfl (lv_at hl 3 rfl) ?_
        obtain ⟨r8, e9, h⟩ := bnd_some h
        refine wcallV1 (As := [.int v3_21]) (rest := [.int v2_21]) C hw (c_X11_comes hW  e9) vlX11_265 ⟨Nat.le_of_ble_eq_true rfl, Nat.le_of_ble_eq_true rfl⟩ (rfl : _ = some (0, 11)) rfl rfl rfl hl.1 (Nat.le_of_ble_eq_true rfl) dX11_coming_32 ⟨Nat.zero_le _, Nat.zero_le _⟩ (fun H locs hw => ?_)
        refine lv_iload_n hx hb dX11_coming_35 rfl (lv_at hl 1 rfl) ?_
        refine lv_icmp_ne (tgt := 45) hx hb dX11_coming_36 (by decide) (fun c10 => ?_) (fun c10 => ?_)
        · replace h := (if_neg c10).symm.trans h
          refine lv_iconst (v := 0) hx hb dX11_coming_45 (by decide) ?_
          refine lv_ior hx hb dX11_coming_46 ?_
          refine lv_topi (fun x11 ex11 => ?_)
          replace h := letv_at ex11 h
          refine lv_istore_n (lv' := [(2, .int x11), (0, .ref (P.2.2.1 0)), (1, .int p1), (3, .int v3_21)]) hx hb dX11_coming_47 rfl hl (by decide) rfl (fun ls hl => ?_)
          refine lv_iinc (v := (v3_21 + 1)) (lv' := [(3, .int (v3_21 + 1)), (2, .int x11), (0, .ref (P.2.2.1 0)), (1, .int p1)]) (k := 3) hx hb dX11_coming_48 hl rfl (congrArg (fun z => v3_21 + z) (by decide)) (by decide) rfl (fun ls hl => ?_)
          refine lv_goto (tgt := 21) hx hb dX11_coming_51 (by decide) ?_
          exact ih_21 x11 (v3_21 + 1) M_21 ls _ _ (lv_sub hl [2, 3, 1, 0] rfl) hw h
        · replace h := (if_pos c10).symm.trans h
          refine lv_iconst (v := 1) hx hb dX11_coming_39 (by decide) ?_
          refine lv_iload_n hx hb dX11_coming_40 rfl (lv_at hl 3 rfl) ?_
          refine lv_ishl hx hb dX11_coming_41 ?_
          refine lv_goto (tgt := 46) hx hb dX11_coming_42 (by decide) ?_
          refine lv_ior hx hb dX11_coming_46 ?_
          refine lv_topi (fun x12 ex12 => ?_)
          replace h := letv_at ex12 h
          refine lv_istore_n (lv' := [(2, .int x12), (0, .ref (P.2.2.1 0)), (1, .int p1), (3, .int v3_21)]) hx hb dX11_coming_47 rfl hl (by decide) rfl (fun ls hl => ?_)
          refine lv_iinc (v := (v3_21 + 1)) (lv' := [(3, .int (v3_21 + 1)), (2, .int x12), (0, .ref (P.2.2.1 0)), (1, .int p1)]) (k := 3) hx hb dX11_coming_48 hl rfl (congrArg (fun z => v3_21 + z) (by decide)) (by decide) rfl (fun ls hl => ?_)
          refine lv_goto (tgt := 21) hx hb dX11_coming_51 (by decide) ?_
          exact ih_21 x12 (v3_21 + 1) M_21 ls _ _ (lv_sub hl [2, 3, 1, 0] rfl) hw h
  refine lv_aload_n hx hb dX11_coming_0 rfl (lv_at hl 0 rfl) ?_
  refine lv_iconst (v := 0) hx hb dX11_coming_1 (by decide) ?_
  refine wputI C hw fpX11_77 (rfl : _ = some (0, 11)) dX11_coming_2 (fun M1 eM1 H locs hw => ?_)
  replace h := letv_at eM1 h
  refine lv_aload_n hx hb dX11_coming_5 rfl (lv_at hl 0 rfl) ?_
  refine lv_iload_n hx hb dX11_coming_6 rfl (lv_at hl 1 rfl) ?_
  refine lv_i2l hx hb dX11_coming_7 rfl ?_
  obtain ⟨r2, e3, h⟩ := bnd_some h
  refine wcallV1 (As := [.long ((p1 : Int32).toInt64)]) (rest := []) C hw (c_X11_isStep hW  e3) vlX11_240 ⟨Nat.le_of_ble_eq_true rfl, Nat.le_of_ble_eq_true rfl⟩ (rfl : _ = some (0, 11)) rfl rfl rfl hl.1 (Nat.le_of_ble_eq_true rfl) dX11_coming_8 ⟨Nat.zero_le _, Nat.zero_le _⟩ (fun H locs hw => ?_)
  refine lv_if_ne (tgt := 17) hx hb dX11_coming_11 (by decide) (fun c4 => ?_) (fun c4 => ?_)
  · replace h := (if_neg c4).symm.trans h
    refine lv_iconst (v := 0) hx hb dX11_coming_17 (by decide) ?_
    refine lv_istore_n (lv' := [(2, .int 0), (0, .ref (P.2.2.1 0)), (1, .int p1)]) hx hb dX11_coming_18 rfl hl (by decide) rfl (fun ls hl => ?_)
    refine lv_iconst (v := 0) hx hb dX11_coming_19 (by decide) ?_
    refine lv_istore_n (lv' := [(3, .int 0), (2, .int 0), (0, .ref (P.2.2.1 0)), (1, .int p1)]) hx hb dX11_coming_20 rfl hl (by decide) rfl (fun ls hl => ?_)
    exact cut_21 FU 0 0 M1 ls _ _ (lv_sub hl [2, 3, 1, 0] rfl) hw h
  · replace h := (if_pos c4).symm.trans h
    refine lv_bipush (v := (-2)) hx hb dX11_coming_14 (by decide) ?_
    exact wretI_W C hw h dX11_coming_16
set_option maxRecDepth 100000 in
set_option maxHeartbeats 4000000 in
theorem c_X11_cracked {l : Launch} {P : Wp} {E : State → Heap → Prop} (hW : Wok shR P E) {p1 : Int32} {M : Mem} {r : Int32} {M' : Mem} (h : f_X11_cracked p1 M = some (r, M')) : CT l shR P E yX11_cracked bX11_cracked 2 ((some .int)) 6 141 [.ref (P.2.2.1 0), .int p1] (some (.int r)) M M' := by
  refine ct_of hW (by decide) (Nat.le_of_ble_eq_true rfl) (fun p e s m args below meth c C ls hl hw => ?_)
  have hx := C.1
  have hb := C.2.1
  replace hl : lv_has ls 2 [(0, .ref (P.2.2.1 0)), (1, .int p1)] := hl
  refine lv_aload_n hx hb dX11_cracked_0 rfl (lv_at hl 0 rfl) ?_
  refine lv_iconst (v := 0) hx hb dX11_cracked_1 (by decide) ?_
  refine wputI C hw fpX11_77 (rfl : _ = some (0, 11)) dX11_cracked_2 (fun M1 eM1 H locs hw => ?_)
  replace h := letv_at eM1 h
  refine lv_aload_n hx hb dX11_cracked_5 rfl (lv_at hl 0 rfl) ?_
  refine lv_iload_n hx hb dX11_cracked_6 rfl (lv_at hl 1 rfl) ?_
  refine lv_i2l hx hb dX11_cracked_7 rfl ?_
  obtain ⟨r2, e3, h⟩ := bnd_some h
  refine wcallV1 (As := [.long ((p1 : Int32).toInt64)]) (rest := []) C hw (c_X11_isStep hW  e3) vlX11_240 ⟨Nat.le_of_ble_eq_true rfl, Nat.le_of_ble_eq_true rfl⟩ (rfl : _ = some (0, 11)) rfl rfl rfl hl.1 (Nat.le_of_ble_eq_true rfl) dX11_cracked_8 ⟨Nat.zero_le _, Nat.zero_le _⟩ (fun H locs hw => ?_)
  refine lv_if_ne (tgt := 17) hx hb dX11_cracked_11 (by decide) (fun c4 => ?_) (fun c4 => ?_)
  · replace h := (if_neg c4).symm.trans h
    refine lv_aload_n hx hb dX11_cracked_17 rfl (lv_at hl 0 rfl) ?_
    obtain ⟨M7, e6, h⟩ := bnd_some h
    refine wcallV0 (As := []) (rest := []) C hw (c_X11_laysNow hW  e6) vlX11_311 ⟨Nat.le_of_ble_eq_true rfl, Nat.le_of_ble_eq_true rfl⟩ (rfl : _ = some (0, 11)) rfl rfl rfl hl.1 (Nat.le_of_ble_eq_true rfl) dX11_cracked_18 ⟨Nat.zero_le _, Nat.zero_le _⟩ (fun H locs hw => ?_)
    refine lv_aload_n hx hb dX11_cracked_21 rfl (lv_at hl 0 rfl) ?_
    refine lv_iload_n hx hb dX11_cracked_22 rfl (lv_at hl 1 rfl) ?_
    obtain ⟨r8, e9, h⟩ := bnd_some h
    refine wcallV1 (As := [.int p1]) (rest := []) C hw (c_X11_crackedIn hW  e9) vlX11_332 ⟨Nat.le_of_ble_eq_true rfl, Nat.le_of_ble_eq_true rfl⟩ (rfl : _ = some (0, 11)) rfl rfl rfl hl.1 (Nat.le_of_ble_eq_true rfl) dX11_cracked_23 ⟨Nat.zero_le _, Nat.zero_le _⟩ (fun H locs hw => ?_)
    exact wretI_W C hw h dX11_cracked_26
  · replace h := (if_pos c4).symm.trans h
    refine lv_bipush (v := (-2)) hx hb dX11_cracked_14 (by decide) ?_
    exact wretI_W C hw h dX11_cracked_16
set_option maxRecDepth 100000 in
set_option maxHeartbeats 4000000 in
theorem c_X11_tally {l : Launch} {P : Wp} {E : State → Heap → Prop} (hW : Wok shR P E) {p1 : Int32} {M : Mem} {r : Int32} {M' : Mem} (h : f_X11_tally p1 M = some (r, M')) : CT l shR P E yX11_tally bX11_tally 4 ((some .int)) 6 141 [.ref (P.2.2.1 0), .int p1] (some (.int r)) M M' := by
  refine ct_of hW (by decide) (Nat.le_of_ble_eq_true rfl) (fun p e s m args below meth c C ls hl hw => ?_)
  have hx := C.1
  have hb := C.2.1
  replace hl : lv_has ls 4 [(0, .ref (P.2.2.1 0)), (1, .int p1)] := hl
  have cut_35 : ∀ (n_35 : Nat) (v2_35 : Int32) (v3_35 : Int32) (M_35 : Mem) (ls : Array Slot) (H : Heap) (locs : List Loc), lv_has ls 4 [(0, .ref (P.2.2.1 0)), (1, .int p1), (2, .int v2_35), (3, .int v3_35)] → Hw shR P M_35 s H locs → lq3 (L_X11_tally_35 p1) n_35 v2_35 v3_35 M_35 = some (r, M') → W p l e { frames := 6, cells := 0, slots := 0, locals := 141 } s m args below meth c H locs 0 0 (MQ below (CQ shR P E (some (.int r)) M') args s 0 0 (wA shR P)) (F0 m 35 ls []) := by
    intro n_35
    induction n_35 with
    | zero => intro v2_35 v3_35 M_35 ls H locs hl hw h; cases h
    | succ n_35 ih_35 =>
      intro v2_35 v3_35 M_35 ls H locs hl hw h
      replace h := lq3_succ h
      refine lv_iload_n hx hb dX11_tally_35 rfl (lv_at hl 3 rfl) ?_
      refine lv_aload_n hx hb dX11_tally_36 rfl (lv_at hl 0 rfl) ?_
      obtain ⟨r9, e10, h⟩ := bnd_some h
      refine wcallV1 (As := []) (rest := [.int v3_35]) C hw (c_X11_pieces hW  e10) vlX11_227 ⟨Nat.le_of_ble_eq_true rfl, Nat.le_of_ble_eq_true rfl⟩ (rfl : _ = some (0, 11)) rfl rfl rfl hl.1 (Nat.le_of_ble_eq_true rfl) dX11_tally_37 ⟨Nat.zero_le _, Nat.zero_le _⟩ (fun H locs hw => ?_)
      refine lv_icmp_ge (tgt := 67) hx hb dX11_tally_40 (by decide) (fun c11 => ?_) (fun c11 => ?_)
      · replace h := (if_pos c11).symm.trans h
        refine lv_iload_n hx hb dX11_tally_67 rfl (lv_at hl 2 rfl) ?_
        exact wretI_W C hw h dX11_tally_68
      · replace h := (if_neg c11).symm.trans h
        refine lv_iload_n hx hb dX11_tally_43 rfl (lv_at hl 2 rfl) ?_
        refine lv_aload_n hx hb dX11_tally_44 rfl (lv_at hl 0 rfl) ?_
        refine wgetR (t := 20) C hw flX11_74 (rfl : _ = some (0, 11)) rfl dX11_tally_45 ?_
        refine lv_iload_n hx hb dX11_tally_48 rfl (lv_at hl 3 rfl) ?_
        obtain ⟨g12, h⟩ := grd h
        refine wald C hw (rfl : _ = some (1, 6)) g12 dX11_tally_49 ?_
        refine lv_iload_n hx hb dX11_tally_50 rfl (lv_at hl 1 rfl) ?_
        refine lv_icmp_ne (tgt := 58) hx hb dX11_tally_51 (by decide) (fun c13 => ?_) (fun c13 => ?_)
        · replace h := (if_neg c13).symm.trans h
          refine lv_iconst (v := 0) hx hb dX11_tally_58 (by decide) ?_
          refine lv_iadd hx hb dX11_tally_59 ?_
          refine lv_topi (fun x14 ex14 => ?_)
          replace h := letv_at ex14 h
          refine lv_istore_n (lv' := [(2, .int x14), (0, .ref (P.2.2.1 0)), (1, .int p1), (3, .int v3_35)]) hx hb dX11_tally_60 rfl hl (by decide) rfl (fun ls hl => ?_)
          refine lv_iinc (v := (v3_35 + 1)) (lv' := [(3, .int (v3_35 + 1)), (2, .int x14), (0, .ref (P.2.2.1 0)), (1, .int p1)]) (k := 3) hx hb dX11_tally_61 hl rfl (congrArg (fun z => v3_35 + z) (by decide)) (by decide) rfl (fun ls hl => ?_)
          refine lv_goto (tgt := 35) hx hb dX11_tally_64 (by decide) ?_
          exact ih_35 x14 (v3_35 + 1) M_35 ls _ _ (lv_sub hl [2, 3, 1, 0] rfl) hw h
        · replace h := (if_pos c13).symm.trans h
          refine lv_iconst (v := 1) hx hb dX11_tally_54 (by decide) ?_
          refine lv_goto (tgt := 59) hx hb dX11_tally_55 (by decide) ?_
          refine lv_iadd hx hb dX11_tally_59 ?_
          refine lv_topi (fun x15 ex15 => ?_)
          replace h := letv_at ex15 h
          refine lv_istore_n (lv' := [(2, .int x15), (0, .ref (P.2.2.1 0)), (1, .int p1), (3, .int v3_35)]) hx hb dX11_tally_60 rfl hl (by decide) rfl (fun ls hl => ?_)
          refine lv_iinc (v := (v3_35 + 1)) (lv' := [(3, .int (v3_35 + 1)), (2, .int x15), (0, .ref (P.2.2.1 0)), (1, .int p1)]) (k := 3) hx hb dX11_tally_61 hl rfl (congrArg (fun z => v3_35 + z) (by decide)) (by decide) rfl (fun ls hl => ?_)
          refine lv_goto (tgt := 35) hx hb dX11_tally_64 (by decide) ?_
          exact ih_35 x15 (v3_35 + 1) M_35 ls _ _ (lv_sub hl [2, 3, 1, 0] rfl) hw h
  refine lv_aload_n hx hb dX11_tally_0 rfl (lv_at hl 0 rfl) ?_
  refine lv_iconst (v := 0) hx hb dX11_tally_1 (by decide) ?_
  refine wputI C hw fpX11_77 (rfl : _ = some (0, 11)) dX11_tally_2 (fun M1 eM1 H locs hw => ?_)
  replace h := letv_at eM1 h
  refine lv_aload_n hx hb dX11_tally_5 rfl (lv_at hl 0 rfl) ?_
  obtain ⟨r2, e3, h⟩ := bnd_some h
  refine wcallV1 (As := []) (rest := []) C hw (c_X11_isLehr hW  e3) vlX11_231 ⟨Nat.le_of_ble_eq_true rfl, Nat.le_of_ble_eq_true rfl⟩ (rfl : _ = some (0, 11)) rfl rfl rfl hl.1 (Nat.le_of_ble_eq_true rfl) dX11_tally_6 ⟨Nat.zero_le _, Nat.zero_le _⟩ (fun H locs hw => ?_)
  refine lv_if_eq (tgt := 24) hx hb dX11_tally_9 (by decide) (fun c4 => ?_) (fun c4 => ?_)
  · replace h := (if_pos c4).symm.trans h
    refine lv_bipush (v := (-2)) hx hb dX11_tally_24 (by decide) ?_
    exact wretI_W C hw h dX11_tally_26
  · replace h := (if_neg c4).symm.trans h
    refine lv_iload_n hx hb dX11_tally_12 rfl (lv_at hl 1 rfl) ?_
    refine lv_i2l hx hb dX11_tally_13 rfl ?_
    refine lv_lconst (v := 0) hx hb dX11_tally_14 (by decide) ?_
    refine lv_ldc2 hx hb C.2.2.2.1 (C.2.2.2.2.1 _ (List.mem_cons_of_mem _ (gm kcX11_350 rfl))) dX11_tally_15 ?_
    refine wcallS1 (As := [.long ((p1 : Int32).toInt64), .long 0, .long 2]) (rest := []) C hw (c_X11_in hW  rfl) slX11_82 ⟨Nat.le_of_ble_eq_true rfl, Nat.le_of_ble_eq_true rfl⟩ rfl rfl hl.1 (Nat.le_of_ble_eq_true rfl) dX11_tally_18 ⟨Nat.zero_le _, Nat.zero_le _⟩ (fun H locs hw => ?_)
    refine lv_if_ne (tgt := 27) hx hb dX11_tally_21 (by decide) (fun c5 => ?_) (fun c5 => ?_)
    · replace h := (if_neg c5).symm.trans h
      refine lv_aload_n hx hb dX11_tally_27 rfl (lv_at hl 0 rfl) ?_
      obtain ⟨M8, e7, h⟩ := bnd_some h
      refine wcallV0 (As := []) (rest := []) C hw (c_X11_laysNow hW  e7) vlX11_311 ⟨Nat.le_of_ble_eq_true rfl, Nat.le_of_ble_eq_true rfl⟩ (rfl : _ = some (0, 11)) rfl rfl rfl hl.1 (Nat.le_of_ble_eq_true rfl) dX11_tally_28 ⟨Nat.zero_le _, Nat.zero_le _⟩ (fun H locs hw => ?_)
      refine lv_iconst (v := 0) hx hb dX11_tally_31 (by decide) ?_
      refine lv_istore_n (lv' := [(2, .int 0), (0, .ref (P.2.2.1 0)), (1, .int p1)]) hx hb dX11_tally_32 rfl hl (by decide) rfl (fun ls hl => ?_)
      refine lv_iconst (v := 0) hx hb dX11_tally_33 (by decide) ?_
      refine lv_istore_n (lv' := [(3, .int 0), (2, .int 0), (0, .ref (P.2.2.1 0)), (1, .int p1)]) hx hb dX11_tally_34 rfl hl (by decide) rfl (fun ls hl => ?_)
      exact cut_35 FU 0 0 M8 ls _ _ (lv_sub hl [2, 3, 1, 0] rfl) hw h
    · replace h := (if_pos c5).symm.trans h
      refine lv_bipush (v := (-2)) hx hb dX11_tally_24 (by decide) ?_
      exact wretI_W C hw h dX11_tally_26
