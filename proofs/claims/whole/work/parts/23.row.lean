theorem fpX7_9 : FP "LehrBelt$Row" 9 7 0 0 .boolean := ⟨(RX7, TX7, 4), rfl, inX7, by decide, List.mem_of_getElem? (i := 431) (by decide +kernel), rfl, ⟨tyX7, tyX7_ok⟩, nmX7, rfl, by decide +kernel⟩
theorem fpX7_15 : FP "LehrBelt$Row" 15 7 1 0 .int := ⟨(RX7, TX7, 4), rfl, inX7, by decide, List.mem_of_getElem? (i := 433) (by decide +kernel), rfl, ⟨tyX7, tyX7_ok⟩, nmX7, rfl, by decide +kernel⟩
theorem mlX7_26 : ML "LehrBelt$Row" 26 Lib.Math.min.name Lib.Math.min.code 2 (some .int) := ⟨List.mem_of_getElem? (i := 1454) (by decide +kernel), List.mem_of_getElem? (i := 607) (by decide +kernel), List.mem_of_getElem? (i := 120) (by decide +kernel), List.mem_of_getElem? (i := 608) (by decide +kernel)⟩
theorem mlX7_32 : ML "LehrBelt$Row" 32 Lib.Math.max.name Lib.Math.max.code 2 (some .int) := ⟨List.mem_of_getElem? (i := 1201) (by decide +kernel), List.mem_of_getElem? (i := 682) (by decide +kernel), List.mem_of_getElem? (i := 120) (by decide +kernel), List.mem_of_getElem? (i := 683) (by decide +kernel)⟩
theorem fpX7_19 : FP "LehrBelt$Row" 19 7 2 0 .int := ⟨(RX7, TX7, 4), rfl, inX7, by decide, List.mem_of_getElem? (i := 435) (by decide +kernel), rfl, ⟨tyX7, tyX7_ok⟩, nmX7, rfl, by decide +kernel⟩
theorem flX7_22 : FL "LehrBelt$Row" 22 7 3 2 := ⟨(RX7, TX7, 4), rfl, inX7, by decide, List.mem_of_getElem? (i := 436) (by decide +kernel), rfl⟩
theorem slX7_35 : SL "LehrBelt$Row" 35 yJ7_fill_d0a16 bJ7_fill_d0a16 5 (none) 2 := ⟨List.mem_of_getElem? (i := 1455) (by decide +kernel), List.mem_of_getElem? (i := 1456) (by decide +kernel), List.mem_of_getElem? (i := 122) (by decide +kernel), List.mem_of_getElem? (i := 1457) (by decide +kernel), by decide +kernel, by decide +kernel, by decide +kernel⟩
theorem flX7_15 : FL "LehrBelt$Row" 15 7 1 0 := ⟨(RX7, TX7, 4), rfl, inX7, by decide, List.mem_of_getElem? (i := 433) (by decide +kernel), rfl⟩
theorem flX7_19 : FL "LehrBelt$Row" 19 7 2 0 := ⟨(RX7, TX7, 4), rfl, inX7, by decide, List.mem_of_getElem? (i := 435) (by decide +kernel), rfl⟩
theorem vlX7_41 : VL "LehrBelt$Row" 41 yX7_cutToWidth bX7_cutToWidth 3 ((some .long)) 1 := ⟨List.mem_of_getElem? (i := 1466) (by decide +kernel), List.mem_of_getElem? (i := 1468) (by decide +kernel), List.mem_of_getElem? (i := 36) (by decide +kernel), List.mem_of_getElem? (i := 114) (by decide +kernel), List.mem_of_getElem? (i := 1469) (by decide +kernel), by decide +kernel, by decide +kernel, by decide +kernel⟩
theorem flX7_45 : FL "LehrBelt$Row" 45 5 7 0 := ⟨(RX5, TX5, 13), rfl, inX5, by decide, List.mem_of_getElem? (i := 221) (by decide +kernel), rfl⟩
theorem flX7_50 : FL "LehrBelt$Row" 50 5 1 0 := ⟨(RX5, TX5, 13), rfl, inX5, by decide, List.mem_of_getElem? (i := 193) (by decide +kernel), rfl⟩
theorem kcX7_53 : Cond.constantLong "LehrBelt$Row" 53 100000 ∈ lw_tbl := List.mem_of_getElem? (i := 1184) (by decide +kernel)
theorem vlX7_55 : VL "LehrBelt$Row" 55 yX2_skinAt bX2_skinAt 3 ((some .int)) 2 := ⟨List.mem_of_getElem? (i := 1210) (by decide +kernel), List.mem_of_getElem? (i := 860) (by decide +kernel), List.mem_of_getElem? (i := 861) (by decide +kernel), List.mem_of_getElem? (i := 110) (by decide +kernel), List.mem_of_getElem? (i := 862) (by decide +kernel), by decide +kernel, by decide +kernel, by decide +kernel⟩
set_option maxRecDepth 100000 in
set_option maxHeartbeats 4000000 in
theorem c_X7_make {l : Launch} {P : Wp} {E : State → Heap → Prop} (hW : Wok shC P E) {o : Nat} {p1 : Int32} {p2 : Int32} {M : Mem} {M' : Mem} (ho : shC.1[o]? = some (0, 7)) (h : f_X7_make o p1 p2 M = some M') : CT l shC P E yX7_make bX7_make 3 (none) 1 40 [.ref (P.2.2.1 o), .int p1, .int p2] none M M' := by
  refine ct_of hW (by decide) (Nat.le_of_ble_eq_true rfl) (fun p e s m args below meth c C ls hl hw => ?_)
  have hx := C.1
  have hb := C.2.1
  replace hl : lv_has ls 3 [(0, .ref (P.2.2.1 o)), (1, .int p1), (2, .int p2)] := hl
  refine lv_aload_n hx hb dX7_make_0 rfl (lv_at hl 0 rfl) ?_
  refine lv_iconst (v := 1) hx hb dX7_make_1 (by decide) ?_
  refine wputZ C hw fpX7_9 ho rfl rfl dX7_make_2 (fun M1 eM1 H locs hw => ?_)
  replace h := letv_at eM1 h
  refine lv_aload_n hx hb dX7_make_5 rfl (lv_at hl 0 rfl) ?_
  refine lv_iload_n hx hb dX7_make_6 rfl (lv_at hl 1 rfl) ?_
  refine wputI C hw fpX7_15 ho dX7_make_7 (fun M2 eM2 H locs hw => ?_)
  replace h := letv_at eM2 h
  refine lv_aload_n hx hb dX7_make_10 rfl (lv_at hl 0 rfl) ?_
  refine lv_iconst (v := 0) hx hb dX7_make_11 (by decide) ?_
  refine lv_iload_n hx hb dX7_make_12 rfl (lv_at hl 2 rfl) ?_
  refine lv_bipush (v := 60) hx hb dX7_make_13 (by decide) ?_
  refine wmin C mlX7_26 hl.1 (Nat.le_of_ble_eq_true rfl) (Nat.le_of_ble_eq_true rfl) (Nat.zero_le _) (Nat.zero_le _) dX7_make_15 ?_
  refine wmax C mlX7_32 hl.1 (Nat.le_of_ble_eq_true rfl) (Nat.le_of_ble_eq_true rfl) (Nat.zero_le _) (Nat.zero_le _) dX7_make_18 ?_
  refine wputI C hw fpX7_19 ho dX7_make_21 (fun M3 eM3 H locs hw => ?_)
  replace h := letv_at eM3 h
  refine lv_aload_n hx hb dX7_make_24 rfl (lv_at hl 0 rfl) ?_
  refine wgetR (t := (rC o 3)) C hw flX7_22 ho rfl dX7_make_25 ?_
  refine lv_lconst (v := 0) hx hb dX7_make_28 (by decide) ?_
  obtain ⟨M6, e5, h⟩ := bnd_some h
  refine wcallS0 (As := [.ref (P.2.2.1 (rC o 3)), .long 0]) (rest := []) C hw (c_J7_fill_d0a16 hW (refC (k := 3) ho rfl : _ = some (4, 60)) e5) slX7_35 ⟨Nat.le_of_ble_eq_true rfl, Nat.le_of_ble_eq_true rfl⟩ rfl rfl hl.1 (Nat.le_of_ble_eq_true rfl) dX7_make_29 ⟨Nat.zero_le _, Nat.zero_le _⟩ (fun H locs hw => ?_)
  exact wretV_W C hw h dX7_make_32
set_option maxRecDepth 100000 in
set_option maxHeartbeats 4000000 in
theorem c_X7_cutToWidth {l : Launch} {P : Wp} {E : State → Heap → Prop} (hW : Wok shC P E) {o : Nat} {p1 : Int64} {M : Mem} {r : Int64} (ho : shC.1[o]? = some (0, 7)) (h : f_X7_cutToWidth o p1 M = r) : CT l shC P E yX7_cutToWidth bX7_cutToWidth 3 ((some .long)) 0 0 [.ref (P.2.2.1 o), .long p1] (some (.long r)) M M := by
  refine ct_of hW (by decide) (Nat.le_of_ble_eq_true rfl) (fun p e s m args below meth c C ls hl hw => ?_)
  have hx := C.1
  have hb := C.2.1
  replace hl : lv_has ls 3 [(0, .ref (P.2.2.1 o)), (1, .long p1)] := hl
  refine lv_aload_n hx hb dX7_cutToWidth_0 rfl (lv_at hl 0 rfl) ?_
  refine wgetI C hw flX7_15 ho dX7_cutToWidth_1 ?_
  by_cases c1 : (M.1 o 1) = 0
  · replace h := (if_pos c1).symm.trans h
    refine lv_tableIn (off := 28) (tgt := 32) hx hb dX7_cutToWidth_4 (by rw [c1]; decide) (by rw [c1]; decide) (by rw [c1]; decide) (by decide) ?_
    refine lv_lload_n hx hb dX7_cutToWidth_32 rfl (lv_at hl 1 rfl) ?_
    refine lv_l2i hx hb dX7_cutToWidth_33 rfl ?_
    refine lv_i2b hx hb dX7_cutToWidth_34 rfl ?_
    refine lv_i2l hx hb dX7_cutToWidth_35 rfl ?_
    exact wretJ_T C hw h dX7_cutToWidth_36
  · replace h := (if_neg c1).symm.trans h
    by_cases c2 : (M.1 o 1) = 1
    · replace h := (if_pos c2).symm.trans h
      refine lv_tableIn (off := 33) (tgt := 37) hx hb dX7_cutToWidth_4 (by rw [c2]; decide) (by rw [c2]; decide) (by rw [c2]; decide) (by decide) ?_
      refine lv_lload_n hx hb dX7_cutToWidth_37 rfl (lv_at hl 1 rfl) ?_
      refine lv_l2i hx hb dX7_cutToWidth_38 rfl ?_
      refine lv_i2s hx hb dX7_cutToWidth_39 rfl ?_
      refine lv_i2l hx hb dX7_cutToWidth_40 rfl ?_
      exact wretJ_T C hw h dX7_cutToWidth_41
    · replace h := (if_neg c2).symm.trans h
      by_cases c3 : (M.1 o 1) = 2
      · replace h := (if_pos c3).symm.trans h
        refine lv_tableIn (off := 38) (tgt := 42) hx hb dX7_cutToWidth_4 (by rw [c3]; decide) (by rw [c3]; decide) (by rw [c3]; decide) (by decide) ?_
        refine lv_lload_n hx hb dX7_cutToWidth_42 rfl (lv_at hl 1 rfl) ?_
        refine lv_l2i hx hb dX7_cutToWidth_43 rfl ?_
        refine lv_i2l hx hb dX7_cutToWidth_44 rfl ?_
        exact wretJ_T C hw h dX7_cutToWidth_45
      · replace h := (if_neg c3).symm.trans h
        refine lv_tableOut (tgt := 46) hx hb dX7_cutToWidth_4 (by have q0 := lv_neT (a := 0) c1 (by decide); have q1 := lv_neT (a := 1) c2 (by decide); have q2 := lv_neT (a := 2) c3 (by decide); omega) (by decide) ?_
        refine lv_lload_n hx hb dX7_cutToWidth_46 rfl (lv_at hl 1 rfl) ?_
        exact wretJ_T C hw h dX7_cutToWidth_47
set_option maxRecDepth 100000 in
set_option maxHeartbeats 4000000 in
theorem c_X7_put {l : Launch} {P : Wp} {E : State → Heap → Prop} (hW : Wok shC P E) {o : Nat} {p1 : Int32} {p2 : Int64} {M : Mem} {r : Int32} {M' : Mem} (ho : shC.1[o]? = some (0, 7)) (h : f_X7_put o p1 p2 M = some (r, M')) : CT l shC P E yX7_put bX7_put 4 ((some .boolean)) 1 22 [.ref (P.2.2.1 o), .int p1, .long p2] (some (.int r)) M M' := by
  refine ct_of hW (by decide) (Nat.le_of_ble_eq_true rfl) (fun p e s m args below meth c C ls hl hw => ?_)
  have hx := C.1
  have hb := C.2.1
  replace hl : lv_has ls 4 [(0, .ref (P.2.2.1 o)), (1, .int p1), (2, .long p2)] := hl
  refine lv_iload_n hx hb dX7_put_0 rfl (lv_at hl 1 rfl) ?_
  refine lv_if_lt (tgt := 21) hx hb dX7_put_1 (by decide) (fun c1 => ?_) (fun c1 => ?_)
  · replace h := (if_pos c1).symm.trans h
    refine lv_iconst (v := 0) hx hb dX7_put_21 (by decide) ?_
    exact wretZ_W C hw (Or.inl rfl) h dX7_put_22
  · replace h := (if_neg c1).symm.trans h
    refine lv_iload_n hx hb dX7_put_4 rfl (lv_at hl 1 rfl) ?_
    refine lv_aload_n hx hb dX7_put_5 rfl (lv_at hl 0 rfl) ?_
    refine wgetI C hw flX7_19 ho dX7_put_6 ?_
    refine lv_icmp_ge (tgt := 21) hx hb dX7_put_9 (by decide) (fun c2 => ?_) (fun c2 => ?_)
    · replace h := (if_pos c2).symm.trans h
      refine lv_iconst (v := 0) hx hb dX7_put_21 (by decide) ?_
      exact wretZ_W C hw (Or.inl rfl) h dX7_put_22
    · replace h := (if_neg c2).symm.trans h
      refine lv_iload_n hx hb dX7_put_12 rfl (lv_at hl 1 rfl) ?_
      refine lv_aload_n hx hb dX7_put_13 rfl (lv_at hl 0 rfl) ?_
      refine wgetR (t := (rC o 3)) C hw flX7_22 ho rfl dX7_put_14 ?_
      refine walen C hw (refC (k := 3) ho rfl : _ = some (4, 60)) (by decide) (by rfl) dX7_put_17 ?_
      refine lv_icmp_lt (tgt := 23) hx hb dX7_put_18 (by decide) (fun c3 => ?_) (fun c3 => ?_)
      · replace h := (if_pos c3).symm.trans h
        refine lv_aload_n hx hb dX7_put_23 rfl (lv_at hl 0 rfl) ?_
        refine wgetR (t := (rC o 3)) C hw flX7_22 ho rfl dX7_put_24 ?_
        refine lv_iload_n hx hb dX7_put_27 rfl (lv_at hl 1 rfl) ?_
        refine lv_aload_n hx hb dX7_put_28 rfl (lv_at hl 0 rfl) ?_
        refine lv_lload_n hx hb dX7_put_29 rfl (lv_at hl 2 rfl) ?_
        refine wcallV1 (As := [.long p2]) (rest := [.int p1, .ref (P.2.2.1 (rC o 3))]) C hw (c_X7_cutToWidth hW ho rfl) vlX7_41 ⟨Nat.le_of_ble_eq_true rfl, Nat.le_of_ble_eq_true rfl⟩ ho rfl rfl rfl hl.1 (Nat.le_of_ble_eq_true rfl) dX7_put_30 ⟨Nat.zero_le _, Nat.zero_le _⟩ (fun H locs hw => ?_)
        obtain ⟨g5, h⟩ := grd h
        refine wlast C hw (refC (k := 3) ho rfl : _ = some (4, 60)) g5 dX7_put_33 (fun M4 eM4 H locs hw => ?_)
        replace h := letv_at eM4 h
        refine lv_iconst (v := 1) hx hb dX7_put_34 (by decide) ?_
        exact wretZ_W C hw (Or.inr rfl) h dX7_put_35
      · replace h := (if_neg c3).symm.trans h
        refine lv_iconst (v := 0) hx hb dX7_put_21 (by decide) ?_
        exact wretZ_W C hw (Or.inl rfl) h dX7_put_22
theorem z_X7_holds {o : Nat} {p1 : Int32} {p2 : Int32} {M : Mem} : f_X7_holds o p1 p2 M = 0 ∨ f_X7_holds o p1 p2 M = 1 := by
  unfold f_X7_holds
  repeat' split
  all_goals first | exact Or.inl rfl | exact Or.inr rfl
set_option maxRecDepth 100000 in
set_option maxHeartbeats 4000000 in
theorem c_X7_holds {l : Launch} {P : Wp} {E : State → Heap → Prop} (hW : Wok shC P E) {o : Nat} {p1 : Int32} {p2 : Int32} {M : Mem} {r : Int32} (ho : shC.1[o]? = some (0, 7)) (h : f_X7_holds o p1 p2 M = r) : CT l shC P E yX7_holds bX7_holds 3 ((some .boolean)) 0 0 [.ref (P.2.2.1 o), .int p1, .int p2] (some (.int r)) M M := by
  refine ct_of hW (by decide) (Nat.le_of_ble_eq_true rfl) (fun p e s m args below meth c C ls hl hw => ?_)
  have hx := C.1
  have hb := C.2.1
  replace hl : lv_has ls 3 [(0, .ref (P.2.2.1 o)), (1, .int p1), (2, .int p2)] := hl
  refine lv_iload_n hx hb dX7_holds_0 rfl (lv_at hl 1 rfl) ?_
  refine lv_if_lt (tgt := 26) hx hb dX7_holds_1 (by decide) (fun c1 => ?_) (fun c1 => ?_)
  · replace h := (if_pos c1).symm.trans h
    refine lv_iconst (v := 0) hx hb dX7_holds_26 (by decide) ?_
    exact wretZ_T C hw (Or.inl rfl) h dX7_holds_27
  · replace h := (if_neg c1).symm.trans h
    refine lv_iload_n hx hb dX7_holds_4 rfl (lv_at hl 2 rfl) ?_
    refine lv_if_lt (tgt := 26) hx hb dX7_holds_5 (by decide) (fun c2 => ?_) (fun c2 => ?_)
    · replace h := (if_pos c2).symm.trans h
      refine lv_iconst (v := 0) hx hb dX7_holds_26 (by decide) ?_
      exact wretZ_T C hw (Or.inl rfl) h dX7_holds_27
    · replace h := (if_neg c2).symm.trans h
      refine lv_iload_n hx hb dX7_holds_8 rfl (lv_at hl 1 rfl) ?_
      refine lv_i2l hx hb dX7_holds_9 rfl ?_
      refine lv_iload_n hx hb dX7_holds_10 rfl (lv_at hl 2 rfl) ?_
      refine lv_i2l hx hb dX7_holds_11 rfl ?_
      refine lv_ladd hx hb dX7_holds_12 ?_
      refine lv_aload_n hx hb dX7_holds_13 rfl (lv_at hl 0 rfl) ?_
      refine wgetI C hw flX7_19 ho dX7_holds_14 ?_
      refine lv_i2l hx hb dX7_holds_17 rfl ?_
      refine W.lcmp hx hb dX7_holds_18 ?_
      refine lv_if_gt (tgt := 26) hx hb dX7_holds_19 (by decide) (fun c3 => ?_) (fun c3 => ?_)
      · replace h := (if_pos c3).symm.trans h
        refine lv_iconst (v := 0) hx hb dX7_holds_26 (by decide) ?_
        exact wretZ_T C hw (Or.inl rfl) h dX7_holds_27
      · replace h := (if_neg c3).symm.trans h
        refine lv_iconst (v := 1) hx hb dX7_holds_22 (by decide) ?_
        refine lv_goto (tgt := 27) hx hb dX7_holds_23 (by decide) ?_
        exact wretZ_T C hw (Or.inr rfl) h dX7_holds_27
set_option maxRecDepth 100000 in
set_option maxHeartbeats 4000000 in
theorem c_X7_tellsSkins {l : Launch} {P : Wp} {E : State → Heap → Prop} (hW : Wok shC P E) {o : Nat} {p1 : Nat} {M : Mem} {r : Int32} (ho : shC.1[o]? = some (0, 7)) (hp1 : shC.1[p1]? = some (0, 5)) (h : f_X7_tellsSkins o p1 M = some r) : CT l shC P E yX7_tellsSkins bX7_tellsSkins 5 ((some .boolean)) 0 0 [.ref (P.2.2.1 o), .ref (P.2.2.1 p1)] (some (.int r)) M M := by
  refine ct_of hW (by decide) (Nat.le_of_ble_eq_true rfl) (fun p e s m args below meth c C ls hl hw => ?_)
  have hx := C.1
  have hb := C.2.1
  replace hl : lv_has ls 5 [(0, .ref (P.2.2.1 o)), (1, .ref (P.2.2.1 p1))] := hl
  have cut_13 : ∀ (n_13 : Nat) (v2_13 : Int32) (ls : Array Slot) (H : Heap) (locs : List Loc), lv_has ls 5 [(0, .ref (P.2.2.1 o)), (1, .ref (P.2.2.1 p1)), (2, .int v2_13)] → Hw shC P M s H locs → lq1 (L_X7_tellsSkins_13 o p1 M) n_13 v2_13 = some r → W p l e { frames := 0, cells := 0, slots := 0, locals := 0 } s m args below meth c H locs 0 0 (MQ below (CQ shC P E (some (.int r)) M) args s 0 0 (wA shC P)) (F0 m 13 ls []) := by
    intro n_13
    induction n_13 with
    | zero => intro v2_13 ls H locs hl hw h; cases h
    | succ n_13 ih_13 =>
      intro v2_13 ls H locs hl hw h
      replace h := lq1_succ h
      refine lv_iload_n hx hb dX7_tellsSkins_13 rfl (lv_at hl 2 rfl) ?_
      refine lv_iconst (v := 2) hx hb dX7_tellsSkins_14 (by decide) ?_
      refine lv_iadd hx hb dX7_tellsSkins_15 ?_
      refine lv_aload_n hx hb dX7_tellsSkins_16 rfl (lv_at hl 0 rfl) ?_
      refine wgetI C hw flX7_19 ho dX7_tellsSkins_17 ?_
      refine lv_icmp_ge (tgt := 110) hx hb dX7_tellsSkins_20 (by decide) (fun c2 => ?_) (fun c2 => ?_)
      · replace h := (if_pos c2).symm.trans h
        refine lv_iconst (v := 1) hx hb dX7_tellsSkins_110 (by decide) ?_
        exact wretZ_R C hw (Or.inr rfl) h dX7_tellsSkins_111
      · replace h := (if_neg c2).symm.trans h
        refine lv_aload_n hx hb dX7_tellsSkins_23 rfl (lv_at hl 0 rfl) ?_
        refine wgetR (t := (rC o 3)) C hw flX7_22 ho rfl dX7_tellsSkins_24 ?_
        refine lv_iload_n hx hb dX7_tellsSkins_27 rfl (lv_at hl 2 rfl) ?_
        refine lv_iconst (v := 2) hx hb dX7_tellsSkins_28 (by decide) ?_
        refine lv_iadd hx hb dX7_tellsSkins_29 ?_
        obtain ⟨g3, h⟩ := grd h
        refine wlald C hw (refC (k := 3) ho rfl : _ = some (4, 60)) g3 dX7_tellsSkins_30 ?_
        refine lv_topl (fun x4 ex4 => ?_)
        replace h := letv_at ex4 h
        refine lv_lstore_n (lv' := [(3, .long x4), (0, .ref (P.2.2.1 o)), (1, .ref (P.2.2.1 p1)), (2, .int v2_13)]) hx hb dX7_tellsSkins_31 rfl hl (by decide) rfl (fun ls hl => ?_)
        refine lv_aload_n hx hb dX7_tellsSkins_32 rfl (lv_at hl 1 rfl) ?_
        refine wgetR (t := (rC o 3)) C hw flX7_22 ho rfl dX7_tellsSkins_33 ?_
        refine lv_iload_n hx hb dX7_tellsSkins_36 rfl (lv_at hl 3 rfl) ?_
        obtain ⟨g5, h⟩ := grd h
        refine wlald C hw (refC (k := 3) ho rfl : _ = some (4, 60)) g5 dX7_tellsSkins_37 ?_
        refine lv_lconst (v := 0) hx hb dX7_tellsSkins_38 (by decide) ?_
        refine W.lcmp hx hb dX7_tellsSkins_39 ?_
        refine lv_if_lt (tgt := 102) hx hb dX7_tellsSkins_40 (by decide) (fun c6 => ?_) (fun c6 => ?_)
        · replace h := (if_pos c6).symm.trans h
          refine lv_iconst (v := 0) hx hb dX7_tellsSkins_102 (by decide) ?_
          exact wretZ_R C hw (Or.inl rfl) h dX7_tellsSkins_103
        · replace h := (if_neg c6).symm.trans h
          refine lv_aload_n hx hb dX7_tellsSkins_43 rfl (lv_at hl 1 rfl) ?_
          refine wgetR (t := (rC o 3)) C hw flX7_22 ho rfl dX7_tellsSkins_44 ?_
          refine lv_iload_n hx hb dX7_tellsSkins_47 rfl (lv_at hl 3 rfl) ?_
          obtain ⟨g7, h⟩ := grd h
          refine wlald C hw (refC (k := 3) ho rfl : _ = some (4, 60)) g7 dX7_tellsSkins_48 ?_
          refine lv_aload_n hx hb dX7_tellsSkins_49 rfl (lv_at hl 2 rfl) ?_
          refine wgetI C hw flX7_45 hp1 dX7_tellsSkins_50 ?_
          refine lv_i2l hx hb dX7_tellsSkins_53 rfl ?_
          refine W.lcmp hx hb dX7_tellsSkins_54 ?_
          refine lv_if_ge (tgt := 102) hx hb dX7_tellsSkins_55 (by decide) (fun c8 => ?_) (fun c8 => ?_)
          · replace h := (if_pos c8).symm.trans h
            refine lv_iconst (v := 0) hx hb dX7_tellsSkins_102 (by decide) ?_
            exact wretZ_R C hw (Or.inl rfl) h dX7_tellsSkins_103
          · replace h := (if_neg c8).symm.trans h
            refine lv_aload_n hx hb dX7_tellsSkins_58 rfl (lv_at hl 1 rfl) ?_
            refine wgetR (t := (rC o 3)) C hw flX7_22 ho rfl dX7_tellsSkins_59 ?_
            refine lv_iload_n hx hb dX7_tellsSkins_62 rfl (lv_at hl 3 rfl) ?_
            refine lv_iconst (v := 1) hx hb dX7_tellsSkins_63 (by decide) ?_
            refine lv_iadd hx hb dX7_tellsSkins_64 ?_
            obtain ⟨g9, h⟩ := grd h
            refine wlald C hw (refC (k := 3) ho rfl : _ = some (4, 60)) g9 dX7_tellsSkins_65 ?_
            refine lv_lconst (v := 0) hx hb dX7_tellsSkins_66 (by decide) ?_
            refine W.lcmp hx hb dX7_tellsSkins_67 ?_
            refine lv_if_lt (tgt := 102) hx hb dX7_tellsSkins_68 (by decide) (fun c10 => ?_) (fun c10 => ?_)
            · replace h := (if_pos c10).symm.trans h
              refine lv_iconst (v := 0) hx hb dX7_tellsSkins_102 (by decide) ?_
              exact wretZ_R C hw (Or.inl rfl) h dX7_tellsSkins_103
            · replace h := (if_neg c10).symm.trans h
              refine lv_aload_n hx hb dX7_tellsSkins_71 rfl (lv_at hl 1 rfl) ?_
              refine wgetR (t := (rC o 3)) C hw flX7_22 ho rfl dX7_tellsSkins_72 ?_
              refine lv_iload_n hx hb dX7_tellsSkins_75 rfl (lv_at hl 3 rfl) ?_
              refine lv_iconst (v := 1) hx hb dX7_tellsSkins_76 (by decide) ?_
              refine lv_iadd hx hb dX7_tellsSkins_77 ?_
              obtain ⟨g11, h⟩ := grd h
              refine wlald C hw (refC (k := 3) ho rfl : _ = some (4, 60)) g11 dX7_tellsSkins_78 ?_
              refine lv_aload_n hx hb dX7_tellsSkins_79 rfl (lv_at hl 2 rfl) ?_
              refine wgetI C hw flX7_50 hp1 dX7_tellsSkins_80 ?_
              refine lv_i2l hx hb dX7_tellsSkins_83 rfl ?_
              refine W.lcmp hx hb dX7_tellsSkins_84 ?_
              refine lv_if_gt (tgt := 102) hx hb dX7_tellsSkins_85 (by decide) (fun c12 => ?_) (fun c12 => ?_)
              · replace h := (if_pos c12).symm.trans h
                refine lv_iconst (v := 0) hx hb dX7_tellsSkins_102 (by decide) ?_
                exact wretZ_R C hw (Or.inl rfl) h dX7_tellsSkins_103
              · replace h := (if_neg c12).symm.trans h
                refine lv_lload_n hx hb dX7_tellsSkins_88 rfl (lv_at hl 0 rfl) ?_
                refine lv_lconst (v := 0) hx hb dX7_tellsSkins_89 (by decide) ?_
                refine W.lcmp hx hb dX7_tellsSkins_90 ?_
                refine lv_if_lt (tgt := 102) hx hb dX7_tellsSkins_91 (by decide) (fun c13 => ?_) (fun c13 => ?_)
                · replace h := (if_pos c13).symm.trans h
                  refine lv_iconst (v := 0) hx hb dX7_tellsSkins_102 (by decide) ?_
                  exact wretZ_R C hw (Or.inl rfl) h dX7_tellsSkins_103
                · replace h := (if_neg c13).symm.trans h
                  refine lv_lload_n hx hb dX7_tellsSkins_94 rfl (lv_at hl 0 rfl) ?_
                  refine lv_ldc2 hx hb C.2.2.2.1 (C.2.2.2.2.1 _ (List.mem_cons_of_mem _ (gm kcX7_53 rfl))) dX7_tellsSkins_95 ?_
                  refine W.lcmp hx hb dX7_tellsSkins_98 ?_
                  refine lv_if_le (tgt := 104) hx hb dX7_tellsSkins_99 (by decide) (fun c14 => ?_) (fun c14 => ?_)
                  · replace h := (if_pos c14).symm.trans h
                    refine lv_iinc (v := (v2_13 + 3)) (lv' := [(2, .int (v2_13 + 3)), (3, .long x4), (0, .ref (P.2.2.1 o)), (1, .ref (P.2.2.1 p1))]) (k := 3) hx hb dX7_tellsSkins_104 hl rfl (congrArg (fun z => v2_13 + z) (by decide)) (by decide) rfl (fun ls hl => ?_)
                    refine lv_goto (tgt := 13) hx hb dX7_tellsSkins_107 (by decide) ?_
                    exact ih_13 (v2_13 + 3) ls _ _ (lv_sub hl [2, 3, 0] rfl) hw h
                  · replace h := (if_neg c14).symm.trans h
                    refine lv_iconst (v := 0) hx hb dX7_tellsSkins_102 (by decide) ?_
                    exact wretZ_R C hw (Or.inl rfl) h dX7_tellsSkins_103
  refine lv_aload_n hx hb dX7_tellsSkins_0 rfl (lv_at hl 0 rfl) ?_
  refine wgetI C hw flX7_19 ho dX7_tellsSkins_1 ?_
  refine lv_iconst (v := 3) hx hb dX7_tellsSkins_4 (by decide) ?_
  refine lv_irem hx hb dX7_tellsSkins_5 (by decide) ?_
  refine lv_if_eq (tgt := 11) hx hb dX7_tellsSkins_6 (by decide) (fun c1 => ?_) (fun c1 => ?_)
  · replace h := (if_pos c1).symm.trans h
    refine lv_iconst (v := 0) hx hb dX7_tellsSkins_11 (by decide) ?_
    refine lv_istore_n (lv' := [(2, .int 0), (0, .ref (P.2.2.1 o)), (1, .ref (P.2.2.1 p1))]) hx hb dX7_tellsSkins_12 rfl hl (by decide) rfl (fun ls hl => ?_)
    exact cut_13 FU 0 ls _ _ (lv_sub hl [1, 2, 0] rfl) hw h
  · replace h := (if_neg c1).symm.trans h
    refine lv_iconst (v := 0) hx hb dX7_tellsSkins_9 (by decide) ?_
    exact wretZ_R C hw (Or.inl rfl) h dX7_tellsSkins_10
set_option maxRecDepth 100000 in
set_option maxHeartbeats 4000000 in
theorem c_X7_piecesTold {l : Launch} {P : Wp} {E : State → Heap → Prop} (hW : Wok shC P E) {o : Nat} {M : Mem} {r : Int32} (ho : shC.1[o]? = some (0, 7)) (h : f_X7_piecesTold o M = some r) : CT l shC P E yX7_piecesTold bX7_piecesTold 3 ((some .int)) 0 0 [.ref (P.2.2.1 o)] (some (.int r)) M M := by
  refine ct_of hW (by decide) (Nat.le_of_ble_eq_true rfl) (fun p e s m args below meth c C ls hl hw => ?_)
  have hx := C.1
  have hb := C.2.1
  replace hl : lv_has ls 3 [(0, .ref (P.2.2.1 o))] := hl
  have cut_4 : ∀ (n_4 : Nat) (v1_4 : Int32) (v2_4 : Int32) (ls : Array Slot) (H : Heap) (locs : List Loc), lv_has ls 3 [(0, .ref (P.2.2.1 o)), (1, .int v1_4), (2, .int v2_4)] → Hw shC P M s H locs → lq2 (L_X7_piecesTold_4 o M) n_4 v1_4 v2_4 = some r → W p l e { frames := 0, cells := 0, slots := 0, locals := 0 } s m args below meth c H locs 0 0 (MQ below (CQ shC P E (some (.int r)) M) args s 0 0 (wA shC P)) (F0 m 4 ls []) := by
    intro n_4
    induction n_4 with
    | zero => intro v1_4 v2_4 ls H locs hl hw h; cases h
    | succ n_4 ih_4 =>
      intro v1_4 v2_4 ls H locs hl hw h
      replace h := lq2_succ h
      refine lv_iload_n hx hb dX7_piecesTold_4 rfl (lv_at hl 2 rfl) ?_
      refine lv_iconst (v := 2) hx hb dX7_piecesTold_5 (by decide) ?_
      refine lv_iadd hx hb dX7_piecesTold_6 ?_
      refine lv_aload_n hx hb dX7_piecesTold_7 rfl (lv_at hl 0 rfl) ?_
      refine wgetI C hw flX7_19 ho dX7_piecesTold_8 ?_
      refine lv_icmp_ge (tgt := 32) hx hb dX7_piecesTold_11 (by decide) (fun c1 => ?_) (fun c1 => ?_)
      · replace h := (if_pos c1).symm.trans h
        refine lv_iload_n hx hb dX7_piecesTold_32 rfl (lv_at hl 1 rfl) ?_
        exact wretI_R C hw h dX7_piecesTold_33
      · replace h := (if_neg c1).symm.trans h
        refine lv_iload_n hx hb dX7_piecesTold_14 rfl (lv_at hl 1 rfl) ?_
        refine lv_iconst (v := 1) hx hb dX7_piecesTold_15 (by decide) ?_
        refine lv_aload_n hx hb dX7_piecesTold_16 rfl (lv_at hl 0 rfl) ?_
        refine wgetR (t := (rC o 3)) C hw flX7_22 ho rfl dX7_piecesTold_17 ?_
        refine lv_iload_n hx hb dX7_piecesTold_20 rfl (lv_at hl 2 rfl) ?_
        obtain ⟨g2, h⟩ := grd h
        refine wlald C hw (refC (k := 3) ho rfl : _ = some (4, 60)) g2 dX7_piecesTold_21 ?_
        refine lv_l2i hx hb dX7_piecesTold_22 rfl ?_
        refine lv_ishl hx hb dX7_piecesTold_23 ?_
        refine lv_ior hx hb dX7_piecesTold_24 ?_
        refine lv_topi (fun x3 ex3 => ?_)
        replace h := letv_at ex3 h
        refine lv_istore_n (lv' := [(1, .int x3), (0, .ref (P.2.2.1 o)), (2, .int v2_4)]) hx hb dX7_piecesTold_25 rfl hl (by decide) rfl (fun ls hl => ?_)
        refine lv_iinc (v := (v2_4 + 3)) (lv' := [(2, .int (v2_4 + 3)), (1, .int x3), (0, .ref (P.2.2.1 o))]) (k := 2) hx hb dX7_piecesTold_26 hl rfl (congrArg (fun z => v2_4 + z) (by decide)) (by decide) rfl (fun ls hl => ?_)
        refine lv_goto (tgt := 4) hx hb dX7_piecesTold_29 (by decide) ?_
        exact ih_4 x3 (v2_4 + 3) ls _ _ (lv_sub hl [2, 1, 0] rfl) hw h
  refine lv_iconst (v := 0) hx hb dX7_piecesTold_0 (by decide) ?_
  refine lv_istore_n (lv' := [(1, .int 0), (0, .ref (P.2.2.1 o))]) hx hb dX7_piecesTold_1 rfl hl (by decide) rfl (fun ls hl => ?_)
  refine lv_iconst (v := 0) hx hb dX7_piecesTold_2 (by decide) ?_
  refine lv_istore_n (lv' := [(2, .int 0), (1, .int 0), (0, .ref (P.2.2.1 o))]) hx hb dX7_piecesTold_3 rfl hl (by decide) rfl (fun ls hl => ?_)
  exact cut_4 FU 0 0 ls _ _ (lv_sub hl [2, 1, 0] rfl) hw h
set_option maxRecDepth 100000 in
set_option maxHeartbeats 4000000 in
theorem c_X7_lastStepTold {l : Launch} {P : Wp} {E : State → Heap → Prop} (hW : Wok shC P E) {o : Nat} {M : Mem} {r : Int32} (ho : shC.1[o]? = some (0, 7)) (h : f_X7_lastStepTold o M = some r) : CT l shC P E yX7_lastStepTold bX7_lastStepTold 3 ((some .int)) 1 40 [.ref (P.2.2.1 o)] (some (.int r)) M M := by
  refine ct_of hW (by decide) (Nat.le_of_ble_eq_true rfl) (fun p e s m args below meth c C ls hl hw => ?_)
  have hx := C.1
  have hb := C.2.1
  replace hl : lv_has ls 3 [(0, .ref (P.2.2.1 o))] := hl
  have cut_4 : ∀ (n_4 : Nat) (v1_4 : Int32) (v2_4 : Int32) (ls : Array Slot) (H : Heap) (locs : List Loc), lv_has ls 3 [(0, .ref (P.2.2.1 o)), (1, .int v1_4), (2, .int v2_4)] → Hw shC P M s H locs → lq2 (L_X7_lastStepTold_4 o M) n_4 v1_4 v2_4 = some r → W p l e { frames := 1, cells := 0, slots := 0, locals := 40 } s m args below meth c H locs 0 0 (MQ below (CQ shC P E (some (.int r)) M) args s 0 0 (wA shC P)) (F0 m 4 ls []) := by
    intro n_4
    induction n_4 with
    | zero => intro v1_4 v2_4 ls H locs hl hw h; cases h
    | succ n_4 ih_4 =>
      intro v1_4 v2_4 ls H locs hl hw h
      replace h := lq2_succ h
      refine lv_iload_n hx hb dX7_lastStepTold_4 rfl (lv_at hl 2 rfl) ?_
      refine lv_iconst (v := 2) hx hb dX7_lastStepTold_5 (by decide) ?_
      refine lv_iadd hx hb dX7_lastStepTold_6 ?_
      refine lv_aload_n hx hb dX7_lastStepTold_7 rfl (lv_at hl 0 rfl) ?_
      refine wgetI C hw flX7_19 ho dX7_lastStepTold_8 ?_
      refine lv_icmp_ge (tgt := 34) hx hb dX7_lastStepTold_11 (by decide) (fun c1 => ?_) (fun c1 => ?_)
      · replace h := (if_pos c1).symm.trans h
        refine lv_iload_n hx hb dX7_lastStepTold_34 rfl (lv_at hl 1 rfl) ?_
        exact wretI_R C hw h dX7_lastStepTold_35
      · replace h := (if_neg c1).symm.trans h
        refine lv_iload_n hx hb dX7_lastStepTold_14 rfl (lv_at hl 1 rfl) ?_
        refine lv_aload_n hx hb dX7_lastStepTold_15 rfl (lv_at hl 0 rfl) ?_
        refine wgetR (t := (rC o 3)) C hw flX7_22 ho rfl dX7_lastStepTold_16 ?_
        refine lv_iload_n hx hb dX7_lastStepTold_19 rfl (lv_at hl 2 rfl) ?_
        refine lv_iconst (v := 1) hx hb dX7_lastStepTold_20 (by decide) ?_
        refine lv_iadd hx hb dX7_lastStepTold_21 ?_
        obtain ⟨g2, h⟩ := grd h
        refine wlald C hw (refC (k := 3) ho rfl : _ = some (4, 60)) g2 dX7_lastStepTold_22 ?_
        refine lv_l2i hx hb dX7_lastStepTold_23 rfl ?_
        refine wmax C mlX7_32 hl.1 (Nat.le_of_ble_eq_true rfl) (Nat.le_of_ble_eq_true rfl) (Nat.zero_le _) (Nat.zero_le _) dX7_lastStepTold_24 ?_
        refine lv_topi (fun x3 ex3 => ?_)
        replace h := letv_at ex3 h
        refine lv_istore_n (lv' := [(1, .int x3), (0, .ref (P.2.2.1 o)), (2, .int v2_4)]) hx hb dX7_lastStepTold_27 rfl hl (by decide) rfl (fun ls hl => ?_)
        refine lv_iinc (v := (v2_4 + 3)) (lv' := [(2, .int (v2_4 + 3)), (1, .int x3), (0, .ref (P.2.2.1 o))]) (k := 2) hx hb dX7_lastStepTold_28 hl rfl (congrArg (fun z => v2_4 + z) (by decide)) (by decide) rfl (fun ls hl => ?_)
        refine lv_goto (tgt := 4) hx hb dX7_lastStepTold_31 (by decide) ?_
        exact ih_4 x3 (v2_4 + 3) ls _ _ (lv_sub hl [2, 1, 0] rfl) hw h
  refine lv_iconst (v := 0) hx hb dX7_lastStepTold_0 (by decide) ?_
  refine lv_istore_n (lv' := [(1, .int 0), (0, .ref (P.2.2.1 o))]) hx hb dX7_lastStepTold_1 rfl hl (by decide) rfl (fun ls hl => ?_)
  refine lv_iconst (v := 0) hx hb dX7_lastStepTold_2 (by decide) ?_
  refine lv_istore_n (lv' := [(2, .int 0), (1, .int 0), (0, .ref (P.2.2.1 o))]) hx hb dX7_lastStepTold_3 rfl hl (by decide) rfl (fun ls hl => ?_)
  exact cut_4 FU 0 0 ls _ _ (lv_sub hl [2, 1, 0] rfl) hw h
set_option maxRecDepth 100000 in
set_option maxHeartbeats 4000000 in
theorem c_X7_agreesWith {l : Launch} {P : Wp} {E : State → Heap → Prop} (hW : Wok shC P E) {o : Nat} {p1 : Nat} {M : Mem} {r : Int32} (ho : shC.1[o]? = some (0, 7)) (hp1 : shC.1[p1]? = some (0, 2)) (h : f_X7_agreesWith o p1 M = some r) : CT l shC P E yX7_agreesWith bX7_agreesWith 3 ((some .boolean)) 3 86 [.ref (P.2.2.1 o), .ref (P.2.2.1 p1)] (some (.int r)) M M := by
  refine ct_of hW (by decide) (Nat.le_of_ble_eq_true rfl) (fun p e s m args below meth c C ls hl hw => ?_)
  have hx := C.1
  have hb := C.2.1
  replace hl : lv_has ls 3 [(0, .ref (P.2.2.1 o)), (1, .ref (P.2.2.1 p1))] := hl
  have cut_2 : ∀ (n_2 : Nat) (v2_2 : Int32) (ls : Array Slot) (H : Heap) (locs : List Loc), lv_has ls 3 [(0, .ref (P.2.2.1 o)), (1, .ref (P.2.2.1 p1)), (2, .int v2_2)] → Hw shC P M s H locs → lq1 (L_X7_agreesWith_2 o p1 M) n_2 v2_2 = some r → W p l e { frames := 3, cells := 0, slots := 0, locals := 86 } s m args below meth c H locs 0 0 (MQ below (CQ shC P E (some (.int r)) M) args s 0 0 (wA shC P)) (F0 m 2 ls []) := by
    intro n_2
    induction n_2 with
    | zero => intro v2_2 ls H locs hl hw h; cases h
    | succ n_2 ih_2 =>
      intro v2_2 ls H locs hl hw h
      replace h := lq1_succ h
      refine lv_iload_n hx hb dX7_agreesWith_2 rfl (lv_at hl 2 rfl) ?_
      refine lv_iconst (v := 2) hx hb dX7_agreesWith_3 (by decide) ?_
      refine lv_iadd hx hb dX7_agreesWith_4 ?_
      refine lv_aload_n hx hb dX7_agreesWith_5 rfl (lv_at hl 0 rfl) ?_
      refine wgetI C hw flX7_19 ho dX7_agreesWith_6 ?_
      refine lv_icmp_ge (tgt := 53) hx hb dX7_agreesWith_9 (by decide) (fun c1 => ?_) (fun c1 => ?_)
      · replace h := (if_pos c1).symm.trans h
        refine lv_iconst (v := 1) hx hb dX7_agreesWith_53 (by decide) ?_
        exact wretZ_R C hw (Or.inr rfl) h dX7_agreesWith_54
      · replace h := (if_neg c1).symm.trans h
        refine lv_aload_n hx hb dX7_agreesWith_12 rfl (lv_at hl 1 rfl) ?_
        refine lv_aload_n hx hb dX7_agreesWith_13 rfl (lv_at hl 0 rfl) ?_
        refine wgetR (t := (rC o 3)) C hw flX7_22 ho rfl dX7_agreesWith_14 ?_
        refine lv_iload_n hx hb dX7_agreesWith_17 rfl (lv_at hl 2 rfl) ?_
        obtain ⟨g2, h⟩ := grd h
        refine wlald C hw (refC (k := 3) ho rfl : _ = some (4, 60)) g2 dX7_agreesWith_18 ?_
        refine lv_l2i hx hb dX7_agreesWith_19 rfl ?_
        refine lv_aload_n hx hb dX7_agreesWith_20 rfl (lv_at hl 0 rfl) ?_
        refine wgetR (t := (rC o 3)) C hw flX7_22 ho rfl dX7_agreesWith_21 ?_
        refine lv_iload_n hx hb dX7_agreesWith_24 rfl (lv_at hl 2 rfl) ?_
        refine lv_iconst (v := 1) hx hb dX7_agreesWith_25 (by decide) ?_
        refine lv_iadd hx hb dX7_agreesWith_26 ?_
        obtain ⟨g3, h⟩ := grd h
        refine wlald C hw (refC (k := 3) ho rfl : _ = some (4, 60)) g3 dX7_agreesWith_27 ?_
        refine lv_l2i hx hb dX7_agreesWith_28 rfl ?_
        obtain ⟨r4, e5, h⟩ := bnd_some h
        refine wcallV1 (As := [.int (((M.2 (rC o 3) (ix v2_2)) : Int64).toInt32), .int (((M.2 (rC o 3) (ix (v2_2 + (1 : Int32)))) : Int64).toInt32)]) (rest := []) C hw (c_X2_skinAt hW hp1 e5) vlX7_55 ⟨Nat.le_of_ble_eq_true rfl, Nat.le_of_ble_eq_true rfl⟩ hp1 rfl rfl rfl hl.1 (Nat.le_of_ble_eq_true rfl) dX7_agreesWith_29 ⟨Nat.zero_le _, Nat.zero_le _⟩ (fun H locs hw => ?_)
        refine lv_i2l hx hb dX7_agreesWith_32 rfl ?_
        refine lv_aload_n hx hb dX7_agreesWith_33 rfl (lv_at hl 0 rfl) ?_
        refine wgetR (t := (rC o 3)) C hw flX7_22 ho rfl dX7_agreesWith_34 ?_
        refine lv_iload_n hx hb dX7_agreesWith_37 rfl (lv_at hl 2 rfl) ?_
        refine lv_iconst (v := 2) hx hb dX7_agreesWith_38 (by decide) ?_
        refine lv_iadd hx hb dX7_agreesWith_39 ?_
        obtain ⟨g6, h⟩ := grd h
        refine wlald C hw (refC (k := 3) ho rfl : _ = some (4, 60)) g6 dX7_agreesWith_40 ?_
        refine W.lcmp hx hb dX7_agreesWith_41 ?_
        refine lv_if_eq (tgt := 47) hx hb dX7_agreesWith_42 (by decide) (fun c7 => ?_) (fun c7 => ?_)
        · replace h := (if_pos c7).symm.trans h
          refine lv_iinc (v := (v2_2 + 3)) (lv' := [(2, .int (v2_2 + 3)), (0, .ref (P.2.2.1 o)), (1, .ref (P.2.2.1 p1))]) (k := 2) hx hb dX7_agreesWith_47 hl rfl (congrArg (fun z => v2_2 + z) (by decide)) (by decide) rfl (fun ls hl => ?_)
          refine lv_goto (tgt := 2) hx hb dX7_agreesWith_50 (by decide) ?_
          exact ih_2 (v2_2 + 3) ls _ _ (lv_sub hl [1, 2, 0] rfl) hw h
        · replace h := (if_neg c7).symm.trans h
          refine lv_iconst (v := 0) hx hb dX7_agreesWith_45 (by decide) ?_
          exact wretZ_R C hw (Or.inl rfl) h dX7_agreesWith_46
  refine lv_iconst (v := 0) hx hb dX7_agreesWith_0 (by decide) ?_
  refine lv_istore_n (lv' := [(2, .int 0), (0, .ref (P.2.2.1 o)), (1, .ref (P.2.2.1 p1))]) hx hb dX7_agreesWith_1 rfl hl (by decide) rfl (fun ls hl => ?_)
  exact cut_2 FU 0 ls _ _ (lv_sub hl [1, 2, 0] rfl) hw h
theorem zl_X7_agreesWith {o p1 : Nat} {M : Mem} : ∀ (n : Nat) (v : Int32) {r : Int32}, lq1 (L_X7_agreesWith_2 o p1 M) n v = some r → r = 0 ∨ r = 1 := by
  intro n
  induction n with
  | zero => intro v r h; cases h
  | succ n ih =>
    intro v r h
    replace h := lq1_succ h
    unfold L_X7_agreesWith_2 at h
    split at h
    · cases h; exact Or.inr rfl
    · obtain ⟨-, h⟩ := grd h
      obtain ⟨-, h⟩ := grd h
      obtain ⟨r4, -, h⟩ := bnd_some h
      obtain ⟨-, h⟩ := grd h
      split at h
      · exact ih _ h
      · cases h; exact Or.inl rfl
theorem z_X7_agreesWith {o p1 : Nat} {M : Mem} {r : Int32} (h : f_X7_agreesWith o p1 M = some r) : r = 0 ∨ r = 1 := zl_X7_agreesWith FU 0 h
