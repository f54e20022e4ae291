theorem flX4_24 : FL "LehrBelt$Odds" 24 4 0 2 := ⟨(RX4, TX4, 3), rfl, inX4, by decide, List.mem_of_getElem? (i := 416) (by decide +kernel), rfl⟩
theorem flX4_63 : FL "LehrBelt$Odds" 63 5 3 0 := ⟨(RX5, TX5, 13), rfl, inX5, by decide, List.mem_of_getElem? (i := 202) (by decide +kernel), rfl⟩
theorem mlX4_36 : ML "LehrBelt$Odds" 36 Lib.Math.min.name Lib.Math.min.code 2 (some .int) := ⟨List.mem_of_getElem? (i := 1337) (by decide +kernel), List.mem_of_getElem? (i := 607) (by decide +kernel), List.mem_of_getElem? (i := 120) (by decide +kernel), List.mem_of_getElem? (i := 608) (by decide +kernel)⟩
theorem flX4_12 : FL "LehrBelt$Odds" 12 4 2 2 := ⟨(RX4, TX4, 3), rfl, inX4, by decide, List.mem_of_getElem? (i := 418) (by decide +kernel), rfl⟩
theorem vlX4_59 : VL "LehrBelt$Odds" 59 yX3_put bX3_put 7 (none) 2 := ⟨List.mem_of_getElem? (i := 1345) (by decide +kernel), List.mem_of_getElem? (i := 1290) (by decide +kernel), List.mem_of_getElem? (i := 1291) (by decide +kernel), List.mem_of_getElem? (i := 112) (by decide +kernel), List.mem_of_getElem? (i := 1292) (by decide +kernel), by decide +kernel, by decide +kernel, by decide +kernel⟩
theorem vlX4_42 : VL "LehrBelt$Odds" 42 yX4_weightOf bX4_weightOf 7 ((some .long)) 2 := ⟨List.mem_of_getElem? (i := 1338) (by decide +kernel), List.mem_of_getElem? (i := 1340) (by decide +kernel), List.mem_of_getElem? (i := 30) (by decide +kernel), List.mem_of_getElem? (i := 113) (by decide +kernel), List.mem_of_getElem? (i := 1341) (by decide +kernel), by decide +kernel, by decide +kernel, by decide +kernel⟩
theorem flX4_30 : FL "LehrBelt$Odds" 30 4 1 2 := ⟨(RX4, TX4, 3), rfl, inX4, by decide, List.mem_of_getElem? (i := 417) (by decide +kernel), rfl⟩
theorem vlX4_46 : VL "LehrBelt$Odds" 46 yX2_follow bX2_follow 8 (none) 3 := ⟨List.mem_of_getElem? (i := 1342) (by decide +kernel), List.mem_of_getElem? (i := 727) (by decide +kernel), List.mem_of_getElem? (i := 728) (by decide +kernel), List.mem_of_getElem? (i := 110) (by decide +kernel), List.mem_of_getElem? (i := 729) (by decide +kernel), by decide +kernel, by decide +kernel, by decide +kernel⟩
theorem vlX4_50 : VL "LehrBelt$Odds" 50 yX2_uncrackedAt bX2_uncrackedAt 4 ((some .int)) 1 := ⟨List.mem_of_getElem? (i := 1343) (by decide +kernel), List.mem_of_getElem? (i := 821) (by decide +kernel), List.mem_of_getElem? (i := 822) (by decide +kernel), List.mem_of_getElem? (i := 110) (by decide +kernel), List.mem_of_getElem? (i := 823) (by decide +kernel), by decide +kernel, by decide +kernel, by decide +kernel⟩
theorem slX4_54 : SL "LehrBelt$Odds" 54 yJ6_bitCount_0f7a4 bJ6_bitCount_0f7a4 1 ((some .int)) 1 := ⟨List.mem_of_getElem? (i := 1344) (by decide +kernel), List.mem_of_getElem? (i := 876) (by decide +kernel), List.mem_of_getElem? (i := 123) (by decide +kernel), List.mem_of_getElem? (i := 877) (by decide +kernel), by decide +kernel, by decide +kernel, by decide +kernel⟩
theorem kcX4_34 : Cond.constantLong "LehrBelt$Odds" 34 10 ∈ lw_tbl := List.mem_of_getElem? (i := 1336) (by decide +kernel)
theorem flX4_69 : FL "LehrBelt$Odds" 69 5 1 0 := ⟨(RX5, TX5, 13), rfl, inX5, by decide, List.mem_of_getElem? (i := 191) (by decide +kernel), rfl⟩
theorem kcX4_72 : Cond.constantLong "LehrBelt$Odds" 72 1103515245 ∈ lw_tbl := List.mem_of_getElem? (i := 1404) (by decide +kernel)
theorem kcX4_74 : Cond.constantLong "LehrBelt$Odds" 74 12345 ∈ lw_tbl := List.mem_of_getElem? (i := 1405) (by decide +kernel)
theorem kcX4_76 : Cond.constantLong "LehrBelt$Odds" 76 2147483648 ∈ lw_tbl := List.mem_of_getElem? (i := 1406) (by decide +kernel)
theorem kcX4_78 : Cond.constantLong "LehrBelt$Odds" 78 65536 ∈ lw_tbl := List.mem_of_getElem? (i := 1407) (by decide +kernel)
theorem vlX4_80 : VL "LehrBelt$Odds" 80 yX4_draughtsFrom bX4_draughtsFrom 7 ((some .int)) 1 := ⟨List.mem_of_getElem? (i := 1412) (by decide +kernel), List.mem_of_getElem? (i := 1401) (by decide +kernel), List.mem_of_getElem? (i := 1402) (by decide +kernel), List.mem_of_getElem? (i := 113) (by decide +kernel), List.mem_of_getElem? (i := 1403) (by decide +kernel), by decide +kernel, by decide +kernel, by decide +kernel⟩
theorem vlX4_84 : VL "LehrBelt$Odds" 84 yX2_neverCracked bX2_neverCracked 1 ((some .int)) 0 := ⟨List.mem_of_getElem? (i := 1413) (by decide +kernel), List.mem_of_getElem? (i := 830) (by decide +kernel), List.mem_of_getElem? (i := 831) (by decide +kernel), List.mem_of_getElem? (i := 110) (by decide +kernel), List.mem_of_getElem? (i := 832) (by decide +kernel), by decide +kernel, by decide +kernel, by decide +kernel⟩
set_option maxRecDepth 100000 in
set_option maxHeartbeats 4000000 in
theorem c_X4_weightOf {l : Launch} {P : Wp} {E : State → Heap → Prop} (hW : Wok shC P E) {p1 : Int32} {p2 : Int32} {M : Mem} {r : Int64} (h : f_X4_weightOf p1 p2 M = some r) : CT l shC P E yX4_weightOf bX4_weightOf 7 ((some .long)) 0 0 [.ref (P.2.2.1 57), .int p1, .int p2] (some (.long r)) M M := by
  refine ct_of hW (by decide) (Nat.le_of_ble_eq_true rfl) (fun p e s m args below meth c C ls hl hw => ?_)
  have hx := C.1
  have hb := C.2.1
  replace hl : lv_has ls 7 [(0, .ref (P.2.2.1 57)), (1, .int p1), (2, .int p2)] := hl
  have cut_5 : ∀ (n_5 : Nat) (v3_5 : Int64) (v5_5 : Int32) (ls : Array Slot) (H : Heap) (locs : List Loc), lv_has ls 7 [(0, .ref (P.2.2.1 57)), (1, .int p1), (2, .int p2), (3, .long v3_5), (5, .int v5_5)] → Hw shC P M s H locs → lq2 (L_X4_weightOf_5 p1 p2 M) n_5 v3_5 v5_5 = some r → W p l e { frames := 0, cells := 0, slots := 0, locals := 0 } s m args below meth c H locs 0 0 (MQ below (CQ shC P E (some (.long r)) M) args s 0 0 (wA shC P)) (F0 m 5 ls []) := by
    intro n_5
    induction n_5 with
    | zero => intro v3_5 v5_5 ls H locs hl hw h; cases h
    | succ n_5 ih_5 =>
      intro v3_5 v5_5 ls H locs hl hw h
      replace h := lq2_succ h
      have cut_32 : ∀ (v3_32 : Int64) (v5_32 : Int32) (w0_32 : Int32) (ls : Array Slot) (H : Heap) (locs : List Loc), lv_has ls 7 [(0, .ref (P.2.2.1 57)), (1, .int p1), (2, .int p2), (3, .long v3_32), (5, .int v5_32)] → Hw shC P M s H locs → J_X4_weightOf_32 p1 p2 M (lq2 (L_X4_weightOf_5 p1 p2 M) n_5) v3_32 v5_32 w0_32 = some r → W p l e { frames := 0, cells := 0, slots := 0, locals := 0 } s m args below meth c H locs 0 0 (MQ below (CQ shC P E (some (.long r)) M) args s 0 0 (wA shC P)) (F0 m 32 ls [.int w0_32]) := by
        intro v3_32 v5_32 w0_32 ls H locs hl hw h
        refine lv_istore (lv' := [(6, .int w0_32), (0, .ref (P.2.2.1 57)), (1, .int p1), (2, .int p2), (3, .long v3_32), (5, .int v5_32)]) hx hb dX4_weightOf_32 hl (by decide) rfl (fun ls hl => ?_)
        refine lv_lload_n hx hb dX4_weightOf_34 rfl (lv_at hl 4 rfl) ?_
        refine lv_iload hx hb dX4_weightOf_35 (lv_at hl 0 rfl) ?_
        refine lv_if_eq (tgt := 51) hx hb dX4_weightOf_37 (by decide) (fun c4 => ?_) (fun c4 => ?_)
        · replace h := (if_pos c4).symm.trans h
          refine lv_bipush (v := 10) hx hb dX4_weightOf_51 (by decide) ?_
          refine lv_aload_n hx hb dX4_weightOf_53 rfl (lv_at hl 1 rfl) ?_
          refine wgetR (t := 14) C hw flX4_24 (rfl : _ = some (0, 4)) rfl dX4_weightOf_54 ?_
          refine wgetI C hw flX4_63 (rfl : _ = some (0, 5)) dX4_weightOf_57 ?_
          refine lv_isub hx hb dX4_weightOf_60 ?_
          refine lv_i2l hx hb dX4_weightOf_61 rfl ?_
          refine lv_lmul hx hb dX4_weightOf_62 ?_
          refine lv_topl (fun x5 ex5 => ?_)
          replace h := letv_at ex5 h
          refine lv_lstore_n (lv' := [(3, .long x5), (6, .int w0_32), (0, .ref (P.2.2.1 57)), (1, .int p1), (2, .int p2), (5, .int v5_32)]) hx hb dX4_weightOf_63 rfl hl (by decide) rfl (fun ls hl => ?_)
          refine lv_iinc (v := (v5_32 + 1)) (lv' := [(5, .int (v5_32 + 1)), (3, .long x5), (6, .int w0_32), (0, .ref (P.2.2.1 57)), (1, .int p1), (2, .int p2)]) (k := 5) hx hb dX4_weightOf_64 hl rfl (congrArg (fun z => v5_32 + z) (by decide)) (by decide) rfl (fun ls hl => ?_)
          refine lv_goto (tgt := 5) hx hb dX4_weightOf_67 (by decide) ?_
          exact ih_5 x5 (v5_32 + 1) ls _ _ (lv_sub hl [3, 4, 5, 1, 0] rfl) hw h
        · replace h := (if_neg c4).symm.trans h
          refine lv_aload_n hx hb dX4_weightOf_40 rfl (lv_at hl 1 rfl) ?_
          refine wgetR (t := 14) C hw flX4_24 (rfl : _ = some (0, 4)) rfl dX4_weightOf_41 ?_
          refine wgetI C hw flX4_63 (rfl : _ = some (0, 5)) dX4_weightOf_44 ?_
          refine lv_i2l hx hb dX4_weightOf_47 rfl ?_
          refine lv_goto (tgt := 62) hx hb dX4_weightOf_48 (by decide) ?_
          refine lv_lmul hx hb dX4_weightOf_62 ?_
          refine lv_topl (fun x6 ex6 => ?_)
          replace h := letv_at ex6 h
          refine lv_lstore_n (lv' := [(3, .long x6), (6, .int w0_32), (0, .ref (P.2.2.1 57)), (1, .int p1), (2, .int p2), (5, .int v5_32)]) hx hb dX4_weightOf_63 rfl hl (by decide) rfl (fun ls hl => ?_)
          refine lv_iinc (v := (v5_32 + 1)) (lv' := [(5, .int (v5_32 + 1)), (3, .long x6), (6, .int w0_32), (0, .ref (P.2.2.1 57)), (1, .int p1), (2, .int p2)]) (k := 5) hx hb dX4_weightOf_64 hl rfl (congrArg (fun z => v5_32 + z) (by decide)) (by decide) rfl (fun ls hl => ?_)
          refine lv_goto (tgt := 5) hx hb dX4_weightOf_67 (by decide) ?_
          exact ih_5 x6 (v5_32 + 1) ls _ _ (lv_sub hl [3, 4, 5, 1, 0] rfl) hw h
      refine lv_iload hx hb dX4_weightOf_5 (lv_at hl 4 rfl) ?_
      refine lv_iload_n hx hb dX4_weightOf_7 rfl (lv_at hl 2 rfl) ?_
      refine lv_icmp_ge (tgt := 70) hx hb dX4_weightOf_8 (by decide) (fun c1 => ?_) (fun c1 => ?_)
      · replace h := (if_pos c1).symm.trans h
        refine lv_lload_n hx hb dX4_weightOf_70 rfl (lv_at hl 3 rfl) ?_
        exact wretJ_R C hw h dX4_weightOf_71
      · replace h := (if_neg c1).symm.trans h
        refine lv_iload hx hb dX4_weightOf_11 (lv_at hl 4 rfl) ?_
        refine lv_bipush (v := 14) hx hb dX4_weightOf_13 (by decide) ?_
        refine lv_icmp_ge (tgt := 70) hx hb dX4_weightOf_15 (by decide) (fun c2 => ?_) (fun c2 => ?_)
        · replace h := (if_pos c2).symm.trans h
          refine lv_lload_n hx hb dX4_weightOf_70 rfl (lv_at hl 3 rfl) ?_
          exact wretJ_R C hw h dX4_weightOf_71
        · replace h := (if_neg c2).symm.trans h
          refine lv_iload_n hx hb dX4_weightOf_18 rfl (lv_at hl 1 rfl) ?_
          refine lv_iload hx hb dX4_weightOf_19 (lv_at hl 4 rfl) ?_
          refine lv_ishr hx hb dX4_weightOf_21 ?_
          refine lv_iconst (v := 1) hx hb dX4_weightOf_22 (by decide) ?_
          refine lv_iand hx hb dX4_weightOf_23 ?_
          refine lv_if_eq (tgt := 31) hx hb dX4_weightOf_24 (by decide) (fun c3 => ?_) (fun c3 => ?_)
          · replace h := (if_pos c3).symm.trans h
            refine lv_iconst (v := 0) hx hb dX4_weightOf_31 (by decide) ?_
            exact cut_32 v3_5 v5_5 0 ls _ _ (lv_sub hl [0, 1, 2, 3, 4] rfl) hw h
          · replace h := (if_neg c3).symm.trans h
            refine lv_iconst (v := 1) hx hb dX4_weightOf_27 (by decide) ?_
            refine lv_goto (tgt := 32) hx hb dX4_weightOf_28 (by decide) ?_
            exact cut_32 v3_5 v5_5 1 ls _ _ (lv_sub hl [0, 1, 2, 3, 4] rfl) hw h
  refine lv_lconst (v := 1) hx hb dX4_weightOf_0 (by decide) ?_
  refine lv_lstore_n (lv' := [(3, .long 1), (0, .ref (P.2.2.1 57)), (1, .int p1), (2, .int p2)]) hx hb dX4_weightOf_1 rfl hl (by decide) rfl (fun ls hl => ?_)
  refine lv_iconst (v := 0) hx hb dX4_weightOf_2 (by decide) ?_
  refine lv_istore (lv' := [(5, .int 0), (3, .long 1), (0, .ref (P.2.2.1 57)), (1, .int p1), (2, .int p2)]) hx hb dX4_weightOf_3 hl (by decide) rfl (fun ls hl => ?_)
  exact cut_5 FU 1 0 ls _ _ (lv_sub hl [2, 3, 4, 1, 0] rfl) hw h
set_option maxRecDepth 100000 in
set_option maxHeartbeats 4000000 in
theorem c_X4_meanUncracked {l : Launch} {P : Wp} {E : State → Heap → Prop} (hW : Wok shC P E) {p1 : Int32} {p2 : Int32} {M : Mem} {M' : Mem} (h : f_X4_meanUncracked p1 p2 M = some M') : CT l shC P E yX4_meanUncracked bX4_meanUncracked 10 ((some (.object "LehrBelt$Fraction"))) 4 118 [.ref (P.2.2.1 57), .int p1, .int p2] (some (.ref (P.2.2.1 58))) M M' := by
  refine ct_of hW (by decide) (Nat.le_of_ble_eq_true rfl) (fun p e s m args below meth c C ls hl hw => ?_)
  have hx := C.1
  have hb := C.2.1
  replace hl : lv_has ls 10 [(0, .ref (P.2.2.1 57)), (1, .int p1), (2, .int p2)] := hl
  have cut_38 : ∀ (v5_38 : Int64) (n_38 : Nat) (v3_38 : Int64) (v7_38 : Int32) (M_38 : Mem) (ls : Array Slot) (H : Heap) (locs : List Loc), lv_has ls 10 [(0, .ref (P.2.2.1 57)), (1, .int p1), (2, .int p2), (3, .long v3_38), (5, .long v5_38), (7, .int v7_38)] → Hw shC P M_38 s H locs → lq3 (L_X4_meanUncracked_38 p1 p2 v5_38) n_38 v3_38 v7_38 M_38 = some M' → W p l e { frames := 4, cells := 0, slots := 0, locals := 118 } s m args below meth c H locs 0 0 (MQ below (CQ shC P E (some (.ref (P.2.2.1 58))) M') args s 0 0 (wA shC P)) (F0 m 38 ls []) := by
    intro v5_38 n_38
    induction n_38 with
    | zero => intro v3_38 v7_38 M_38 ls H locs hl hw h; cases h
    | succ n_38 ih_38 =>
      intro v3_38 v7_38 M_38 ls H locs hl hw h
      replace h := lq3_succ h
      refine lv_iload hx hb dX4_meanUncracked_38 (lv_at hl 5 rfl) ?_
      refine lv_iconst (v := 1) hx hb dX4_meanUncracked_40 (by decide) ?_
      refine lv_iload_n hx hb dX4_meanUncracked_41 rfl (lv_at hl 2 rfl) ?_
      refine lv_bipush (v := 14) hx hb dX4_meanUncracked_42 (by decide) ?_
      refine wmin C mlX4_36 hl.1 (Nat.le_of_ble_eq_true rfl) (Nat.le_of_ble_eq_true rfl) (Nat.zero_le _) (Nat.zero_le _) dX4_meanUncracked_44 ?_
      refine lv_ishl hx hb dX4_meanUncracked_47 ?_
      refine lv_icmp_ge (tgt := 104) hx hb dX4_meanUncracked_48 (by decide) (fun c2 => ?_) (fun c2 => ?_)
      · replace h := (if_pos c2).symm.trans h
        refine lv_aload_n hx hb dX4_meanUncracked_104 rfl (lv_at hl 0 rfl) ?_
        refine wgetR (t := 58) C hw flX4_12 (rfl : _ = some (0, 4)) rfl dX4_meanUncracked_105 ?_
        refine lv_lload_n hx hb dX4_meanUncracked_108 rfl (lv_at hl 3 rfl) ?_
        refine lv_lload hx hb dX4_meanUncracked_109 (lv_at hl 4 rfl) ?_
        obtain ⟨M5, e4, h⟩ := bnd_some h
        refine wcallV0 (As := [.long v3_38, .long v5_38]) (rest := []) C hw (c_X3_put hW (rfl : _ = some (0, 3)) e4) vlX4_59 ⟨Nat.le_of_ble_eq_true rfl, Nat.le_of_ble_eq_true rfl⟩ (rfl : _ = some (0, 3)) rfl rfl rfl hl.1 (Nat.le_of_ble_eq_true rfl) dX4_meanUncracked_111 ⟨Nat.zero_le _, Nat.zero_le _⟩ (fun H locs hw => ?_)
        refine lv_aload_n hx hb dX4_meanUncracked_114 rfl (lv_at hl 0 rfl) ?_
        refine wgetR (t := 58) C hw flX4_12 (rfl : _ = some (0, 4)) rfl dX4_meanUncracked_115 ?_
        exact wretA_W C hw rfl (Or.inl ⟨_, rfl⟩) rfl h dX4_meanUncracked_118
      · replace h := (if_neg c2).symm.trans h
        refine lv_aload_n hx hb dX4_meanUncracked_51 rfl (lv_at hl 0 rfl) ?_
        refine lv_iload hx hb dX4_meanUncracked_52 (lv_at hl 5 rfl) ?_
        refine lv_iload_n hx hb dX4_meanUncracked_54 rfl (lv_at hl 2 rfl) ?_
        obtain ⟨r6, e7, h⟩ := bnd_some h
        refine wcallV1 (As := [.int v7_38, .int p2]) (rest := []) C hw (c_X4_weightOf hW  e7) vlX4_42 ⟨Nat.le_of_ble_eq_true rfl, Nat.le_of_ble_eq_true rfl⟩ (rfl : _ = some (0, 4)) rfl rfl rfl hl.1 (Nat.le_of_ble_eq_true rfl) dX4_meanUncracked_55 ⟨Nat.zero_le _, Nat.zero_le _⟩ (fun H locs hw => ?_)
        refine lv_lstore (lv' := [(8, .long r6), (0, .ref (P.2.2.1 57)), (1, .int p1), (2, .int p2), (3, .long v3_38), (5, .long v5_38), (7, .int v7_38)]) hx hb dX4_meanUncracked_58 hl (by decide) rfl (fun ls hl => ?_)
        refine lv_lload hx hb dX4_meanUncracked_60 (lv_at hl 0 rfl) ?_
        refine lv_lconst (v := 0) hx hb dX4_meanUncracked_62 (by decide) ?_
        refine W.lcmp hx hb dX4_meanUncracked_63 ?_
        refine lv_if_le (tgt := 98) hx hb dX4_meanUncracked_64 (by decide) (fun c8 => ?_) (fun c8 => ?_)
        · replace h := (if_pos c8).symm.trans h
          refine lv_iinc (v := (v7_38 + 1)) (lv' := [(7, .int (v7_38 + 1)), (8, .long r6), (0, .ref (P.2.2.1 57)), (1, .int p1), (2, .int p2), (3, .long v3_38), (5, .long v5_38)]) (k := 6) hx hb dX4_meanUncracked_98 hl rfl (congrArg (fun z => v7_38 + z) (by decide)) (by decide) rfl (fun ls hl => ?_)
          refine lv_goto (tgt := 38) hx hb dX4_meanUncracked_101 (by decide) ?_
          exact ih_38 v3_38 (v7_38 + 1) M_38 ls _ _ (lv_sub hl [2, 3, 4, 5, 6, 0] rfl) hw h
        · replace h := (if_neg c8).symm.trans h
          refine lv_aload_n hx hb dX4_meanUncracked_67 rfl (lv_at hl 1 rfl) ?_
          refine wgetR (t := 59) C hw flX4_30 (rfl : _ = some (0, 4)) rfl dX4_meanUncracked_68 ?_
          refine lv_iload hx hb dX4_meanUncracked_71 (lv_at hl 6 rfl) ?_
          refine lv_iload_n hx hb dX4_meanUncracked_73 rfl (lv_at hl 3 rfl) ?_
          refine lv_iload_n hx hb dX4_meanUncracked_74 rfl (lv_at hl 2 rfl) ?_
          obtain ⟨M11, e10, h⟩ := bnd_some h
          refine wcallV0 (As := [.int v7_38, .int p2, .int p1]) (rest := []) C hw (c_X2_follow hW (rfl : _ = some (0, 2)) e10) vlX4_46 ⟨Nat.le_of_ble_eq_true rfl, Nat.le_of_ble_eq_true rfl⟩ (rfl : _ = some (0, 2)) rfl rfl rfl hl.1 (Nat.le_of_ble_eq_true rfl) dX4_meanUncracked_75 ⟨Nat.zero_le _, Nat.zero_le _⟩ (fun H locs hw => ?_)
          refine lv_lload_n hx hb dX4_meanUncracked_78 rfl (lv_at hl 4 rfl) ?_
          refine lv_lload hx hb dX4_meanUncracked_79 (lv_at hl 0 rfl) ?_
          refine lv_aload_n hx hb dX4_meanUncracked_81 rfl (lv_at hl 1 rfl) ?_
          refine wgetR (t := 59) C hw flX4_30 (rfl : _ = some (0, 4)) rfl dX4_meanUncracked_82 ?_
          refine lv_iload_n hx hb dX4_meanUncracked_85 rfl (lv_at hl 3 rfl) ?_
          obtain ⟨r12, e13, h⟩ := bnd_some h
          refine wcallV1 (As := [.int p2]) (rest := [.long r6, .long v3_38]) C hw (c_X2_uncrackedAt hW (rfl : _ = some (0, 2)) e13) vlX4_50 ⟨Nat.le_of_ble_eq_true rfl, Nat.le_of_ble_eq_true rfl⟩ (rfl : _ = some (0, 2)) rfl rfl rfl hl.1 (Nat.le_of_ble_eq_true rfl) dX4_meanUncracked_86 ⟨Nat.zero_le _, Nat.zero_le _⟩ (fun H locs hw => ?_)
          refine lv_iload_n hx hb dX4_meanUncracked_89 rfl (lv_at hl 2 rfl) ?_
          refine lv_iand hx hb dX4_meanUncracked_90 ?_
          refine wcallS1 (As := [.int (r12 &&& p1)]) (rest := [.long r6, .long v3_38]) C hw (c_J6_bitCount_0f7a4 hW  rfl) slX4_54 ⟨Nat.le_of_ble_eq_true rfl, Nat.le_of_ble_eq_true rfl⟩ rfl rfl hl.1 (Nat.le_of_ble_eq_true rfl) dX4_meanUncracked_91 ⟨Nat.zero_le _, Nat.zero_le _⟩ (fun H locs hw => ?_)
          refine lv_i2l hx hb dX4_meanUncracked_94 rfl ?_
          refine lv_lmul hx hb dX4_meanUncracked_95 ?_
          refine lv_ladd hx hb dX4_meanUncracked_96 ?_
          refine lv_topl (fun x14 ex14 => ?_)
          replace h := letv_at ex14 h
          refine lv_lstore_n (lv' := [(3, .long x14), (8, .long r6), (0, .ref (P.2.2.1 57)), (1, .int p1), (2, .int p2), (5, .long v5_38), (7, .int v7_38)]) hx hb dX4_meanUncracked_97 rfl hl (by decide) rfl (fun ls hl => ?_)
          refine lv_iinc (v := (v7_38 + 1)) (lv' := [(7, .int (v7_38 + 1)), (3, .long x14), (8, .long r6), (0, .ref (P.2.2.1 57)), (1, .int p1), (2, .int p2), (5, .long v5_38)]) (k := 6) hx hb dX4_meanUncracked_98 hl rfl (congrArg (fun z => v7_38 + z) (by decide)) (by decide) rfl (fun ls hl => ?_)
          refine lv_goto (tgt := 38) hx hb dX4_meanUncracked_101 (by decide) ?_
          exact ih_38 x14 (v7_38 + 1) M11 ls _ _ (lv_sub hl [3, 4, 5, 1, 6, 0] rfl) hw h
  have cut_8 : ∀ (v3_8 : Int64) (n_8 : Nat) (v5_8 : Int64) (v7_8 : Int32) (M_8 : Mem) (ls : Array Slot) (H : Heap) (locs : List Loc), lv_has ls 10 [(0, .ref (P.2.2.1 57)), (1, .int p1), (2, .int p2), (3, .long v3_8), (5, .long v5_8), (7, .int v7_8)] → Hw shC P M_8 s H locs → lq3 (L_X4_meanUncracked_8 p1 p2 v3_8) n_8 v5_8 v7_8 M_8 = some M' → W p l e { frames := 4, cells := 0, slots := 0, locals := 118 } s m args below meth c H locs 0 0 (MQ below (CQ shC P E (some (.ref (P.2.2.1 58))) M') args s 0 0 (wA shC P)) (F0 m 8 ls []) := by
    intro v3_8 n_8
    induction n_8 with
    | zero => intro v5_8 v7_8 M_8 ls H locs hl hw h; cases h
    | succ n_8 ih_8 =>
      intro v5_8 v7_8 M_8 ls H locs hl hw h
      replace h := lq3_succ h
      refine lv_iload hx hb dX4_meanUncracked_8 (lv_at hl 5 rfl) ?_
      refine lv_iload_n hx hb dX4_meanUncracked_10 rfl (lv_at hl 2 rfl) ?_
      refine lv_icmp_ge (tgt := 35) hx hb dX4_meanUncracked_11 (by decide) (fun c1 => ?_) (fun c1 => ?_)
      · replace h := (if_pos c1).symm.trans h
        refine lv_iconst (v := 0) hx hb dX4_meanUncracked_35 (by decide) ?_
        refine lv_istore (lv' := [(7, .int 0), (0, .ref (P.2.2.1 57)), (1, .int p1), (2, .int p2), (3, .long v3_8), (5, .long v5_8)]) hx hb dX4_meanUncracked_36 hl (by decide) rfl (fun ls hl => ?_)
        exact cut_38 v5_8 FU v3_8 0 M_8 ls _ _ (lv_sub hl [1, 2, 3, 4, 5, 0] rfl) hw h
      · replace h := (if_neg c1).symm.trans h
        refine lv_iload hx hb dX4_meanUncracked_14 (lv_at hl 5 rfl) ?_
        refine lv_bipush (v := 14) hx hb dX4_meanUncracked_16 (by decide) ?_
        refine lv_icmp_ge (tgt := 35) hx hb dX4_meanUncracked_18 (by decide) (fun c15 => ?_) (fun c15 => ?_)
        · replace h := (if_pos c15).symm.trans h
          refine lv_iconst (v := 0) hx hb dX4_meanUncracked_35 (by decide) ?_
          refine lv_istore (lv' := [(7, .int 0), (0, .ref (P.2.2.1 57)), (1, .int p1), (2, .int p2), (3, .long v3_8), (5, .long v5_8)]) hx hb dX4_meanUncracked_36 hl (by decide) rfl (fun ls hl => ?_)
          exact cut_38 v5_8 FU v3_8 0 M_8 ls _ _ (lv_sub hl [1, 2, 3, 4, 5, 0] rfl) hw h
        · replace h := (if_neg c15).symm.trans h
          refine lv_lload hx hb dX4_meanUncracked_21 (lv_at hl 4 rfl) ?_
          refine lv_ldc2 hx hb C.2.2.2.1 (C.2.2.2.2.1 _ (List.mem_cons_of_mem _ (gm kcX4_34 rfl))) dX4_meanUncracked_23 ?_
          refine lv_lmul hx hb dX4_meanUncracked_26 ?_
          refine lv_topl (fun x16 ex16 => ?_)
          replace h := letv_at ex16 h
          refine lv_lstore (lv' := [(5, .long x16), (0, .ref (P.2.2.1 57)), (1, .int p1), (2, .int p2), (3, .long v3_8), (7, .int v7_8)]) hx hb dX4_meanUncracked_27 hl (by decide) rfl (fun ls hl => ?_)
          refine lv_iinc (v := (v7_8 + 1)) (lv' := [(7, .int (v7_8 + 1)), (5, .long x16), (0, .ref (P.2.2.1 57)), (1, .int p1), (2, .int p2), (3, .long v3_8)]) (k := 5) hx hb dX4_meanUncracked_29 hl rfl (congrArg (fun z => v7_8 + z) (by decide)) (by decide) rfl (fun ls hl => ?_)
          refine lv_goto (tgt := 8) hx hb dX4_meanUncracked_32 (by decide) ?_
          exact ih_8 x16 (v7_8 + 1) M_8 ls _ _ (lv_sub hl [2, 3, 4, 5, 1, 0] rfl) hw h
  refine lv_lconst (v := 0) hx hb dX4_meanUncracked_0 (by decide) ?_
  refine lv_lstore_n (lv' := [(3, .long 0), (0, .ref (P.2.2.1 57)), (1, .int p1), (2, .int p2)]) hx hb dX4_meanUncracked_1 rfl hl (by decide) rfl (fun ls hl => ?_)
  refine lv_lconst (v := 1) hx hb dX4_meanUncracked_2 (by decide) ?_
  refine lv_lstore (lv' := [(5, .long 1), (3, .long 0), (0, .ref (P.2.2.1 57)), (1, .int p1), (2, .int p2)]) hx hb dX4_meanUncracked_3 hl (by decide) rfl (fun ls hl => ?_)
  refine lv_iconst (v := 0) hx hb dX4_meanUncracked_5 (by decide) ?_
  refine lv_istore (lv' := [(7, .int 0), (5, .long 1), (3, .long 0), (0, .ref (P.2.2.1 57)), (1, .int p1), (2, .int p2)]) hx hb dX4_meanUncracked_6 hl (by decide) rfl (fun ls hl => ?_)
  exact cut_8 0 FU 1 0 M ls _ _ (lv_sub hl [3, 4, 5, 2, 1, 0] rfl) hw h
set_option maxRecDepth 100000 in
set_option maxHeartbeats 4000000 in
theorem c_X4_draughtsFrom {l : Launch} {P : Wp} {E : State → Heap → Prop} (hW : Wok shC P E) {p1 : Int64} {M : Mem} {r : Int32} (h : f_X4_draughtsFrom p1 M = some r) : CT l shC P E yX4_draughtsFrom bX4_draughtsFrom 7 ((some .int)) 0 0 [.ref (P.2.2.1 57), .long p1] (some (.int r)) M M := by
  refine ct_of hW (by decide) (Nat.le_of_ble_eq_true rfl) (fun p e s m args below meth c C ls hl hw => ?_)
  have hx := C.1
  have hb := C.2.1
  replace hl : lv_has ls 7 [(0, .ref (P.2.2.1 57)), (1, .long p1)] := hl
  have cut_8 : ∀ (n_8 : Nat) (v3_8 : Int64) (v5_8 : Int32) (v6_8 : Int32) (ls : Array Slot) (H : Heap) (locs : List Loc), lv_has ls 7 [(0, .ref (P.2.2.1 57)), (3, .long v3_8), (5, .int v5_8), (6, .int v6_8)] → Hw shC P M s H locs → lq3 (L_X4_draughtsFrom_8 p1 M) n_8 v3_8 v5_8 v6_8 = some r → W p l e { frames := 0, cells := 0, slots := 0, locals := 0 } s m args below meth c H locs 0 0 (MQ below (CQ shC P E (some (.int r)) M) args s 0 0 (wA shC P)) (F0 m 8 ls []) := by
    intro n_8
    induction n_8 with
    | zero => intro v3_8 v5_8 v6_8 ls H locs hl hw h; cases h
    | succ n_8 ih_8 =>
      intro v3_8 v5_8 v6_8 ls H locs hl hw h
      replace h := lq3_succ h
      refine lv_iload hx hb dX4_draughtsFrom_8 (lv_at hl 3 rfl) ?_
      refine lv_aload_n hx hb dX4_draughtsFrom_10 rfl (lv_at hl 0 rfl) ?_
      refine wgetR (t := 14) C hw flX4_24 (rfl : _ = some (0, 4)) rfl dX4_draughtsFrom_11 ?_
      refine wgetI C hw flX4_69 (rfl : _ = some (0, 5)) dX4_draughtsFrom_14 ?_
      refine lv_icmp_ge (tgt := 77) hx hb dX4_draughtsFrom_17 (by decide) (fun c1 => ?_) (fun c1 => ?_)
      · replace h := (if_pos c1).symm.trans h
        refine lv_iload hx hb dX4_draughtsFrom_77 (lv_at hl 2 rfl) ?_
        exact wretI_R C hw h dX4_draughtsFrom_79
      · replace h := (if_neg c1).symm.trans h
        refine lv_iload hx hb dX4_draughtsFrom_20 (lv_at hl 3 rfl) ?_
        refine lv_bipush (v := 14) hx hb dX4_draughtsFrom_22 (by decide) ?_
        refine lv_icmp_ge (tgt := 77) hx hb dX4_draughtsFrom_24 (by decide) (fun c2 => ?_) (fun c2 => ?_)
        · replace h := (if_pos c2).symm.trans h
          refine lv_iload hx hb dX4_draughtsFrom_77 (lv_at hl 2 rfl) ?_
          exact wretI_R C hw h dX4_draughtsFrom_79
        · replace h := (if_neg c2).symm.trans h
          refine lv_ldc2 hx hb C.2.2.2.1 (C.2.2.2.2.1 _ (List.mem_cons_of_mem _ (gm kcX4_72 rfl))) dX4_draughtsFrom_27 ?_
          refine lv_lload_n hx hb dX4_draughtsFrom_30 rfl (lv_at hl 1 rfl) ?_
          refine lv_lmul hx hb dX4_draughtsFrom_31 ?_
          refine lv_ldc2 hx hb C.2.2.2.1 (C.2.2.2.2.1 _ (List.mem_cons_of_mem _ (gm kcX4_74 rfl))) dX4_draughtsFrom_32 ?_
          refine lv_ladd hx hb dX4_draughtsFrom_35 ?_
          refine lv_ldc2 hx hb C.2.2.2.1 (C.2.2.2.2.1 _ (List.mem_cons_of_mem _ (gm kcX4_76 rfl))) dX4_draughtsFrom_36 ?_
          refine lv_lrem hx hb dX4_draughtsFrom_39 (by decide) ?_
          refine lv_topl (fun x3 ex3 => ?_)
          replace h := letv_at ex3 h
          refine lv_lstore_n (lv' := [(3, .long x3), (0, .ref (P.2.2.1 57)), (5, .int v5_8), (6, .int v6_8)]) hx hb dX4_draughtsFrom_40 rfl hl (by decide) rfl (fun ls hl => ?_)
          refine lv_lload_n hx hb dX4_draughtsFrom_41 rfl (lv_at hl 0 rfl) ?_
          refine lv_ldc2 hx hb C.2.2.2.1 (C.2.2.2.2.1 _ (List.mem_cons_of_mem _ (gm kcX4_78 rfl))) dX4_draughtsFrom_42 ?_
          refine lv_ldiv hx hb dX4_draughtsFrom_45 (by decide) ?_
          refine lv_ldc2 hx hb C.2.2.2.1 (C.2.2.2.2.1 _ (List.mem_cons_of_mem _ (gm kcX4_34 rfl))) dX4_draughtsFrom_46 ?_
          refine lv_lrem hx hb dX4_draughtsFrom_49 (by decide) ?_
          refine lv_aload_n hx hb dX4_draughtsFrom_50 rfl (lv_at hl 1 rfl) ?_
          refine wgetR (t := 14) C hw flX4_24 (rfl : _ = some (0, 4)) rfl dX4_draughtsFrom_51 ?_
          refine wgetI C hw flX4_63 (rfl : _ = some (0, 5)) dX4_draughtsFrom_54 ?_
          refine lv_i2l hx hb dX4_draughtsFrom_57 rfl ?_
          refine W.lcmp hx hb dX4_draughtsFrom_58 ?_
          refine lv_if_ge (tgt := 71) hx hb dX4_draughtsFrom_59 (by decide) (fun c4 => ?_) (fun c4 => ?_)
          · replace h := (if_pos c4).symm.trans h
            refine lv_iinc (v := (v6_8 + 1)) (lv' := [(6, .int (v6_8 + 1)), (3, .long x3), (0, .ref (P.2.2.1 57)), (5, .int v5_8)]) (k := 3) hx hb dX4_draughtsFrom_71 hl rfl (congrArg (fun z => v6_8 + z) (by decide)) (by decide) rfl (fun ls hl => ?_)
            refine lv_goto (tgt := 8) hx hb dX4_draughtsFrom_74 (by decide) ?_
            exact ih_8 x3 v5_8 (v6_8 + 1) ls _ _ (lv_sub hl [2, 1, 3, 0] rfl) hw h
          · replace h := (if_neg c4).symm.trans h
            refine lv_iload hx hb dX4_draughtsFrom_62 (lv_at hl 2 rfl) ?_
            refine lv_iconst (v := 1) hx hb dX4_draughtsFrom_64 (by decide) ?_
            refine lv_iload hx hb dX4_draughtsFrom_65 (lv_at hl 3 rfl) ?_
            refine lv_ishl hx hb dX4_draughtsFrom_67 ?_
            refine lv_ior hx hb dX4_draughtsFrom_68 ?_
            refine lv_topi (fun x5 ex5 => ?_)
            replace h := letv_at ex5 h
            refine lv_istore (lv' := [(5, .int x5), (3, .long x3), (0, .ref (P.2.2.1 57)), (6, .int v6_8)]) hx hb dX4_draughtsFrom_69 hl (by decide) rfl (fun ls hl => ?_)
            refine lv_iinc (v := (v6_8 + 1)) (lv' := [(6, .int (v6_8 + 1)), (5, .int x5), (3, .long x3), (0, .ref (P.2.2.1 57))]) (k := 3) hx hb dX4_draughtsFrom_71 hl rfl (congrArg (fun z => v6_8 + z) (by decide)) (by decide) rfl (fun ls hl => ?_)
            refine lv_goto (tgt := 8) hx hb dX4_draughtsFrom_74 (by decide) ?_
            exact ih_8 x3 x5 (v6_8 + 1) ls _ _ (lv_sub hl [3, 2, 1, 0] rfl) hw h
  refine lv_lload_n hx hb dX4_draughtsFrom_0 rfl (lv_at hl 1 rfl) ?_
  refine lv_lstore_n (lv' := [(3, .long p1), (0, .ref (P.2.2.1 57)), (1, .long p1)]) hx hb dX4_draughtsFrom_1 rfl hl (by decide) rfl (fun ls hl => ?_)
  refine lv_iconst (v := 0) hx hb dX4_draughtsFrom_2 (by decide) ?_
  refine lv_istore (lv' := [(5, .int 0), (3, .long p1), (0, .ref (P.2.2.1 57)), (1, .long p1)]) hx hb dX4_draughtsFrom_3 hl (by decide) rfl (fun ls hl => ?_)
  refine lv_iconst (v := 0) hx hb dX4_draughtsFrom_5 (by decide) ?_
  refine lv_istore (lv' := [(6, .int 0), (5, .int 0), (3, .long p1), (0, .ref (P.2.2.1 57)), (1, .long p1)]) hx hb dX4_draughtsFrom_6 hl (by decide) rfl (fun ls hl => ?_)
  exact cut_8 FU p1 0 0 ls _ _ (lv_sub hl [3, 2, 1, 0] rfl) hw h
set_option maxRecDepth 100000 in
set_option maxHeartbeats 4000000 in
theorem c_X4_soundFrom {l : Launch} {P : Wp} {E : State → Heap → Prop} (hW : Wok shC P E) {p1 : Int64} {M : Mem} {r : Int32} {M' : Mem} (h : f_X4_soundFrom p1 M = some (r, M')) : CT l shC P E yX4_soundFrom bX4_soundFrom 3 ((some .int)) 4 118 [.ref (P.2.2.1 57), .long p1] (some (.int r)) M M' := by
  refine ct_of hW (by decide) (Nat.le_of_ble_eq_true rfl) (fun p e s m args below meth c C ls hl hw => ?_)
  have hx := C.1
  have hb := C.2.1
  replace hl : lv_has ls 3 [(0, .ref (P.2.2.1 57)), (1, .long p1)] := hl
  refine lv_aload_n hx hb dX4_soundFrom_0 rfl (lv_at hl 0 rfl) ?_
  refine wgetR (t := 59) C hw flX4_30 (rfl : _ = some (0, 4)) rfl dX4_soundFrom_1 ?_
  refine lv_aload_n hx hb dX4_soundFrom_4 rfl (lv_at hl 0 rfl) ?_
  refine lv_lload_n hx hb dX4_soundFrom_5 rfl (lv_at hl 1 rfl) ?_
  obtain ⟨r1, e2, h⟩ := bnd_some h
  refine wcallV1 (As := [.long p1]) (rest := [.ref (P.2.2.1 59)]) C hw (c_X4_draughtsFrom hW  e2) vlX4_80 ⟨Nat.le_of_ble_eq_true rfl, Nat.le_of_ble_eq_true rfl⟩ (rfl : _ = some (0, 4)) rfl rfl rfl hl.1 (Nat.le_of_ble_eq_true rfl) dX4_soundFrom_6 ⟨Nat.zero_le _, Nat.zero_le _⟩ (fun H locs hw => ?_)
  refine lv_aload_n hx hb dX4_soundFrom_9 rfl (lv_at hl 0 rfl) ?_
  refine wgetR (t := 14) C hw flX4_24 (rfl : _ = some (0, 4)) rfl dX4_soundFrom_10 ?_
  refine wgetI C hw flX4_69 (rfl : _ = some (0, 5)) dX4_soundFrom_13 ?_
  refine lv_bipush (v := 63) hx hb dX4_soundFrom_16 (by decide) ?_
  obtain ⟨M5, e4, h⟩ := bnd_some h
  refine wcallV0 (As := [.int r1, .int (M.1 14 1), .int 63]) (rest := []) C hw (c_X2_follow hW (rfl : _ = some (0, 2)) e4) vlX4_46 ⟨Nat.le_of_ble_eq_true rfl, Nat.le_of_ble_eq_true rfl⟩ (rfl : _ = some (0, 2)) rfl rfl rfl hl.1 (Nat.le_of_ble_eq_true rfl) dX4_soundFrom_18 ⟨Nat.zero_le _, Nat.zero_le _⟩ (fun H locs hw => ?_)
  refine lv_aload_n hx hb dX4_soundFrom_21 rfl (lv_at hl 0 rfl) ?_
  refine wgetR (t := 59) C hw flX4_30 (rfl : _ = some (0, 4)) rfl dX4_soundFrom_22 ?_
  obtain ⟨r6, e7, h⟩ := bnd_some h
  refine wcallV1 (As := []) (rest := []) C hw (c_X2_neverCracked hW (rfl : _ = some (0, 2)) e7) vlX4_84 ⟨Nat.le_of_ble_eq_true rfl, Nat.le_of_ble_eq_true rfl⟩ (rfl : _ = some (0, 2)) rfl rfl rfl hl.1 (Nat.le_of_ble_eq_true rfl) dX4_soundFrom_25 ⟨Nat.zero_le _, Nat.zero_le _⟩ (fun H locs hw => ?_)
  exact wretI_W C hw h dX4_soundFrom_28
set_option maxRecDepth 100000 in
set_option maxHeartbeats 4000000 in
theorem c_X4_timesSound {l : Launch} {P : Wp} {E : State → Heap → Prop} (hW : Wok shC P E) {p1 : Int32} {p2 : Int32} {p3 : Int32} {M : Mem} {r : Int32} {M' : Mem} (h : f_X4_timesSound p1 p2 p3 M = some (r, M')) : CT l shC P E yX4_timesSound bX4_timesSound 6 ((some .int)) 4 118 [.ref (P.2.2.1 57), .int p1, .int p2, .int p3] (some (.int r)) M M' := by
  refine ct_of hW (by decide) (Nat.le_of_ble_eq_true rfl) (fun p e s m args below meth c C ls hl hw => ?_)
  have hx := C.1
  have hb := C.2.1
  replace hl : lv_has ls 6 [(0, .ref (P.2.2.1 57)), (1, .int p1), (2, .int p2), (3, .int p3)] := hl
  have cut_6 : ∀ (n_6 : Nat) (v4_6 : Int32) (v5_6 : Int32) (M_6 : Mem) (ls : Array Slot) (H : Heap) (locs : List Loc), lv_has ls 6 [(0, .ref (P.2.2.1 57)), (1, .int p1), (2, .int p2), (3, .int p3), (4, .int v4_6), (5, .int v5_6)] → Hw shC P M_6 s H locs → lq3 (L_X4_timesSound_6 p1 p2 p3) n_6 v4_6 v5_6 M_6 = some (r, M') → W p l e { frames := 4, cells := 0, slots := 0, locals := 118 } s m args below meth c H locs 0 0 (MQ below (CQ shC P E (some (.int r)) M') args s 0 0 (wA shC P)) (F0 m 6 ls []) := by
    intro n_6
    induction n_6 with
    | zero => intro v4_6 v5_6 M_6 ls H locs hl hw h; cases h
    | succ n_6 ih_6 =>
      intro v4_6 v5_6 M_6 ls H locs hl hw h
      replace h := lq3_succ h
      refine lv_iload hx hb dX4_timesSound_6 (lv_at hl 5 rfl) ?_
      refine lv_iload_n hx hb dX4_timesSound_8 rfl (lv_at hl 2 rfl) ?_
      refine lv_icmp_ge (tgt := 69) hx hb dX4_timesSound_9 (by decide) (fun c1 => ?_) (fun c1 => ?_)
      · replace h := (if_pos c1).symm.trans h
        refine lv_iload hx hb dX4_timesSound_69 (lv_at hl 4 rfl) ?_
        exact wretI_W C hw h dX4_timesSound_71
      · replace h := (if_neg c1).symm.trans h
        refine lv_iload hx hb dX4_timesSound_12 (lv_at hl 5 rfl) ?_
        refine lv_bipush (v := 20) hx hb dX4_timesSound_14 (by decide) ?_
        refine lv_icmp_ge (tgt := 69) hx hb dX4_timesSound_16 (by decide) (fun c2 => ?_) (fun c2 => ?_)
        · replace h := (if_pos c2).symm.trans h
          refine lv_iload hx hb dX4_timesSound_69 (lv_at hl 4 rfl) ?_
          exact wretI_W C hw h dX4_timesSound_71
        · replace h := (if_neg c2).symm.trans h
          refine lv_aload_n hx hb dX4_timesSound_19 rfl (lv_at hl 0 rfl) ?_
          refine wgetR (t := 59) C hw flX4_30 (rfl : _ = some (0, 4)) rfl dX4_timesSound_20 ?_
          refine lv_aload_n hx hb dX4_timesSound_23 rfl (lv_at hl 0 rfl) ?_
          refine lv_iload_n hx hb dX4_timesSound_24 rfl (lv_at hl 1 rfl) ?_
          refine lv_i2l hx hb dX4_timesSound_25 rfl ?_
          refine lv_iload hx hb dX4_timesSound_26 (lv_at hl 5 rfl) ?_
          refine lv_i2l hx hb dX4_timesSound_28 rfl ?_
          refine lv_ladd hx hb dX4_timesSound_29 ?_
          obtain ⟨r3, e4, h⟩ := bnd_some h
          refine wcallV1 (As := [.long (((p1 : Int32).toInt64) + ((v5_6 : Int32).toInt64))]) (rest := [.ref (P.2.2.1 59)]) C hw (c_X4_draughtsFrom hW  e4) vlX4_80 ⟨Nat.le_of_ble_eq_true rfl, Nat.le_of_ble_eq_true rfl⟩ (rfl : _ = some (0, 4)) rfl rfl rfl hl.1 (Nat.le_of_ble_eq_true rfl) dX4_timesSound_30 ⟨Nat.zero_le _, Nat.zero_le _⟩ (fun H locs hw => ?_)
          refine lv_aload_n hx hb dX4_timesSound_33 rfl (lv_at hl 0 rfl) ?_
          refine wgetR (t := 14) C hw flX4_24 (rfl : _ = some (0, 4)) rfl dX4_timesSound_34 ?_
          refine wgetI C hw flX4_69 (rfl : _ = some (0, 5)) dX4_timesSound_37 ?_
          refine lv_iconst (v := 1) hx hb dX4_timesSound_40 (by decide) ?_
          refine lv_iload_n hx hb dX4_timesSound_41 rfl (lv_at hl 3 rfl) ?_
          refine lv_ishl hx hb dX4_timesSound_42 ?_
          obtain ⟨M7, e6, h⟩ := bnd_some h
          refine wcallV0 (As := [.int r3, .int (M_6.1 14 1), .int ((1 : Int32) <<< (p3 &&& 31))]) (rest := []) C hw (c_X2_follow hW (rfl : _ = some (0, 2)) e6) vlX4_46 ⟨Nat.le_of_ble_eq_true rfl, Nat.le_of_ble_eq_true rfl⟩ (rfl : _ = some (0, 2)) rfl rfl rfl hl.1 (Nat.le_of_ble_eq_true rfl) dX4_timesSound_43 ⟨Nat.zero_le _, Nat.zero_le _⟩ (fun H locs hw => ?_)
          refine lv_aload_n hx hb dX4_timesSound_46 rfl (lv_at hl 0 rfl) ?_
          refine wgetR (t := 59) C hw flX4_30 (rfl : _ = some (0, 4)) rfl dX4_timesSound_47 ?_
          obtain ⟨r8, e9, h⟩ := bnd_some h
          refine wcallV1 (As := []) (rest := []) C hw (c_X2_neverCracked hW (rfl : _ = some (0, 2)) e9) vlX4_84 ⟨Nat.le_of_ble_eq_true rfl, Nat.le_of_ble_eq_true rfl⟩ (rfl : _ = some (0, 2)) rfl rfl rfl hl.1 (Nat.le_of_ble_eq_true rfl) dX4_timesSound_50 ⟨Nat.zero_le _, Nat.zero_le _⟩ (fun H locs hw => ?_)
          refine lv_iload_n hx hb dX4_timesSound_53 rfl (lv_at hl 3 rfl) ?_
          refine lv_ishr hx hb dX4_timesSound_54 ?_
          refine lv_iconst (v := 1) hx hb dX4_timesSound_55 (by decide) ?_
          refine lv_iand hx hb dX4_timesSound_56 ?_
          refine lv_if_eq (tgt := 63) hx hb dX4_timesSound_57 (by decide) (fun c10 => ?_) (fun c10 => ?_)
          · replace h := (if_pos c10).symm.trans h
            refine lv_iinc (v := (v5_6 + 1)) (lv' := [(5, .int (v5_6 + 1)), (0, .ref (P.2.2.1 57)), (1, .int p1), (2, .int p2), (3, .int p3), (4, .int v4_6)]) (k := 5) hx hb dX4_timesSound_63 hl rfl (congrArg (fun z => v5_6 + z) (by decide)) (by decide) rfl (fun ls hl => ?_)
            refine lv_goto (tgt := 6) hx hb dX4_timesSound_66 (by decide) ?_
            exact ih_6 v4_6 (v5_6 + 1) M7 ls _ _ (lv_sub hl [1, 2, 3, 4, 5, 0] rfl) hw h
          · replace h := (if_neg c10).symm.trans h
            refine lv_iinc (v := (v4_6 + 1)) (lv' := [(4, .int (v4_6 + 1)), (0, .ref (P.2.2.1 57)), (1, .int p1), (2, .int p2), (3, .int p3), (5, .int v5_6)]) (k := 4) hx hb dX4_timesSound_60 hl rfl (congrArg (fun z => v4_6 + z) (by decide)) (by decide) rfl (fun ls hl => ?_)
            refine lv_iinc (v := (v5_6 + 1)) (lv' := [(5, .int (v5_6 + 1)), (4, .int (v4_6 + 1)), (0, .ref (P.2.2.1 57)), (1, .int p1), (2, .int p2), (3, .int p3)]) (k := 5) hx hb dX4_timesSound_63 hl rfl (congrArg (fun z => v5_6 + z) (by decide)) (by decide) rfl (fun ls hl => ?_)
            refine lv_goto (tgt := 6) hx hb dX4_timesSound_66 (by decide) ?_
            exact ih_6 (v4_6 + 1) (v5_6 + 1) M7 ls _ _ (lv_sub hl [2, 3, 4, 5, 1, 0] rfl) hw h
  refine lv_iconst (v := 0) hx hb dX4_timesSound_0 (by decide) ?_
  refine lv_istore (lv' := [(4, .int 0), (0, .ref (P.2.2.1 57)), (1, .int p1), (2, .int p2), (3, .int p3)]) hx hb dX4_timesSound_1 hl (by decide) rfl (fun ls hl => ?_)
  refine lv_iconst (v := 0) hx hb dX4_timesSound_3 (by decide) ?_
  refine lv_istore (lv' := [(5, .int 0), (4, .int 0), (0, .ref (P.2.2.1 57)), (1, .int p1), (2, .int p2), (3, .int p3)]) hx hb dX4_timesSound_4 hl (by decide) rfl (fun ls hl => ?_)
  exact cut_6 FU 0 0 M ls _ _ (lv_sub hl [2, 3, 4, 5, 1, 0] rfl) hw h
