theorem flX9_40 : FL "LehrBelt$Trials" 40 9 2 2 := ⟨(RX9, TX9, 6), rfl, inX9, by decide, List.mem_of_getElem? (i := 389) (by decide +kernel), rfl⟩
theorem flX9_12 : FL "LehrBelt$Trials" 12 9 1 2 := ⟨(RX9, TX9, 6), rfl, inX9, by decide, List.mem_of_getElem? (i := 388) (by decide +kernel), rfl⟩
theorem flX9_44 : FL "LehrBelt$Trials" 44 1 0 2 := ⟨(RX1, TX1, 2), rfl, inX1, by decide, List.mem_of_getElem? (i := 312) (by decide +kernel), rfl⟩
theorem flX9_48 : FL "LehrBelt$Trials" 48 5 1 0 := ⟨(RX5, TX5, 13), rfl, inX5, by decide, List.mem_of_getElem? (i := 190) (by decide +kernel), rfl⟩
theorem vlX9_54 : VL "LehrBelt$Trials" 54 yX2_follow bX2_follow 8 (none) 3 := ⟨List.mem_of_getElem? (i := 1074) (by decide +kernel), List.mem_of_getElem? (i := 727) (by decide +kernel), List.mem_of_getElem? (i := 728) (by decide +kernel), List.mem_of_getElem? (i := 110) (by decide +kernel), List.mem_of_getElem? (i := 729) (by decide +kernel), by decide +kernel, by decide +kernel, by decide +kernel⟩
theorem vlX9_58 : VL "LehrBelt$Trials" 58 yX2_neverCracked bX2_neverCracked 1 ((some .int)) 0 := ⟨List.mem_of_getElem? (i := 1094) (by decide +kernel), List.mem_of_getElem? (i := 830) (by decide +kernel), List.mem_of_getElem? (i := 831) (by decide +kernel), List.mem_of_getElem? (i := 110) (by decide +kernel), List.mem_of_getElem? (i := 832) (by decide +kernel), by decide +kernel, by decide +kernel, by decide +kernel⟩
theorem slX9_62 : SL "LehrBelt$Trials" 62 yJ6_bitCount_0f7a4 bJ6_bitCount_0f7a4 1 ((some .int)) 1 := ⟨List.mem_of_getElem? (i := 1111) (by decide +kernel), List.mem_of_getElem? (i := 876) (by decide +kernel), List.mem_of_getElem? (i := 123) (by decide +kernel), List.mem_of_getElem? (i := 877) (by decide +kernel), by decide +kernel, by decide +kernel, by decide +kernel⟩
theorem flX9_32 : FL "LehrBelt$Trials" 32 9 0 2 := ⟨(RX9, TX9, 6), rfl, inX9, by decide, List.mem_of_getElem? (i := 387) (by decide +kernel), rfl⟩
theorem vlX9_68 : VL "LehrBelt$Trials" 68 yX1_copyFrom bX1_copyFrom 2 (none) 1 := ⟨List.mem_of_getElem? (i := 1062) (by decide +kernel), List.mem_of_getElem? (i := 1063) (by decide +kernel), List.mem_of_getElem? (i := 1064) (by decide +kernel), List.mem_of_getElem? (i := 108) (by decide +kernel), List.mem_of_getElem? (i := 1065) (by decide +kernel), by decide +kernel, by decide +kernel, by decide +kernel⟩
theorem vlX9_71 : VL "LehrBelt$Trials" 71 yX5_hasPiece bX5_hasPiece 2 ((some .boolean)) 1 := ⟨List.mem_of_getElem? (i := 1072) (by decide +kernel), List.mem_of_getElem? (i := 662) (by decide +kernel), List.mem_of_getElem? (i := 663) (by decide +kernel), List.mem_of_getElem? (i := 107) (by decide +kernel), List.mem_of_getElem? (i := 664) (by decide +kernel), by decide +kernel, by decide +kernel, by decide +kernel⟩
theorem flX9_75 : FL "LehrBelt$Trials" 75 5 11 2 := ⟨(RX5, TX5, 13), rfl, inX5, by decide, List.mem_of_getElem? (i := 238) (by decide +kernel), rfl⟩
theorem kcX9_78 : Cond.constant "LehrBelt$Trials" 78 1000000 ∈ lw_tbl := List.mem_of_getElem? (i := 1073) (by decide +kernel)
theorem vlX9_79 : VL "LehrBelt$Trials" 79 yX2_peakOf bX2_peakOf 2 ((some .int)) 1 := ⟨List.mem_of_getElem? (i := 1075) (by decide +kernel), List.mem_of_getElem? (i := 775) (by decide +kernel), List.mem_of_getElem? (i := 776) (by decide +kernel), List.mem_of_getElem? (i := 110) (by decide +kernel), List.mem_of_getElem? (i := 777) (by decide +kernel), by decide +kernel, by decide +kernel, by decide +kernel⟩
theorem vlX9_82 : VL "LehrBelt$Trials" 82 yX5_leavingStep bX5_leavingStep 3 ((some .int)) 1 := ⟨List.mem_of_getElem? (i := 1076) (by decide +kernel), List.mem_of_getElem? (i := 710) (by decide +kernel), List.mem_of_getElem? (i := 711) (by decide +kernel), List.mem_of_getElem? (i := 107) (by decide +kernel), List.mem_of_getElem? (i := 712) (by decide +kernel), by decide +kernel, by decide +kernel, by decide +kernel⟩
theorem flX9_85 : FL "LehrBelt$Trials" 85 2 8 2 := ⟨(RX2, TX2, 10), rfl, inX2, by decide, List.mem_of_getElem? (i := 339) (by decide +kernel), rfl⟩
theorem mlX9_88 : ML "LehrBelt$Trials" 88 Lib.Math.max.name Lib.Math.max.code 2 (some .int) := ⟨List.mem_of_getElem? (i := 1077) (by decide +kernel), List.mem_of_getElem? (i := 682) (by decide +kernel), List.mem_of_getElem? (i := 120) (by decide +kernel), List.mem_of_getElem? (i := 683) (by decide +kernel)⟩
theorem flX9_94 : FL "LehrBelt$Trials" 94 5 10 2 := ⟨(RX5, TX5, 13), rfl, inX5, by decide, List.mem_of_getElem? (i := 234) (by decide +kernel), rfl⟩
theorem vlX9_97 : VL "LehrBelt$Trials" 97 yX9_isSound bX9_isSound 2 ((some .boolean)) 1 := ⟨List.mem_of_getElem? (i := 1090) (by decide +kernel), List.mem_of_getElem? (i := 1092) (by decide +kernel), List.mem_of_getElem? (i := 21) (by decide +kernel), List.mem_of_getElem? (i := 111) (by decide +kernel), List.mem_of_getElem? (i := 1093) (by decide +kernel), by decide +kernel, by decide +kernel, by decide +kernel⟩
theorem fpX9_100 : FP "LehrBelt$Trials" 100 5 4 0 .int := ⟨(RX5, TX5, 13), rfl, inX5, by decide, List.mem_of_getElem? (i := 207) (by decide +kernel), rfl, ⟨tyX5, tyX5_ok⟩, nmX5, rfl, by decide +kernel⟩
theorem vlX9_103 : VL "LehrBelt$Trials" 103 yX9_soundCount bX9_soundCount 1 ((some .int)) 0 := ⟨List.mem_of_getElem? (i := 1107) (by decide +kernel), List.mem_of_getElem? (i := 1109) (by decide +kernel), List.mem_of_getElem? (i := 22) (by decide +kernel), List.mem_of_getElem? (i := 111) (by decide +kernel), List.mem_of_getElem? (i := 1110) (by decide +kernel), by decide +kernel, by decide +kernel, by decide +kernel⟩
theorem vlX9_106 : VL "LehrBelt$Trials" 106 yX9_soundByPace bX9_soundByPace 2 ((some .int)) 1 := ⟨List.mem_of_getElem? (i := 1103) (by decide +kernel), List.mem_of_getElem? (i := 1104) (by decide +kernel), List.mem_of_getElem? (i := 1105) (by decide +kernel), List.mem_of_getElem? (i := 111) (by decide +kernel), List.mem_of_getElem? (i := 1106) (by decide +kernel), by decide +kernel, by decide +kernel, by decide +kernel⟩
theorem vlX9_109 : VL "LehrBelt$Trials" 109 yX5_hasZone bX5_hasZone 2 ((some .boolean)) 1 := ⟨List.mem_of_getElem? (i := 1125) (by decide +kernel), List.mem_of_getElem? (i := 654) (by decide +kernel), List.mem_of_getElem? (i := 655) (by decide +kernel), List.mem_of_getElem? (i := 107) (by decide +kernel), List.mem_of_getElem? (i := 656) (by decide +kernel), by decide +kernel, by decide +kernel, by decide +kernel⟩
theorem flX9_112 : FL "LehrBelt$Trials" 112 5 8 2 := ⟨(RX5, TX5, 13), rfl, inX5, by decide, List.mem_of_getElem? (i := 227) (by decide +kernel), rfl⟩
theorem flX9_115 : FL "LehrBelt$Trials" 115 5 6 0 := ⟨(RX5, TX5, 13), rfl, inX5, by decide, List.mem_of_getElem? (i := 215) (by decide +kernel), rfl⟩
theorem vlX9_118 : VL "LehrBelt$Trials" 118 yX9_leastRaise bX9_leastRaise 5 ((some .int)) 3 := ⟨List.mem_of_getElem? (i := 1134) (by decide +kernel), List.mem_of_getElem? (i := 1122) (by decide +kernel), List.mem_of_getElem? (i := 1123) (by decide +kernel), List.mem_of_getElem? (i := 111) (by decide +kernel), List.mem_of_getElem? (i := 1124) (by decide +kernel), by decide +kernel, by decide +kernel, by decide +kernel⟩
theorem vlX9_122 : VL "LehrBelt$Trials" 122 yX5_changeOver bX5_changeOver 4 (none) 2 := ⟨List.mem_of_getElem? (i := 1143) (by decide +kernel), List.mem_of_getElem? (i := 1144) (by decide +kernel), List.mem_of_getElem? (i := 1145) (by decide +kernel), List.mem_of_getElem? (i := 107) (by decide +kernel), List.mem_of_getElem? (i := 1146) (by decide +kernel), by decide +kernel, by decide +kernel, by decide +kernel⟩
theorem vlX9_126 : VL "LehrBelt$Trials" 126 yX1_leaveOut bX1_leaveOut 2 (none) 1 := ⟨List.mem_of_getElem? (i := 1156) (by decide +kernel), List.mem_of_getElem? (i := 1157) (by decide +kernel), List.mem_of_getElem? (i := 1158) (by decide +kernel), List.mem_of_getElem? (i := 108) (by decide +kernel), List.mem_of_getElem? (i := 1159) (by decide +kernel), by decide +kernel, by decide +kernel, by decide +kernel⟩
theorem vlX9_130 : VL "LehrBelt$Trials" 130 yX7_lastStepTold bX7_lastStepTold 3 ((some .int)) 0 := ⟨List.mem_of_getElem? (i := 1197) (by decide +kernel), List.mem_of_getElem? (i := 1198) (by decide +kernel), List.mem_of_getElem? (i := 1199) (by decide +kernel), List.mem_of_getElem? (i := 114) (by decide +kernel), List.mem_of_getElem? (i := 1200) (by decide +kernel), by decide +kernel, by decide +kernel, by decide +kernel⟩
theorem vlX9_135 : VL "LehrBelt$Trials" 135 yX7_piecesTold bX7_piecesTold 3 ((some .int)) 0 := ⟨List.mem_of_getElem? (i := 1202) (by decide +kernel), List.mem_of_getElem? (i := 1203) (by decide +kernel), List.mem_of_getElem? (i := 1204) (by decide +kernel), List.mem_of_getElem? (i := 114) (by decide +kernel), List.mem_of_getElem? (i := 1205) (by decide +kernel), by decide +kernel, by decide +kernel, by decide +kernel⟩
theorem vlX9_138 : VL "LehrBelt$Trials" 138 yX7_agreesWith bX7_agreesWith 3 ((some .boolean)) 1 := ⟨List.mem_of_getElem? (i := 1206) (by decide +kernel), List.mem_of_getElem? (i := 1207) (by decide +kernel), List.mem_of_getElem? (i := 1208) (by decide +kernel), List.mem_of_getElem? (i := 114) (by decide +kernel), List.mem_of_getElem? (i := 1209) (by decide +kernel), by decide +kernel, by decide +kernel, by decide +kernel⟩
theorem vlX9_142 : VL "LehrBelt$Trials" 142 yX9_agrees bX9_agrees 2 ((some .boolean)) 1 := ⟨List.mem_of_getElem? (i := 1193) (by decide +kernel), List.mem_of_getElem? (i := 1195) (by decide +kernel), List.mem_of_getElem? (i := 26) (by decide +kernel), List.mem_of_getElem? (i := 111) (by decide +kernel), List.mem_of_getElem? (i := 1196) (by decide +kernel), by decide +kernel, by decide +kernel, by decide +kernel⟩
theorem vlX9_146 : VL "LehrBelt$Trials" 146 yX9_agreesByAir bX9_agreesByAir 4 ((some .boolean)) 3 := ⟨List.mem_of_getElem? (i := 1189) (by decide +kernel), List.mem_of_getElem? (i := 1191) (by decide +kernel), List.mem_of_getElem? (i := 25) (by decide +kernel), List.mem_of_getElem? (i := 111) (by decide +kernel), List.mem_of_getElem? (i := 1192) (by decide +kernel), by decide +kernel, by decide +kernel, by decide +kernel⟩
theorem fpX9_150 : FP "LehrBelt$Trials" 150 5 2 0 .int := ⟨(RX5, TX5, 13), rfl, inX5, by decide, List.mem_of_getElem? (i := 199) (by decide +kernel), rfl, ⟨tyX5, tyX5_ok⟩, nmX5, rfl, by decide +kernel⟩
theorem vlX9_153 : VL "LehrBelt$Trials" 153 yX9_soundBits bX9_soundBits 1 ((some .int)) 0 := ⟨List.mem_of_getElem? (i := 1251) (by decide +kernel), List.mem_of_getElem? (i := 1253) (by decide +kernel), List.mem_of_getElem? (i := 27) (by decide +kernel), List.mem_of_getElem? (i := 111) (by decide +kernel), List.mem_of_getElem? (i := 1254) (by decide +kernel), by decide +kernel, by decide +kernel, by decide +kernel⟩
theorem vlX9_156 : VL "LehrBelt$Trials" 156 yX9_soundBitsByLaw bX9_soundBitsByLaw 2 ((some .int)) 1 := ⟨List.mem_of_getElem? (i := 1263) (by decide +kernel), List.mem_of_getElem? (i := 1248) (by decide +kernel), List.mem_of_getElem? (i := 1249) (by decide +kernel), List.mem_of_getElem? (i := 111) (by decide +kernel), List.mem_of_getElem? (i := 1250) (by decide +kernel), by decide +kernel, by decide +kernel, by decide +kernel⟩
theorem flX9_25 : FL "LehrBelt$Trials" 25 9 4 2 := ⟨(RX9, TX9, 6), rfl, inX9, by decide, List.mem_of_getElem? (i := 391) (by decide +kernel), rfl⟩
theorem mlX9_159 : ML "LehrBelt$Trials" 159 Lib.Math.min.name Lib.Math.min.code 2 (some .int) := ⟨List.mem_of_getElem? (i := 1284) (by decide +kernel), List.mem_of_getElem? (i := 607) (by decide +kernel), List.mem_of_getElem? (i := 120) (by decide +kernel), List.mem_of_getElem? (i := 608) (by decide +kernel)⟩
theorem flX9_21 : FL "LehrBelt$Trials" 21 9 3 2 := ⟨(RX9, TX9, 6), rfl, inX9, by decide, List.mem_of_getElem? (i := 390) (by decide +kernel), rfl⟩
theorem slX9_165 : SL "LehrBelt$Trials" 165 yX9_ordersOf bX9_ordersOf 4 ((some .long)) 1 := ⟨List.mem_of_getElem? (i := 1286) (by decide +kernel), List.mem_of_getElem? (i := 1287) (by decide +kernel), List.mem_of_getElem? (i := 111) (by decide +kernel), List.mem_of_getElem? (i := 1288) (by decide +kernel), by decide +kernel, by decide +kernel, by decide +kernel⟩
theorem vlX9_169 : VL "LehrBelt$Trials" 169 yX3_put bX3_put 7 (none) 2 := ⟨List.mem_of_getElem? (i := 1289) (by decide +kernel), List.mem_of_getElem? (i := 1290) (by decide +kernel), List.mem_of_getElem? (i := 1291) (by decide +kernel), List.mem_of_getElem? (i := 112) (by decide +kernel), List.mem_of_getElem? (i := 1292) (by decide +kernel), by decide +kernel, by decide +kernel, by decide +kernel⟩
theorem vlX9_162 : VL "LehrBelt$Trials" 162 yX9_worthOf bX9_worthOf 3 ((some .int)) 1 := ⟨List.mem_of_getElem? (i := 1285) (by decide +kernel), List.mem_of_getElem? (i := 1269) (by decide +kernel), List.mem_of_getElem? (i := 1270) (by decide +kernel), List.mem_of_getElem? (i := 111) (by decide +kernel), List.mem_of_getElem? (i := 1271) (by decide +kernel), by decide +kernel, by decide +kernel, by decide +kernel⟩
theorem flX9_29 : FL "LehrBelt$Trials" 29 9 5 2 := ⟨(RX9, TX9, 6), rfl, inX9, by decide, List.mem_of_getElem? (i := 392) (by decide +kernel), rfl⟩
theorem vlX9_173 : VL "LehrBelt$Trials" 173 yX9_gain bX9_gain 6 ((some .int)) 4 := ⟨List.mem_of_getElem? (i := 1315) (by decide +kernel), List.mem_of_getElem? (i := 1316) (by decide +kernel), List.mem_of_getElem? (i := 1317) (by decide +kernel), List.mem_of_getElem? (i := 111) (by decide +kernel), List.mem_of_getElem? (i := 1318) (by decide +kernel), by decide +kernel, by decide +kernel, by decide +kernel⟩
set_option maxRecDepth 100000 in
set_option maxHeartbeats 4000000 in
theorem c_X9_soundBits {l : Launch} {P : Wp} {E : State → Heap → Prop} (hW : Wok shC P E) {M : Mem} {r : Int32} {M' : Mem} (h : f_X9_soundBits M = some (r, M')) : CT l shC P E yX9_soundBits bX9_soundBits 1 ((some .int)) 4 118 [.ref (P.2.2.1 33)] (some (.int r)) M M' := by
  refine ct_of hW (by decide) (Nat.le_of_ble_eq_true rfl) (fun p e s m args below meth c C ls hl hw => ?_)
  have hx := C.1
  have hb := C.2.1
  replace hl : lv_has ls 1 [(0, .ref (P.2.2.1 33))] := hl
  refine lv_aload_n hx hb dX9_soundBits_0 rfl (lv_at hl 0 rfl) ?_
  refine wgetR (t := 49) C hw flX9_40 (rfl : _ = some (0, 9)) rfl dX9_soundBits_1 ?_
  refine lv_iconst (v := 0) hx hb dX9_soundBits_4 (by decide) ?_
  refine lv_aload_n hx hb dX9_soundBits_5 rfl (lv_at hl 0 rfl) ?_
  refine wgetR (t := 34) C hw flX9_12 (rfl : _ = some (0, 9)) rfl dX9_soundBits_6 ?_
  refine wgetR (t := 35) C hw flX9_44 (rfl : _ = some (0, 1)) rfl dX9_soundBits_9 ?_
  refine wgetI C hw flX9_48 (rfl : _ = some (0, 5)) dX9_soundBits_12 ?_
  refine lv_bipush (v := 63) hx hb dX9_soundBits_15 (by decide) ?_
  obtain ⟨M3, e2, h⟩ := bnd_some h
  refine wcallV0 (As := [.int 0, .int (M.1 35 1), .int 63]) (rest := []) C hw (c_X2_follow hW (rfl : _ = some (0, 2)) e2) vlX9_54 ⟨Nat.le_of_ble_eq_true rfl, Nat.le_of_ble_eq_true rfl⟩ (rfl : _ = some (0, 2)) rfl rfl rfl hl.1 (Nat.le_of_ble_eq_true rfl) dX9_soundBits_17 ⟨Nat.zero_le _, Nat.zero_le _⟩ (fun H locs hw => ?_)
  refine lv_aload_n hx hb dX9_soundBits_20 rfl (lv_at hl 0 rfl) ?_
  refine wgetR (t := 49) C hw flX9_40 (rfl : _ = some (0, 9)) rfl dX9_soundBits_21 ?_
  obtain ⟨r4, e5, h⟩ := bnd_some h
  refine wcallV1 (As := []) (rest := []) C hw (c_X2_neverCracked hW (rfl : _ = some (0, 2)) e5) vlX9_58 ⟨Nat.le_of_ble_eq_true rfl, Nat.le_of_ble_eq_true rfl⟩ (rfl : _ = some (0, 2)) rfl rfl rfl hl.1 (Nat.le_of_ble_eq_true rfl) dX9_soundBits_24 ⟨Nat.zero_le _, Nat.zero_le _⟩ (fun H locs hw => ?_)
  exact wretI_W C hw h dX9_soundBits_27
set_option maxRecDepth 100000 in
set_option maxHeartbeats 4000000 in
theorem c_X9_soundCount {l : Launch} {P : Wp} {E : State → Heap → Prop} (hW : Wok shC P E) {M : Mem} {r : Int32} {M' : Mem} (h : f_X9_soundCount M = some (r, M')) : CT l shC P E yX9_soundCount bX9_soundCount 1 ((some .int)) 4 118 [.ref (P.2.2.1 33)] (some (.int r)) M M' := by
  refine ct_of hW (by decide) (Nat.le_of_ble_eq_true rfl) (fun p e s m args below meth c C ls hl hw => ?_)
  have hx := C.1
  have hb := C.2.1
  replace hl : lv_has ls 1 [(0, .ref (P.2.2.1 33))] := hl
  refine lv_aload_n hx hb dX9_soundCount_0 rfl (lv_at hl 0 rfl) ?_
  refine wgetR (t := 49) C hw flX9_40 (rfl : _ = some (0, 9)) rfl dX9_soundCount_1 ?_
  refine lv_iconst (v := 0) hx hb dX9_soundCount_4 (by decide) ?_
  refine lv_aload_n hx hb dX9_soundCount_5 rfl (lv_at hl 0 rfl) ?_
  refine wgetR (t := 34) C hw flX9_12 (rfl : _ = some (0, 9)) rfl dX9_soundCount_6 ?_
  refine wgetR (t := 35) C hw flX9_44 (rfl : _ = some (0, 1)) rfl dX9_soundCount_9 ?_
  refine wgetI C hw flX9_48 (rfl : _ = some (0, 5)) dX9_soundCount_12 ?_
  refine lv_bipush (v := 63) hx hb dX9_soundCount_15 (by decide) ?_
  obtain ⟨M3, e2, h⟩ := bnd_some h
  refine wcallV0 (As := [.int 0, .int (M.1 35 1), .int 63]) (rest := []) C hw (c_X2_follow hW (rfl : _ = some (0, 2)) e2) vlX9_54 ⟨Nat.le_of_ble_eq_true rfl, Nat.le_of_ble_eq_true rfl⟩ (rfl : _ = some (0, 2)) rfl rfl rfl hl.1 (Nat.le_of_ble_eq_true rfl) dX9_soundCount_17 ⟨Nat.zero_le _, Nat.zero_le _⟩ (fun H locs hw => ?_)
  refine lv_aload_n hx hb dX9_soundCount_20 rfl (lv_at hl 0 rfl) ?_
  refine wgetR (t := 49) C hw flX9_40 (rfl : _ = some (0, 9)) rfl dX9_soundCount_21 ?_
  obtain ⟨r4, e5, h⟩ := bnd_some h
  refine wcallV1 (As := []) (rest := []) C hw (c_X2_neverCracked hW (rfl : _ = some (0, 2)) e5) vlX9_58 ⟨Nat.le_of_ble_eq_true rfl, Nat.le_of_ble_eq_true rfl⟩ (rfl : _ = some (0, 2)) rfl rfl rfl hl.1 (Nat.le_of_ble_eq_true rfl) dX9_soundCount_24 ⟨Nat.zero_le _, Nat.zero_le _⟩ (fun H locs hw => ?_)
  refine wcallS1 (As := [.int r4]) (rest := []) C hw (c_J6_bitCount_0f7a4 hW  rfl) slX9_62 ⟨Nat.le_of_ble_eq_true rfl, Nat.le_of_ble_eq_true rfl⟩ rfl rfl hl.1 (Nat.le_of_ble_eq_true rfl) dX9_soundCount_27 ⟨Nat.zero_le _, Nat.zero_le _⟩ (fun H locs hw => ?_)
  exact wretI_W C hw h dX9_soundCount_30
set_option maxRecDepth 100000 in
set_option maxHeartbeats 4000000 in
theorem c_X9_isSound {l : Launch} {P : Wp} {E : State → Heap → Prop} (hW : Wok shC P E) {p1 : Int32} {M : Mem} {r : Int32} {M' : Mem} (h : f_X9_isSound p1 M = some (r, M')) : CT l shC P E yX9_isSound bX9_isSound 2 ((some .boolean)) 4 118 [.ref (P.2.2.1 33), .int p1] (some (.int r)) M M' := by
  refine ct_of hW (by decide) (Nat.le_of_ble_eq_true rfl) (fun p e s m args below meth c C ls hl hw => ?_)
  have hx := C.1
  have hb := C.2.1
  replace hl : lv_has ls 2 [(0, .ref (P.2.2.1 33)), (1, .int p1)] := hl
  refine lv_aload_n hx hb dX9_isSound_0 rfl (lv_at hl 0 rfl) ?_
  refine wgetR (t := 49) C hw flX9_40 (rfl : _ = some (0, 9)) rfl dX9_isSound_1 ?_
  refine lv_iconst (v := 0) hx hb dX9_isSound_4 (by decide) ?_
  refine lv_aload_n hx hb dX9_isSound_5 rfl (lv_at hl 0 rfl) ?_
  refine wgetR (t := 34) C hw flX9_12 (rfl : _ = some (0, 9)) rfl dX9_isSound_6 ?_
  refine wgetR (t := 35) C hw flX9_44 (rfl : _ = some (0, 1)) rfl dX9_isSound_9 ?_
  refine wgetI C hw flX9_48 (rfl : _ = some (0, 5)) dX9_isSound_12 ?_
  refine lv_iconst (v := 1) hx hb dX9_isSound_15 (by decide) ?_
  refine lv_iload_n hx hb dX9_isSound_16 rfl (lv_at hl 1 rfl) ?_
  refine lv_ishl hx hb dX9_isSound_17 ?_
  obtain ⟨M3, e2, h⟩ := bnd_some h
  refine wcallV0 (As := [.int 0, .int (M.1 35 1), .int ((1 : Int32) <<< (p1 &&& 31))]) (rest := []) C hw (c_X2_follow hW (rfl : _ = some (0, 2)) e2) vlX9_54 ⟨Nat.le_of_ble_eq_true rfl, Nat.le_of_ble_eq_true rfl⟩ (rfl : _ = some (0, 2)) rfl rfl rfl hl.1 (Nat.le_of_ble_eq_true rfl) dX9_isSound_18 ⟨Nat.zero_le _, Nat.zero_le _⟩ (fun H locs hw => ?_)
  refine lv_aload_n hx hb dX9_isSound_21 rfl (lv_at hl 0 rfl) ?_
  refine wgetR (t := 49) C hw flX9_40 (rfl : _ = some (0, 9)) rfl dX9_isSound_22 ?_
  obtain ⟨r4, e5, h⟩ := bnd_some h
  refine wcallV1 (As := []) (rest := []) C hw (c_X2_neverCracked hW (rfl : _ = some (0, 2)) e5) vlX9_58 ⟨Nat.le_of_ble_eq_true rfl, Nat.le_of_ble_eq_true rfl⟩ (rfl : _ = some (0, 2)) rfl rfl rfl hl.1 (Nat.le_of_ble_eq_true rfl) dX9_isSound_25 ⟨Nat.zero_le _, Nat.zero_le _⟩ (fun H locs hw => ?_)
  refine lv_iload_n hx hb dX9_isSound_28 rfl (lv_at hl 1 rfl) ?_
  refine lv_ishr hx hb dX9_isSound_29 ?_
  refine lv_iconst (v := 1) hx hb dX9_isSound_30 (by decide) ?_
  refine lv_iand hx hb dX9_isSound_31 ?_
  refine lv_if_eq (tgt := 39) hx hb dX9_isSound_32 (by decide) (fun c6 => ?_) (fun c6 => ?_)
  · replace h := (if_pos c6).symm.trans h
    refine lv_iconst (v := 0) hx hb dX9_isSound_39 (by decide) ?_
    exact wretZ_W C hw (Or.inl rfl) h dX9_isSound_40
  · replace h := (if_neg c6).symm.trans h
    refine lv_iconst (v := 1) hx hb dX9_isSound_35 (by decide) ?_
    refine lv_goto (tgt := 40) hx hb dX9_isSound_36 (by decide) ?_
    exact wretZ_W C hw (Or.inr rfl) h dX9_isSound_40
set_option maxRecDepth 100000 in
set_option maxHeartbeats 4000000 in
theorem c_X9_strengthFor {l : Launch} {P : Wp} {E : State → Heap → Prop} (hW : Wok shC P E) {p1 : Int32} {M : Mem} {r : Int32} {M' : Mem} (h : f_X9_strengthFor p1 M = some (r, M')) : CT l shC P E yX9_strengthFor bX9_strengthFor 3 ((some .int)) 5 130 [.ref (P.2.2.1 33), .int p1] (some (.int r)) M M' := by
  refine ct_of hW (by decide) (Nat.le_of_ble_eq_true rfl) (fun p e s m args below meth c C ls hl hw => ?_)
  have hx := C.1
  have hb := C.2.1
  replace hl : lv_has ls 3 [(0, .ref (P.2.2.1 33)), (1, .int p1)] := hl
  refine lv_aload_n hx hb dX9_strengthFor_0 rfl (lv_at hl 0 rfl) ?_
  refine wgetR (t := 34) C hw flX9_12 (rfl : _ = some (0, 9)) rfl dX9_strengthFor_1 ?_
  refine lv_aload_n hx hb dX9_strengthFor_4 rfl (lv_at hl 0 rfl) ?_
  refine wgetR (t := 13) C hw flX9_32 (rfl : _ = some (0, 9)) rfl dX9_strengthFor_5 ?_
  obtain ⟨M3, e2, h⟩ := bnd_some h
  refine wcallV0 (As := [.ref (P.2.2.1 13)]) (rest := []) C hw (c_X1_copyFrom hW (rfl : _ = some (0, 1)) (rfl : _ = some (0, 1)) e2) vlX9_68 ⟨Nat.le_of_ble_eq_true rfl, Nat.le_of_ble_eq_true rfl⟩ (rfl : _ = some (0, 1)) rfl rfl rfl hl.1 (Nat.le_of_ble_eq_true rfl) dX9_strengthFor_8 ⟨Nat.zero_le _, Nat.zero_le _⟩ (fun H locs hw => ?_)
  refine lv_aload_n hx hb dX9_strengthFor_11 rfl (lv_at hl 0 rfl) ?_
  refine wgetR (t := 34) C hw flX9_12 (rfl : _ = some (0, 9)) rfl dX9_strengthFor_12 ?_
  refine wgetR (t := 35) C hw flX9_44 (rfl : _ = some (0, 1)) rfl dX9_strengthFor_15 ?_
  refine lv_iload_n hx hb dX9_strengthFor_18 rfl (lv_at hl 1 rfl) ?_
  refine wcallV1 (As := [.int p1]) (rest := []) C hw (c_X5_hasPiece hW (rfl : _ = some (0, 5)) rfl) vlX9_71 ⟨Nat.le_of_ble_eq_true rfl, Nat.le_of_ble_eq_true rfl⟩ (rfl : _ = some (0, 5)) rfl rfl rfl hl.1 (Nat.le_of_ble_eq_true rfl) dX9_strengthFor_19 ⟨Nat.zero_le _, Nat.zero_le _⟩ (fun H locs hw => ?_)
  refine lv_if_ne (tgt := 27) hx hb dX9_strengthFor_22 (by decide) (fun c4 => ?_) (fun c4 => ?_)
  · replace h := (if_neg c4).symm.trans h
    refine lv_aload_n hx hb dX9_strengthFor_27 rfl (lv_at hl 0 rfl) ?_
    refine wgetR (t := 34) C hw flX9_12 (rfl : _ = some (0, 9)) rfl dX9_strengthFor_28 ?_
    refine wgetR (t := 35) C hw flX9_44 (rfl : _ = some (0, 1)) rfl dX9_strengthFor_31 ?_
    refine wgetR (t := 39) C hw flX9_75 (rfl : _ = some (0, 5)) rfl dX9_strengthFor_34 ?_
    refine lv_iload_n hx hb dX9_strengthFor_37 rfl (lv_at hl 1 rfl) ?_
    refine lv_ldc hx hb C.2.2.2.1 (C.2.2.2.2.1 _ (List.mem_cons_of_mem _ (gm kcX9_78 rfl))) dX9_strengthFor_38 ?_
    obtain ⟨g6, h⟩ := grd h
    refine wast C hw (rfl : _ = some (1, 6)) g6 dX9_strengthFor_40 (fun M5 eM5 H locs hw => ?_)
    replace h := letv_at eM5 h
    refine lv_aload_n hx hb dX9_strengthFor_41 rfl (lv_at hl 0 rfl) ?_
    refine wgetR (t := 49) C hw flX9_40 (rfl : _ = some (0, 9)) rfl dX9_strengthFor_42 ?_
    refine lv_iconst (v := 0) hx hb dX9_strengthFor_45 (by decide) ?_
    refine lv_aload_n hx hb dX9_strengthFor_46 rfl (lv_at hl 0 rfl) ?_
    refine wgetR (t := 34) C hw flX9_12 (rfl : _ = some (0, 9)) rfl dX9_strengthFor_47 ?_
    refine wgetR (t := 35) C hw flX9_44 (rfl : _ = some (0, 1)) rfl dX9_strengthFor_50 ?_
    refine wgetI C hw flX9_48 (rfl : _ = some (0, 5)) dX9_strengthFor_53 ?_
    refine lv_iconst (v := 1) hx hb dX9_strengthFor_56 (by decide) ?_
    refine lv_iload_n hx hb dX9_strengthFor_57 rfl (lv_at hl 1 rfl) ?_
    refine lv_ishl hx hb dX9_strengthFor_58 ?_
    obtain ⟨M9, e8, h⟩ := bnd_some h
    refine wcallV0 (As := [.int 0, .int (M5.1 35 1), .int ((1 : Int32) <<< (p1 &&& 31))]) (rest := []) C hw (c_X2_follow hW (rfl : _ = some (0, 2)) e8) vlX9_54 ⟨Nat.le_of_ble_eq_true rfl, Nat.le_of_ble_eq_true rfl⟩ (rfl : _ = some (0, 2)) rfl rfl rfl hl.1 (Nat.le_of_ble_eq_true rfl) dX9_strengthFor_59 ⟨Nat.zero_le _, Nat.zero_le _⟩ (fun H locs hw => ?_)
    refine lv_aload_n hx hb dX9_strengthFor_62 rfl (lv_at hl 0 rfl) ?_
    refine wgetR (t := 49) C hw flX9_40 (rfl : _ = some (0, 9)) rfl dX9_strengthFor_63 ?_
    refine lv_iload_n hx hb dX9_strengthFor_66 rfl (lv_at hl 1 rfl) ?_
    obtain ⟨r10, e11, h⟩ := bnd_some h
    refine wcallV1 (As := [.int p1]) (rest := []) C hw (c_X2_peakOf hW (rfl : _ = some (0, 2)) e11) vlX9_79 ⟨Nat.le_of_ble_eq_true rfl, Nat.le_of_ble_eq_true rfl⟩ (rfl : _ = some (0, 2)) rfl rfl rfl hl.1 (Nat.le_of_ble_eq_true rfl) dX9_strengthFor_67 ⟨Nat.zero_le _, Nat.zero_le _⟩ (fun H locs hw => ?_)
    refine lv_istore_n (lv' := [(2, .int r10), (0, .ref (P.2.2.1 33)), (1, .int p1)]) hx hb dX9_strengthFor_70 rfl hl (by decide) rfl (fun ls hl => ?_)
    refine lv_aload_n hx hb dX9_strengthFor_71 rfl (lv_at hl 1 rfl) ?_
    refine wgetR (t := 34) C hw flX9_12 (rfl : _ = some (0, 9)) rfl dX9_strengthFor_72 ?_
    refine wgetR (t := 35) C hw flX9_44 (rfl : _ = some (0, 1)) rfl dX9_strengthFor_75 ?_
    refine lv_iload_n hx hb dX9_strengthFor_78 rfl (lv_at hl 2 rfl) ?_
    obtain ⟨r12, e13, h⟩ := bnd_some h
    refine wcallV1 (As := [.int p1]) (rest := []) C hw (c_X5_leavingStep hW (rfl : _ = some (0, 5)) e13) vlX9_82 ⟨Nat.le_of_ble_eq_true rfl, Nat.le_of_ble_eq_true rfl⟩ (rfl : _ = some (0, 5)) rfl rfl rfl hl.1 (Nat.le_of_ble_eq_true rfl) dX9_strengthFor_79 ⟨Nat.zero_le _, Nat.zero_le _⟩ (fun H locs hw => ?_)
    refine lv_iconst (v := (-1)) hx hb dX9_strengthFor_82 (by decide) ?_
    refine lv_icmp_eq (tgt := 102) hx hb dX9_strengthFor_83 (by decide) (fun c14 => ?_) (fun c14 => ?_)
    · replace h := (if_pos c14).symm.trans h
      refine lv_iload_n hx hb dX9_strengthFor_102 rfl (lv_at hl 0 rfl) ?_
      exact wretI_W C hw h dX9_strengthFor_103
    · replace h := (if_neg c14).symm.trans h
      refine lv_iload_n hx hb dX9_strengthFor_86 rfl (lv_at hl 0 rfl) ?_
      refine lv_iconst (v := 2) hx hb dX9_strengthFor_87 (by decide) ?_
      refine lv_aload_n hx hb dX9_strengthFor_88 rfl (lv_at hl 1 rfl) ?_
      refine wgetR (t := 49) C hw flX9_40 (rfl : _ = some (0, 9)) rfl dX9_strengthFor_89 ?_
      refine wgetR (t := 55) C hw flX9_85 (rfl : _ = some (0, 2)) rfl dX9_strengthFor_92 ?_
      refine lv_iload_n hx hb dX9_strengthFor_95 rfl (lv_at hl 2 rfl) ?_
      obtain ⟨g15, h⟩ := grd h
      refine wald C hw (rfl : _ = some (1, 6)) g15 dX9_strengthFor_96 ?_
      refine lv_imul hx hb dX9_strengthFor_97 ?_
      refine wmax C mlX9_88 hl.1 (Nat.le_of_ble_eq_true rfl) (Nat.le_of_ble_eq_true rfl) (Nat.zero_le _) (Nat.zero_le _) dX9_strengthFor_98 ?_
      refine lv_topi (fun x16 ex16 => ?_)
      replace h := letv_at ex16 h
      refine lv_istore_n (lv' := [(2, .int x16), (0, .ref (P.2.2.1 33)), (1, .int p1)]) hx hb dX9_strengthFor_101 rfl hl (by decide) rfl (fun ls hl => ?_)
      refine lv_iload_n hx hb dX9_strengthFor_102 rfl (lv_at hl 0 rfl) ?_
      exact wretI_W C hw h dX9_strengthFor_103
  · replace h := (if_pos c4).symm.trans h
    refine lv_iconst (v := 0) hx hb dX9_strengthFor_25 (by decide) ?_
    exact wretI_W C hw h dX9_strengthFor_26
set_option maxRecDepth 100000 in
set_option maxHeartbeats 4000000 in
theorem c_X9_greatestThick {l : Launch} {P : Wp} {E : State → Heap → Prop} (hW : Wok shC P E) {p1 : Int32} {M : Mem} {r : Int32} {M' : Mem} (h : f_X9_greatestThick p1 M = some (r, M')) : CT l shC P E yX9_greatestThick bX9_greatestThick 3 ((some .int)) 5 139 [.ref (P.2.2.1 33), .int p1] (some (.int r)) M M' := by
  refine ct_of hW (by decide) (Nat.le_of_ble_eq_true rfl) (fun p e s m args below meth c C ls hl hw => ?_)
  have hx := C.1
  have hb := C.2.1
  replace hl : lv_has ls 3 [(0, .ref (P.2.2.1 33)), (1, .int p1)] := hl
  have cut_30 : ∀ (n_30 : Nat) (v2_30 : Int32) (M_30 : Mem) (ls : Array Slot) (H : Heap) (locs : List Loc), lv_has ls 3 [(0, .ref (P.2.2.1 33)), (1, .int p1), (2, .int v2_30)] → Hw shC P M_30 s H locs → lq2 (L_X9_greatestThick_30 p1) n_30 v2_30 M_30 = some (r, M') → W p l e { frames := 5, cells := 0, slots := 0, locals := 139 } s m args below meth c H locs 0 0 (MQ below (CQ shC P E (some (.int r)) M') args s 0 0 (wA shC P)) (F0 m 30 ls []) := by
    intro n_30
    induction n_30 with
    | zero => intro v2_30 M_30 ls H locs hl hw h; cases h
    | succ n_30 ih_30 =>
      intro v2_30 M_30 ls H locs hl hw h
      replace h := lq2_succ h
      refine lv_iload_n hx hb dX9_greatestThick_30 rfl (lv_at hl 2 rfl) ?_
      refine lv_iconst (v := 1) hx hb dX9_greatestThick_31 (by decide) ?_
      refine lv_icmp_lt (tgt := 64) hx hb dX9_greatestThick_32 (by decide) (fun c5 => ?_) (fun c5 => ?_)
      · replace h := (if_pos c5).symm.trans h
        refine lv_iconst (v := (-1)) hx hb dX9_greatestThick_64 (by decide) ?_
        exact wretI_W C hw h dX9_greatestThick_65
      · replace h := (if_neg c5).symm.trans h
        refine lv_aload_n hx hb dX9_greatestThick_35 rfl (lv_at hl 0 rfl) ?_
        refine wgetR (t := 34) C hw flX9_12 (rfl : _ = some (0, 9)) rfl dX9_greatestThick_36 ?_
        refine wgetR (t := 35) C hw flX9_44 (rfl : _ = some (0, 1)) rfl dX9_greatestThick_39 ?_
        refine wgetR (t := 38) C hw flX9_94 (rfl : _ = some (0, 5)) rfl dX9_greatestThick_42 ?_
        refine lv_iload_n hx hb dX9_greatestThick_45 rfl (lv_at hl 1 rfl) ?_
        refine lv_iload_n hx hb dX9_greatestThick_46 rfl (lv_at hl 2 rfl) ?_
        obtain ⟨g7, h⟩ := grd h
        refine wast C hw (rfl : _ = some (1, 6)) g7 dX9_greatestThick_47 (fun M6 eM6 H locs hw => ?_)
        replace h := letv_at eM6 h
        refine lv_aload_n hx hb dX9_greatestThick_48 rfl (lv_at hl 0 rfl) ?_
        refine lv_iload_n hx hb dX9_greatestThick_49 rfl (lv_at hl 1 rfl) ?_
        obtain ⟨r8, M10, e9, h⟩ := bnd2_some h
        refine wcallV1 (As := [.int p1]) (rest := []) C hw (c_X9_isSound hW  e9) vlX9_97 ⟨Nat.le_of_ble_eq_true rfl, Nat.le_of_ble_eq_true rfl⟩ (rfl : _ = some (0, 9)) rfl rfl rfl hl.1 (Nat.le_of_ble_eq_true rfl) dX9_greatestThick_50 ⟨Nat.zero_le _, Nat.zero_le _⟩ (fun H locs hw => ?_)
        refine lv_if_eq (tgt := 58) hx hb dX9_greatestThick_53 (by decide) (fun c11 => ?_) (fun c11 => ?_)
        · replace h := (if_pos c11).symm.trans h
          refine lv_iinc (v := (v2_30 + (-1))) (lv' := [(2, .int (v2_30 + (-1))), (0, .ref (P.2.2.1 33)), (1, .int p1)]) (k := 2) hx hb dX9_greatestThick_58 hl rfl (congrArg (fun z => v2_30 + z) (by decide)) (by decide) rfl (fun ls hl => ?_)
          refine lv_goto (tgt := 30) hx hb dX9_greatestThick_61 (by decide) ?_
          exact ih_30 (v2_30 + (-1)) M10 ls _ _ (lv_sub hl [1, 2, 0] rfl) hw h
        · replace h := (if_neg c11).symm.trans h
          refine lv_iload_n hx hb dX9_greatestThick_56 rfl (lv_at hl 2 rfl) ?_
          exact wretI_W C hw h dX9_greatestThick_57
  refine lv_aload_n hx hb dX9_greatestThick_0 rfl (lv_at hl 0 rfl) ?_
  refine wgetR (t := 34) C hw flX9_12 (rfl : _ = some (0, 9)) rfl dX9_greatestThick_1 ?_
  refine lv_aload_n hx hb dX9_greatestThick_4 rfl (lv_at hl 0 rfl) ?_
  refine wgetR (t := 13) C hw flX9_32 (rfl : _ = some (0, 9)) rfl dX9_greatestThick_5 ?_
  obtain ⟨M3, e2, h⟩ := bnd_some h
  refine wcallV0 (As := [.ref (P.2.2.1 13)]) (rest := []) C hw (c_X1_copyFrom hW (rfl : _ = some (0, 1)) (rfl : _ = some (0, 1)) e2) vlX9_68 ⟨Nat.le_of_ble_eq_true rfl, Nat.le_of_ble_eq_true rfl⟩ (rfl : _ = some (0, 1)) rfl rfl rfl hl.1 (Nat.le_of_ble_eq_true rfl) dX9_greatestThick_8 ⟨Nat.zero_le _, Nat.zero_le _⟩ (fun H locs hw => ?_)
  refine lv_aload_n hx hb dX9_greatestThick_11 rfl (lv_at hl 0 rfl) ?_
  refine wgetR (t := 34) C hw flX9_12 (rfl : _ = some (0, 9)) rfl dX9_greatestThick_12 ?_
  refine wgetR (t := 35) C hw flX9_44 (rfl : _ = some (0, 1)) rfl dX9_greatestThick_15 ?_
  refine lv_iload_n hx hb dX9_greatestThick_18 rfl (lv_at hl 1 rfl) ?_
  refine wcallV1 (As := [.int p1]) (rest := []) C hw (c_X5_hasPiece hW (rfl : _ = some (0, 5)) rfl) vlX9_71 ⟨Nat.le_of_ble_eq_true rfl, Nat.le_of_ble_eq_true rfl⟩ (rfl : _ = some (0, 5)) rfl rfl rfl hl.1 (Nat.le_of_ble_eq_true rfl) dX9_greatestThick_19 ⟨Nat.zero_le _, Nat.zero_le _⟩ (fun H locs hw => ?_)
  refine lv_if_ne (tgt := 27) hx hb dX9_greatestThick_22 (by decide) (fun c4 => ?_) (fun c4 => ?_)
  · replace h := (if_neg c4).symm.trans h
    refine lv_bipush (v := 9) hx hb dX9_greatestThick_27 (by decide) ?_
    refine lv_istore_n (lv' := [(2, .int 9), (0, .ref (P.2.2.1 33)), (1, .int p1)]) hx hb dX9_greatestThick_29 rfl hl (by decide) rfl (fun ls hl => ?_)
    exact cut_30 FU 9 M3 ls _ _ (lv_sub hl [1, 2, 0] rfl) hw h
  · replace h := (if_pos c4).symm.trans h
    refine lv_iconst (v := (-1)) hx hb dX9_greatestThick_25 (by decide) ?_
    exact wretI_W C hw h dX9_greatestThick_26
set_option maxRecDepth 100000 in
set_option maxHeartbeats 4000000 in
theorem c_X9_soundByPace {l : Launch} {P : Wp} {E : State → Heap → Prop} (hW : Wok shC P E) {p1 : Int32} {M : Mem} {r : Int32} {M' : Mem} (h : f_X9_soundByPace p1 M = some (r, M')) : CT l shC P E yX9_soundByPace bX9_soundByPace 2 ((some .int)) 5 138 [.ref (P.2.2.1 33), .int p1] (some (.int r)) M M' := by
  refine ct_of hW (by decide) (Nat.le_of_ble_eq_true rfl) (fun p e s m args below meth c C ls hl hw => ?_)
  have hx := C.1
  have hb := C.2.1
  replace hl : lv_has ls 2 [(0, .ref (P.2.2.1 33)), (1, .int p1)] := hl
  refine lv_aload_n hx hb dX9_soundByPace_0 rfl (lv_at hl 0 rfl) ?_
  refine wgetR (t := 34) C hw flX9_12 (rfl : _ = some (0, 9)) rfl dX9_soundByPace_1 ?_
  refine lv_aload_n hx hb dX9_soundByPace_4 rfl (lv_at hl 0 rfl) ?_
  refine wgetR (t := 13) C hw flX9_32 (rfl : _ = some (0, 9)) rfl dX9_soundByPace_5 ?_
  obtain ⟨M3, e2, h⟩ := bnd_some h
  refine wcallV0 (As := [.ref (P.2.2.1 13)]) (rest := []) C hw (c_X1_copyFrom hW (rfl : _ = some (0, 1)) (rfl : _ = some (0, 1)) e2) vlX9_68 ⟨Nat.le_of_ble_eq_true rfl, Nat.le_of_ble_eq_true rfl⟩ (rfl : _ = some (0, 1)) rfl rfl rfl hl.1 (Nat.le_of_ble_eq_true rfl) dX9_soundByPace_8 ⟨Nat.zero_le _, Nat.zero_le _⟩ (fun H locs hw => ?_)
  refine lv_aload_n hx hb dX9_soundByPace_11 rfl (lv_at hl 0 rfl) ?_
  refine wgetR (t := 34) C hw flX9_12 (rfl : _ = some (0, 9)) rfl dX9_soundByPace_12 ?_
  refine wgetR (t := 35) C hw flX9_44 (rfl : _ = some (0, 1)) rfl dX9_soundByPace_15 ?_
  refine lv_iload_n hx hb dX9_soundByPace_18 rfl (lv_at hl 1 rfl) ?_
  refine wputI C hw fpX9_100 (rfl : _ = some (0, 5)) dX9_soundByPace_19 (fun M4 eM4 H locs hw => ?_)
  replace h := letv_at eM4 h
  refine lv_aload_n hx hb dX9_soundByPace_22 rfl (lv_at hl 0 rfl) ?_
  obtain ⟨r5, M7, e6, h⟩ := bnd2_some h
  refine wcallV1 (As := []) (rest := []) C hw (c_X9_soundCount hW  e6) vlX9_103 ⟨Nat.le_of_ble_eq_true rfl, Nat.le_of_ble_eq_true rfl⟩ (rfl : _ = some (0, 9)) rfl rfl rfl hl.1 (Nat.le_of_ble_eq_true rfl) dX9_soundByPace_23 ⟨Nat.zero_le _, Nat.zero_le _⟩ (fun H locs hw => ?_)
  exact wretI_W C hw h dX9_soundByPace_26
set_option maxRecDepth 100000 in
set_option maxHeartbeats 4000000 in
theorem c_X9_bestPace {l : Launch} {P : Wp} {E : State → Heap → Prop} (hW : Wok shC P E) {M : Mem} {r : Int32} {M' : Mem} (h : f_X9_bestPace M = some (r, M')) : CT l shC P E yX9_bestPace bX9_bestPace 5 ((some .int)) 6 159 [.ref (P.2.2.1 33)] (some (.int r)) M M' := by
  refine ct_of hW (by decide) (Nat.le_of_ble_eq_true rfl) (fun p e s m args below meth c C ls hl hw => ?_)
  have hx := C.1
  have hb := C.2.1
  replace hl : lv_has ls 5 [(0, .ref (P.2.2.1 33))] := hl
  have cut_10 : ∀ (n_10 : Nat) (v1_10 : Int32) (v2_10 : Int32) (v3_10 : Int32) (M_10 : Mem) (ls : Array Slot) (H : Heap) (locs : List Loc), lv_has ls 5 [(0, .ref (P.2.2.1 33)), (1, .int v1_10), (2, .int v2_10), (3, .int v3_10)] → Hw shC P M_10 s H locs → lq4 (L_X9_bestPace_10) n_10 v1_10 v2_10 v3_10 M_10 = some (r, M') → W p l e { frames := 6, cells := 0, slots := 0, locals := 159 } s m args below meth c H locs 0 0 (MQ below (CQ shC P E (some (.int r)) M') args s 0 0 (wA shC P)) (F0 m 10 ls []) := by
    intro n_10
    induction n_10 with
    | zero => intro v1_10 v2_10 v3_10 M_10 ls H locs hl hw h; cases h
    | succ n_10 ih_10 =>
      intro v1_10 v2_10 v3_10 M_10 ls H locs hl hw h
      replace h := lq4_succ h
      refine lv_iload_n hx hb dX9_bestPace_10 rfl (lv_at hl 3 rfl) ?_
      refine lv_bipush (v := 6) hx hb dX9_bestPace_11 (by decide) ?_
      refine lv_icmp_gt (tgt := 40) hx hb dX9_bestPace_13 (by decide) (fun c4 => ?_) (fun c4 => ?_)
      · replace h := (if_pos c4).symm.trans h
        refine lv_iload_n hx hb dX9_bestPace_40 rfl (lv_at hl 1 rfl) ?_
        exact wretI_W C hw h dX9_bestPace_41
      · replace h := (if_neg c4).symm.trans h
        refine lv_aload_n hx hb dX9_bestPace_16 rfl (lv_at hl 0 rfl) ?_
        refine lv_iload_n hx hb dX9_bestPace_17 rfl (lv_at hl 3 rfl) ?_
        obtain ⟨r5, M7, e6, h⟩ := bnd2_some h
        refine wcallV1 (As := [.int v3_10]) (rest := []) C hw (c_X9_soundByPace hW  e6) vlX9_106 ⟨Nat.le_of_ble_eq_true rfl, Nat.le_of_ble_eq_true rfl⟩ (rfl : _ = some (0, 9)) rfl rfl rfl hl.1 (Nat.le_of_ble_eq_true rfl) dX9_bestPace_18 ⟨Nat.zero_le _, Nat.zero_le _⟩ (fun H locs hw => ?_)
        refine lv_istore (lv' := [(4, .int r5), (0, .ref (P.2.2.1 33)), (1, .int v1_10), (2, .int v2_10), (3, .int v3_10)]) hx hb dX9_bestPace_21 hl (by decide) rfl (fun ls hl => ?_)
        refine lv_iload hx hb dX9_bestPace_23 (lv_at hl 0 rfl) ?_
        refine lv_iload_n hx hb dX9_bestPace_25 rfl (lv_at hl 3 rfl) ?_
        refine lv_icmp_le (tgt := 34) hx hb dX9_bestPace_26 (by decide) (fun c8 => ?_) (fun c8 => ?_)
        · replace h := (if_pos c8).symm.trans h
          refine lv_iinc (v := (v3_10 + 1)) (lv' := [(3, .int (v3_10 + 1)), (4, .int r5), (0, .ref (P.2.2.1 33)), (1, .int v1_10), (2, .int v2_10)]) (k := 4) hx hb dX9_bestPace_34 hl rfl (congrArg (fun z => v3_10 + z) (by decide)) (by decide) rfl (fun ls hl => ?_)
          refine lv_goto (tgt := 10) hx hb dX9_bestPace_37 (by decide) ?_
          exact ih_10 v1_10 v2_10 (v3_10 + 1) M7 ls _ _ (lv_sub hl [2, 3, 4, 0] rfl) hw h
        · replace h := (if_neg c8).symm.trans h
          refine lv_iload hx hb dX9_bestPace_29 (lv_at hl 0 rfl) ?_
          refine lv_istore_n (lv' := [(2, .int r5), (4, .int r5), (0, .ref (P.2.2.1 33)), (1, .int v1_10), (3, .int v3_10)]) hx hb dX9_bestPace_31 rfl hl (by decide) rfl (fun ls hl => ?_)
          refine lv_iload_n hx hb dX9_bestPace_32 rfl (lv_at hl 4 rfl) ?_
          refine lv_istore_n (lv' := [(1, .int v3_10), (2, .int r5), (4, .int r5), (0, .ref (P.2.2.1 33)), (3, .int v3_10)]) hx hb dX9_bestPace_33 rfl hl (by decide) rfl (fun ls hl => ?_)
          refine lv_iinc (v := (v3_10 + 1)) (lv' := [(3, .int (v3_10 + 1)), (1, .int v3_10), (2, .int r5), (4, .int r5), (0, .ref (P.2.2.1 33))]) (k := 4) hx hb dX9_bestPace_34 hl rfl (congrArg (fun z => v3_10 + z) (by decide)) (by decide) rfl (fun ls hl => ?_)
          refine lv_goto (tgt := 10) hx hb dX9_bestPace_37 (by decide) ?_
          exact ih_10 v3_10 r5 (v3_10 + 1) M7 ls _ _ (lv_sub hl [4, 1, 2, 0] rfl) hw h
  refine lv_iconst (v := 1) hx hb dX9_bestPace_0 (by decide) ?_
  refine lv_istore_n (lv' := [(1, .int 1), (0, .ref (P.2.2.1 33))]) hx hb dX9_bestPace_1 rfl hl (by decide) rfl (fun ls hl => ?_)
  refine lv_aload_n hx hb dX9_bestPace_2 rfl (lv_at hl 1 rfl) ?_
  refine lv_iconst (v := 1) hx hb dX9_bestPace_3 (by decide) ?_
  obtain ⟨r1, M3, e2, h⟩ := bnd2_some h
  refine wcallV1 (As := [.int 1]) (rest := []) C hw (c_X9_soundByPace hW  e2) vlX9_106 ⟨Nat.le_of_ble_eq_true rfl, Nat.le_of_ble_eq_true rfl⟩ (rfl : _ = some (0, 9)) rfl rfl rfl hl.1 (Nat.le_of_ble_eq_true rfl) dX9_bestPace_4 ⟨Nat.zero_le _, Nat.zero_le _⟩ (fun H locs hw => ?_)
  refine lv_istore_n (lv' := [(2, .int r1), (1, .int 1), (0, .ref (P.2.2.1 33))]) hx hb dX9_bestPace_7 rfl hl (by decide) rfl (fun ls hl => ?_)
  refine lv_iconst (v := 2) hx hb dX9_bestPace_8 (by decide) ?_
  refine lv_istore_n (lv' := [(3, .int 2), (2, .int r1), (1, .int 1), (0, .ref (P.2.2.1 33))]) hx hb dX9_bestPace_9 rfl hl (by decide) rfl (fun ls hl => ?_)
  exact cut_10 FU 1 r1 2 M3 ls _ _ (lv_sub hl [3, 2, 1, 0] rfl) hw h
set_option maxRecDepth 100000 in
set_option maxHeartbeats 4000000 in
theorem c_X9_leastRaise {l : Launch} {P : Wp} {E : State → Heap → Prop} (hW : Wok shC P E) {p1 : Int32} {p2 : Int32} {p3 : Int32} {M : Mem} {r : Int32} {M' : Mem} (h : f_X9_leastRaise p1 p2 p3 M = some (r, M')) : CT l shC P E yX9_leastRaise bX9_leastRaise 5 ((some .int)) 5 139 [.ref (P.2.2.1 33), .int p1, .int p2, .int p3] (some (.int r)) M M' := by
  refine ct_of hW (by decide) (Nat.le_of_ble_eq_true rfl) (fun p e s m args below meth c C ls hl hw => ?_)
  have hx := C.1
  have hb := C.2.1
  replace hl : lv_has ls 5 [(0, .ref (P.2.2.1 33)), (1, .int p1), (2, .int p2), (3, .int p3)] := hl
  have cut_30 : ∀ (n_30 : Nat) (v4_30 : Int32) (M_30 : Mem) (ls : Array Slot) (H : Heap) (locs : List Loc), lv_has ls 5 [(0, .ref (P.2.2.1 33)), (1, .int p1), (2, .int p2), (3, .int p3), (4, .int v4_30)] → Hw shC P M_30 s H locs → lq2 (L_X9_leastRaise_30 p1 p2 p3) n_30 v4_30 M_30 = some (r, M') → W p l e { frames := 5, cells := 0, slots := 0, locals := 139 } s m args below meth c H locs 0 0 (MQ below (CQ shC P E (some (.int r)) M') args s 0 0 (wA shC P)) (F0 m 30 ls []) := by
    intro n_30
    induction n_30 with
    | zero => intro v4_30 M_30 ls H locs hl hw h; cases h
    | succ n_30 ih_30 =>
      intro v4_30 M_30 ls H locs hl hw h
      replace h := lq2_succ h
      refine lv_iload hx hb dX9_leastRaise_30 (lv_at hl 4 rfl) ?_
      refine lv_iload_n hx hb dX9_leastRaise_32 rfl (lv_at hl 3 rfl) ?_
      refine lv_icmp_gt (tgt := 80) hx hb dX9_leastRaise_33 (by decide) (fun c5 => ?_) (fun c5 => ?_)
      · replace h := (if_pos c5).symm.trans h
        refine lv_iconst (v := (-1)) hx hb dX9_leastRaise_80 (by decide) ?_
        exact wretI_W C hw h dX9_leastRaise_81
      · replace h := (if_neg c5).symm.trans h
        refine lv_aload_n hx hb dX9_leastRaise_36 rfl (lv_at hl 0 rfl) ?_
        refine wgetR (t := 34) C hw flX9_12 (rfl : _ = some (0, 9)) rfl dX9_leastRaise_37 ?_
        refine wgetR (t := 35) C hw flX9_44 (rfl : _ = some (0, 1)) rfl dX9_leastRaise_40 ?_
        refine wgetR (t := 36) C hw flX9_112 (rfl : _ = some (0, 5)) rfl dX9_leastRaise_43 ?_
        refine lv_iload_n hx hb dX9_leastRaise_46 rfl (lv_at hl 1 rfl) ?_
        refine lv_aload_n hx hb dX9_leastRaise_47 rfl (lv_at hl 0 rfl) ?_
        refine wgetR (t := 13) C hw flX9_32 (rfl : _ = some (0, 9)) rfl dX9_leastRaise_48 ?_
        refine wgetR (t := 14) C hw flX9_44 (rfl : _ = some (0, 1)) rfl dX9_leastRaise_51 ?_
        refine wgetR (t := 15) C hw flX9_112 (rfl : _ = some (0, 5)) rfl dX9_leastRaise_54 ?_
        refine lv_iload_n hx hb dX9_leastRaise_57 rfl (lv_at hl 1 rfl) ?_
        obtain ⟨g6, h⟩ := grd h
        refine wald C hw (rfl : _ = some (1, 7)) g6 dX9_leastRaise_58 ?_
        refine lv_iload hx hb dX9_leastRaise_59 (lv_at hl 4 rfl) ?_
        refine lv_iadd hx hb dX9_leastRaise_61 ?_
        obtain ⟨g8, h⟩ := grd h
        refine wast C hw (rfl : _ = some (1, 7)) g8 dX9_leastRaise_62 (fun M7 eM7 H locs hw => ?_)
        replace h := letv_at eM7 h
        refine lv_aload_n hx hb dX9_leastRaise_63 rfl (lv_at hl 0 rfl) ?_
        refine lv_iload_n hx hb dX9_leastRaise_64 rfl (lv_at hl 2 rfl) ?_
        obtain ⟨r9, M11, e10, h⟩ := bnd2_some h
        refine wcallV1 (As := [.int p2]) (rest := []) C hw (c_X9_isSound hW  e10) vlX9_97 ⟨Nat.le_of_ble_eq_true rfl, Nat.le_of_ble_eq_true rfl⟩ (rfl : _ = some (0, 9)) rfl rfl rfl hl.1 (Nat.le_of_ble_eq_true rfl) dX9_leastRaise_65 ⟨Nat.zero_le _, Nat.zero_le _⟩ (fun H locs hw => ?_)
        refine lv_if_eq (tgt := 74) hx hb dX9_leastRaise_68 (by decide) (fun c12 => ?_) (fun c12 => ?_)
        · replace h := (if_pos c12).symm.trans h
          refine lv_iinc (v := (v4_30 + 1)) (lv' := [(4, .int (v4_30 + 1)), (0, .ref (P.2.2.1 33)), (1, .int p1), (2, .int p2), (3, .int p3)]) (k := 4) hx hb dX9_leastRaise_74 hl rfl (congrArg (fun z => v4_30 + z) (by decide)) (by decide) rfl (fun ls hl => ?_)
          refine lv_goto (tgt := 30) hx hb dX9_leastRaise_77 (by decide) ?_
          exact ih_30 (v4_30 + 1) M11 ls _ _ (lv_sub hl [1, 2, 3, 4, 0] rfl) hw h
        · replace h := (if_neg c12).symm.trans h
          refine lv_iload hx hb dX9_leastRaise_71 (lv_at hl 4 rfl) ?_
          exact wretI_W C hw h dX9_leastRaise_73
  refine lv_aload_n hx hb dX9_leastRaise_0 rfl (lv_at hl 0 rfl) ?_
  refine wgetR (t := 34) C hw flX9_12 (rfl : _ = some (0, 9)) rfl dX9_leastRaise_1 ?_
  refine lv_aload_n hx hb dX9_leastRaise_4 rfl (lv_at hl 0 rfl) ?_
  refine wgetR (t := 13) C hw flX9_32 (rfl : _ = some (0, 9)) rfl dX9_leastRaise_5 ?_
  obtain ⟨M3, e2, h⟩ := bnd_some h
  refine wcallV0 (As := [.ref (P.2.2.1 13)]) (rest := []) C hw (c_X1_copyFrom hW (rfl : _ = some (0, 1)) (rfl : _ = some (0, 1)) e2) vlX9_68 ⟨Nat.le_of_ble_eq_true rfl, Nat.le_of_ble_eq_true rfl⟩ (rfl : _ = some (0, 1)) rfl rfl rfl hl.1 (Nat.le_of_ble_eq_true rfl) dX9_leastRaise_8 ⟨Nat.zero_le _, Nat.zero_le _⟩ (fun H locs hw => ?_)
  refine lv_aload_n hx hb dX9_leastRaise_11 rfl (lv_at hl 0 rfl) ?_
  refine wgetR (t := 34) C hw flX9_12 (rfl : _ = some (0, 9)) rfl dX9_leastRaise_12 ?_
  refine wgetR (t := 35) C hw flX9_44 (rfl : _ = some (0, 1)) rfl dX9_leastRaise_15 ?_
  refine lv_iload_n hx hb dX9_leastRaise_18 rfl (lv_at hl 1 rfl) ?_
  refine wcallV1 (As := [.int p1]) (rest := []) C hw (c_X5_hasZone hW (rfl : _ = some (0, 5)) rfl) vlX9_109 ⟨Nat.le_of_ble_eq_true rfl, Nat.le_of_ble_eq_true rfl⟩ (rfl : _ = some (0, 5)) rfl rfl rfl hl.1 (Nat.le_of_ble_eq_true rfl) dX9_leastRaise_19 ⟨Nat.zero_le _, Nat.zero_le _⟩ (fun H locs hw => ?_)
  refine lv_if_ne (tgt := 27) hx hb dX9_leastRaise_22 (by decide) (fun c4 => ?_) (fun c4 => ?_)
  · replace h := (if_neg c4).symm.trans h
    refine lv_iconst (v := 0) hx hb dX9_leastRaise_27 (by decide) ?_
    refine lv_istore (lv' := [(4, .int 0), (0, .ref (P.2.2.1 33)), (1, .int p1), (2, .int p2), (3, .int p3)]) hx hb dX9_leastRaise_28 hl (by decide) rfl (fun ls hl => ?_)
    exact cut_30 FU 0 M3 ls _ _ (lv_sub hl [1, 2, 3, 4, 0] rfl) hw h
  · replace h := (if_pos c4).symm.trans h
    refine lv_iconst (v := (-1)) hx hb dX9_leastRaise_25 (by decide) ?_
    exact wretI_W C hw h dX9_leastRaise_26
set_option maxRecDepth 100000 in
set_option maxHeartbeats 4000000 in
theorem c_X9_bestZoneFor {l : Launch} {P : Wp} {E : State → Heap → Prop} (hW : Wok shC P E) {p1 : Int32} {M : Mem} {r : Int32} {M' : Mem} (h : f_X9_bestZoneFor p1 M = some (r, M')) : CT l shC P E yX9_bestZoneFor bX9_bestZoneFor 6 ((some .int)) 6 163 [.ref (P.2.2.1 33), .int p1] (some (.int r)) M M' := by
  refine ct_of hW (by decide) (Nat.le_of_ble_eq_true rfl) (fun p e s m args below meth c C ls hl hw => ?_)
  have hx := C.1
  have hb := C.2.1
  replace hl : lv_has ls 6 [(0, .ref (P.2.2.1 33)), (1, .int p1)] := hl
  have cut_9 : ∀ (n_9 : Nat) (v2_9 : Int32) (v3_9 : Int32) (v4_9 : Int32) (M_9 : Mem) (ls : Array Slot) (H : Heap) (locs : List Loc), lv_has ls 6 [(0, .ref (P.2.2.1 33)), (1, .int p1), (2, .int v2_9), (3, .int v3_9), (4, .int v4_9)] → Hw shC P M_9 s H locs → lq4 (L_X9_bestZoneFor_9 p1) n_9 v2_9 v3_9 v4_9 M_9 = some (r, M') → W p l e { frames := 6, cells := 0, slots := 0, locals := 163 } s m args below meth c H locs 0 0 (MQ below (CQ shC P E (some (.int r)) M') args s 0 0 (wA shC P)) (F0 m 9 ls []) := by
    intro n_9
    induction n_9 with
    | zero => intro v2_9 v3_9 v4_9 M_9 ls H locs hl hw h; cases h
    | succ n_9 ih_9 =>
      intro v2_9 v3_9 v4_9 M_9 ls H locs hl hw h
      replace h := lq4_succ h
      refine lv_iload hx hb dX9_bestZoneFor_9 (lv_at hl 4 rfl) ?_
      refine lv_aload_n hx hb dX9_bestZoneFor_11 rfl (lv_at hl 0 rfl) ?_
      refine wgetR (t := 13) C hw flX9_32 (rfl : _ = some (0, 9)) rfl dX9_bestZoneFor_12 ?_
      refine wgetR (t := 14) C hw flX9_44 (rfl : _ = some (0, 1)) rfl dX9_bestZoneFor_15 ?_
      refine wgetI C hw flX9_115 (rfl : _ = some (0, 5)) dX9_bestZoneFor_18 ?_
      refine lv_icmp_ge (tgt := 54) hx hb dX9_bestZoneFor_21 (by decide) (fun c1 => ?_) (fun c1 => ?_)
      · replace h := (if_pos c1).symm.trans h
        refine lv_iload_n hx hb dX9_bestZoneFor_54 rfl (lv_at hl 2 rfl) ?_
        exact wretI_W C hw h dX9_bestZoneFor_55
      · replace h := (if_neg c1).symm.trans h
        refine lv_aload_n hx hb dX9_bestZoneFor_24 rfl (lv_at hl 0 rfl) ?_
        refine lv_iload hx hb dX9_bestZoneFor_25 (lv_at hl 4 rfl) ?_
        refine lv_iload_n hx hb dX9_bestZoneFor_27 rfl (lv_at hl 1 rfl) ?_
        refine lv_iload_n hx hb dX9_bestZoneFor_28 rfl (lv_at hl 3 rfl) ?_
        refine lv_iconst (v := 1) hx hb dX9_bestZoneFor_29 (by decide) ?_
        refine lv_isub hx hb dX9_bestZoneFor_30 ?_
        obtain ⟨r2, M4, e3, h⟩ := bnd2_some h
        refine wcallV1 (As := [.int v4_9, .int p1, .int (v3_9 - (1 : Int32))]) (rest := []) C hw (c_X9_leastRaise hW  e3) vlX9_118 ⟨Nat.le_of_ble_eq_true rfl, Nat.le_of_ble_eq_true rfl⟩ (rfl : _ = some (0, 9)) rfl rfl rfl hl.1 (Nat.le_of_ble_eq_true rfl) dX9_bestZoneFor_31 ⟨Nat.zero_le _, Nat.zero_le _⟩ (fun H locs hw => ?_)
        refine lv_istore (lv' := [(5, .int r2), (0, .ref (P.2.2.1 33)), (1, .int p1), (2, .int v2_9), (3, .int v3_9), (4, .int v4_9)]) hx hb dX9_bestZoneFor_34 hl (by decide) rfl (fun ls hl => ?_)
        refine lv_iload hx hb dX9_bestZoneFor_36 (lv_at hl 0 rfl) ?_
        refine lv_iconst (v := (-1)) hx hb dX9_bestZoneFor_38 (by decide) ?_
        refine lv_icmp_eq (tgt := 48) hx hb dX9_bestZoneFor_39 (by decide) (fun c5 => ?_) (fun c5 => ?_)
        · replace h := (if_pos c5).symm.trans h
          refine lv_iinc (v := (v4_9 + 1)) (lv' := [(4, .int (v4_9 + 1)), (5, .int r2), (0, .ref (P.2.2.1 33)), (1, .int p1), (2, .int v2_9), (3, .int v3_9)]) (k := 5) hx hb dX9_bestZoneFor_48 hl rfl (congrArg (fun z => v4_9 + z) (by decide)) (by decide) rfl (fun ls hl => ?_)
          refine lv_goto (tgt := 9) hx hb dX9_bestZoneFor_51 (by decide) ?_
          exact ih_9 v2_9 v3_9 (v4_9 + 1) M4 ls _ _ (lv_sub hl [2, 3, 4, 5, 0] rfl) hw h
        · replace h := (if_neg c5).symm.trans h
          refine lv_iload hx hb dX9_bestZoneFor_42 (lv_at hl 0 rfl) ?_
          refine lv_istore_n (lv' := [(3, .int r2), (5, .int r2), (0, .ref (P.2.2.1 33)), (1, .int p1), (2, .int v2_9), (4, .int v4_9)]) hx hb dX9_bestZoneFor_44 rfl hl (by decide) rfl (fun ls hl => ?_)
          refine lv_iload hx hb dX9_bestZoneFor_45 (lv_at hl 5 rfl) ?_
          refine lv_istore_n (lv' := [(2, .int v4_9), (3, .int r2), (5, .int r2), (0, .ref (P.2.2.1 33)), (1, .int p1), (4, .int v4_9)]) hx hb dX9_bestZoneFor_47 rfl hl (by decide) rfl (fun ls hl => ?_)
          refine lv_iinc (v := (v4_9 + 1)) (lv' := [(4, .int (v4_9 + 1)), (2, .int v4_9), (3, .int r2), (5, .int r2), (0, .ref (P.2.2.1 33)), (1, .int p1)]) (k := 5) hx hb dX9_bestZoneFor_48 hl rfl (congrArg (fun z => v4_9 + z) (by decide)) (by decide) rfl (fun ls hl => ?_)
          refine lv_goto (tgt := 9) hx hb dX9_bestZoneFor_51 (by decide) ?_
          exact ih_9 v4_9 r2 (v4_9 + 1) M4 ls _ _ (lv_sub hl [4, 5, 1, 2, 0] rfl) hw h
  refine lv_iconst (v := (-1)) hx hb dX9_bestZoneFor_0 (by decide) ?_
  refine lv_istore_n (lv' := [(2, .int (-1)), (0, .ref (P.2.2.1 33)), (1, .int p1)]) hx hb dX9_bestZoneFor_1 rfl hl (by decide) rfl (fun ls hl => ?_)
  refine lv_sipush (v := 201) hx hb dX9_bestZoneFor_2 (by decide) ?_
  refine lv_istore_n (lv' := [(3, .int 201), (2, .int (-1)), (0, .ref (P.2.2.1 33)), (1, .int p1)]) hx hb dX9_bestZoneFor_5 rfl hl (by decide) rfl (fun ls hl => ?_)
  refine lv_iconst (v := 0) hx hb dX9_bestZoneFor_6 (by decide) ?_
  refine lv_istore (lv' := [(4, .int 0), (3, .int 201), (2, .int (-1)), (0, .ref (P.2.2.1 33)), (1, .int p1)]) hx hb dX9_bestZoneFor_7 hl (by decide) rfl (fun ls hl => ?_)
  exact cut_9 FU (-1) 201 0 M ls _ _ (lv_sub hl [3, 4, 2, 1, 0] rfl) hw h
set_option maxRecDepth 100000 in
set_option maxHeartbeats 4000000 in
theorem c_X9_bestSwap {l : Launch} {P : Wp} {E : State → Heap → Prop} (hW : Wok shC P E) {M : Mem} {r : Int32} {M' : Mem} (h : f_X9_bestSwap M = some (r, M')) : CT l shC P E yX9_bestSwap bX9_bestSwap 6 ((some .int)) 5 138 [.ref (P.2.2.1 33)] (some (.int r)) M M' := by
  refine ct_of hW (by decide) (Nat.le_of_ble_eq_true rfl) (fun p e s m args below meth c C ls hl hw => ?_)
  have hx := C.1
  have hb := C.2.1
  replace hl : lv_has ls 6 [(0, .ref (P.2.2.1 33))] := hl
  have cut_20 : ∀ (n_20 : Nat) (v1_20 : Int32) (v2_20 : Int32) (v3_20 : Int32) (M_20 : Mem) (ls : Array Slot) (H : Heap) (locs : List Loc), lv_has ls 6 [(0, .ref (P.2.2.1 33)), (1, .int v1_20), (2, .int v2_20), (3, .int v3_20)] → Hw shC P M_20 s H locs → lq4 (L_X9_bestSwap_20) n_20 v1_20 v2_20 v3_20 M_20 = some (r, M') → W p l e { frames := 5, cells := 0, slots := 0, locals := 138 } s m args below meth c H locs 0 0 (MQ below (CQ shC P E (some (.int r)) M') args s 0 0 (wA shC P)) (F0 m 20 ls []) := by
    intro n_20
    induction n_20 with
    | zero => intro v1_20 v2_20 v3_20 M_20 ls H locs hl hw h; cases h
    | succ n_20 ih_20 =>
      intro v1_20 v2_20 v3_20 M_20 ls H locs hl hw h
      replace h := lq4_succ h
      have cut_39 : ∀ (v3_39 : Int32) (n_39 : Nat) (v1_39 : Int32) (v2_39 : Int32) (v4_39 : Int32) (M_39 : Mem) (ls : Array Slot) (H : Heap) (locs : List Loc), lv_has ls 6 [(0, .ref (P.2.2.1 33)), (1, .int v1_39), (2, .int v2_39), (3, .int v3_39), (4, .int v4_39)] → Hw shC P M_39 s H locs → lq4 (L_X9_bestSwap_39 (lq4 (L_X9_bestSwap_20) n_20) v3_39) n_39 v1_39 v2_39 v4_39 M_39 = some (r, M') → W p l e { frames := 5, cells := 0, slots := 0, locals := 138 } s m args below meth c H locs 0 0 (MQ below (CQ shC P E (some (.int r)) M') args s 0 0 (wA shC P)) (F0 m 39 ls []) := by
        intro v3_39 n_39
        induction n_39 with
        | zero => intro v1_39 v2_39 v4_39 M_39 ls H locs hl hw h; cases h
        | succ n_39 ih_39 =>
          intro v1_39 v2_39 v4_39 M_39 ls H locs hl hw h
          replace h := lq4_succ h
          refine lv_iload hx hb dX9_bestSwap_39 (lv_at hl 4 rfl) ?_
          refine lv_aload_n hx hb dX9_bestSwap_41 rfl (lv_at hl 0 rfl) ?_
          refine wgetR (t := 34) C hw flX9_12 (rfl : _ = some (0, 9)) rfl dX9_bestSwap_42 ?_
          refine wgetR (t := 35) C hw flX9_44 (rfl : _ = some (0, 1)) rfl dX9_bestSwap_45 ?_
          refine wgetI C hw flX9_115 (rfl : _ = some (0, 5)) dX9_bestSwap_48 ?_
          refine lv_icmp_ge (tgt := 109) hx hb dX9_bestSwap_51 (by decide) (fun c9 => ?_) (fun c9 => ?_)
          · replace h := (if_pos c9).symm.trans h
            refine lv_iinc (v := (v3_39 + 1)) (lv' := [(3, .int (v3_39 + 1)), (0, .ref (P.2.2.1 33)), (1, .int v1_39), (2, .int v2_39), (4, .int v4_39)]) (k := 3) hx hb dX9_bestSwap_109 hl rfl (congrArg (fun z => v3_39 + z) (by decide)) (by decide) rfl (fun ls hl => ?_)
            refine lv_goto (tgt := 20) hx hb dX9_bestSwap_112 (by decide) ?_
            exact ih_20 v1_39 v2_39 (v3_39 + 1) M_39 ls _ _ (lv_sub hl [1, 2, 3, 0] rfl) hw h
          · replace h := (if_neg c9).symm.trans h
            refine lv_aload_n hx hb dX9_bestSwap_54 rfl (lv_at hl 0 rfl) ?_
            refine wgetR (t := 34) C hw flX9_12 (rfl : _ = some (0, 9)) rfl dX9_bestSwap_55 ?_
            refine wgetR (t := 35) C hw flX9_44 (rfl : _ = some (0, 1)) rfl dX9_bestSwap_58 ?_
            refine lv_iload_n hx hb dX9_bestSwap_61 rfl (lv_at hl 3 rfl) ?_
            refine lv_iload hx hb dX9_bestSwap_62 (lv_at hl 4 rfl) ?_
            obtain ⟨M12, e11, h⟩ := bnd_some h
            refine wcallV0 (As := [.int v3_39, .int v4_39]) (rest := []) C hw (c_X5_changeOver hW (rfl : _ = some (0, 5)) e11) vlX9_122 ⟨Nat.le_of_ble_eq_true rfl, Nat.le_of_ble_eq_true rfl⟩ (rfl : _ = some (0, 5)) rfl rfl rfl hl.1 (Nat.le_of_ble_eq_true rfl) dX9_bestSwap_64 ⟨Nat.zero_le _, Nat.zero_le _⟩ (fun H locs hw => ?_)
            refine lv_aload_n hx hb dX9_bestSwap_67 rfl (lv_at hl 0 rfl) ?_
            obtain ⟨r13, M15, e14, h⟩ := bnd2_some h
            refine wcallV1 (As := []) (rest := []) C hw (c_X9_soundCount hW  e14) vlX9_103 ⟨Nat.le_of_ble_eq_true rfl, Nat.le_of_ble_eq_true rfl⟩ (rfl : _ = some (0, 9)) rfl rfl rfl hl.1 (Nat.le_of_ble_eq_true rfl) dX9_bestSwap_68 ⟨Nat.zero_le _, Nat.zero_le _⟩ (fun H locs hw => ?_)
            refine lv_istore (lv' := [(5, .int r13), (0, .ref (P.2.2.1 33)), (1, .int v1_39), (2, .int v2_39), (3, .int v3_39), (4, .int v4_39)]) hx hb dX9_bestSwap_71 hl (by decide) rfl (fun ls hl => ?_)
            refine lv_aload_n hx hb dX9_bestSwap_73 rfl (lv_at hl 1 rfl) ?_
            refine wgetR (t := 34) C hw flX9_12 (rfl : _ = some (0, 9)) rfl dX9_bestSwap_74 ?_
            refine wgetR (t := 35) C hw flX9_44 (rfl : _ = some (0, 1)) rfl dX9_bestSwap_77 ?_
            refine lv_iload_n hx hb dX9_bestSwap_80 rfl (lv_at hl 4 rfl) ?_
            refine lv_iload hx hb dX9_bestSwap_81 (lv_at hl 5 rfl) ?_
            obtain ⟨M18, e17, h⟩ := bnd_some h
            refine wcallV0 (As := [.int v3_39, .int v4_39]) (rest := []) C hw (c_X5_changeOver hW (rfl : _ = some (0, 5)) e17) vlX9_122 ⟨Nat.le_of_ble_eq_true rfl, Nat.le_of_ble_eq_true rfl⟩ (rfl : _ = some (0, 5)) rfl rfl rfl hl.1 (Nat.le_of_ble_eq_true rfl) dX9_bestSwap_83 ⟨Nat.zero_le _, Nat.zero_le _⟩ (fun H locs hw => ?_)
            refine lv_iload hx hb dX9_bestSwap_86 (lv_at hl 0 rfl) ?_
            refine lv_iload_n hx hb dX9_bestSwap_88 rfl (lv_at hl 3 rfl) ?_
            refine lv_icmp_le (tgt := 103) hx hb dX9_bestSwap_89 (by decide) (fun c19 => ?_) (fun c19 => ?_)
            · replace h := (if_pos c19).symm.trans h
              refine lv_iinc (v := (v4_39 + 1)) (lv' := [(4, .int (v4_39 + 1)), (5, .int r13), (0, .ref (P.2.2.1 33)), (1, .int v1_39), (2, .int v2_39), (3, .int v3_39)]) (k := 5) hx hb dX9_bestSwap_103 hl rfl (congrArg (fun z => v4_39 + z) (by decide)) (by decide) rfl (fun ls hl => ?_)
              refine lv_goto (tgt := 39) hx hb dX9_bestSwap_106 (by decide) ?_
              exact ih_39 v1_39 v2_39 (v4_39 + 1) M18 ls _ _ (lv_sub hl [2, 3, 4, 5, 0] rfl) hw h
            · replace h := (if_neg c19).symm.trans h
              refine lv_iload hx hb dX9_bestSwap_92 (lv_at hl 0 rfl) ?_
              refine lv_istore_n (lv' := [(2, .int r13), (5, .int r13), (0, .ref (P.2.2.1 33)), (1, .int v1_39), (3, .int v3_39), (4, .int v4_39)]) hx hb dX9_bestSwap_94 rfl hl (by decide) rfl (fun ls hl => ?_)
              refine lv_bipush (v := 10) hx hb dX9_bestSwap_95 (by decide) ?_
              refine lv_iload_n hx hb dX9_bestSwap_97 rfl (lv_at hl 4 rfl) ?_
              refine lv_imul hx hb dX9_bestSwap_98 ?_
              refine lv_iload hx hb dX9_bestSwap_99 (lv_at hl 5 rfl) ?_
              refine lv_iadd hx hb dX9_bestSwap_101 ?_
              refine lv_topi (fun x20 ex20 => ?_)
              replace h := letv_at ex20 h
              refine lv_istore_n (lv' := [(1, .int x20), (2, .int r13), (5, .int r13), (0, .ref (P.2.2.1 33)), (3, .int v3_39), (4, .int v4_39)]) hx hb dX9_bestSwap_102 rfl hl (by decide) rfl (fun ls hl => ?_)
              refine lv_iinc (v := (v4_39 + 1)) (lv' := [(4, .int (v4_39 + 1)), (1, .int x20), (2, .int r13), (5, .int r13), (0, .ref (P.2.2.1 33)), (3, .int v3_39)]) (k := 5) hx hb dX9_bestSwap_103 hl rfl (congrArg (fun z => v4_39 + z) (by decide)) (by decide) rfl (fun ls hl => ?_)
              refine lv_goto (tgt := 39) hx hb dX9_bestSwap_106 (by decide) ?_
              exact ih_39 x20 r13 (v4_39 + 1) M18 ls _ _ (lv_sub hl [4, 1, 2, 5, 0] rfl) hw h
      refine lv_iload_n hx hb dX9_bestSwap_20 rfl (lv_at hl 3 rfl) ?_
      refine lv_aload_n hx hb dX9_bestSwap_21 rfl (lv_at hl 0 rfl) ?_
      refine wgetR (t := 34) C hw flX9_12 (rfl : _ = some (0, 9)) rfl dX9_bestSwap_22 ?_
      refine wgetR (t := 35) C hw flX9_44 (rfl : _ = some (0, 1)) rfl dX9_bestSwap_25 ?_
      refine wgetI C hw flX9_115 (rfl : _ = some (0, 5)) dX9_bestSwap_28 ?_
      refine lv_icmp_ge (tgt := 115) hx hb dX9_bestSwap_31 (by decide) (fun c7 => ?_) (fun c7 => ?_)
      · replace h := (if_pos c7).symm.trans h
        refine lv_iload_n hx hb dX9_bestSwap_115 rfl (lv_at hl 1 rfl) ?_
        exact wretI_W C hw h dX9_bestSwap_116
      · replace h := (if_neg c7).symm.trans h
        refine lv_iload_n hx hb dX9_bestSwap_34 rfl (lv_at hl 3 rfl) ?_
        refine lv_iconst (v := 1) hx hb dX9_bestSwap_35 (by decide) ?_
        refine lv_iadd hx hb dX9_bestSwap_36 ?_
        refine lv_topi (fun x8 ex8 => ?_)
        replace h := letv_at ex8 h
        refine lv_istore (lv' := [(4, .int x8), (0, .ref (P.2.2.1 33)), (1, .int v1_20), (2, .int v2_20), (3, .int v3_20)]) hx hb dX9_bestSwap_37 hl (by decide) rfl (fun ls hl => ?_)
        exact cut_39 v3_20 FU v1_20 v2_20 x8 M_20 ls _ _ (lv_sub hl [1, 2, 3, 4, 0] rfl) hw h
  refine lv_aload_n hx hb dX9_bestSwap_0 rfl (lv_at hl 0 rfl) ?_
  refine wgetR (t := 34) C hw flX9_12 (rfl : _ = some (0, 9)) rfl dX9_bestSwap_1 ?_
  refine lv_aload_n hx hb dX9_bestSwap_4 rfl (lv_at hl 0 rfl) ?_
  refine wgetR (t := 13) C hw flX9_32 (rfl : _ = some (0, 9)) rfl dX9_bestSwap_5 ?_
  obtain ⟨M3, e2, h⟩ := bnd_some h
  refine wcallV0 (As := [.ref (P.2.2.1 13)]) (rest := []) C hw (c_X1_copyFrom hW (rfl : _ = some (0, 1)) (rfl : _ = some (0, 1)) e2) vlX9_68 ⟨Nat.le_of_ble_eq_true rfl, Nat.le_of_ble_eq_true rfl⟩ (rfl : _ = some (0, 1)) rfl rfl rfl hl.1 (Nat.le_of_ble_eq_true rfl) dX9_bestSwap_8 ⟨Nat.zero_le _, Nat.zero_le _⟩ (fun H locs hw => ?_)
  refine lv_iconst (v := (-1)) hx hb dX9_bestSwap_11 (by decide) ?_
  refine lv_istore_n (lv' := [(1, .int (-1)), (0, .ref (P.2.2.1 33))]) hx hb dX9_bestSwap_12 rfl hl (by decide) rfl (fun ls hl => ?_)
  refine lv_aload_n hx hb dX9_bestSwap_13 rfl (lv_at hl 1 rfl) ?_
  obtain ⟨r4, M6, e5, h⟩ := bnd2_some h
  refine wcallV1 (As := []) (rest := []) C hw (c_X9_soundCount hW  e5) vlX9_103 ⟨Nat.le_of_ble_eq_true rfl, Nat.le_of_ble_eq_true rfl⟩ (rfl : _ = some (0, 9)) rfl rfl rfl hl.1 (Nat.le_of_ble_eq_true rfl) dX9_bestSwap_14 ⟨Nat.zero_le _, Nat.zero_le _⟩ (fun H locs hw => ?_)
  refine lv_istore_n (lv' := [(2, .int r4), (1, .int (-1)), (0, .ref (P.2.2.1 33))]) hx hb dX9_bestSwap_17 rfl hl (by decide) rfl (fun ls hl => ?_)
  refine lv_iconst (v := 0) hx hb dX9_bestSwap_18 (by decide) ?_
  refine lv_istore_n (lv' := [(3, .int 0), (2, .int r4), (1, .int (-1)), (0, .ref (P.2.2.1 33))]) hx hb dX9_bestSwap_19 rfl hl (by decide) rfl (fun ls hl => ?_)
  exact cut_20 FU (-1) r4 0 M6 ls _ _ (lv_sub hl [3, 2, 1, 0] rfl) hw h
set_option maxRecDepth 100000 in
set_option maxHeartbeats 4000000 in
theorem c_X9_bestSkip {l : Launch} {P : Wp} {E : State → Heap → Prop} (hW : Wok shC P E) {M : Mem} {r : Int32} {M' : Mem} (h : f_X9_bestSkip M = some (r, M')) : CT l shC P E yX9_bestSkip bX9_bestSkip 5 ((some .int)) 5 138 [.ref (P.2.2.1 33)] (some (.int r)) M M' := by
  refine ct_of hW (by decide) (Nat.le_of_ble_eq_true rfl) (fun p e s m args below meth c C ls hl hw => ?_)
  have hx := C.1
  have hb := C.2.1
  replace hl : lv_has ls 5 [(0, .ref (P.2.2.1 33))] := hl
  have cut_20 : ∀ (n_20 : Nat) (v1_20 : Int32) (v2_20 : Int32) (v3_20 : Int32) (M_20 : Mem) (ls : Array Slot) (H : Heap) (locs : List Loc), lv_has ls 5 [(0, .ref (P.2.2.1 33)), (1, .int v1_20), (2, .int v2_20), (3, .int v3_20)] → Hw shC P M_20 s H locs → lq4 (L_X9_bestSkip_20) n_20 v1_20 v2_20 v3_20 M_20 = some (r, M') → W p l e { frames := 5, cells := 0, slots := 0, locals := 138 } s m args below meth c H locs 0 0 (MQ below (CQ shC P E (some (.int r)) M') args s 0 0 (wA shC P)) (F0 m 20 ls []) := by
    intro n_20
    induction n_20 with
    | zero => intro v1_20 v2_20 v3_20 M_20 ls H locs hl hw h; cases h
    | succ n_20 ih_20 =>
      intro v1_20 v2_20 v3_20 M_20 ls H locs hl hw h
      replace h := lq4_succ h
      refine lv_iload_n hx hb dX9_bestSkip_20 rfl (lv_at hl 3 rfl) ?_
      refine lv_aload_n hx hb dX9_bestSkip_21 rfl (lv_at hl 0 rfl) ?_
      refine wgetR (t := 13) C hw flX9_32 (rfl : _ = some (0, 9)) rfl dX9_bestSkip_22 ?_
      refine wgetR (t := 14) C hw flX9_44 (rfl : _ = some (0, 1)) rfl dX9_bestSkip_25 ?_
      refine wgetI C hw flX9_115 (rfl : _ = some (0, 5)) dX9_bestSkip_28 ?_
      refine lv_icmp_ge (tgt := 76) hx hb dX9_bestSkip_31 (by decide) (fun c7 => ?_) (fun c7 => ?_)
      · replace h := (if_pos c7).symm.trans h
        refine lv_iload_n hx hb dX9_bestSkip_76 rfl (lv_at hl 1 rfl) ?_
        exact wretI_W C hw h dX9_bestSkip_77
      · replace h := (if_neg c7).symm.trans h
        refine lv_aload_n hx hb dX9_bestSkip_34 rfl (lv_at hl 0 rfl) ?_
        refine wgetR (t := 34) C hw flX9_12 (rfl : _ = some (0, 9)) rfl dX9_bestSkip_35 ?_
        refine lv_aload_n hx hb dX9_bestSkip_38 rfl (lv_at hl 0 rfl) ?_
        refine wgetR (t := 13) C hw flX9_32 (rfl : _ = some (0, 9)) rfl dX9_bestSkip_39 ?_
        obtain ⟨M10, e9, h⟩ := bnd_some h
        refine wcallV0 (As := [.ref (P.2.2.1 13)]) (rest := []) C hw (c_X1_copyFrom hW (rfl : _ = some (0, 1)) (rfl : _ = some (0, 1)) e9) vlX9_68 ⟨Nat.le_of_ble_eq_true rfl, Nat.le_of_ble_eq_true rfl⟩ (rfl : _ = some (0, 1)) rfl rfl rfl hl.1 (Nat.le_of_ble_eq_true rfl) dX9_bestSkip_42 ⟨Nat.zero_le _, Nat.zero_le _⟩ (fun H locs hw => ?_)
        refine lv_aload_n hx hb dX9_bestSkip_45 rfl (lv_at hl 0 rfl) ?_
        refine wgetR (t := 34) C hw flX9_12 (rfl : _ = some (0, 9)) rfl dX9_bestSkip_46 ?_
        refine lv_iload_n hx hb dX9_bestSkip_49 rfl (lv_at hl 3 rfl) ?_
        obtain ⟨M13, e12, h⟩ := bnd_some h
        refine wcallV0 (As := [.int v3_20]) (rest := []) C hw (c_X1_leaveOut hW (rfl : _ = some (0, 1)) e12) vlX9_126 ⟨Nat.le_of_ble_eq_true rfl, Nat.le_of_ble_eq_true rfl⟩ (rfl : _ = some (0, 1)) rfl rfl rfl hl.1 (Nat.le_of_ble_eq_true rfl) dX9_bestSkip_50 ⟨Nat.zero_le _, Nat.zero_le _⟩ (fun H locs hw => ?_)
        refine lv_aload_n hx hb dX9_bestSkip_53 rfl (lv_at hl 0 rfl) ?_
        obtain ⟨r14, M16, e15, h⟩ := bnd2_some h
        refine wcallV1 (As := []) (rest := []) C hw (c_X9_soundCount hW  e15) vlX9_103 ⟨Nat.le_of_ble_eq_true rfl, Nat.le_of_ble_eq_true rfl⟩ (rfl : _ = some (0, 9)) rfl rfl rfl hl.1 (Nat.le_of_ble_eq_true rfl) dX9_bestSkip_54 ⟨Nat.zero_le _, Nat.zero_le _⟩ (fun H locs hw => ?_)
        refine lv_istore (lv' := [(4, .int r14), (0, .ref (P.2.2.1 33)), (1, .int v1_20), (2, .int v2_20), (3, .int v3_20)]) hx hb dX9_bestSkip_57 hl (by decide) rfl (fun ls hl => ?_)
        refine lv_iload hx hb dX9_bestSkip_59 (lv_at hl 0 rfl) ?_
        refine lv_iload_n hx hb dX9_bestSkip_61 rfl (lv_at hl 3 rfl) ?_
        refine lv_icmp_le (tgt := 70) hx hb dX9_bestSkip_62 (by decide) (fun c17 => ?_) (fun c17 => ?_)
        · replace h := (if_pos c17).symm.trans h
          refine lv_iinc (v := (v3_20 + 1)) (lv' := [(3, .int (v3_20 + 1)), (4, .int r14), (0, .ref (P.2.2.1 33)), (1, .int v1_20), (2, .int v2_20)]) (k := 4) hx hb dX9_bestSkip_70 hl rfl (congrArg (fun z => v3_20 + z) (by decide)) (by decide) rfl (fun ls hl => ?_)
          refine lv_goto (tgt := 20) hx hb dX9_bestSkip_73 (by decide) ?_
          exact ih_20 v1_20 v2_20 (v3_20 + 1) M16 ls _ _ (lv_sub hl [2, 3, 4, 0] rfl) hw h
        · replace h := (if_neg c17).symm.trans h
          refine lv_iload hx hb dX9_bestSkip_65 (lv_at hl 0 rfl) ?_
          refine lv_istore_n (lv' := [(2, .int r14), (4, .int r14), (0, .ref (P.2.2.1 33)), (1, .int v1_20), (3, .int v3_20)]) hx hb dX9_bestSkip_67 rfl hl (by decide) rfl (fun ls hl => ?_)
          refine lv_iload_n hx hb dX9_bestSkip_68 rfl (lv_at hl 4 rfl) ?_
          refine lv_istore_n (lv' := [(1, .int v3_20), (2, .int r14), (4, .int r14), (0, .ref (P.2.2.1 33)), (3, .int v3_20)]) hx hb dX9_bestSkip_69 rfl hl (by decide) rfl (fun ls hl => ?_)
          refine lv_iinc (v := (v3_20 + 1)) (lv' := [(3, .int (v3_20 + 1)), (1, .int v3_20), (2, .int r14), (4, .int r14), (0, .ref (P.2.2.1 33))]) (k := 4) hx hb dX9_bestSkip_70 hl rfl (congrArg (fun z => v3_20 + z) (by decide)) (by decide) rfl (fun ls hl => ?_)
          refine lv_goto (tgt := 20) hx hb dX9_bestSkip_73 (by decide) ?_
          exact ih_20 v3_20 r14 (v3_20 + 1) M16 ls _ _ (lv_sub hl [4, 1, 2, 0] rfl) hw h
  refine lv_aload_n hx hb dX9_bestSkip_0 rfl (lv_at hl 0 rfl) ?_
  refine wgetR (t := 34) C hw flX9_12 (rfl : _ = some (0, 9)) rfl dX9_bestSkip_1 ?_
  refine lv_aload_n hx hb dX9_bestSkip_4 rfl (lv_at hl 0 rfl) ?_
  refine wgetR (t := 13) C hw flX9_32 (rfl : _ = some (0, 9)) rfl dX9_bestSkip_5 ?_
  obtain ⟨M3, e2, h⟩ := bnd_some h
  refine wcallV0 (As := [.ref (P.2.2.1 13)]) (rest := []) C hw (c_X1_copyFrom hW (rfl : _ = some (0, 1)) (rfl : _ = some (0, 1)) e2) vlX9_68 ⟨Nat.le_of_ble_eq_true rfl, Nat.le_of_ble_eq_true rfl⟩ (rfl : _ = some (0, 1)) rfl rfl rfl hl.1 (Nat.le_of_ble_eq_true rfl) dX9_bestSkip_8 ⟨Nat.zero_le _, Nat.zero_le _⟩ (fun H locs hw => ?_)
  refine lv_iconst (v := (-1)) hx hb dX9_bestSkip_11 (by decide) ?_
  refine lv_istore_n (lv' := [(1, .int (-1)), (0, .ref (P.2.2.1 33))]) hx hb dX9_bestSkip_12 rfl hl (by decide) rfl (fun ls hl => ?_)
  refine lv_aload_n hx hb dX9_bestSkip_13 rfl (lv_at hl 1 rfl) ?_
  obtain ⟨r4, M6, e5, h⟩ := bnd2_some h
  refine wcallV1 (As := []) (rest := []) C hw (c_X9_soundCount hW  e5) vlX9_103 ⟨Nat.le_of_ble_eq_true rfl, Nat.le_of_ble_eq_true rfl⟩ (rfl : _ = some (0, 9)) rfl rfl rfl hl.1 (Nat.le_of_ble_eq_true rfl) dX9_bestSkip_14 ⟨Nat.zero_le _, Nat.zero_le _⟩ (fun H locs hw => ?_)
  refine lv_istore_n (lv' := [(2, .int r4), (1, .int (-1)), (0, .ref (P.2.2.1 33))]) hx hb dX9_bestSkip_17 rfl hl (by decide) rfl (fun ls hl => ?_)
  refine lv_iconst (v := 0) hx hb dX9_bestSkip_18 (by decide) ?_
  refine lv_istore_n (lv' := [(3, .int 0), (2, .int r4), (1, .int (-1)), (0, .ref (P.2.2.1 33))]) hx hb dX9_bestSkip_19 rfl hl (by decide) rfl (fun ls hl => ?_)
  exact cut_20 FU (-1) r4 0 M6 ls _ _ (lv_sub hl [3, 2, 1, 0] rfl) hw h
set_option maxRecDepth 100000 in
set_option maxHeartbeats 4000000 in
theorem c_X9_agrees {l : Launch} {P : Wp} {E : State → Heap → Prop} (hW : Wok shC P E) {p1 : Nat} {M : Mem} {r : Int32} {M' : Mem} (hp1 : shC.1[p1]? = some (0, 7)) (h : f_X9_agrees p1 M = some (r, M')) : CT l shC P E yX9_agrees bX9_agrees 2 ((some .boolean)) 4 118 [.ref (P.2.2.1 33), .ref (P.2.2.1 p1)] (some (.int r)) M M' := by
  refine ct_of hW (by decide) (Nat.le_of_ble_eq_true rfl) (fun p e s m args below meth c C ls hl hw => ?_)
  have hx := C.1
  have hb := C.2.1
  replace hl : lv_has ls 2 [(0, .ref (P.2.2.1 33)), (1, .ref (P.2.2.1 p1))] := hl
  refine lv_aload_n hx hb dX9_agrees_0 rfl (lv_at hl 0 rfl) ?_
  refine wgetR (t := 49) C hw flX9_40 (rfl : _ = some (0, 9)) rfl dX9_agrees_1 ?_
  refine lv_iconst (v := 0) hx hb dX9_agrees_4 (by decide) ?_
  refine lv_aload_n hx hb dX9_agrees_5 rfl (lv_at hl 1 rfl) ?_
  obtain ⟨r1, e2, h⟩ := bnd_some h
  refine wcallV1 (As := []) (rest := [.int 0, .ref (P.2.2.1 49)]) C hw (c_X7_lastStepTold hW hp1 e2) vlX9_130 ⟨Nat.le_of_ble_eq_true rfl, Nat.le_of_ble_eq_true rfl⟩ hp1 rfl rfl rfl hl.1 (Nat.le_of_ble_eq_true rfl) dX9_agrees_6 ⟨Nat.zero_le _, Nat.zero_le _⟩ (fun H locs hw => ?_)
  refine lv_aload_n hx hb dX9_agrees_9 rfl (lv_at hl 1 rfl) ?_
  obtain ⟨r3, e4, h⟩ := bnd_some h
  refine wcallV1 (As := []) (rest := [.int r1, .int 0, .ref (P.2.2.1 49)]) C hw (c_X7_piecesTold hW hp1 e4) vlX9_135 ⟨Nat.le_of_ble_eq_true rfl, Nat.le_of_ble_eq_true rfl⟩ hp1 rfl rfl rfl hl.1 (Nat.le_of_ble_eq_true rfl) dX9_agrees_10 ⟨Nat.zero_le _, Nat.zero_le _⟩ (fun H locs hw => ?_)
  obtain ⟨M7, e6, h⟩ := bnd_some h
  refine wcallV0 (As := [.int 0, .int r1, .int r3]) (rest := []) C hw (c_X2_follow hW (rfl : _ = some (0, 2)) e6) vlX9_54 ⟨Nat.le_of_ble_eq_true rfl, Nat.le_of_ble_eq_true rfl⟩ (rfl : _ = some (0, 2)) rfl rfl rfl hl.1 (Nat.le_of_ble_eq_true rfl) dX9_agrees_13 ⟨Nat.zero_le _, Nat.zero_le _⟩ (fun H locs hw => ?_)
  refine lv_aload_n hx hb dX9_agrees_16 rfl (lv_at hl 1 rfl) ?_
  refine lv_aload_n hx hb dX9_agrees_17 rfl (lv_at hl 0 rfl) ?_
  refine wgetR (t := 49) C hw flX9_40 (rfl : _ = some (0, 9)) rfl dX9_agrees_18 ?_
  obtain ⟨r8, e9, h⟩ := bnd_some h
  refine wcallV1 (As := [.ref (P.2.2.1 49)]) (rest := []) C hw (c_X7_agreesWith hW hp1 (rfl : _ = some (0, 2)) e9) vlX9_138 ⟨Nat.le_of_ble_eq_true rfl, Nat.le_of_ble_eq_true rfl⟩ hp1 rfl rfl rfl hl.1 (Nat.le_of_ble_eq_true rfl) dX9_agrees_21 ⟨Nat.zero_le _, Nat.zero_le _⟩ (fun H locs hw => ?_)
  exact wretZ_W C hw (z_X7_agreesWith e9) h dX9_agrees_24
theorem z_X9_agrees {p1 : Nat} {M M' : Mem} {r : Int32} (h : f_X9_agrees p1 M = some (r, M')) : r = 0 ∨ r = 1 := by
  unfold f_X9_agrees at h
  obtain ⟨r1, -, h⟩ := bnd_some h
  obtain ⟨r3, -, h⟩ := bnd_some h
  obtain ⟨M7, -, h⟩ := bnd_some h
  obtain ⟨r8, e8, h⟩ := bnd_some h
  cases h
  exact z_X7_agreesWith e8
set_option maxRecDepth 100000 in
set_option maxHeartbeats 4000000 in
theorem c_X9_agreesByAir {l : Launch} {P : Wp} {E : State → Heap → Prop} (hW : Wok shC P E) {p1 : Nat} {p2 : Int32} {p3 : Int32} {M : Mem} {r : Int32} {M' : Mem} (hp1 : shC.1[p1]? = some (0, 7)) (h : f_X9_agreesByAir p1 p2 p3 M = some (r, M')) : CT l shC P E yX9_agreesByAir bX9_agreesByAir 4 ((some .boolean)) 5 139 [.ref (P.2.2.1 33), .ref (P.2.2.1 p1), .int p2, .int p3] (some (.int r)) M M' := by
  refine ct_of hW (by decide) (Nat.le_of_ble_eq_true rfl) (fun p e s m args below meth c C ls hl hw => ?_)
  have hx := C.1
  have hb := C.2.1
  replace hl : lv_has ls 4 [(0, .ref (P.2.2.1 33)), (1, .ref (P.2.2.1 p1)), (2, .int p2), (3, .int p3)] := hl
  refine lv_aload_n hx hb dX9_agreesByAir_0 rfl (lv_at hl 0 rfl) ?_
  refine wgetR (t := 34) C hw flX9_12 (rfl : _ = some (0, 9)) rfl dX9_agreesByAir_1 ?_
  refine wgetR (t := 35) C hw flX9_44 (rfl : _ = some (0, 1)) rfl dX9_agreesByAir_4 ?_
  refine lv_iload_n hx hb dX9_agreesByAir_7 rfl (lv_at hl 2 rfl) ?_
  refine wcallV1 (As := [.int p2]) (rest := []) C hw (c_X5_hasZone hW (rfl : _ = some (0, 5)) rfl) vlX9_109 ⟨Nat.le_of_ble_eq_true rfl, Nat.le_of_ble_eq_true rfl⟩ (rfl : _ = some (0, 5)) rfl rfl rfl hl.1 (Nat.le_of_ble_eq_true rfl) dX9_agreesByAir_8 ⟨Nat.zero_le _, Nat.zero_le _⟩ (fun H locs hw => ?_)
  refine lv_if_ne (tgt := 16) hx hb dX9_agreesByAir_11 (by decide) (fun c1 => ?_) (fun c1 => ?_)
  · replace h := (if_neg c1).symm.trans h
    refine lv_aload_n hx hb dX9_agreesByAir_16 rfl (lv_at hl 0 rfl) ?_
    refine wgetR (t := 34) C hw flX9_12 (rfl : _ = some (0, 9)) rfl dX9_agreesByAir_17 ?_
    refine wgetR (t := 35) C hw flX9_44 (rfl : _ = some (0, 1)) rfl dX9_agreesByAir_20 ?_
    refine wgetR (t := 36) C hw flX9_112 (rfl : _ = some (0, 5)) rfl dX9_agreesByAir_23 ?_
    refine lv_iload_n hx hb dX9_agreesByAir_26 rfl (lv_at hl 2 rfl) ?_
    refine lv_iload_n hx hb dX9_agreesByAir_27 rfl (lv_at hl 3 rfl) ?_
    obtain ⟨g3, h⟩ := grd h
    refine wast C hw (rfl : _ = some (1, 7)) g3 dX9_agreesByAir_28 (fun M2 eM2 H locs hw => ?_)
    replace h := letv_at eM2 h
    refine lv_aload_n hx hb dX9_agreesByAir_29 rfl (lv_at hl 0 rfl) ?_
    refine lv_aload_n hx hb dX9_agreesByAir_30 rfl (lv_at hl 1 rfl) ?_
    obtain ⟨r4, M6, e5, h⟩ := bnd2_some h
    refine wcallV1 (As := [.ref (P.2.2.1 p1)]) (rest := []) C hw (c_X9_agrees hW hp1 e5) vlX9_142 ⟨Nat.le_of_ble_eq_true rfl, Nat.le_of_ble_eq_true rfl⟩ (rfl : _ = some (0, 9)) rfl rfl rfl hl.1 (Nat.le_of_ble_eq_true rfl) dX9_agreesByAir_31 ⟨Nat.zero_le _, Nat.zero_le _⟩ (fun H locs hw => ?_)
    exact wretZ_W C hw (z_X9_agrees e5) h dX9_agreesByAir_34
  · replace h := (if_pos c1).symm.trans h
    refine lv_iconst (v := 0) hx hb dX9_agreesByAir_14 (by decide) ?_
    exact wretZ_W C hw (Or.inl rfl) h dX9_agreesByAir_15
set_option maxRecDepth 100000 in
set_option maxHeartbeats 4000000 in
theorem c_X9_countOfAirs {l : Launch} {P : Wp} {E : State → Heap → Prop} (hW : Wok shC P E) {p1 : Nat} {p2 : Int32} {M : Mem} {r : Int32} {M' : Mem} (hp1 : shC.1[p1]? = some (0, 7)) (h : f_X9_countOfAirs p1 p2 M = some (r, M')) : CT l shC P E yX9_countOfAirs bX9_countOfAirs 5 ((some .int)) 6 162 [.ref (P.2.2.1 33), .ref (P.2.2.1 p1), .int p2] (some (.int r)) M M' := by
  refine ct_of hW (by decide) (Nat.le_of_ble_eq_true rfl) (fun p e s m args below meth c C ls hl hw => ?_)
  have hx := C.1
  have hb := C.2.1
  replace hl : lv_has ls 5 [(0, .ref (P.2.2.1 33)), (1, .ref (P.2.2.1 p1)), (2, .int p2)] := hl
  have cut_16 : ∀ (n_16 : Nat) (v3_16 : Int32) (v4_16 : Int32) (M_16 : Mem) (ls : Array Slot) (H : Heap) (locs : List Loc), lv_has ls 5 [(0, .ref (P.2.2.1 33)), (1, .ref (P.2.2.1 p1)), (2, .int p2), (3, .int v3_16), (4, .int v4_16)] → Hw shC P M_16 s H locs → lq3 (L_X9_countOfAirs_16 p1 p2) n_16 v3_16 v4_16 M_16 = some (r, M') → W p l e { frames := 6, cells := 0, slots := 0, locals := 162 } s m args below meth c H locs 0 0 (MQ below (CQ shC P E (some (.int r)) M') args s 0 0 (wA shC P)) (F0 m 16 ls []) := by
    intro n_16
    induction n_16 with
    | zero => intro v3_16 v4_16 M_16 ls H locs hl hw h; cases h
    | succ n_16 ih_16 =>
      intro v3_16 v4_16 M_16 ls H locs hl hw h
      replace h := lq3_succ h
      refine lv_iload hx hb dX9_countOfAirs_16 (lv_at hl 4 rfl) ?_
      refine lv_sipush (v := 600) hx hb dX9_countOfAirs_18 (by decide) ?_
      refine lv_icmp_gt (tgt := 44) hx hb dX9_countOfAirs_21 (by decide) (fun c4 => ?_) (fun c4 => ?_)
      · replace h := (if_pos c4).symm.trans h
        refine lv_iload_n hx hb dX9_countOfAirs_44 rfl (lv_at hl 3 rfl) ?_
        exact wretI_W C hw h dX9_countOfAirs_45
      · replace h := (if_neg c4).symm.trans h
        refine lv_aload_n hx hb dX9_countOfAirs_24 rfl (lv_at hl 0 rfl) ?_
        refine lv_aload_n hx hb dX9_countOfAirs_25 rfl (lv_at hl 1 rfl) ?_
        refine lv_iload_n hx hb dX9_countOfAirs_26 rfl (lv_at hl 2 rfl) ?_
        refine lv_iload hx hb dX9_countOfAirs_27 (lv_at hl 4 rfl) ?_
        obtain ⟨r5, M7, e6, h⟩ := bnd2_some h
        refine wcallV1 (As := [.ref (P.2.2.1 p1), .int p2, .int v4_16]) (rest := []) C hw (c_X9_agreesByAir hW hp1 e6) vlX9_146 ⟨Nat.le_of_ble_eq_true rfl, Nat.le_of_ble_eq_true rfl⟩ (rfl : _ = some (0, 9)) rfl rfl rfl hl.1 (Nat.le_of_ble_eq_true rfl) dX9_countOfAirs_29 ⟨Nat.zero_le _, Nat.zero_le _⟩ (fun H locs hw => ?_)
        refine lv_if_eq (tgt := 38) hx hb dX9_countOfAirs_32 (by decide) (fun c8 => ?_) (fun c8 => ?_)
        · replace h := (if_pos c8).symm.trans h
          refine lv_iinc (v := (v4_16 + 1)) (lv' := [(4, .int (v4_16 + 1)), (0, .ref (P.2.2.1 33)), (1, .ref (P.2.2.1 p1)), (2, .int p2), (3, .int v3_16)]) (k := 4) hx hb dX9_countOfAirs_38 hl rfl (congrArg (fun z => v4_16 + z) (by decide)) (by decide) rfl (fun ls hl => ?_)
          refine lv_goto (tgt := 16) hx hb dX9_countOfAirs_41 (by decide) ?_
          exact ih_16 v3_16 (v4_16 + 1) M7 ls _ _ (lv_sub hl [1, 2, 3, 4, 0] rfl) hw h
        · replace h := (if_neg c8).symm.trans h
          refine lv_iinc (v := (v3_16 + 1)) (lv' := [(3, .int (v3_16 + 1)), (0, .ref (P.2.2.1 33)), (1, .ref (P.2.2.1 p1)), (2, .int p2), (4, .int v4_16)]) (k := 3) hx hb dX9_countOfAirs_35 hl rfl (congrArg (fun z => v3_16 + z) (by decide)) (by decide) rfl (fun ls hl => ?_)
          refine lv_iinc (v := (v4_16 + 1)) (lv' := [(4, .int (v4_16 + 1)), (3, .int (v3_16 + 1)), (0, .ref (P.2.2.1 33)), (1, .ref (P.2.2.1 p1)), (2, .int p2)]) (k := 4) hx hb dX9_countOfAirs_38 hl rfl (congrArg (fun z => v4_16 + z) (by decide)) (by decide) rfl (fun ls hl => ?_)
          refine lv_goto (tgt := 16) hx hb dX9_countOfAirs_41 (by decide) ?_
          exact ih_16 (v3_16 + 1) (v4_16 + 1) M7 ls _ _ (lv_sub hl [2, 3, 4, 1, 0] rfl) hw h
  refine lv_aload_n hx hb dX9_countOfAirs_0 rfl (lv_at hl 0 rfl) ?_
  refine wgetR (t := 34) C hw flX9_12 (rfl : _ = some (0, 9)) rfl dX9_countOfAirs_1 ?_
  refine lv_aload_n hx hb dX9_countOfAirs_4 rfl (lv_at hl 0 rfl) ?_
  refine wgetR (t := 13) C hw flX9_32 (rfl : _ = some (0, 9)) rfl dX9_countOfAirs_5 ?_
  obtain ⟨M3, e2, h⟩ := bnd_some h
  refine wcallV0 (As := [.ref (P.2.2.1 13)]) (rest := []) C hw (c_X1_copyFrom hW (rfl : _ = some (0, 1)) (rfl : _ = some (0, 1)) e2) vlX9_68 ⟨Nat.le_of_ble_eq_true rfl, Nat.le_of_ble_eq_true rfl⟩ (rfl : _ = some (0, 1)) rfl rfl rfl hl.1 (Nat.le_of_ble_eq_true rfl) dX9_countOfAirs_8 ⟨Nat.zero_le _, Nat.zero_le _⟩ (fun H locs hw => ?_)
  refine lv_iconst (v := 0) hx hb dX9_countOfAirs_11 (by decide) ?_
  refine lv_istore_n (lv' := [(3, .int 0), (0, .ref (P.2.2.1 33)), (1, .ref (P.2.2.1 p1)), (2, .int p2)]) hx hb dX9_countOfAirs_12 rfl hl (by decide) rfl (fun ls hl => ?_)
  refine lv_iconst (v := 0) hx hb dX9_countOfAirs_13 (by decide) ?_
  refine lv_istore (lv' := [(4, .int 0), (3, .int 0), (0, .ref (P.2.2.1 33)), (1, .ref (P.2.2.1 p1)), (2, .int p2)]) hx hb dX9_countOfAirs_14 hl (by decide) rfl (fun ls hl => ?_)
  exact cut_16 FU 0 0 M3 ls _ _ (lv_sub hl [2, 3, 4, 1, 0] rfl) hw h
set_option maxRecDepth 100000 in
set_option maxHeartbeats 4000000 in
theorem c_X9_lowestAir {l : Launch} {P : Wp} {E : State → Heap → Prop} (hW : Wok shC P E) {p1 : Nat} {p2 : Int32} {M : Mem} {r : Int32} {M' : Mem} (hp1 : shC.1[p1]? = some (0, 7)) (h : f_X9_lowestAir p1 p2 M = some (r, M')) : CT l shC P E yX9_lowestAir bX9_lowestAir 4 ((some .int)) 6 162 [.ref (P.2.2.1 33), .ref (P.2.2.1 p1), .int p2] (some (.int r)) M M' := by
  refine ct_of hW (by decide) (Nat.le_of_ble_eq_true rfl) (fun p e s m args below meth c C ls hl hw => ?_)
  have hx := C.1
  have hb := C.2.1
  replace hl : lv_has ls 4 [(0, .ref (P.2.2.1 33)), (1, .ref (P.2.2.1 p1)), (2, .int p2)] := hl
  have cut_13 : ∀ (n_13 : Nat) (v3_13 : Int32) (M_13 : Mem) (ls : Array Slot) (H : Heap) (locs : List Loc), lv_has ls 4 [(0, .ref (P.2.2.1 33)), (1, .ref (P.2.2.1 p1)), (2, .int p2), (3, .int v3_13)] → Hw shC P M_13 s H locs → lq2 (L_X9_lowestAir_13 p1 p2) n_13 v3_13 M_13 = some (r, M') → W p l e { frames := 6, cells := 0, slots := 0, locals := 162 } s m args below meth c H locs 0 0 (MQ below (CQ shC P E (some (.int r)) M') args s 0 0 (wA shC P)) (F0 m 13 ls []) := by
    intro n_13
    induction n_13 with
    | zero => intro v3_13 M_13 ls H locs hl hw h; cases h
    | succ n_13 ih_13 =>
      intro v3_13 M_13 ls H locs hl hw h
      replace h := lq2_succ h
      refine lv_iload_n hx hb dX9_lowestAir_13 rfl (lv_at hl 3 rfl) ?_
      refine lv_sipush (v := 600) hx hb dX9_lowestAir_14 (by decide) ?_
      refine lv_icmp_gt (tgt := 38) hx hb dX9_lowestAir_17 (by decide) (fun c4 => ?_) (fun c4 => ?_)
      · replace h := (if_pos c4).symm.trans h
        refine lv_iconst (v := (-1)) hx hb dX9_lowestAir_38 (by decide) ?_
        exact wretI_W C hw h dX9_lowestAir_39
      · replace h := (if_neg c4).symm.trans h
        refine lv_aload_n hx hb dX9_lowestAir_20 rfl (lv_at hl 0 rfl) ?_
        refine lv_aload_n hx hb dX9_lowestAir_21 rfl (lv_at hl 1 rfl) ?_
        refine lv_iload_n hx hb dX9_lowestAir_22 rfl (lv_at hl 2 rfl) ?_
        refine lv_iload_n hx hb dX9_lowestAir_23 rfl (lv_at hl 3 rfl) ?_
        obtain ⟨r5, M7, e6, h⟩ := bnd2_some h
        refine wcallV1 (As := [.ref (P.2.2.1 p1), .int p2, .int v3_13]) (rest := []) C hw (c_X9_agreesByAir hW hp1 e6) vlX9_146 ⟨Nat.le_of_ble_eq_true rfl, Nat.le_of_ble_eq_true rfl⟩ (rfl : _ = some (0, 9)) rfl rfl rfl hl.1 (Nat.le_of_ble_eq_true rfl) dX9_lowestAir_24 ⟨Nat.zero_le _, Nat.zero_le _⟩ (fun H locs hw => ?_)
        refine lv_if_eq (tgt := 32) hx hb dX9_lowestAir_27 (by decide) (fun c8 => ?_) (fun c8 => ?_)
        · replace h := (if_pos c8).symm.trans h
          refine lv_iinc (v := (v3_13 + 1)) (lv' := [(3, .int (v3_13 + 1)), (0, .ref (P.2.2.1 33)), (1, .ref (P.2.2.1 p1)), (2, .int p2)]) (k := 3) hx hb dX9_lowestAir_32 hl rfl (congrArg (fun z => v3_13 + z) (by decide)) (by decide) rfl (fun ls hl => ?_)
          refine lv_goto (tgt := 13) hx hb dX9_lowestAir_35 (by decide) ?_
          exact ih_13 (v3_13 + 1) M7 ls _ _ (lv_sub hl [1, 2, 3, 0] rfl) hw h
        · replace h := (if_neg c8).symm.trans h
          refine lv_iload_n hx hb dX9_lowestAir_30 rfl (lv_at hl 3 rfl) ?_
          exact wretI_W C hw h dX9_lowestAir_31
  refine lv_aload_n hx hb dX9_lowestAir_0 rfl (lv_at hl 0 rfl) ?_
  refine wgetR (t := 34) C hw flX9_12 (rfl : _ = some (0, 9)) rfl dX9_lowestAir_1 ?_
  refine lv_aload_n hx hb dX9_lowestAir_4 rfl (lv_at hl 0 rfl) ?_
  refine wgetR (t := 13) C hw flX9_32 (rfl : _ = some (0, 9)) rfl dX9_lowestAir_5 ?_
  obtain ⟨M3, e2, h⟩ := bnd_some h
  refine wcallV0 (As := [.ref (P.2.2.1 13)]) (rest := []) C hw (c_X1_copyFrom hW (rfl : _ = some (0, 1)) (rfl : _ = some (0, 1)) e2) vlX9_68 ⟨Nat.le_of_ble_eq_true rfl, Nat.le_of_ble_eq_true rfl⟩ (rfl : _ = some (0, 1)) rfl rfl rfl hl.1 (Nat.le_of_ble_eq_true rfl) dX9_lowestAir_8 ⟨Nat.zero_le _, Nat.zero_le _⟩ (fun H locs hw => ?_)
  refine lv_iconst (v := 0) hx hb dX9_lowestAir_11 (by decide) ?_
  refine lv_istore_n (lv' := [(3, .int 0), (0, .ref (P.2.2.1 33)), (1, .ref (P.2.2.1 p1)), (2, .int p2)]) hx hb dX9_lowestAir_12 rfl hl (by decide) rfl (fun ls hl => ?_)
  exact cut_13 FU 0 M3 ls _ _ (lv_sub hl [1, 2, 3, 0] rfl) hw h
set_option maxRecDepth 100000 in
set_option maxHeartbeats 4000000 in
theorem c_X9_highestAir {l : Launch} {P : Wp} {E : State → Heap → Prop} (hW : Wok shC P E) {p1 : Nat} {p2 : Int32} {M : Mem} {r : Int32} {M' : Mem} (hp1 : shC.1[p1]? = some (0, 7)) (h : f_X9_highestAir p1 p2 M = some (r, M')) : CT l shC P E yX9_highestAir bX9_highestAir 4 ((some .int)) 6 162 [.ref (P.2.2.1 33), .ref (P.2.2.1 p1), .int p2] (some (.int r)) M M' := by
  refine ct_of hW (by decide) (Nat.le_of_ble_eq_true rfl) (fun p e s m args below meth c C ls hl hw => ?_)
  have hx := C.1
  have hb := C.2.1
  replace hl : lv_has ls 4 [(0, .ref (P.2.2.1 33)), (1, .ref (P.2.2.1 p1)), (2, .int p2)] := hl
  have cut_15 : ∀ (n_15 : Nat) (v3_15 : Int32) (M_15 : Mem) (ls : Array Slot) (H : Heap) (locs : List Loc), lv_has ls 4 [(0, .ref (P.2.2.1 33)), (1, .ref (P.2.2.1 p1)), (2, .int p2), (3, .int v3_15)] → Hw shC P M_15 s H locs → lq2 (L_X9_highestAir_15 p1 p2) n_15 v3_15 M_15 = some (r, M') → W p l e { frames := 6, cells := 0, slots := 0, locals := 162 } s m args below meth c H locs 0 0 (MQ below (CQ shC P E (some (.int r)) M') args s 0 0 (wA shC P)) (F0 m 15 ls []) := by
    intro n_15
    induction n_15 with
    | zero => intro v3_15 M_15 ls H locs hl hw h; cases h
    | succ n_15 ih_15 =>
      intro v3_15 M_15 ls H locs hl hw h
      replace h := lq2_succ h
      refine lv_iload_n hx hb dX9_highestAir_15 rfl (lv_at hl 3 rfl) ?_
      refine lv_if_lt (tgt := 37) hx hb dX9_highestAir_16 (by decide) (fun c4 => ?_) (fun c4 => ?_)
      · replace h := (if_pos c4).symm.trans h
        refine lv_iconst (v := (-1)) hx hb dX9_highestAir_37 (by decide) ?_
        exact wretI_W C hw h dX9_highestAir_38
      · replace h := (if_neg c4).symm.trans h
        refine lv_aload_n hx hb dX9_highestAir_19 rfl (lv_at hl 0 rfl) ?_
        refine lv_aload_n hx hb dX9_highestAir_20 rfl (lv_at hl 1 rfl) ?_
        refine lv_iload_n hx hb dX9_highestAir_21 rfl (lv_at hl 2 rfl) ?_
        refine lv_iload_n hx hb dX9_highestAir_22 rfl (lv_at hl 3 rfl) ?_
        obtain ⟨r5, M7, e6, h⟩ := bnd2_some h
        refine wcallV1 (As := [.ref (P.2.2.1 p1), .int p2, .int v3_15]) (rest := []) C hw (c_X9_agreesByAir hW hp1 e6) vlX9_146 ⟨Nat.le_of_ble_eq_true rfl, Nat.le_of_ble_eq_true rfl⟩ (rfl : _ = some (0, 9)) rfl rfl rfl hl.1 (Nat.le_of_ble_eq_true rfl) dX9_highestAir_23 ⟨Nat.zero_le _, Nat.zero_le _⟩ (fun H locs hw => ?_)
        refine lv_if_eq (tgt := 31) hx hb dX9_highestAir_26 (by decide) (fun c8 => ?_) (fun c8 => ?_)
        · replace h := (if_pos c8).symm.trans h
          refine lv_iinc (v := (v3_15 + (-1))) (lv' := [(3, .int (v3_15 + (-1))), (0, .ref (P.2.2.1 33)), (1, .ref (P.2.2.1 p1)), (2, .int p2)]) (k := 3) hx hb dX9_highestAir_31 hl rfl (congrArg (fun z => v3_15 + z) (by decide)) (by decide) rfl (fun ls hl => ?_)
          refine lv_goto (tgt := 15) hx hb dX9_highestAir_34 (by decide) ?_
          exact ih_15 (v3_15 + (-1)) M7 ls _ _ (lv_sub hl [1, 2, 3, 0] rfl) hw h
        · replace h := (if_neg c8).symm.trans h
          refine lv_iload_n hx hb dX9_highestAir_29 rfl (lv_at hl 3 rfl) ?_
          exact wretI_W C hw h dX9_highestAir_30
  refine lv_aload_n hx hb dX9_highestAir_0 rfl (lv_at hl 0 rfl) ?_
  refine wgetR (t := 34) C hw flX9_12 (rfl : _ = some (0, 9)) rfl dX9_highestAir_1 ?_
  refine lv_aload_n hx hb dX9_highestAir_4 rfl (lv_at hl 0 rfl) ?_
  refine wgetR (t := 13) C hw flX9_32 (rfl : _ = some (0, 9)) rfl dX9_highestAir_5 ?_
  obtain ⟨M3, e2, h⟩ := bnd_some h
  refine wcallV0 (As := [.ref (P.2.2.1 13)]) (rest := []) C hw (c_X1_copyFrom hW (rfl : _ = some (0, 1)) (rfl : _ = some (0, 1)) e2) vlX9_68 ⟨Nat.le_of_ble_eq_true rfl, Nat.le_of_ble_eq_true rfl⟩ (rfl : _ = some (0, 1)) rfl rfl rfl hl.1 (Nat.le_of_ble_eq_true rfl) dX9_highestAir_8 ⟨Nat.zero_le _, Nat.zero_le _⟩ (fun H locs hw => ?_)
  refine lv_sipush (v := 600) hx hb dX9_highestAir_11 (by decide) ?_
  refine lv_istore_n (lv' := [(3, .int 600), (0, .ref (P.2.2.1 33)), (1, .ref (P.2.2.1 p1)), (2, .int p2)]) hx hb dX9_highestAir_14 rfl hl (by decide) rfl (fun ls hl => ?_)
  exact cut_15 FU 600 M3 ls _ _ (lv_sub hl [1, 2, 3, 0] rfl) hw h
set_option maxRecDepth 100000 in
set_option maxHeartbeats 4000000 in
theorem c_X9_thicksSeen {l : Launch} {P : Wp} {E : State → Heap → Prop} (hW : Wok shC P E) {p1 : Nat} {p2 : Int32} {M : Mem} {r : Int32} {M' : Mem} (hp1 : shC.1[p1]? = some (0, 7)) (h : f_X9_thicksSeen p1 p2 M = some (r, M')) : CT l shC P E yX9_thicksSeen bX9_thicksSeen 5 ((some .int)) 5 139 [.ref (P.2.2.1 33), .ref (P.2.2.1 p1), .int p2] (some (.int r)) M M' := by
  refine ct_of hW (by decide) (Nat.le_of_ble_eq_true rfl) (fun p e s m args below meth c C ls hl hw => ?_)
  have hx := C.1
  have hb := C.2.1
  replace hl : lv_has ls 5 [(0, .ref (P.2.2.1 33)), (1, .ref (P.2.2.1 p1)), (2, .int p2)] := hl
  have cut_32 : ∀ (n_32 : Nat) (v3_32 : Int32) (v4_32 : Int32) (M_32 : Mem) (ls : Array Slot) (H : Heap) (locs : List Loc), lv_has ls 5 [(0, .ref (P.2.2.1 33)), (1, .ref (P.2.2.1 p1)), (2, .int p2), (3, .int v3_32), (4, .int v4_32)] → Hw shC P M_32 s H locs → lq3 (L_X9_thicksSeen_32 p1 p2) n_32 v3_32 v4_32 M_32 = some (r, M') → W p l e { frames := 5, cells := 0, slots := 0, locals := 139 } s m args below meth c H locs 0 0 (MQ below (CQ shC P E (some (.int r)) M') args s 0 0 (wA shC P)) (F0 m 32 ls []) := by
    intro n_32
    induction n_32 with
    | zero => intro v3_32 v4_32 M_32 ls H locs hl hw h; cases h
    | succ n_32 ih_32 =>
      intro v3_32 v4_32 M_32 ls H locs hl hw h
      replace h := lq3_succ h
      refine lv_iload hx hb dX9_thicksSeen_32 (lv_at hl 4 rfl) ?_
      refine lv_bipush (v := 9) hx hb dX9_thicksSeen_34 (by decide) ?_
      refine lv_icmp_gt (tgt := 74) hx hb dX9_thicksSeen_36 (by decide) (fun c5 => ?_) (fun c5 => ?_)
      · replace h := (if_pos c5).symm.trans h
        refine lv_iload_n hx hb dX9_thicksSeen_74 rfl (lv_at hl 3 rfl) ?_
        exact wretI_W C hw h dX9_thicksSeen_75
      · replace h := (if_neg c5).symm.trans h
        refine lv_aload_n hx hb dX9_thicksSeen_39 rfl (lv_at hl 0 rfl) ?_
        refine wgetR (t := 34) C hw flX9_12 (rfl : _ = some (0, 9)) rfl dX9_thicksSeen_40 ?_
        refine wgetR (t := 35) C hw flX9_44 (rfl : _ = some (0, 1)) rfl dX9_thicksSeen_43 ?_
        refine wgetR (t := 38) C hw flX9_94 (rfl : _ = some (0, 5)) rfl dX9_thicksSeen_46 ?_
        refine lv_iload_n hx hb dX9_thicksSeen_49 rfl (lv_at hl 2 rfl) ?_
        refine lv_iload hx hb dX9_thicksSeen_50 (lv_at hl 4 rfl) ?_
        obtain ⟨g7, h⟩ := grd h
        refine wast C hw (rfl : _ = some (1, 6)) g7 dX9_thicksSeen_52 (fun M6 eM6 H locs hw => ?_)
        replace h := letv_at eM6 h
        refine lv_aload_n hx hb dX9_thicksSeen_53 rfl (lv_at hl 0 rfl) ?_
        refine lv_aload_n hx hb dX9_thicksSeen_54 rfl (lv_at hl 1 rfl) ?_
        obtain ⟨r8, M10, e9, h⟩ := bnd2_some h
        refine wcallV1 (As := [.ref (P.2.2.1 p1)]) (rest := []) C hw (c_X9_agrees hW hp1 e9) vlX9_142 ⟨Nat.le_of_ble_eq_true rfl, Nat.le_of_ble_eq_true rfl⟩ (rfl : _ = some (0, 9)) rfl rfl rfl hl.1 (Nat.le_of_ble_eq_true rfl) dX9_thicksSeen_55 ⟨Nat.zero_le _, Nat.zero_le _⟩ (fun H locs hw => ?_)
        refine lv_if_eq (tgt := 68) hx hb dX9_thicksSeen_58 (by decide) (fun c11 => ?_) (fun c11 => ?_)
        · replace h := (if_pos c11).symm.trans h
          refine lv_iinc (v := (v4_32 + 1)) (lv' := [(4, .int (v4_32 + 1)), (0, .ref (P.2.2.1 33)), (1, .ref (P.2.2.1 p1)), (2, .int p2), (3, .int v3_32)]) (k := 4) hx hb dX9_thicksSeen_68 hl rfl (congrArg (fun z => v4_32 + z) (by decide)) (by decide) rfl (fun ls hl => ?_)
          refine lv_goto (tgt := 32) hx hb dX9_thicksSeen_71 (by decide) ?_
          exact ih_32 v3_32 (v4_32 + 1) M10 ls _ _ (lv_sub hl [1, 2, 3, 4, 0] rfl) hw h
        · replace h := (if_neg c11).symm.trans h
          refine lv_iload_n hx hb dX9_thicksSeen_61 rfl (lv_at hl 3 rfl) ?_
          refine lv_iconst (v := 1) hx hb dX9_thicksSeen_62 (by decide) ?_
          refine lv_iload hx hb dX9_thicksSeen_63 (lv_at hl 4 rfl) ?_
          refine lv_ishl hx hb dX9_thicksSeen_65 ?_
          refine lv_ior hx hb dX9_thicksSeen_66 ?_
          refine lv_topi (fun x12 ex12 => ?_)
          replace h := letv_at ex12 h
          refine lv_istore_n (lv' := [(3, .int x12), (0, .ref (P.2.2.1 33)), (1, .ref (P.2.2.1 p1)), (2, .int p2), (4, .int v4_32)]) hx hb dX9_thicksSeen_67 rfl hl (by decide) rfl (fun ls hl => ?_)
          refine lv_iinc (v := (v4_32 + 1)) (lv' := [(4, .int (v4_32 + 1)), (3, .int x12), (0, .ref (P.2.2.1 33)), (1, .ref (P.2.2.1 p1)), (2, .int p2)]) (k := 4) hx hb dX9_thicksSeen_68 hl rfl (congrArg (fun z => v4_32 + z) (by decide)) (by decide) rfl (fun ls hl => ?_)
          refine lv_goto (tgt := 32) hx hb dX9_thicksSeen_71 (by decide) ?_
          exact ih_32 x12 (v4_32 + 1) M10 ls _ _ (lv_sub hl [2, 3, 4, 1, 0] rfl) hw h
  refine lv_aload_n hx hb dX9_thicksSeen_0 rfl (lv_at hl 0 rfl) ?_
  refine wgetR (t := 34) C hw flX9_12 (rfl : _ = some (0, 9)) rfl dX9_thicksSeen_1 ?_
  refine lv_aload_n hx hb dX9_thicksSeen_4 rfl (lv_at hl 0 rfl) ?_
  refine wgetR (t := 13) C hw flX9_32 (rfl : _ = some (0, 9)) rfl dX9_thicksSeen_5 ?_
  obtain ⟨M3, e2, h⟩ := bnd_some h
  refine wcallV0 (As := [.ref (P.2.2.1 13)]) (rest := []) C hw (c_X1_copyFrom hW (rfl : _ = some (0, 1)) (rfl : _ = some (0, 1)) e2) vlX9_68 ⟨Nat.le_of_ble_eq_true rfl, Nat.le_of_ble_eq_true rfl⟩ (rfl : _ = some (0, 1)) rfl rfl rfl hl.1 (Nat.le_of_ble_eq_true rfl) dX9_thicksSeen_8 ⟨Nat.zero_le _, Nat.zero_le _⟩ (fun H locs hw => ?_)
  refine lv_aload_n hx hb dX9_thicksSeen_11 rfl (lv_at hl 0 rfl) ?_
  refine wgetR (t := 34) C hw flX9_12 (rfl : _ = some (0, 9)) rfl dX9_thicksSeen_12 ?_
  refine wgetR (t := 35) C hw flX9_44 (rfl : _ = some (0, 1)) rfl dX9_thicksSeen_15 ?_
  refine lv_iload_n hx hb dX9_thicksSeen_18 rfl (lv_at hl 2 rfl) ?_
  refine wcallV1 (As := [.int p2]) (rest := []) C hw (c_X5_hasPiece hW (rfl : _ = some (0, 5)) rfl) vlX9_71 ⟨Nat.le_of_ble_eq_true rfl, Nat.le_of_ble_eq_true rfl⟩ (rfl : _ = some (0, 5)) rfl rfl rfl hl.1 (Nat.le_of_ble_eq_true rfl) dX9_thicksSeen_19 ⟨Nat.zero_le _, Nat.zero_le _⟩ (fun H locs hw => ?_)
  refine lv_if_ne (tgt := 27) hx hb dX9_thicksSeen_22 (by decide) (fun c4 => ?_) (fun c4 => ?_)
  · replace h := (if_neg c4).symm.trans h
    refine lv_iconst (v := 0) hx hb dX9_thicksSeen_27 (by decide) ?_
    refine lv_istore_n (lv' := [(3, .int 0), (0, .ref (P.2.2.1 33)), (1, .ref (P.2.2.1 p1)), (2, .int p2)]) hx hb dX9_thicksSeen_28 rfl hl (by decide) rfl (fun ls hl => ?_)
    refine lv_iconst (v := 1) hx hb dX9_thicksSeen_29 (by decide) ?_
    refine lv_istore (lv' := [(4, .int 1), (3, .int 0), (0, .ref (P.2.2.1 33)), (1, .ref (P.2.2.1 p1)), (2, .int p2)]) hx hb dX9_thicksSeen_30 hl (by decide) rfl (fun ls hl => ?_)
    exact cut_32 FU 0 1 M3 ls _ _ (lv_sub hl [2, 3, 4, 1, 0] rfl) hw h
  · replace h := (if_pos c4).symm.trans h
    refine lv_iconst (v := 0) hx hb dX9_thicksSeen_25 (by decide) ?_
    exact wretI_W C hw h dX9_thicksSeen_26
set_option maxRecDepth 100000 in
set_option maxHeartbeats 4000000 in
theorem c_X9_lawsSeen {l : Launch} {P : Wp} {E : State → Heap → Prop} (hW : Wok shC P E) {p1 : Nat} {M : Mem} {r : Int32} {M' : Mem} (hp1 : shC.1[p1]? = some (0, 7)) (h : f_X9_lawsSeen p1 M = some (r, M')) : CT l shC P E yX9_lawsSeen bX9_lawsSeen 4 ((some .int)) 5 139 [.ref (P.2.2.1 33), .ref (P.2.2.1 p1)] (some (.int r)) M M' := by
  refine ct_of hW (by decide) (Nat.le_of_ble_eq_true rfl) (fun p e s m args below meth c C ls hl hw => ?_)
  have hx := C.1
  have hb := C.2.1
  replace hl : lv_has ls 4 [(0, .ref (P.2.2.1 33)), (1, .ref (P.2.2.1 p1))] := hl
  have cut_15 : ∀ (n_15 : Nat) (v2_15 : Int32) (v3_15 : Int32) (M_15 : Mem) (ls : Array Slot) (H : Heap) (locs : List Loc), lv_has ls 4 [(0, .ref (P.2.2.1 33)), (1, .ref (P.2.2.1 p1)), (2, .int v2_15), (3, .int v3_15)] → Hw shC P M_15 s H locs → lq3 (L_X9_lawsSeen_15 p1) n_15 v2_15 v3_15 M_15 = some (r, M') → W p l e { frames := 5, cells := 0, slots := 0, locals := 139 } s m args below meth c H locs 0 0 (MQ below (CQ shC P E (some (.int r)) M') args s 0 0 (wA shC P)) (F0 m 15 ls []) := by
    intro n_15
    induction n_15 with
    | zero => intro v2_15 v3_15 M_15 ls H locs hl hw h; cases h
    | succ n_15 ih_15 =>
      intro v2_15 v3_15 M_15 ls H locs hl hw h
      replace h := lq3_succ h
      refine lv_iload_n hx hb dX9_lawsSeen_15 rfl (lv_at hl 3 rfl) ?_
      refine lv_iconst (v := 4) hx hb dX9_lawsSeen_16 (by decide) ?_
      refine lv_icmp_ge (tgt := 51) hx hb dX9_lawsSeen_17 (by decide) (fun c4 => ?_) (fun c4 => ?_)
      · replace h := (if_pos c4).symm.trans h
        refine lv_iload_n hx hb dX9_lawsSeen_51 rfl (lv_at hl 2 rfl) ?_
        exact wretI_W C hw h dX9_lawsSeen_52
      · replace h := (if_neg c4).symm.trans h
        refine lv_aload_n hx hb dX9_lawsSeen_20 rfl (lv_at hl 0 rfl) ?_
        refine wgetR (t := 34) C hw flX9_12 (rfl : _ = some (0, 9)) rfl dX9_lawsSeen_21 ?_
        refine wgetR (t := 35) C hw flX9_44 (rfl : _ = some (0, 1)) rfl dX9_lawsSeen_24 ?_
        refine lv_iload_n hx hb dX9_lawsSeen_27 rfl (lv_at hl 3 rfl) ?_
        refine wputI C hw fpX9_150 (rfl : _ = some (0, 5)) dX9_lawsSeen_28 (fun M5 eM5 H locs hw => ?_)
        replace h := letv_at eM5 h
        refine lv_aload_n hx hb dX9_lawsSeen_31 rfl (lv_at hl 0 rfl) ?_
        refine lv_aload_n hx hb dX9_lawsSeen_32 rfl (lv_at hl 1 rfl) ?_
        obtain ⟨r6, M8, e7, h⟩ := bnd2_some h
        refine wcallV1 (As := [.ref (P.2.2.1 p1)]) (rest := []) C hw (c_X9_agrees hW hp1 e7) vlX9_142 ⟨Nat.le_of_ble_eq_true rfl, Nat.le_of_ble_eq_true rfl⟩ (rfl : _ = some (0, 9)) rfl rfl rfl hl.1 (Nat.le_of_ble_eq_true rfl) dX9_lawsSeen_33 ⟨Nat.zero_le _, Nat.zero_le _⟩ (fun H locs hw => ?_)
        refine lv_if_eq (tgt := 45) hx hb dX9_lawsSeen_36 (by decide) (fun c9 => ?_) (fun c9 => ?_)
        · replace h := (if_pos c9).symm.trans h
          refine lv_iinc (v := (v3_15 + 1)) (lv' := [(3, .int (v3_15 + 1)), (0, .ref (P.2.2.1 33)), (1, .ref (P.2.2.1 p1)), (2, .int v2_15)]) (k := 3) hx hb dX9_lawsSeen_45 hl rfl (congrArg (fun z => v3_15 + z) (by decide)) (by decide) rfl (fun ls hl => ?_)
          refine lv_goto (tgt := 15) hx hb dX9_lawsSeen_48 (by decide) ?_
          exact ih_15 v2_15 (v3_15 + 1) M8 ls _ _ (lv_sub hl [1, 2, 3, 0] rfl) hw h
        · replace h := (if_neg c9).symm.trans h
          refine lv_iload_n hx hb dX9_lawsSeen_39 rfl (lv_at hl 2 rfl) ?_
          refine lv_iconst (v := 1) hx hb dX9_lawsSeen_40 (by decide) ?_
          refine lv_iload_n hx hb dX9_lawsSeen_41 rfl (lv_at hl 3 rfl) ?_
          refine lv_ishl hx hb dX9_lawsSeen_42 ?_
          refine lv_ior hx hb dX9_lawsSeen_43 ?_
          refine lv_topi (fun x10 ex10 => ?_)
          replace h := letv_at ex10 h
          refine lv_istore_n (lv' := [(2, .int x10), (0, .ref (P.2.2.1 33)), (1, .ref (P.2.2.1 p1)), (3, .int v3_15)]) hx hb dX9_lawsSeen_44 rfl hl (by decide) rfl (fun ls hl => ?_)
          refine lv_iinc (v := (v3_15 + 1)) (lv' := [(3, .int (v3_15 + 1)), (2, .int x10), (0, .ref (P.2.2.1 33)), (1, .ref (P.2.2.1 p1))]) (k := 3) hx hb dX9_lawsSeen_45 hl rfl (congrArg (fun z => v3_15 + z) (by decide)) (by decide) rfl (fun ls hl => ?_)
          refine lv_goto (tgt := 15) hx hb dX9_lawsSeen_48 (by decide) ?_
          exact ih_15 x10 (v3_15 + 1) M8 ls _ _ (lv_sub hl [2, 3, 1, 0] rfl) hw h
  refine lv_aload_n hx hb dX9_lawsSeen_0 rfl (lv_at hl 0 rfl) ?_
  refine wgetR (t := 34) C hw flX9_12 (rfl : _ = some (0, 9)) rfl dX9_lawsSeen_1 ?_
  refine lv_aload_n hx hb dX9_lawsSeen_4 rfl (lv_at hl 0 rfl) ?_
  refine wgetR (t := 13) C hw flX9_32 (rfl : _ = some (0, 9)) rfl dX9_lawsSeen_5 ?_
  obtain ⟨M3, e2, h⟩ := bnd_some h
  refine wcallV0 (As := [.ref (P.2.2.1 13)]) (rest := []) C hw (c_X1_copyFrom hW (rfl : _ = some (0, 1)) (rfl : _ = some (0, 1)) e2) vlX9_68 ⟨Nat.le_of_ble_eq_true rfl, Nat.le_of_ble_eq_true rfl⟩ (rfl : _ = some (0, 1)) rfl rfl rfl hl.1 (Nat.le_of_ble_eq_true rfl) dX9_lawsSeen_8 ⟨Nat.zero_le _, Nat.zero_le _⟩ (fun H locs hw => ?_)
  refine lv_iconst (v := 0) hx hb dX9_lawsSeen_11 (by decide) ?_
  refine lv_istore_n (lv' := [(2, .int 0), (0, .ref (P.2.2.1 33)), (1, .ref (P.2.2.1 p1))]) hx hb dX9_lawsSeen_12 rfl hl (by decide) rfl (fun ls hl => ?_)
  refine lv_iconst (v := 0) hx hb dX9_lawsSeen_13 (by decide) ?_
  refine lv_istore_n (lv' := [(3, .int 0), (2, .int 0), (0, .ref (P.2.2.1 33)), (1, .ref (P.2.2.1 p1))]) hx hb dX9_lawsSeen_14 rfl hl (by decide) rfl (fun ls hl => ?_)
  exact cut_15 FU 0 0 M3 ls _ _ (lv_sub hl [2, 3, 1, 0] rfl) hw h
set_option maxRecDepth 100000 in
set_option maxHeartbeats 4000000 in
theorem c_X9_soundBitsByLaw {l : Launch} {P : Wp} {E : State → Heap → Prop} (hW : Wok shC P E) {p1 : Int32} {M : Mem} {r : Int32} {M' : Mem} (h : f_X9_soundBitsByLaw p1 M = some (r, M')) : CT l shC P E yX9_soundBitsByLaw bX9_soundBitsByLaw 2 ((some .int)) 5 138 [.ref (P.2.2.1 33), .int p1] (some (.int r)) M M' := by
  refine ct_of hW (by decide) (Nat.le_of_ble_eq_true rfl) (fun p e s m args below meth c C ls hl hw => ?_)
  have hx := C.1
  have hb := C.2.1
  replace hl : lv_has ls 2 [(0, .ref (P.2.2.1 33)), (1, .int p1)] := hl
  refine lv_aload_n hx hb dX9_soundBitsByLaw_0 rfl (lv_at hl 0 rfl) ?_
  refine wgetR (t := 34) C hw flX9_12 (rfl : _ = some (0, 9)) rfl dX9_soundBitsByLaw_1 ?_
  refine lv_aload_n hx hb dX9_soundBitsByLaw_4 rfl (lv_at hl 0 rfl) ?_
  refine wgetR (t := 13) C hw flX9_32 (rfl : _ = some (0, 9)) rfl dX9_soundBitsByLaw_5 ?_
  obtain ⟨M3, e2, h⟩ := bnd_some h
  refine wcallV0 (As := [.ref (P.2.2.1 13)]) (rest := []) C hw (c_X1_copyFrom hW (rfl : _ = some (0, 1)) (rfl : _ = some (0, 1)) e2) vlX9_68 ⟨Nat.le_of_ble_eq_true rfl, Nat.le_of_ble_eq_true rfl⟩ (rfl : _ = some (0, 1)) rfl rfl rfl hl.1 (Nat.le_of_ble_eq_true rfl) dX9_soundBitsByLaw_8 ⟨Nat.zero_le _, Nat.zero_le _⟩ (fun H locs hw => ?_)
  refine lv_aload_n hx hb dX9_soundBitsByLaw_11 rfl (lv_at hl 0 rfl) ?_
  refine wgetR (t := 34) C hw flX9_12 (rfl : _ = some (0, 9)) rfl dX9_soundBitsByLaw_12 ?_
  refine wgetR (t := 35) C hw flX9_44 (rfl : _ = some (0, 1)) rfl dX9_soundBitsByLaw_15 ?_
  refine lv_iload_n hx hb dX9_soundBitsByLaw_18 rfl (lv_at hl 1 rfl) ?_
  refine wputI C hw fpX9_150 (rfl : _ = some (0, 5)) dX9_soundBitsByLaw_19 (fun M4 eM4 H locs hw => ?_)
  replace h := letv_at eM4 h
  refine lv_aload_n hx hb dX9_soundBitsByLaw_22 rfl (lv_at hl 0 rfl) ?_
  obtain ⟨r5, M7, e6, h⟩ := bnd2_some h
  refine wcallV1 (As := []) (rest := []) C hw (c_X9_soundBits hW  e6) vlX9_153 ⟨Nat.le_of_ble_eq_true rfl, Nat.le_of_ble_eq_true rfl⟩ (rfl : _ = some (0, 9)) rfl rfl rfl hl.1 (Nat.le_of_ble_eq_true rfl) dX9_soundBitsByLaw_23 ⟨Nat.zero_le _, Nat.zero_le _⟩ (fun H locs hw => ?_)
  exact wretI_W C hw h dX9_soundBitsByLaw_26
set_option maxRecDepth 100000 in
set_option maxHeartbeats 4000000 in
theorem c_X9_bestLaw {l : Launch} {P : Wp} {E : State → Heap → Prop} (hW : Wok shC P E) {M : Mem} {r : Int32} {M' : Mem} (h : f_X9_bestLaw M = some (r, M')) : CT l shC P E yX9_bestLaw bX9_bestLaw 5 ((some .int)) 6 159 [.ref (P.2.2.1 33)] (some (.int r)) M M' := by
  refine ct_of hW (by decide) (Nat.le_of_ble_eq_true rfl) (fun p e s m args below meth c C ls hl hw => ?_)
  have hx := C.1
  have hb := C.2.1
  replace hl : lv_has ls 5 [(0, .ref (P.2.2.1 33))] := hl
  have cut_13 : ∀ (n_13 : Nat) (v1_13 : Int32) (v2_13 : Int32) (v3_13 : Int32) (M_13 : Mem) (ls : Array Slot) (H : Heap) (locs : List Loc), lv_has ls 5 [(0, .ref (P.2.2.1 33)), (1, .int v1_13), (2, .int v2_13), (3, .int v3_13)] → Hw shC P M_13 s H locs → lq4 (L_X9_bestLaw_13) n_13 v1_13 v2_13 v3_13 M_13 = some (r, M') → W p l e { frames := 6, cells := 0, slots := 0, locals := 159 } s m args below meth c H locs 0 0 (MQ below (CQ shC P E (some (.int r)) M') args s 0 0 (wA shC P)) (F0 m 13 ls []) := by
    intro n_13
    induction n_13 with
    | zero => intro v1_13 v2_13 v3_13 M_13 ls H locs hl hw h; cases h
    | succ n_13 ih_13 =>
      intro v1_13 v2_13 v3_13 M_13 ls H locs hl hw h
      replace h := lq4_succ h
      refine lv_iload_n hx hb dX9_bestLaw_13 rfl (lv_at hl 3 rfl) ?_
      refine lv_iconst (v := 4) hx hb dX9_bestLaw_14 (by decide) ?_
      refine lv_icmp_ge (tgt := 45) hx hb dX9_bestLaw_15 (by decide) (fun c5 => ?_) (fun c5 => ?_)
      · replace h := (if_pos c5).symm.trans h
        refine lv_iload_n hx hb dX9_bestLaw_45 rfl (lv_at hl 1 rfl) ?_
        exact wretI_W C hw h dX9_bestLaw_46
      · replace h := (if_neg c5).symm.trans h
        refine lv_aload_n hx hb dX9_bestLaw_18 rfl (lv_at hl 0 rfl) ?_
        refine lv_iload_n hx hb dX9_bestLaw_19 rfl (lv_at hl 3 rfl) ?_
        obtain ⟨r6, M8, e7, h⟩ := bnd2_some h
        refine wcallV1 (As := [.int v3_13]) (rest := []) C hw (c_X9_soundBitsByLaw hW  e7) vlX9_156 ⟨Nat.le_of_ble_eq_true rfl, Nat.le_of_ble_eq_true rfl⟩ (rfl : _ = some (0, 9)) rfl rfl rfl hl.1 (Nat.le_of_ble_eq_true rfl) dX9_bestLaw_20 ⟨Nat.zero_le _, Nat.zero_le _⟩ (fun H locs hw => ?_)
        refine wcallS1 (As := [.int r6]) (rest := []) C hw (c_J6_bitCount_0f7a4 hW  rfl) slX9_62 ⟨Nat.le_of_ble_eq_true rfl, Nat.le_of_ble_eq_true rfl⟩ rfl rfl hl.1 (Nat.le_of_ble_eq_true rfl) dX9_bestLaw_23 ⟨Nat.zero_le _, Nat.zero_le _⟩ (fun H locs hw => ?_)
        refine lv_topi (fun x9 ex9 => ?_)
        replace h := letv_at ex9 h
        refine lv_istore (lv' := [(4, .int x9), (0, .ref (P.2.2.1 33)), (1, .int v1_13), (2, .int v2_13), (3, .int v3_13)]) hx hb dX9_bestLaw_26 hl (by decide) rfl (fun ls hl => ?_)
        refine lv_iload hx hb dX9_bestLaw_28 (lv_at hl 0 rfl) ?_
        refine lv_iload_n hx hb dX9_bestLaw_30 rfl (lv_at hl 3 rfl) ?_
        refine lv_icmp_le (tgt := 39) hx hb dX9_bestLaw_31 (by decide) (fun c10 => ?_) (fun c10 => ?_)
        · replace h := (if_pos c10).symm.trans h
          refine lv_iinc (v := (v3_13 + 1)) (lv' := [(3, .int (v3_13 + 1)), (4, .int x9), (0, .ref (P.2.2.1 33)), (1, .int v1_13), (2, .int v2_13)]) (k := 4) hx hb dX9_bestLaw_39 hl rfl (congrArg (fun z => v3_13 + z) (by decide)) (by decide) rfl (fun ls hl => ?_)
          refine lv_goto (tgt := 13) hx hb dX9_bestLaw_42 (by decide) ?_
          exact ih_13 v1_13 v2_13 (v3_13 + 1) M8 ls _ _ (lv_sub hl [2, 3, 4, 0] rfl) hw h
        · replace h := (if_neg c10).symm.trans h
          refine lv_iload hx hb dX9_bestLaw_34 (lv_at hl 0 rfl) ?_
          refine lv_istore_n (lv' := [(2, .int x9), (4, .int x9), (0, .ref (P.2.2.1 33)), (1, .int v1_13), (3, .int v3_13)]) hx hb dX9_bestLaw_36 rfl hl (by decide) rfl (fun ls hl => ?_)
          refine lv_iload_n hx hb dX9_bestLaw_37 rfl (lv_at hl 4 rfl) ?_
          refine lv_istore_n (lv' := [(1, .int v3_13), (2, .int x9), (4, .int x9), (0, .ref (P.2.2.1 33)), (3, .int v3_13)]) hx hb dX9_bestLaw_38 rfl hl (by decide) rfl (fun ls hl => ?_)
          refine lv_iinc (v := (v3_13 + 1)) (lv' := [(3, .int (v3_13 + 1)), (1, .int v3_13), (2, .int x9), (4, .int x9), (0, .ref (P.2.2.1 33))]) (k := 4) hx hb dX9_bestLaw_39 hl rfl (congrArg (fun z => v3_13 + z) (by decide)) (by decide) rfl (fun ls hl => ?_)
          refine lv_goto (tgt := 13) hx hb dX9_bestLaw_42 (by decide) ?_
          exact ih_13 v3_13 x9 (v3_13 + 1) M8 ls _ _ (lv_sub hl [4, 1, 2, 0] rfl) hw h
  refine lv_iconst (v := 0) hx hb dX9_bestLaw_0 (by decide) ?_
  refine lv_istore_n (lv' := [(1, .int 0), (0, .ref (P.2.2.1 33))]) hx hb dX9_bestLaw_1 rfl hl (by decide) rfl (fun ls hl => ?_)
  refine lv_aload_n hx hb dX9_bestLaw_2 rfl (lv_at hl 1 rfl) ?_
  refine lv_iconst (v := 0) hx hb dX9_bestLaw_3 (by decide) ?_
  obtain ⟨r1, M3, e2, h⟩ := bnd2_some h
  refine wcallV1 (As := [.int 0]) (rest := []) C hw (c_X9_soundBitsByLaw hW  e2) vlX9_156 ⟨Nat.le_of_ble_eq_true rfl, Nat.le_of_ble_eq_true rfl⟩ (rfl : _ = some (0, 9)) rfl rfl rfl hl.1 (Nat.le_of_ble_eq_true rfl) dX9_bestLaw_4 ⟨Nat.zero_le _, Nat.zero_le _⟩ (fun H locs hw => ?_)
  refine wcallS1 (As := [.int r1]) (rest := []) C hw (c_J6_bitCount_0f7a4 hW  rfl) slX9_62 ⟨Nat.le_of_ble_eq_true rfl, Nat.le_of_ble_eq_true rfl⟩ rfl rfl hl.1 (Nat.le_of_ble_eq_true rfl) dX9_bestLaw_7 ⟨Nat.zero_le _, Nat.zero_le _⟩ (fun H locs hw => ?_)
  refine lv_topi (fun x4 ex4 => ?_)
  replace h := letv_at ex4 h
  refine lv_istore_n (lv' := [(2, .int x4), (1, .int 0), (0, .ref (P.2.2.1 33))]) hx hb dX9_bestLaw_10 rfl hl (by decide) rfl (fun ls hl => ?_)
  refine lv_iconst (v := 1) hx hb dX9_bestLaw_11 (by decide) ?_
  refine lv_istore_n (lv' := [(3, .int 1), (2, .int x4), (1, .int 0), (0, .ref (P.2.2.1 33))]) hx hb dX9_bestLaw_12 rfl hl (by decide) rfl (fun ls hl => ?_)
  exact cut_13 FU 0 x4 1 M3 ls _ _ (lv_sub hl [3, 2, 1, 0] rfl) hw h
set_option maxRecDepth 100000 in
set_option maxHeartbeats 4000000 in
theorem c_X9_worthOf {l : Launch} {P : Wp} {E : State → Heap → Prop} (hW : Wok shC P E) {p1 : Int32} {M : Mem} {r : Int32} {M' : Mem} (h : f_X9_worthOf p1 M = some (r, M')) : CT l shC P E yX9_worthOf bX9_worthOf 3 ((some .int)) 5 138 [.ref (P.2.2.1 33), .int p1] (some (.int r)) M M' := by
  refine ct_of hW (by decide) (Nat.le_of_ble_eq_true rfl) (fun p e s m args below meth c C ls hl hw => ?_)
  have hx := C.1
  have hb := C.2.1
  replace hl : lv_has ls 3 [(0, .ref (P.2.2.1 33)), (1, .int p1)] := hl
  have cut_13 : ∀ (n_13 : Nat) (v2_13 : Int32) (M_13 : Mem) (ls : Array Slot) (H : Heap) (locs : List Loc), lv_has ls 3 [(0, .ref (P.2.2.1 33)), (1, .int p1), (2, .int v2_13)] → Hw shC P M_13 s H locs → lq2 (L_X9_worthOf_13 p1) n_13 v2_13 M_13 = some (r, M') → W p l e { frames := 5, cells := 0, slots := 0, locals := 138 } s m args below meth c H locs 0 0 (MQ below (CQ shC P E (some (.int r)) M') args s 0 0 (wA shC P)) (F0 m 13 ls []) := by
    intro n_13
    induction n_13 with
    | zero => intro v2_13 M_13 ls H locs hl hw h; cases h
    | succ n_13 ih_13 =>
      intro v2_13 M_13 ls H locs hl hw h
      replace h := lq2_succ h
      refine lv_iload_n hx hb dX9_worthOf_13 rfl (lv_at hl 2 rfl) ?_
      refine lv_aload_n hx hb dX9_worthOf_14 rfl (lv_at hl 0 rfl) ?_
      refine wgetR (t := 34) C hw flX9_12 (rfl : _ = some (0, 9)) rfl dX9_worthOf_15 ?_
      refine wgetR (t := 35) C hw flX9_44 (rfl : _ = some (0, 1)) rfl dX9_worthOf_18 ?_
      refine wgetI C hw flX9_115 (rfl : _ = some (0, 5)) dX9_worthOf_21 ?_
      refine lv_icmp_ge (tgt := 54) hx hb dX9_worthOf_24 (by decide) (fun c4 => ?_) (fun c4 => ?_)
      · replace h := (if_pos c4).symm.trans h
        refine lv_aload_n hx hb dX9_worthOf_54 rfl (lv_at hl 0 rfl) ?_
        obtain ⟨r5, M7, e6, h⟩ := bnd2_some h
        refine wcallV1 (As := []) (rest := []) C hw (c_X9_soundCount hW  e6) vlX9_103 ⟨Nat.le_of_ble_eq_true rfl, Nat.le_of_ble_eq_true rfl⟩ (rfl : _ = some (0, 9)) rfl rfl rfl hl.1 (Nat.le_of_ble_eq_true rfl) dX9_worthOf_55 ⟨Nat.zero_le _, Nat.zero_le _⟩ (fun H locs hw => ?_)
        exact wretI_W C hw h dX9_worthOf_58
      · replace h := (if_neg c4).symm.trans h
        refine lv_iload_n hx hb dX9_worthOf_27 rfl (lv_at hl 1 rfl) ?_
        refine lv_iload_n hx hb dX9_worthOf_28 rfl (lv_at hl 2 rfl) ?_
        refine lv_ishr hx hb dX9_worthOf_29 ?_
        refine lv_iconst (v := 1) hx hb dX9_worthOf_30 (by decide) ?_
        refine lv_iand hx hb dX9_worthOf_31 ?_
        refine lv_if_ne (tgt := 48) hx hb dX9_worthOf_32 (by decide) (fun c8 => ?_) (fun c8 => ?_)
        · replace h := (if_neg c8).symm.trans h
          refine lv_iinc (v := (v2_13 + 1)) (lv' := [(2, .int (v2_13 + 1)), (0, .ref (P.2.2.1 33)), (1, .int p1)]) (k := 2) hx hb dX9_worthOf_48 hl rfl (congrArg (fun z => v2_13 + z) (by decide)) (by decide) rfl (fun ls hl => ?_)
          refine lv_goto (tgt := 13) hx hb dX9_worthOf_51 (by decide) ?_
          exact ih_13 (v2_13 + 1) M_13 ls _ _ (lv_sub hl [1, 2, 0] rfl) hw h
        · replace h := (if_pos c8).symm.trans h
          refine lv_aload_n hx hb dX9_worthOf_35 rfl (lv_at hl 0 rfl) ?_
          refine wgetR (t := 34) C hw flX9_12 (rfl : _ = some (0, 9)) rfl dX9_worthOf_36 ?_
          refine wgetR (t := 35) C hw flX9_44 (rfl : _ = some (0, 1)) rfl dX9_worthOf_39 ?_
          refine wgetR (t := 36) C hw flX9_112 (rfl : _ = some (0, 5)) rfl dX9_worthOf_42 ?_
          refine lv_iload_n hx hb dX9_worthOf_45 rfl (lv_at hl 2 rfl) ?_
          refine lv_iconst (v := 0) hx hb dX9_worthOf_46 (by decide) ?_
          obtain ⟨g10, h⟩ := grd h
          refine wast C hw (rfl : _ = some (1, 7)) g10 dX9_worthOf_47 (fun M9 eM9 H locs hw => ?_)
          replace h := letv_at eM9 h
          refine lv_iinc (v := (v2_13 + 1)) (lv' := [(2, .int (v2_13 + 1)), (0, .ref (P.2.2.1 33)), (1, .int p1)]) (k := 2) hx hb dX9_worthOf_48 hl rfl (congrArg (fun z => v2_13 + z) (by decide)) (by decide) rfl (fun ls hl => ?_)
          refine lv_goto (tgt := 13) hx hb dX9_worthOf_51 (by decide) ?_
          exact ih_13 (v2_13 + 1) M9 ls _ _ (lv_sub hl [1, 2, 0] rfl) hw h
  refine lv_aload_n hx hb dX9_worthOf_0 rfl (lv_at hl 0 rfl) ?_
  refine wgetR (t := 34) C hw flX9_12 (rfl : _ = some (0, 9)) rfl dX9_worthOf_1 ?_
  refine lv_aload_n hx hb dX9_worthOf_4 rfl (lv_at hl 0 rfl) ?_
  refine wgetR (t := 13) C hw flX9_32 (rfl : _ = some (0, 9)) rfl dX9_worthOf_5 ?_
  obtain ⟨M3, e2, h⟩ := bnd_some h
  refine wcallV0 (As := [.ref (P.2.2.1 13)]) (rest := []) C hw (c_X1_copyFrom hW (rfl : _ = some (0, 1)) (rfl : _ = some (0, 1)) e2) vlX9_68 ⟨Nat.le_of_ble_eq_true rfl, Nat.le_of_ble_eq_true rfl⟩ (rfl : _ = some (0, 1)) rfl rfl rfl hl.1 (Nat.le_of_ble_eq_true rfl) dX9_worthOf_8 ⟨Nat.zero_le _, Nat.zero_le _⟩ (fun H locs hw => ?_)
  refine lv_iconst (v := 0) hx hb dX9_worthOf_11 (by decide) ?_
  refine lv_istore_n (lv' := [(2, .int 0), (0, .ref (P.2.2.1 33)), (1, .int p1)]) hx hb dX9_worthOf_12 rfl hl (by decide) rfl (fun ls hl => ?_)
  exact cut_13 FU 0 M3 ls _ _ (lv_sub hl [1, 2, 0] rfl) hw h
set_option maxRecDepth 100000 in
set_option maxHeartbeats 4000000 in
theorem c_X9_ordersOf {l : Launch} {P : Wp} {E : State → Heap → Prop} (hW : Wok shC P E) {p0 : Int32} {M : Mem} {r : Int64} (h : f_X9_ordersOf p0 M = some r) : CT l shC P E yX9_ordersOf bX9_ordersOf 4 ((some .long)) 0 0 [.int p0] (some (.long r)) M M := by
  refine ct_of hW (by decide) (Nat.le_of_ble_eq_true rfl) (fun p e s m args below meth c C ls hl hw => ?_)
  have hx := C.1
  have hb := C.2.1
  replace hl : lv_has ls 4 [(0, .int p0)] := hl
  have cut_4 : ∀ (n_4 : Nat) (v1_4 : Int64) (v3_4 : Int32) (ls : Array Slot) (H : Heap) (locs : List Loc), lv_has ls 4 [(0, .int p0), (1, .long v1_4), (3, .int v3_4)] → Hw shC P M s H locs → lq2 (L_X9_ordersOf_4 p0 M) n_4 v1_4 v3_4 = some r → W p l e { frames := 0, cells := 0, slots := 0, locals := 0 } s m args below meth c H locs 0 0 (MQ below (CQ shC P E (some (.long r)) M) args s 0 0 (wA shC P)) (F0 m 4 ls []) := by
    intro n_4
    induction n_4 with
    | zero => intro v1_4 v3_4 ls H locs hl hw h; cases h
    | succ n_4 ih_4 =>
      intro v1_4 v3_4 ls H locs hl hw h
      replace h := lq2_succ h
      refine lv_iload_n hx hb dX9_ordersOf_4 rfl (lv_at hl 2 rfl) ?_
      refine lv_iload_n hx hb dX9_ordersOf_5 rfl (lv_at hl 0 rfl) ?_
      refine lv_icmp_gt (tgt := 26) hx hb dX9_ordersOf_6 (by decide) (fun c1 => ?_) (fun c1 => ?_)
      · replace h := (if_pos c1).symm.trans h
        refine lv_lload_n hx hb dX9_ordersOf_26 rfl (lv_at hl 1 rfl) ?_
        exact wretJ_R C hw h dX9_ordersOf_27
      · replace h := (if_neg c1).symm.trans h
        refine lv_iload_n hx hb dX9_ordersOf_9 rfl (lv_at hl 2 rfl) ?_
        refine lv_bipush (v := 7) hx hb dX9_ordersOf_10 (by decide) ?_
        refine lv_icmp_gt (tgt := 26) hx hb dX9_ordersOf_12 (by decide) (fun c2 => ?_) (fun c2 => ?_)
        · replace h := (if_pos c2).symm.trans h
          refine lv_lload_n hx hb dX9_ordersOf_26 rfl (lv_at hl 1 rfl) ?_
          exact wretJ_R C hw h dX9_ordersOf_27
        · replace h := (if_neg c2).symm.trans h
          refine lv_lload_n hx hb dX9_ordersOf_15 rfl (lv_at hl 1 rfl) ?_
          refine lv_iload_n hx hb dX9_ordersOf_16 rfl (lv_at hl 2 rfl) ?_
          refine lv_i2l hx hb dX9_ordersOf_17 rfl ?_
          refine lv_lmul hx hb dX9_ordersOf_18 ?_
          refine lv_topl (fun x3 ex3 => ?_)
          replace h := letv_at ex3 h
          refine lv_lstore_n (lv' := [(1, .long x3), (0, .int p0), (3, .int v3_4)]) hx hb dX9_ordersOf_19 rfl hl (by decide) rfl (fun ls hl => ?_)
          refine lv_iinc (v := (v3_4 + 1)) (lv' := [(3, .int (v3_4 + 1)), (1, .long x3), (0, .int p0)]) (k := 2) hx hb dX9_ordersOf_20 hl rfl (congrArg (fun z => v3_4 + z) (by decide)) (by decide) rfl (fun ls hl => ?_)
          refine lv_goto (tgt := 4) hx hb dX9_ordersOf_23 (by decide) ?_
          exact ih_4 x3 (v3_4 + 1) ls _ _ (lv_sub hl [2, 1, 0] rfl) hw h
  refine lv_lconst (v := 1) hx hb dX9_ordersOf_0 (by decide) ?_
  refine lv_lstore_n (lv' := [(1, .long 1), (0, .int p0)]) hx hb dX9_ordersOf_1 rfl hl (by decide) rfl (fun ls hl => ?_)
  refine lv_iconst (v := 2) hx hb dX9_ordersOf_2 (by decide) ?_
  refine lv_istore_n (lv' := [(3, .int 2), (1, .long 1), (0, .int p0)]) hx hb dX9_ordersOf_3 rfl hl (by decide) rfl (fun ls hl => ?_)
  exact cut_4 FU 1 2 ls _ _ (lv_sub hl [2, 1, 0] rfl) hw h
set_option maxRecDepth 100000 in
set_option maxHeartbeats 4000000 in
theorem c_X9_shareOf {l : Launch} {P : Wp} {E : State → Heap → Prop} (hW : Wok shC P E) {p1 : Int32} {M : Mem} {M' : Mem} (h : f_X9_shareOf p1 M = some M') : CT l shC P E yX9_shareOf bX9_shareOf 11 ((some (.object "LehrBelt$Fraction"))) 6 160 [.ref (P.2.2.1 33), .int p1] (some (.ref (P.2.2.1 46))) M M' := by
  refine ct_of hW (by decide) (Nat.le_of_ble_eq_true rfl) (fun p e s m args below meth c C ls hl hw => ?_)
  have hx := C.1
  have hb := C.2.1
  replace hl : lv_has ls 11 [(0, .ref (P.2.2.1 33)), (1, .int p1)] := hl
  have cut_62 : ∀ (v2_62 : Int32) (v3_62 : Int32) (v4_62 : Int32) (n_62 : Nat) (v5_62 : Int64) (v7_62 : Int32) (M_62 : Mem) (ls : Array Slot) (H : Heap) (locs : List Loc), lv_has ls 11 [(0, .ref (P.2.2.1 33)), (2, .int v2_62), (3, .int v3_62), (4, .int v4_62), (5, .long v5_62), (7, .int v7_62)] → Hw shC P M_62 s H locs → lq3 (L_X9_shareOf_62 p1 v2_62 v3_62 v4_62) n_62 v5_62 v7_62 M_62 = some M' → W p l e { frames := 6, cells := 0, slots := 0, locals := 160 } s m args below meth c H locs 0 0 (MQ below (CQ shC P E (some (.ref (P.2.2.1 46))) M') args s 0 0 (wA shC P)) (F0 m 62 ls []) := by
    intro v2_62 v3_62 v4_62 n_62
    induction n_62 with
    | zero => intro v5_62 v7_62 M_62 ls H locs hl hw h; cases h
    | succ n_62 ih_62 =>
      intro v5_62 v7_62 M_62 ls H locs hl hw h
      replace h := lq3_succ h
      refine lv_iload hx hb dX9_shareOf_62 (lv_at hl 5 rfl) ?_
      refine lv_iload_n hx hb dX9_shareOf_64 rfl (lv_at hl 2 rfl) ?_
      refine lv_icmp_ge (tgt := 142) hx hb dX9_shareOf_65 (by decide) (fun c5 => ?_) (fun c5 => ?_)
      · replace h := (if_pos c5).symm.trans h
        refine lv_aload_n hx hb dX9_shareOf_142 rfl (lv_at hl 0 rfl) ?_
        refine wgetR (t := 46) C hw flX9_21 (rfl : _ = some (0, 9)) rfl dX9_shareOf_143 ?_
        refine lv_lload hx hb dX9_shareOf_146 (lv_at hl 4 rfl) ?_
        refine lv_iload_n hx hb dX9_shareOf_148 rfl (lv_at hl 1 rfl) ?_
        obtain ⟨r6, e7, h⟩ := bnd_some h
        refine wcallS1 (As := [.int v2_62]) (rest := [.long v5_62, .ref (P.2.2.1 46)]) C hw (c_X9_ordersOf hW  e7) slX9_165 ⟨Nat.le_of_ble_eq_true rfl, Nat.le_of_ble_eq_true rfl⟩ rfl rfl hl.1 (Nat.le_of_ble_eq_true rfl) dX9_shareOf_149 ⟨Nat.zero_le _, Nat.zero_le _⟩ (fun H locs hw => ?_)
        obtain ⟨M10, e9, h⟩ := bnd_some h
        refine wcallV0 (As := [.long v5_62, .long r6]) (rest := []) C hw (c_X3_put hW (rfl : _ = some (0, 3)) e9) vlX9_169 ⟨Nat.le_of_ble_eq_true rfl, Nat.le_of_ble_eq_true rfl⟩ (rfl : _ = some (0, 3)) rfl rfl rfl hl.1 (Nat.le_of_ble_eq_true rfl) dX9_shareOf_152 ⟨Nat.zero_le _, Nat.zero_le _⟩ (fun H locs hw => ?_)
        refine lv_aload_n hx hb dX9_shareOf_155 rfl (lv_at hl 0 rfl) ?_
        refine wgetR (t := 46) C hw flX9_21 (rfl : _ = some (0, 9)) rfl dX9_shareOf_156 ?_
        exact wretA_W C hw rfl (Or.inl ⟨_, rfl⟩) rfl h dX9_shareOf_159
      · replace h := (if_neg c5).symm.trans h
        refine lv_iload hx hb dX9_shareOf_68 (lv_at hl 5 rfl) ?_
        refine lv_iload hx hb dX9_shareOf_70 (lv_at hl 3 rfl) ?_
        refine lv_iand hx hb dX9_shareOf_72 ?_
        refine lv_if_ne (tgt := 136) hx hb dX9_shareOf_73 (by decide) (fun c11 => ?_) (fun c11 => ?_)
        · replace h := (if_neg c11).symm.trans h
          refine lv_iinc (v := (v7_62 + 1)) (lv' := [(7, .int (v7_62 + 1)), (0, .ref (P.2.2.1 33)), (2, .int v2_62), (3, .int v3_62), (4, .int v4_62), (5, .long v5_62)]) (k := 5) hx hb dX9_shareOf_136 hl rfl (congrArg (fun z => v7_62 + z) (by decide)) (by decide) rfl (fun ls hl => ?_)
          refine lv_goto (tgt := 62) hx hb dX9_shareOf_139 (by decide) ?_
          exact ih_62 v5_62 (v7_62 + 1) M_62 ls _ _ (lv_sub hl [1, 2, 3, 4, 5, 0] rfl) hw h
        · replace h := (if_pos c11).symm.trans h
          refine lv_iload hx hb dX9_shareOf_76 (lv_at hl 5 rfl) ?_
          refine lv_iload hx hb dX9_shareOf_78 (lv_at hl 3 rfl) ?_
          refine lv_ior hx hb dX9_shareOf_80 ?_
          refine lv_iload_n hx hb dX9_shareOf_81 rfl (lv_at hl 2 rfl) ?_
          refine lv_icmp_ge (tgt := 136) hx hb dX9_shareOf_82 (by decide) (fun c12 => ?_) (fun c12 => ?_)
          · replace h := (if_pos c12).symm.trans h
            refine lv_iinc (v := (v7_62 + 1)) (lv' := [(7, .int (v7_62 + 1)), (0, .ref (P.2.2.1 33)), (2, .int v2_62), (3, .int v3_62), (4, .int v4_62), (5, .long v5_62)]) (k := 5) hx hb dX9_shareOf_136 hl rfl (congrArg (fun z => v7_62 + z) (by decide)) (by decide) rfl (fun ls hl => ?_)
            refine lv_goto (tgt := 62) hx hb dX9_shareOf_139 (by decide) ?_
            exact ih_62 v5_62 (v7_62 + 1) M_62 ls _ _ (lv_sub hl [1, 2, 3, 4, 5, 0] rfl) hw h
          · replace h := (if_neg c12).symm.trans h
            refine lv_iload hx hb dX9_shareOf_85 (lv_at hl 5 rfl) ?_
            refine wcallS1 (As := [.int v7_62]) (rest := []) C hw (c_J6_bitCount_0f7a4 hW  rfl) slX9_62 ⟨Nat.le_of_ble_eq_true rfl, Nat.le_of_ble_eq_true rfl⟩ rfl rfl hl.1 (Nat.le_of_ble_eq_true rfl) dX9_shareOf_87 ⟨Nat.zero_le _, Nat.zero_le _⟩ (fun H locs hw => ?_)
            refine lv_topi (fun x13 ex13 => ?_)
            replace h := letv_at ex13 h
            refine lv_istore (lv' := [(8, .int x13), (0, .ref (P.2.2.1 33)), (2, .int v2_62), (3, .int v3_62), (4, .int v4_62), (5, .long v5_62), (7, .int v7_62)]) hx hb dX9_shareOf_90 hl (by decide) rfl (fun ls hl => ?_)
            refine lv_iload hx hb dX9_shareOf_92 (lv_at hl 0 rfl) ?_
            obtain ⟨r14, e15, h⟩ := bnd_some h
            refine wcallS1 (As := [.int x13]) (rest := []) C hw (c_X9_ordersOf hW  e15) slX9_165 ⟨Nat.le_of_ble_eq_true rfl, Nat.le_of_ble_eq_true rfl⟩ rfl rfl hl.1 (Nat.le_of_ble_eq_true rfl) dX9_shareOf_94 ⟨Nat.zero_le _, Nat.zero_le _⟩ (fun H locs hw => ?_)
            refine lv_iload_n hx hb dX9_shareOf_97 rfl (lv_at hl 2 rfl) ?_
            refine lv_iconst (v := 1) hx hb dX9_shareOf_98 (by decide) ?_
            refine lv_isub hx hb dX9_shareOf_99 ?_
            refine lv_iload hx hb dX9_shareOf_100 (lv_at hl 0 rfl) ?_
            refine lv_isub hx hb dX9_shareOf_102 ?_
            obtain ⟨r16, e17, h⟩ := bnd_some h
            refine wcallS1 (As := [.int ((v2_62 - (1 : Int32)) - x13)]) (rest := [.long r14]) C hw (c_X9_ordersOf hW  e17) slX9_165 ⟨Nat.le_of_ble_eq_true rfl, Nat.le_of_ble_eq_true rfl⟩ rfl rfl hl.1 (Nat.le_of_ble_eq_true rfl) dX9_shareOf_103 ⟨Nat.zero_le _, Nat.zero_le _⟩ (fun H locs hw => ?_)
            refine lv_lmul hx hb dX9_shareOf_106 ?_
            refine lv_topl (fun x18 ex18 => ?_)
            replace h := letv_at ex18 h
            refine lv_lstore (lv' := [(9, .long x18), (8, .int x13), (0, .ref (P.2.2.1 33)), (2, .int v2_62), (3, .int v3_62), (4, .int v4_62), (5, .long v5_62), (7, .int v7_62)]) hx hb dX9_shareOf_107 hl (by decide) rfl (fun ls hl => ?_)
            refine lv_lload hx hb dX9_shareOf_109 (lv_at hl 6 rfl) ?_
            refine lv_lload hx hb dX9_shareOf_111 (lv_at hl 0 rfl) ?_
            refine lv_aload_n hx hb dX9_shareOf_113 rfl (lv_at hl 2 rfl) ?_
            refine wgetR (t := 47) C hw flX9_25 (rfl : _ = some (0, 9)) rfl dX9_shareOf_114 ?_
            refine lv_iload hx hb dX9_shareOf_117 (lv_at hl 7 rfl) ?_
            refine lv_iload hx hb dX9_shareOf_119 (lv_at hl 5 rfl) ?_
            refine lv_ior hx hb dX9_shareOf_121 ?_
            obtain ⟨g19, h⟩ := grd h
            refine wald C hw (rfl : _ = some (1, 128)) g19 dX9_shareOf_122 ?_
            refine lv_aload_n hx hb dX9_shareOf_123 rfl (lv_at hl 2 rfl) ?_
            refine wgetR (t := 47) C hw flX9_25 (rfl : _ = some (0, 9)) rfl dX9_shareOf_124 ?_
            refine lv_iload hx hb dX9_shareOf_127 (lv_at hl 7 rfl) ?_
            obtain ⟨g20, h⟩ := grd h
            refine wald C hw (rfl : _ = some (1, 128)) g20 dX9_shareOf_129 ?_
            refine lv_isub hx hb dX9_shareOf_130 ?_
            refine lv_i2l hx hb dX9_shareOf_131 rfl ?_
            refine lv_lmul hx hb dX9_shareOf_132 ?_
            refine lv_ladd hx hb dX9_shareOf_133 ?_
            refine lv_topl (fun x21 ex21 => ?_)
            replace h := letv_at ex21 h
            refine lv_lstore (lv' := [(5, .long x21), (9, .long x18), (8, .int x13), (0, .ref (P.2.2.1 33)), (2, .int v2_62), (3, .int v3_62), (4, .int v4_62), (7, .int v7_62)]) hx hb dX9_shareOf_134 hl (by decide) rfl (fun ls hl => ?_)
            refine lv_iinc (v := (v7_62 + 1)) (lv' := [(7, .int (v7_62 + 1)), (5, .long x21), (9, .long x18), (8, .int x13), (0, .ref (P.2.2.1 33)), (2, .int v2_62), (3, .int v3_62), (4, .int v4_62)]) (k := 7) hx hb dX9_shareOf_136 hl rfl (congrArg (fun z => v7_62 + z) (by decide)) (by decide) rfl (fun ls hl => ?_)
            refine lv_goto (tgt := 62) hx hb dX9_shareOf_139 (by decide) ?_
            exact ih_62 x21 (v7_62 + 1) M_62 ls _ _ (lv_sub hl [4, 5, 6, 7, 1, 0] rfl) hw h
  have cut_26 : ∀ (v2_26 : Int32) (v3_26 : Int32) (n_26 : Nat) (v4_26 : Int32) (M_26 : Mem) (ls : Array Slot) (H : Heap) (locs : List Loc), lv_has ls 11 [(0, .ref (P.2.2.1 33)), (1, .int p1), (2, .int v2_26), (3, .int v3_26), (4, .int v4_26)] → Hw shC P M_26 s H locs → lq2 (L_X9_shareOf_26 p1 v2_26 v3_26) n_26 v4_26 M_26 = some M' → W p l e { frames := 6, cells := 0, slots := 0, locals := 160 } s m args below meth c H locs 0 0 (MQ below (CQ shC P E (some (.ref (P.2.2.1 46))) M') args s 0 0 (wA shC P)) (F0 m 26 ls []) := by
    intro v2_26 v3_26 n_26
    induction n_26 with
    | zero => intro v4_26 M_26 ls H locs hl hw h; cases h
    | succ n_26 ih_26 =>
      intro v4_26 M_26 ls H locs hl hw h
      replace h := lq2_succ h
      refine lv_iload hx hb dX9_shareOf_26 (lv_at hl 4 rfl) ?_
      refine lv_iload_n hx hb dX9_shareOf_28 rfl (lv_at hl 3 rfl) ?_
      refine lv_icmp_ge (tgt := 51) hx hb dX9_shareOf_29 (by decide) (fun c3 => ?_) (fun c3 => ?_)
      · replace h := (if_pos c3).symm.trans h
        refine lv_iconst (v := 1) hx hb dX9_shareOf_51 (by decide) ?_
        refine lv_iload_n hx hb dX9_shareOf_52 rfl (lv_at hl 1 rfl) ?_
        refine lv_ishl hx hb dX9_shareOf_53 ?_
        refine lv_topi (fun x4 ex4 => ?_)
        replace h := letv_at ex4 h
        refine lv_istore (lv' := [(4, .int x4), (0, .ref (P.2.2.1 33)), (1, .int p1), (2, .int v2_26), (3, .int v3_26)]) hx hb dX9_shareOf_54 hl (by decide) rfl (fun ls hl => ?_)
        refine lv_lconst (v := 0) hx hb dX9_shareOf_56 (by decide) ?_
        refine lv_lstore (lv' := [(5, .long 0), (4, .int x4), (0, .ref (P.2.2.1 33)), (1, .int p1), (2, .int v2_26), (3, .int v3_26)]) hx hb dX9_shareOf_57 hl (by decide) rfl (fun ls hl => ?_)
        refine lv_iconst (v := 0) hx hb dX9_shareOf_59 (by decide) ?_
        refine lv_istore (lv' := [(7, .int 0), (5, .long 0), (4, .int x4), (0, .ref (P.2.2.1 33)), (1, .int p1), (2, .int v2_26), (3, .int v3_26)]) hx hb dX9_shareOf_60 hl (by decide) rfl (fun ls hl => ?_)
        exact cut_62 v2_26 v3_26 x4 FU 0 0 M_26 ls _ _ (lv_sub hl [3, 5, 6, 2, 1, 0] rfl) hw h
      · replace h := (if_neg c3).symm.trans h
        refine lv_aload_n hx hb dX9_shareOf_32 rfl (lv_at hl 0 rfl) ?_
        refine wgetR (t := 47) C hw flX9_25 (rfl : _ = some (0, 9)) rfl dX9_shareOf_33 ?_
        refine lv_iload hx hb dX9_shareOf_36 (lv_at hl 4 rfl) ?_
        refine lv_aload_n hx hb dX9_shareOf_38 rfl (lv_at hl 0 rfl) ?_
        refine lv_iload hx hb dX9_shareOf_39 (lv_at hl 4 rfl) ?_
        obtain ⟨r22, M24, e23, h⟩ := bnd2_some h
        refine wcallV1 (As := [.int v4_26]) (rest := [.int v4_26, .ref (P.2.2.1 47)]) C hw (c_X9_worthOf hW  e23) vlX9_162 ⟨Nat.le_of_ble_eq_true rfl, Nat.le_of_ble_eq_true rfl⟩ (rfl : _ = some (0, 9)) rfl rfl rfl hl.1 (Nat.le_of_ble_eq_true rfl) dX9_shareOf_41 ⟨Nat.zero_le _, Nat.zero_le _⟩ (fun H locs hw => ?_)
        obtain ⟨g26, h⟩ := grd h
        refine wast C hw (rfl : _ = some (1, 128)) g26 dX9_shareOf_44 (fun M25 eM25 H locs hw => ?_)
        replace h := letv_at eM25 h
        refine lv_iinc (v := (v4_26 + 1)) (lv' := [(4, .int (v4_26 + 1)), (0, .ref (P.2.2.1 33)), (1, .int p1), (2, .int v2_26), (3, .int v3_26)]) (k := 4) hx hb dX9_shareOf_45 hl rfl (congrArg (fun z => v4_26 + z) (by decide)) (by decide) rfl (fun ls hl => ?_)
        refine lv_goto (tgt := 26) hx hb dX9_shareOf_48 (by decide) ?_
        exact ih_26 (v4_26 + 1) M25 ls _ _ (lv_sub hl [1, 2, 3, 4, 0] rfl) hw h
  refine lv_aload_n hx hb dX9_shareOf_0 rfl (lv_at hl 0 rfl) ?_
  refine wgetR (t := 13) C hw flX9_32 (rfl : _ = some (0, 9)) rfl dX9_shareOf_1 ?_
  refine wgetR (t := 14) C hw flX9_44 (rfl : _ = some (0, 1)) rfl dX9_shareOf_4 ?_
  refine wgetI C hw flX9_115 (rfl : _ = some (0, 5)) dX9_shareOf_7 ?_
  refine lv_topi (fun x1 ex1 => ?_)
  replace h := letv_at ex1 h
  refine lv_istore_n (lv' := [(2, .int x1), (0, .ref (P.2.2.1 33)), (1, .int p1)]) hx hb dX9_shareOf_10 rfl hl (by decide) rfl (fun ls hl => ?_)
  refine lv_iconst (v := 1) hx hb dX9_shareOf_11 (by decide) ?_
  refine lv_iload_n hx hb dX9_shareOf_12 rfl (lv_at hl 0 rfl) ?_
  refine lv_ishl hx hb dX9_shareOf_13 ?_
  refine lv_aload_n hx hb dX9_shareOf_14 rfl (lv_at hl 1 rfl) ?_
  refine wgetR (t := 47) C hw flX9_25 (rfl : _ = some (0, 9)) rfl dX9_shareOf_15 ?_
  refine walen C hw (rfl : _ = some (1, 128)) (by decide) (by rfl) dX9_shareOf_18 ?_
  refine wmin C mlX9_159 hl.1 (Nat.le_of_ble_eq_true rfl) (Nat.le_of_ble_eq_true rfl) (Nat.zero_le _) (Nat.zero_le _) dX9_shareOf_19 ?_
  refine lv_topi (fun x2 ex2 => ?_)
  replace h := letv_at ex2 h
  refine lv_istore_n (lv' := [(3, .int x2), (2, .int x1), (0, .ref (P.2.2.1 33)), (1, .int p1)]) hx hb dX9_shareOf_22 rfl hl (by decide) rfl (fun ls hl => ?_)
  refine lv_iconst (v := 0) hx hb dX9_shareOf_23 (by decide) ?_
  refine lv_istore (lv' := [(4, .int 0), (3, .int x2), (2, .int x1), (0, .ref (P.2.2.1 33)), (1, .int p1)]) hx hb dX9_shareOf_24 hl (by decide) rfl (fun ls hl => ?_)
  exact cut_26 x1 x2 FU 0 M ls _ _ (lv_sub hl [3, 4, 2, 1, 0] rfl) hw h
set_option maxRecDepth 100000 in
set_option maxHeartbeats 4000000 in
theorem c_X9_gain {l : Launch} {P : Wp} {E : State → Heap → Prop} (hW : Wok shC P E) {p1 : Int32} {p2 : Int32} {p3 : Int32} {p4 : Int32} {M : Mem} {r : Int32} {M' : Mem} (h : f_X9_gain p1 p2 p3 p4 M = some (r, M')) : CT l shC P E yX9_gain bX9_gain 6 ((some .int)) 5 138 [.ref (P.2.2.1 33), .int p1, .int p2, .int p3, .int p4] (some (.int r)) M M' := by
  refine ct_of hW (by decide) (Nat.le_of_ble_eq_true rfl) (fun p e s m args below meth c C ls hl hw => ?_)
  have hx := C.1
  have hb := C.2.1
  replace hl : lv_has ls 6 [(0, .ref (P.2.2.1 33)), (1, .int p1), (2, .int p2), (3, .int p3), (4, .int p4)] := hl
  have cut_99 : ∀ (w0_99 : Int32) (M_99 : Mem) (ls : Array Slot) (H : Heap) (locs : List Loc), lv_has ls 6 [(0, .ref (P.2.2.1 33)), (3, .int p3), (4, .int p4)] → Hw shC P M_99 s H locs → J_X9_gain_99 p1 p2 p3 p4 w0_99 M_99 = some (r, M') → W p l e { frames := 5, cells := 0, slots := 0, locals := 138 } s m args below meth c H locs 0 0 (MQ below (CQ shC P E (some (.int r)) M') args s 0 0 (wA shC P)) (F0 m 99 ls [.int w0_99]) := by
    intro w0_99 M_99 ls H locs hl hw h
    refine lv_istore (lv' := [(5, .int w0_99), (0, .ref (P.2.2.1 33)), (3, .int p3), (4, .int p4)]) hx hb dX9_gain_99 hl (by decide) rfl (fun ls hl => ?_)
    refine lv_iconst (v := 3) hx hb dX9_gain_101 (by decide) ?_
    refine lv_aload_n hx hb dX9_gain_102 rfl (lv_at hl 1 rfl) ?_
    obtain ⟨r13, M15, e14, h⟩ := bnd2_some h
    refine wcallV1 (As := []) (rest := [.int 3]) C hw (c_X9_soundBits hW  e14) vlX9_153 ⟨Nat.le_of_ble_eq_true rfl, Nat.le_of_ble_eq_true rfl⟩ (rfl : _ = some (0, 9)) rfl rfl rfl hl.1 (Nat.le_of_ble_eq_true rfl) dX9_gain_103 ⟨Nat.zero_le _, Nat.zero_le _⟩ (fun H locs hw => ?_)
    refine lv_iload hx hb dX9_gain_106 (lv_at hl 0 rfl) ?_
    refine lv_iand hx hb dX9_gain_108 ?_
    refine wcallS1 (As := [.int (r13 &&& w0_99)]) (rest := [.int 3]) C hw (c_J6_bitCount_0f7a4 hW  rfl) slX9_62 ⟨Nat.le_of_ble_eq_true rfl, Nat.le_of_ble_eq_true rfl⟩ rfl rfl hl.1 (Nat.le_of_ble_eq_true rfl) dX9_gain_109 ⟨Nat.zero_le _, Nat.zero_le _⟩ (fun H locs hw => ?_)
    refine lv_imul hx hb dX9_gain_112 ?_
    refine lv_iconst (v := 2) hx hb dX9_gain_113 (by decide) ?_
    refine lv_iload_n hx hb dX9_gain_114 rfl (lv_at hl 2 rfl) ?_
    refine lv_iload hx hb dX9_gain_115 (lv_at hl 3 rfl) ?_
    refine lv_ishr hx hb dX9_gain_117 ?_
    refine lv_iconst (v := 1) hx hb dX9_gain_118 (by decide) ?_
    refine lv_iand hx hb dX9_gain_119 ?_
    refine lv_imul hx hb dX9_gain_120 ?_
    refine lv_isub hx hb dX9_gain_121 ?_
    exact wretI_W C hw h dX9_gain_122
  refine lv_aload_n hx hb dX9_gain_0 rfl (lv_at hl 0 rfl) ?_
  refine wgetR (t := 34) C hw flX9_12 (rfl : _ = some (0, 9)) rfl dX9_gain_1 ?_
  refine lv_aload_n hx hb dX9_gain_4 rfl (lv_at hl 0 rfl) ?_
  refine wgetR (t := 13) C hw flX9_32 (rfl : _ = some (0, 9)) rfl dX9_gain_5 ?_
  obtain ⟨M3, e2, h⟩ := bnd_some h
  refine wcallV0 (As := [.ref (P.2.2.1 13)]) (rest := []) C hw (c_X1_copyFrom hW (rfl : _ = some (0, 1)) (rfl : _ = some (0, 1)) e2) vlX9_68 ⟨Nat.le_of_ble_eq_true rfl, Nat.le_of_ble_eq_true rfl⟩ (rfl : _ = some (0, 1)) rfl rfl rfl hl.1 (Nat.le_of_ble_eq_true rfl) dX9_gain_8 ⟨Nat.zero_le _, Nat.zero_le _⟩ (fun H locs hw => ?_)
  refine lv_aload_n hx hb dX9_gain_11 rfl (lv_at hl 0 rfl) ?_
  refine wgetR (t := 34) C hw flX9_12 (rfl : _ = some (0, 9)) rfl dX9_gain_12 ?_
  refine wgetR (t := 35) C hw flX9_44 (rfl : _ = some (0, 1)) rfl dX9_gain_15 ?_
  refine lv_iload_n hx hb dX9_gain_18 rfl (lv_at hl 1 rfl) ?_
  refine wcallV1 (As := [.int p1]) (rest := []) C hw (c_X5_hasZone hW (rfl : _ = some (0, 5)) rfl) vlX9_109 ⟨Nat.le_of_ble_eq_true rfl, Nat.le_of_ble_eq_true rfl⟩ (rfl : _ = some (0, 5)) rfl rfl rfl hl.1 (Nat.le_of_ble_eq_true rfl) dX9_gain_19 ⟨Nat.zero_le _, Nat.zero_le _⟩ (fun H locs hw => ?_)
  refine lv_if_eq (tgt := 39) hx hb dX9_gain_22 (by decide) (fun c4 => ?_) (fun c4 => ?_)
  · replace h := (if_pos c4).symm.trans h
    refine lv_sipush (v := (-1000)) hx hb dX9_gain_39 (by decide) ?_
    exact wretI_W C hw h dX9_gain_42
  · replace h := (if_neg c4).symm.trans h
    refine lv_aload_n hx hb dX9_gain_25 rfl (lv_at hl 0 rfl) ?_
    refine wgetR (t := 34) C hw flX9_12 (rfl : _ = some (0, 9)) rfl dX9_gain_26 ?_
    refine wgetR (t := 35) C hw flX9_44 (rfl : _ = some (0, 1)) rfl dX9_gain_29 ?_
    refine lv_iload_n hx hb dX9_gain_32 rfl (lv_at hl 2 rfl) ?_
    refine wcallV1 (As := [.int p2]) (rest := []) C hw (c_X5_hasZone hW (rfl : _ = some (0, 5)) rfl) vlX9_109 ⟨Nat.le_of_ble_eq_true rfl, Nat.le_of_ble_eq_true rfl⟩ (rfl : _ = some (0, 5)) rfl rfl rfl hl.1 (Nat.le_of_ble_eq_true rfl) dX9_gain_33 ⟨Nat.zero_le _, Nat.zero_le _⟩ (fun H locs hw => ?_)
    refine lv_if_ne (tgt := 43) hx hb dX9_gain_36 (by decide) (fun c5 => ?_) (fun c5 => ?_)
    · replace h := (if_neg c5).symm.trans h
      refine lv_aload_n hx hb dX9_gain_43 rfl (lv_at hl 0 rfl) ?_
      refine wgetR (t := 34) C hw flX9_12 (rfl : _ = some (0, 9)) rfl dX9_gain_44 ?_
      refine wgetR (t := 35) C hw flX9_44 (rfl : _ = some (0, 1)) rfl dX9_gain_47 ?_
      refine wgetR (t := 36) C hw flX9_112 (rfl : _ = some (0, 5)) rfl dX9_gain_50 ?_
      refine lv_iload_n hx hb dX9_gain_53 rfl (lv_at hl 1 rfl) ?_
      refine lv_dup2_11 hx hb dX9_gain_54 rfl rfl ?_
      obtain ⟨g6, h⟩ := grd h
      refine wald C hw (rfl : _ = some (1, 7)) g6 dX9_gain_55 ?_
      refine lv_bipush (v := 50) hx hb dX9_gain_56 (by decide) ?_
      refine lv_iload_n hx hb dX9_gain_58 rfl (lv_at hl 3 rfl) ?_
      refine lv_iconst (v := 1) hx hb dX9_gain_59 (by decide) ?_
      refine lv_iand hx hb dX9_gain_60 ?_
      refine lv_imul hx hb dX9_gain_61 ?_
      refine lv_iadd hx hb dX9_gain_62 ?_
      obtain ⟨g8, h⟩ := grd h
      refine wast C hw (rfl : _ = some (1, 7)) g8 dX9_gain_63 (fun M7 eM7 H locs hw => ?_)
      replace h := letv_at eM7 h
      refine lv_aload_n hx hb dX9_gain_64 rfl (lv_at hl 0 rfl) ?_
      refine wgetR (t := 34) C hw flX9_12 (rfl : _ = some (0, 9)) rfl dX9_gain_65 ?_
      refine wgetR (t := 35) C hw flX9_44 (rfl : _ = some (0, 1)) rfl dX9_gain_68 ?_
      refine wgetR (t := 36) C hw flX9_112 (rfl : _ = some (0, 5)) rfl dX9_gain_71 ?_
      refine lv_iload_n hx hb dX9_gain_74 rfl (lv_at hl 2 rfl) ?_
      refine lv_dup2_11 hx hb dX9_gain_75 rfl rfl ?_
      obtain ⟨g9, h⟩ := grd h
      refine wald C hw (rfl : _ = some (1, 7)) g9 dX9_gain_76 ?_
      refine lv_bipush (v := 50) hx hb dX9_gain_77 (by decide) ?_
      refine lv_iload_n hx hb dX9_gain_79 rfl (lv_at hl 3 rfl) ?_
      refine lv_iconst (v := 1) hx hb dX9_gain_80 (by decide) ?_
      refine lv_ishr hx hb dX9_gain_81 ?_
      refine lv_iconst (v := 1) hx hb dX9_gain_82 (by decide) ?_
      refine lv_iand hx hb dX9_gain_83 ?_
      refine lv_imul hx hb dX9_gain_84 ?_
      refine lv_iadd hx hb dX9_gain_85 ?_
      obtain ⟨g11, h⟩ := grd h
      refine wast C hw (rfl : _ = some (1, 7)) g11 dX9_gain_86 (fun M10 eM10 H locs hw => ?_)
      replace h := letv_at eM10 h
      refine lv_iload hx hb dX9_gain_87 (lv_at hl 4 rfl) ?_
      refine lv_if_ne (tgt := 97) hx hb dX9_gain_89 (by decide) (fun c12 => ?_) (fun c12 => ?_)
      · replace h := (if_neg c12).symm.trans h
        refine lv_bipush (v := 42) hx hb dX9_gain_97 (by decide) ?_
        exact cut_99 42 M10 ls _ _ (lv_sub hl [0, 3, 4] rfl) hw h
      · replace h := (if_pos c12).symm.trans h
        refine lv_bipush (v := 21) hx hb dX9_gain_92 (by decide) ?_
        refine lv_goto (tgt := 99) hx hb dX9_gain_94 (by decide) ?_
        exact cut_99 21 M10 ls _ _ (lv_sub hl [0, 3, 4] rfl) hw h
    · replace h := (if_pos c5).symm.trans h
      refine lv_sipush (v := (-1000)) hx hb dX9_gain_39 (by decide) ?_
      exact wretI_W C hw h dX9_gain_42
set_option maxRecDepth 100000 in
set_option maxHeartbeats 4000000 in
theorem c_X9_restingChoices {l : Launch} {P : Wp} {E : State → Heap → Prop} (hW : Wok shC P E) {p1 : Int32} {p2 : Int32} {M : Mem} {r : Int32} {M' : Mem} (h : f_X9_restingChoices p1 p2 M = some (r, M')) : CT l shC P E yX9_restingChoices bX9_restingChoices 7 ((some .int)) 6 163 [.ref (P.2.2.1 33), .int p1, .int p2] (some (.int r)) M M' := by
  refine ct_of hW (by decide) (Nat.le_of_ble_eq_true rfl) (fun p e s m args below meth c C ls hl hw => ?_)
  have hx := C.1
  have hb := C.2.1
  replace hl : lv_has ls 7 [(0, .ref (P.2.2.1 33)), (1, .int p1), (2, .int p2)] := hl
  have cut_40 : ∀ (n_40 : Nat) (v3_40 : Int32) (v4_40 : Int32) (M_40 : Mem) (ls : Array Slot) (H : Heap) (locs : List Loc), lv_has ls 7 [(0, .ref (P.2.2.1 33)), (3, .int v3_40), (4, .int v4_40)] → Hw shC P M_40 s H locs → lq3 (L_X9_restingChoices_40 p1 p2) n_40 v3_40 v4_40 M_40 = some (r, M') → W p l e { frames := 6, cells := 0, slots := 0, locals := 163 } s m args below meth c H locs 0 0 (MQ below (CQ shC P E (some (.int r)) M') args s 0 0 (wA shC P)) (F0 m 40 ls []) := by
    intro n_40
    induction n_40 with
    | zero => intro v3_40 v4_40 M_40 ls H locs hl hw h; cases h
    | succ n_40 ih_40 =>
      intro v3_40 v4_40 M_40 ls H locs hl hw h
      replace h := lq3_succ h
      have cut_108 : ∀ (v3_108 : Int32) (v4_108 : Int32) (v5_108 : Int32) (w0_108 : Int32) (M_108 : Mem) (ls : Array Slot) (H : Heap) (locs : List Loc), lv_has ls 7 [(0, .ref (P.2.2.1 33)), (3, .int v3_108), (4, .int v4_108), (5, .int v5_108)] → Hw shC P M_108 s H locs → J_X9_restingChoices_108 p1 p2 (lq3 (L_X9_restingChoices_40 p1 p2) n_40) v3_108 v4_108 v5_108 w0_108 M_108 = some (r, M') → W p l e { frames := 6, cells := 0, slots := 0, locals := 163 } s m args below meth c H locs 0 0 (MQ below (CQ shC P E (some (.int r)) M') args s 0 0 (wA shC P)) (F0 m 108 ls [.int w0_108]) := by
        intro v3_108 v4_108 v5_108 w0_108 M_108 ls H locs hl hw h
        refine lv_istore (lv' := [(6, .int w0_108), (0, .ref (P.2.2.1 33)), (3, .int v3_108), (4, .int v4_108), (5, .int v5_108)]) hx hb dX9_restingChoices_108 hl (by decide) rfl (fun ls hl => ?_)
        refine lv_iload hx hb dX9_restingChoices_110 (lv_at hl 4 rfl) ?_
        refine lv_if_eq (tgt := 127) hx hb dX9_restingChoices_112 (by decide) (fun c9 => ?_) (fun c9 => ?_)
        · replace h := (if_pos c9).symm.trans h
          refine lv_iinc (v := (v4_108 + 1)) (lv' := [(4, .int (v4_108 + 1)), (6, .int w0_108), (0, .ref (P.2.2.1 33)), (3, .int v3_108), (5, .int v5_108)]) (k := 3) hx hb dX9_restingChoices_127 hl rfl (congrArg (fun z => v4_108 + z) (by decide)) (by decide) rfl (fun ls hl => ?_)
          refine lv_goto (tgt := 40) hx hb dX9_restingChoices_130 (by decide) ?_
          exact ih_40 v3_108 (v4_108 + 1) M_108 ls _ _ (lv_sub hl [2, 3, 0] rfl) hw h
        · replace h := (if_neg c9).symm.trans h
          refine lv_iload hx hb dX9_restingChoices_115 (lv_at hl 0 rfl) ?_
          refine lv_if_eq (tgt := 127) hx hb dX9_restingChoices_117 (by decide) (fun c10 => ?_) (fun c10 => ?_)
          · replace h := (if_pos c10).symm.trans h
            refine lv_iinc (v := (v4_108 + 1)) (lv' := [(4, .int (v4_108 + 1)), (6, .int w0_108), (0, .ref (P.2.2.1 33)), (3, .int v3_108), (5, .int v5_108)]) (k := 3) hx hb dX9_restingChoices_127 hl rfl (congrArg (fun z => v4_108 + z) (by decide)) (by decide) rfl (fun ls hl => ?_)
            refine lv_goto (tgt := 40) hx hb dX9_restingChoices_130 (by decide) ?_
            exact ih_40 v3_108 (v4_108 + 1) M_108 ls _ _ (lv_sub hl [2, 3, 0] rfl) hw h
          · replace h := (if_neg c10).symm.trans h
            refine lv_iload_n hx hb dX9_restingChoices_120 rfl (lv_at hl 2 rfl) ?_
            refine lv_iconst (v := 1) hx hb dX9_restingChoices_121 (by decide) ?_
            refine lv_iload hx hb dX9_restingChoices_122 (lv_at hl 3 rfl) ?_
            refine lv_ishl hx hb dX9_restingChoices_124 ?_
            refine lv_ior hx hb dX9_restingChoices_125 ?_
            refine lv_topi (fun x11 ex11 => ?_)
            replace h := letv_at ex11 h
            refine lv_istore_n (lv' := [(3, .int x11), (6, .int w0_108), (0, .ref (P.2.2.1 33)), (4, .int v4_108), (5, .int v5_108)]) hx hb dX9_restingChoices_126 rfl hl (by decide) rfl (fun ls hl => ?_)
            refine lv_iinc (v := (v4_108 + 1)) (lv' := [(4, .int (v4_108 + 1)), (3, .int x11), (6, .int w0_108), (0, .ref (P.2.2.1 33)), (5, .int v5_108)]) (k := 3) hx hb dX9_restingChoices_127 hl rfl (congrArg (fun z => v4_108 + z) (by decide)) (by decide) rfl (fun ls hl => ?_)
            refine lv_goto (tgt := 40) hx hb dX9_restingChoices_130 (by decide) ?_
            exact ih_40 x11 (v4_108 + 1) M_108 ls _ _ (lv_sub hl [3, 1, 0] rfl) hw h
      have cut_74 : ∀ (v3_74 : Int32) (v4_74 : Int32) (w0_74 : Int32) (M_74 : Mem) (ls : Array Slot) (H : Heap) (locs : List Loc), lv_has ls 7 [(0, .ref (P.2.2.1 33)), (3, .int v3_74), (4, .int v4_74)] → Hw shC P M_74 s H locs → J_X9_restingChoices_74 p1 p2 (lq3 (L_X9_restingChoices_40 p1 p2) n_40) v3_74 v4_74 w0_74 M_74 = some (r, M') → W p l e { frames := 6, cells := 0, slots := 0, locals := 163 } s m args below meth c H locs 0 0 (MQ below (CQ shC P E (some (.int r)) M') args s 0 0 (wA shC P)) (F0 m 74 ls [.int w0_74]) := by
        intro v3_74 v4_74 w0_74 M_74 ls H locs hl hw h
        refine lv_istore (lv' := [(5, .int w0_74), (0, .ref (P.2.2.1 33)), (3, .int v3_74), (4, .int v4_74)]) hx hb dX9_restingChoices_74 hl (by decide) rfl (fun ls hl => ?_)
        refine lv_aload_n hx hb dX9_restingChoices_76 rfl (lv_at hl 1 rfl) ?_
        refine wgetR (t := 48) C hw flX9_29 (rfl : _ = some (0, 9)) rfl dX9_restingChoices_77 ?_
        refine lv_iconst (v := 2) hx hb dX9_restingChoices_80 (by decide) ?_
        refine lv_iload hx hb dX9_restingChoices_81 (lv_at hl 3 rfl) ?_
        refine lv_imul hx hb dX9_restingChoices_83 ?_
        refine lv_iconst (v := 1) hx hb dX9_restingChoices_84 (by decide) ?_
        refine lv_iadd hx hb dX9_restingChoices_85 ?_
        obtain ⟨g6, h⟩ := grd h
        refine wald C hw (rfl : _ = some (1, 8)) g6 dX9_restingChoices_86 ?_
        refine lv_aload_n hx hb dX9_restingChoices_87 rfl (lv_at hl 1 rfl) ?_
        refine wgetR (t := 48) C hw flX9_29 (rfl : _ = some (0, 9)) rfl dX9_restingChoices_88 ?_
        refine lv_iconst (v := 2) hx hb dX9_restingChoices_91 (by decide) ?_
        refine lv_iload hx hb dX9_restingChoices_92 (lv_at hl 3 rfl) ?_
        refine lv_iconst (v := 2) hx hb dX9_restingChoices_94 (by decide) ?_
        refine lv_ixor hx hb dX9_restingChoices_95 ?_
        refine lv_imul hx hb dX9_restingChoices_96 ?_
        refine lv_iconst (v := 1) hx hb dX9_restingChoices_97 (by decide) ?_
        refine lv_iadd hx hb dX9_restingChoices_98 ?_
        obtain ⟨g7, h⟩ := grd h
        refine wald C hw (rfl : _ = some (1, 8)) g7 dX9_restingChoices_99 ?_
        refine lv_icmp_lt (tgt := 107) hx hb dX9_restingChoices_100 (by decide) (fun c8 => ?_) (fun c8 => ?_)
        · replace h := (if_pos c8).symm.trans h
          refine lv_iconst (v := 0) hx hb dX9_restingChoices_107 (by decide) ?_
          exact cut_108 v3_74 v4_74 w0_74 0 M_74 ls _ _ (lv_sub hl [1, 2, 3, 0] rfl) hw h
        · replace h := (if_neg c8).symm.trans h
          refine lv_iconst (v := 1) hx hb dX9_restingChoices_103 (by decide) ?_
          refine lv_goto (tgt := 108) hx hb dX9_restingChoices_104 (by decide) ?_
          exact cut_108 v3_74 v4_74 w0_74 1 M_74 ls _ _ (lv_sub hl [1, 2, 3, 0] rfl) hw h
      refine lv_iload hx hb dX9_restingChoices_40 (lv_at hl 2 rfl) ?_
      refine lv_iconst (v := 4) hx hb dX9_restingChoices_42 (by decide) ?_
      refine lv_icmp_ge (tgt := 133) hx hb dX9_restingChoices_43 (by decide) (fun c2 => ?_) (fun c2 => ?_)
      · replace h := (if_pos c2).symm.trans h
        refine lv_iload_n hx hb dX9_restingChoices_133 rfl (lv_at hl 1 rfl) ?_
        exact wretI_W C hw h dX9_restingChoices_134
      · replace h := (if_neg c2).symm.trans h
        refine lv_aload_n hx hb dX9_restingChoices_46 rfl (lv_at hl 0 rfl) ?_
        refine wgetR (t := 48) C hw flX9_29 (rfl : _ = some (0, 9)) rfl dX9_restingChoices_47 ?_
        refine lv_iconst (v := 2) hx hb dX9_restingChoices_50 (by decide) ?_
        refine lv_iload hx hb dX9_restingChoices_51 (lv_at hl 2 rfl) ?_
        refine lv_imul hx hb dX9_restingChoices_53 ?_
        obtain ⟨g3, h⟩ := grd h
        refine wald C hw (rfl : _ = some (1, 8)) g3 dX9_restingChoices_54 ?_
        refine lv_aload_n hx hb dX9_restingChoices_55 rfl (lv_at hl 0 rfl) ?_
        refine wgetR (t := 48) C hw flX9_29 (rfl : _ = some (0, 9)) rfl dX9_restingChoices_56 ?_
        refine lv_iconst (v := 2) hx hb dX9_restingChoices_59 (by decide) ?_
        refine lv_iload hx hb dX9_restingChoices_60 (lv_at hl 2 rfl) ?_
        refine lv_iconst (v := 1) hx hb dX9_restingChoices_62 (by decide) ?_
        refine lv_ixor hx hb dX9_restingChoices_63 ?_
        refine lv_imul hx hb dX9_restingChoices_64 ?_
        obtain ⟨g4, h⟩ := grd h
        refine wald C hw (rfl : _ = some (1, 8)) g4 dX9_restingChoices_65 ?_
        refine lv_icmp_lt (tgt := 73) hx hb dX9_restingChoices_66 (by decide) (fun c5 => ?_) (fun c5 => ?_)
        · replace h := (if_pos c5).symm.trans h
          refine lv_iconst (v := 0) hx hb dX9_restingChoices_73 (by decide) ?_
          exact cut_74 v3_40 v4_40 0 M_40 ls _ _ (lv_sub hl [0, 1, 2] rfl) hw h
        · replace h := (if_neg c5).symm.trans h
          refine lv_iconst (v := 1) hx hb dX9_restingChoices_69 (by decide) ?_
          refine lv_goto (tgt := 74) hx hb dX9_restingChoices_70 (by decide) ?_
          exact cut_74 v3_40 v4_40 1 M_40 ls _ _ (lv_sub hl [0, 1, 2] rfl) hw h
  have cut_2 : ∀ (n_2 : Nat) (v3_2 : Int32) (M_2 : Mem) (ls : Array Slot) (H : Heap) (locs : List Loc), lv_has ls 7 [(0, .ref (P.2.2.1 33)), (1, .int p1), (2, .int p2), (3, .int v3_2)] → Hw shC P M_2 s H locs → lq2 (L_X9_restingChoices_2 p1 p2) n_2 v3_2 M_2 = some (r, M') → W p l e { frames := 6, cells := 0, slots := 0, locals := 163 } s m args below meth c H locs 0 0 (MQ below (CQ shC P E (some (.int r)) M') args s 0 0 (wA shC P)) (F0 m 2 ls []) := by
    intro n_2
    induction n_2 with
    | zero => intro v3_2 M_2 ls H locs hl hw h; cases h
    | succ n_2 ih_2 =>
      intro v3_2 M_2 ls H locs hl hw h
      replace h := lq2_succ h
      refine lv_iload_n hx hb dX9_restingChoices_2 rfl (lv_at hl 3 rfl) ?_
      refine lv_aload_n hx hb dX9_restingChoices_3 rfl (lv_at hl 0 rfl) ?_
      refine wgetR (t := 48) C hw flX9_29 (rfl : _ = some (0, 9)) rfl dX9_restingChoices_4 ?_
      refine walen C hw (rfl : _ = some (1, 8)) (by decide) (by rfl) dX9_restingChoices_7 ?_
      refine lv_icmp_ge (tgt := 35) hx hb dX9_restingChoices_8 (by decide) (fun c1 => ?_) (fun c1 => ?_)
      · replace h := (if_pos c1).symm.trans h
        refine lv_iconst (v := 0) hx hb dX9_restingChoices_35 (by decide) ?_
        refine lv_istore_n (lv' := [(3, .int 0), (0, .ref (P.2.2.1 33)), (1, .int p1), (2, .int p2)]) hx hb dX9_restingChoices_36 rfl hl (by decide) rfl (fun ls hl => ?_)
        refine lv_iconst (v := 0) hx hb dX9_restingChoices_37 (by decide) ?_
        refine lv_istore (lv' := [(4, .int 0), (3, .int 0), (0, .ref (P.2.2.1 33)), (1, .int p1), (2, .int p2)]) hx hb dX9_restingChoices_38 hl (by decide) rfl (fun ls hl => ?_)
        exact cut_40 FU 0 0 M_2 ls _ _ (lv_sub hl [2, 1, 0] rfl) hw h
      · replace h := (if_neg c1).symm.trans h
        refine lv_aload_n hx hb dX9_restingChoices_11 rfl (lv_at hl 0 rfl) ?_
        refine wgetR (t := 48) C hw flX9_29 (rfl : _ = some (0, 9)) rfl dX9_restingChoices_12 ?_
        refine lv_iload_n hx hb dX9_restingChoices_15 rfl (lv_at hl 3 rfl) ?_
        refine lv_aload_n hx hb dX9_restingChoices_16 rfl (lv_at hl 0 rfl) ?_
        refine lv_iload_n hx hb dX9_restingChoices_17 rfl (lv_at hl 1 rfl) ?_
        refine lv_iload_n hx hb dX9_restingChoices_18 rfl (lv_at hl 2 rfl) ?_
        refine lv_iload_n hx hb dX9_restingChoices_19 rfl (lv_at hl 3 rfl) ?_
        refine lv_iconst (v := 1) hx hb dX9_restingChoices_20 (by decide) ?_
        refine lv_ishr hx hb dX9_restingChoices_21 ?_
        refine lv_iload_n hx hb dX9_restingChoices_22 rfl (lv_at hl 3 rfl) ?_
        refine lv_iconst (v := 1) hx hb dX9_restingChoices_23 (by decide) ?_
        refine lv_iand hx hb dX9_restingChoices_24 ?_
        obtain ⟨r12, M14, e13, h⟩ := bnd2_some h
        refine wcallV1 (As := [.int p1, .int p2, .int (v3_2 >>> ((1 : Int32) &&& 31)), .int (v3_2 &&& (1 : Int32))]) (rest := [.int v3_2, .ref (P.2.2.1 48)]) C hw (c_X9_gain hW  e13) vlX9_173 ⟨Nat.le_of_ble_eq_true rfl, Nat.le_of_ble_eq_true rfl⟩ (rfl : _ = some (0, 9)) rfl rfl rfl hl.1 (Nat.le_of_ble_eq_true rfl) dX9_restingChoices_25 ⟨Nat.zero_le _, Nat.zero_le _⟩ (fun H locs hw => ?_)
        obtain ⟨g16, h⟩ := grd h
        refine wast C hw (rfl : _ = some (1, 8)) g16 dX9_restingChoices_28 (fun M15 eM15 H locs hw => ?_)
        replace h := letv_at eM15 h
        refine lv_iinc (v := (v3_2 + 1)) (lv' := [(3, .int (v3_2 + 1)), (0, .ref (P.2.2.1 33)), (1, .int p1), (2, .int p2)]) (k := 3) hx hb dX9_restingChoices_29 hl rfl (congrArg (fun z => v3_2 + z) (by decide)) (by decide) rfl (fun ls hl => ?_)
        refine lv_goto (tgt := 2) hx hb dX9_restingChoices_32 (by decide) ?_
        exact ih_2 (v3_2 + 1) M15 ls _ _ (lv_sub hl [1, 2, 3, 0] rfl) hw h
  refine lv_iconst (v := 0) hx hb dX9_restingChoices_0 (by decide) ?_
  refine lv_istore_n (lv' := [(3, .int 0), (0, .ref (P.2.2.1 33)), (1, .int p1), (2, .int p2)]) hx hb dX9_restingChoices_1 rfl hl (by decide) rfl (fun ls hl => ?_)
  exact cut_2 FU 0 M ls _ _ (lv_sub hl [1, 2, 3, 0] rfl) hw h
