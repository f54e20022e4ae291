theorem fpX11_243 : FP "LehrBeltModel" 243 11 22 0 .int := ⟨(RX11, TX11, 39), rfl, inX11, by decide, List.mem_of_getElem? (i := 1507) (by decide +kernel), rfl, ⟨tyX11, tyX11_ok⟩, nmX11, rfl, by decide +kernel⟩
theorem fpX11_246 : FP "LehrBeltModel" 246 11 23 0 .int := ⟨(RX11, TX11, 39), rfl, inX11, by decide, List.mem_of_getElem? (i := 1508) (by decide +kernel), rfl, ⟨tyX11, tyX11_ok⟩, nmX11, rfl, by decide +kernel⟩
theorem fpX11_249 : FP "LehrBeltModel" 249 11 24 0 .int := ⟨(RX11, TX11, 39), rfl, inX11, by decide, List.mem_of_getElem? (i := 1509) (by decide +kernel), rfl, ⟨tyX11, tyX11_ok⟩, nmX11, rfl, by decide +kernel⟩
theorem fpX11_252 : FP "LehrBeltModel" 252 11 25 0 .int := ⟨(RX11, TX11, 39), rfl, inX11, by decide, List.mem_of_getElem? (i := 1510) (by decide +kernel), rfl, ⟨tyX11, tyX11_ok⟩, nmX11, rfl, by decide +kernel⟩
theorem flX11_252 : FL "LehrBeltModel" 252 11 25 0 := ⟨(RX11, TX11, 39), rfl, inX11, by decide, List.mem_of_getElem? (i := 1510) (by decide +kernel), rfl⟩
theorem fpX11_255 : FP "LehrBeltModel" 255 11 26 0 .int := ⟨(RX11, TX11, 39), rfl, inX11, by decide, List.mem_of_getElem? (i := 1511) (by decide +kernel), rfl, ⟨tyX11, tyX11_ok⟩, nmX11, rfl, by decide +kernel⟩
theorem flX11_53 : FL "LehrBeltModel" 53 11 28 2 := ⟨(RX11, TX11, 39), rfl, inX11, by decide, List.mem_of_getElem? (i := 1513) (by decide +kernel), rfl⟩
theorem flX11_56 : FL "LehrBeltModel" 56 11 29 2 := ⟨(RX11, TX11, 39), rfl, inX11, by decide, List.mem_of_getElem? (i := 1514) (by decide +kernel), rfl⟩
theorem flX11_50 : FL "LehrBeltModel" 50 11 27 2 := ⟨(RX11, TX11, 39), rfl, inX11, by decide, List.mem_of_getElem? (i := 1512) (by decide +kernel), rfl⟩
theorem flX11_249 : FL "LehrBeltModel" 249 11 24 0 := ⟨(RX11, TX11, 39), rfl, inX11, by decide, List.mem_of_getElem? (i := 1509) (by decide +kernel), rfl⟩
theorem slX11_258 : SL "LehrBeltModel" 258 yX11_isBit bX11_isBit 2 ((some .boolean)) 2 := ⟨List.mem_of_getElem? (i := 1785) (by decide +kernel), List.mem_of_getElem? (i := 1786) (by decide +kernel), List.mem_of_getElem? (i := 115) (by decide +kernel), List.mem_of_getElem? (i := 1787) (by decide +kernel), by decide +kernel, by decide +kernel, by decide +kernel⟩
theorem slX11_262 : SL "LehrBeltModel" 262 yX11_moreOf bX11_moreOf 2 ((some .int)) 2 := ⟨List.mem_of_getElem? (i := 1788) (by decide +kernel), List.mem_of_getElem? (i := 1789) (by decide +kernel), List.mem_of_getElem? (i := 115) (by decide +kernel), List.mem_of_getElem? (i := 1790) (by decide +kernel), by decide +kernel, by decide +kernel, by decide +kernel⟩
theorem flX11_255 : FL "LehrBeltModel" 255 11 26 0 := ⟨(RX11, TX11, 39), rfl, inX11, by decide, List.mem_of_getElem? (i := 1511) (by decide +kernel), rfl⟩
theorem vlX11_265 : VL "LehrBeltModel" 265 yX11_comes bX11_comes 2 ((some .int)) 1 := ⟨List.mem_of_getElem? (i := 1803) (by decide +kernel), List.mem_of_getElem? (i := 1805) (by decide +kernel), List.mem_of_getElem? (i := 67) (by decide +kernel), List.mem_of_getElem? (i := 115) (by decide +kernel), List.mem_of_getElem? (i := 1806) (by decide +kernel), by decide +kernel, by decide +kernel, by decide +kernel⟩
theorem flX11_246 : FL "LehrBeltModel" 246 11 23 0 := ⟨(RX11, TX11, 39), rfl, inX11, by decide, List.mem_of_getElem? (i := 1508) (by decide +kernel), rfl⟩
theorem flX11_59 : FL "LehrBeltModel" 59 11 30 2 := ⟨(RX11, TX11, 39), rfl, inX11, by decide, List.mem_of_getElem? (i := 1515) (by decide +kernel), rfl⟩
theorem flX11_62 : FL "LehrBeltModel" 62 11 31 2 := ⟨(RX11, TX11, 39), rfl, inX11, by decide, List.mem_of_getElem? (i := 1516) (by decide +kernel), rfl⟩
theorem vlX11_268 : VL "LehrBeltModel" 268 yX11_skinOf bX11_skinOf 3 ((some .int)) 2 := ⟨List.mem_of_getElem? (i := 1839) (by decide +kernel), List.mem_of_getElem? (i := 1841) (by decide +kernel), List.mem_of_getElem? (i := 72) (by decide +kernel), List.mem_of_getElem? (i := 115) (by decide +kernel), List.mem_of_getElem? (i := 1842) (by decide +kernel), by decide +kernel, by decide +kernel, by decide +kernel⟩
theorem vlX11_271 : VL "LehrBeltModel" 271 yX11_coreOf bX11_coreOf 3 ((some .int)) 2 := ⟨List.mem_of_getElem? (i := 1843) (by decide +kernel), List.mem_of_getElem? (i := 1845) (by decide +kernel), List.mem_of_getElem? (i := 73) (by decide +kernel), List.mem_of_getElem? (i := 115) (by decide +kernel), List.mem_of_getElem? (i := 1846) (by decide +kernel), by decide +kernel, by decide +kernel, by decide +kernel⟩
theorem slX11_274 : SL "LehrBeltModel" 274 yX11_apart bX11_apart 2 ((some .int)) 2 := ⟨List.mem_of_getElem? (i := 1858) (by decide +kernel), List.mem_of_getElem? (i := 1859) (by decide +kernel), List.mem_of_getElem? (i := 115) (by decide +kernel), List.mem_of_getElem? (i := 1860) (by decide +kernel), by decide +kernel, by decide +kernel, by decide +kernel⟩
theorem vlX11_277 : VL "LehrBeltModel" 277 yX11_airOf bX11_airOf 7 ((some .int)) 2 := ⟨List.mem_of_getElem? (i := 1781) (by decide +kernel), List.mem_of_getElem? (i := 1783) (by decide +kernel), List.mem_of_getElem? (i := 64) (by decide +kernel), List.mem_of_getElem? (i := 115) (by decide +kernel), List.mem_of_getElem? (i := 1784) (by decide +kernel), by decide +kernel, by decide +kernel, by decide +kernel⟩
theorem flX11_243 : FL "LehrBeltModel" 243 11 22 0 := ⟨(RX11, TX11, 39), rfl, inX11, by decide, List.mem_of_getElem? (i := 1507) (by decide +kernel), rfl⟩
theorem slX11_283 : SL "LehrBeltModel" 283 yX11_lessOf bX11_lessOf 2 ((some .int)) 2 := ⟨List.mem_of_getElem? (i := 1851) (by decide +kernel), List.mem_of_getElem? (i := 1852) (by decide +kernel), List.mem_of_getElem? (i := 115) (by decide +kernel), List.mem_of_getElem? (i := 1853) (by decide +kernel), by decide +kernel, by decide +kernel, by decide +kernel⟩
theorem vlX11_280 : VL "LehrBeltModel" 280 yX11_whereOf bX11_whereOf 4 ((some .int)) 2 := ⟨List.mem_of_getElem? (i := 1799) (by decide +kernel), List.mem_of_getElem? (i := 1801) (by decide +kernel), List.mem_of_getElem? (i := 66) (by decide +kernel), List.mem_of_getElem? (i := 115) (by decide +kernel), List.mem_of_getElem? (i := 1802) (by decide +kernel), by decide +kernel, by decide +kernel, by decide +kernel⟩
theorem flX11_71 : FL "LehrBeltModel" 71 11 34 2 := ⟨(RX11, TX11, 39), rfl, inX11, by decide, List.mem_of_getElem? (i := 1519) (by decide +kernel), rfl⟩
theorem vlX11_286 : VL "LehrBeltModel" 286 yX11_pullOf bX11_pullOf 7 ((some .int)) 3 := ⟨List.mem_of_getElem? (i := 1847) (by decide +kernel), List.mem_of_getElem? (i := 1849) (by decide +kernel), List.mem_of_getElem? (i := 74) (by decide +kernel), List.mem_of_getElem? (i := 115) (by decide +kernel), List.mem_of_getElem? (i := 1850) (by decide +kernel), by decide +kernel, by decide +kernel, by decide +kernel⟩
theorem vlX11_290 : VL "LehrBeltModel" 290 yX11_strainOf bX11_strainOf 3 ((some .int)) 2 := ⟨List.mem_of_getElem? (i := 1854) (by decide +kernel), List.mem_of_getElem? (i := 1856) (by decide +kernel), List.mem_of_getElem? (i := 75) (by decide +kernel), List.mem_of_getElem? (i := 115) (by decide +kernel), List.mem_of_getElem? (i := 1857) (by decide +kernel), by decide +kernel, by decide +kernel, by decide +kernel⟩
theorem flX11_74 : FL "LehrBeltModel" 74 11 35 2 := ⟨(RX11, TX11, 39), rfl, inX11, by decide, List.mem_of_getElem? (i := 1520) (by decide +kernel), rfl⟩
theorem flX11_65 : FL "LehrBeltModel" 65 11 32 2 := ⟨(RX11, TX11, 39), rfl, inX11, by decide, List.mem_of_getElem? (i := 1517) (by decide +kernel), rfl⟩
theorem flX11_68 : FL "LehrBeltModel" 68 11 33 2 := ⟨(RX11, TX11, 39), rfl, inX11, by decide, List.mem_of_getElem? (i := 1518) (by decide +kernel), rfl⟩
theorem vlX11_293 : VL "LehrBeltModel" 293 yX11_goesOn bX11_goesOn 7 (none) 2 := ⟨List.mem_of_getElem? (i := 1835) (by decide +kernel), List.mem_of_getElem? (i := 1837) (by decide +kernel), List.mem_of_getElem? (i := 71) (by decide +kernel), List.mem_of_getElem? (i := 115) (by decide +kernel), List.mem_of_getElem? (i := 1838) (by decide +kernel), by decide +kernel, by decide +kernel, by decide +kernel⟩
theorem vlX11_296 : VL "LehrBeltModel" 296 yX11_lays bX11_lays 2 (none) 0 := ⟨List.mem_of_getElem? (i := 1777) (by decide +kernel), List.mem_of_getElem? (i := 1779) (by decide +kernel), List.mem_of_getElem? (i := 63) (by decide +kernel), List.mem_of_getElem? (i := 115) (by decide +kernel), List.mem_of_getElem? (i := 1780) (by decide +kernel), by decide +kernel, by decide +kernel, by decide +kernel⟩
theorem vlX11_299 : VL "LehrBeltModel" 299 yX11_runs bX11_runs 3 (none) 0 := ⟨List.mem_of_getElem? (i := 1831) (by decide +kernel), List.mem_of_getElem? (i := 1833) (by decide +kernel), List.mem_of_getElem? (i := 70) (by decide +kernel), List.mem_of_getElem? (i := 115) (by decide +kernel), List.mem_of_getElem? (i := 1834) (by decide +kernel), by decide +kernel, by decide +kernel, by decide +kernel⟩
theorem vlX11_302 : VL "LehrBeltModel" 302 yX11_isZone bX11_isZone 2 ((some .boolean)) 1 := ⟨List.mem_of_getElem? (i := 1745) (by decide +kernel), List.mem_of_getElem? (i := 1747) (by decide +kernel), List.mem_of_getElem? (i := 57) (by decide +kernel), List.mem_of_getElem? (i := 115) (by decide +kernel), List.mem_of_getElem? (i := 1748) (by decide +kernel), by decide +kernel, by decide +kernel, by decide +kernel⟩
theorem vlX11_305 : VL "LehrBeltModel" 305 yX11_isThen bX11_isThen 3 ((some .boolean)) 2 := ⟨List.mem_of_getElem? (i := 1795) (by decide +kernel), List.mem_of_getElem? (i := 1797) (by decide +kernel), List.mem_of_getElem? (i := 65) (by decide +kernel), List.mem_of_getElem? (i := 115) (by decide +kernel), List.mem_of_getElem? (i := 1798) (by decide +kernel), by decide +kernel, by decide +kernel, by decide +kernel⟩
theorem vlX11_308 : VL "LehrBeltModel" 308 yX11_insideOf bX11_insideOf 5 ((some .int)) 2 := ⟨List.mem_of_getElem? (i := 1811) (by decide +kernel), List.mem_of_getElem? (i := 1813) (by decide +kernel), List.mem_of_getElem? (i := 68) (by decide +kernel), List.mem_of_getElem? (i := 115) (by decide +kernel), List.mem_of_getElem? (i := 1814) (by decide +kernel), by decide +kernel, by decide +kernel, by decide +kernel⟩
theorem vlX11_311 : VL "LehrBeltModel" 311 yX11_laysNow bX11_laysNow 1 (none) 0 := ⟨List.mem_of_getElem? (i := 1827) (by decide +kernel), List.mem_of_getElem? (i := 1829) (by decide +kernel), List.mem_of_getElem? (i := 69) (by decide +kernel), List.mem_of_getElem? (i := 115) (by decide +kernel), List.mem_of_getElem? (i := 1830) (by decide +kernel), by decide +kernel, by decide +kernel, by decide +kernel⟩
theorem vlX11_314 : VL "LehrBeltModel" 314 yX11_peakOf bX11_peakOf 4 ((some .int)) 1 := ⟨List.mem_of_getElem? (i := 1873) (by decide +kernel), List.mem_of_getElem? (i := 1875) (by decide +kernel), List.mem_of_getElem? (i := 76) (by decide +kernel), List.mem_of_getElem? (i := 115) (by decide +kernel), List.mem_of_getElem? (i := 1876) (by decide +kernel), by decide +kernel, by decide +kernel, by decide +kernel⟩
theorem z_X11_isHalf {p0 : Int32} {M : Mem} : f_X11_isHalf p0 M = 0 ∨ f_X11_isHalf p0 M = 1 := by
  unfold f_X11_isHalf
  repeat' split
  all_goals first | exact Or.inl rfl | exact Or.inr rfl | exact z_X11_in
set_option maxRecDepth 100000 in
set_option maxHeartbeats 4000000 in
theorem c_X11_isHalf {l : Launch} {P : Wp} {E : State → Heap → Prop} (hW : Wok shR P E) {p0 : Int32} {M : Mem} {r : Int32} (h : f_X11_isHalf p0 M = r) : CT l shR P E yX11_isHalf bX11_isHalf 1 ((some .boolean)) 1 25 [.int p0] (some (.int r)) M M := by
  refine ct_of hW (by decide) (Nat.le_of_ble_eq_true rfl) (fun p e s m args below meth c C ls hl hw => ?_)
  have hx := C.1
  have hb := C.2.1
  replace hl : lv_has ls 1 [(0, .int p0)] := hl
  refine lv_iload_n hx hb dX11_isHalf_0 rfl (lv_at hl 0 rfl) ?_
  refine lv_i2l hx hb dX11_isHalf_1 rfl ?_
  refine lv_lconst (v := 0) hx hb dX11_isHalf_2 (by decide) ?_
  refine lv_lconst (v := 1) hx hb dX11_isHalf_3 (by decide) ?_
  refine wcallS1 (As := [.long ((p0 : Int32).toInt64), .long 0, .long 1]) (rest := []) C hw (c_X11_in hW  rfl) slX11_82 ⟨Nat.le_of_ble_eq_true rfl, Nat.le_of_ble_eq_true rfl⟩ rfl rfl hl.1 (Nat.le_of_ble_eq_true rfl) dX11_isHalf_4 ⟨Nat.zero_le _, Nat.zero_le _⟩ (fun H locs hw => ?_)
  exact wretZ_T C hw z_X11_in h dX11_isHalf_7
theorem z_X11_isBit {p0 : Int32} {p1 : Int32} {M : Mem} : f_X11_isBit p0 p1 M = 0 ∨ f_X11_isBit p0 p1 M = 1 := by
  unfold f_X11_isBit
  repeat' split
  all_goals first | exact Or.inl rfl | exact Or.inr rfl
set_option maxRecDepth 100000 in
set_option maxHeartbeats 4000000 in
theorem c_X11_isBit {l : Launch} {P : Wp} {E : State → Heap → Prop} (hW : Wok shR P E) {p0 : Int32} {p1 : Int32} {M : Mem} {r : Int32} (h : f_X11_isBit p0 p1 M = r) : CT l shR P E yX11_isBit bX11_isBit 2 ((some .boolean)) 0 0 [.int p0, .int p1] (some (.int r)) M M := by
  refine ct_of hW (by decide) (Nat.le_of_ble_eq_true rfl) (fun p e s m args below meth c C ls hl hw => ?_)
  have hx := C.1
  have hb := C.2.1
  replace hl : lv_has ls 2 [(0, .int p0), (1, .int p1)] := hl
  refine lv_iload_n hx hb dX11_isBit_0 rfl (lv_at hl 0 rfl) ?_
  refine lv_iload_n hx hb dX11_isBit_1 rfl (lv_at hl 1 rfl) ?_
  refine lv_ishr hx hb dX11_isBit_2 ?_
  refine lv_iconst (v := 1) hx hb dX11_isBit_3 (by decide) ?_
  refine lv_iand hx hb dX11_isBit_4 ?_
  refine lv_iconst (v := 1) hx hb dX11_isBit_5 (by decide) ?_
  refine lv_icmp_ne (tgt := 13) hx hb dX11_isBit_6 (by decide) (fun c1 => ?_) (fun c1 => ?_)
  · replace h := (if_neg c1).symm.trans h
    refine lv_iconst (v := 0) hx hb dX11_isBit_13 (by decide) ?_
    exact wretZ_T C hw (Or.inl rfl) h dX11_isBit_14
  · replace h := (if_pos c1).symm.trans h
    refine lv_iconst (v := 1) hx hb dX11_isBit_9 (by decide) ?_
    refine lv_goto (tgt := 14) hx hb dX11_isBit_10 (by decide) ?_
    exact wretZ_T C hw (Or.inr rfl) h dX11_isBit_14
set_option maxRecDepth 100000 in
set_option maxHeartbeats 4000000 in
theorem c_X11_sizeOf {l : Launch} {P : Wp} {E : State → Heap → Prop} (hW : Wok shR P E) {p0 : Int32} {M : Mem} {r : Int32} (h : f_X11_sizeOf p0 M = some r) : CT l shR P E yX11_sizeOf bX11_sizeOf 3 ((some .int)) 0 0 [.int p0] (some (.int r)) M M := by
  refine ct_of hW (by decide) (Nat.le_of_ble_eq_true rfl) (fun p e s m args below meth c C ls hl hw => ?_)
  have hx := C.1
  have hb := C.2.1
  replace hl : lv_has ls 3 [(0, .int p0)] := hl
  have cut_4 : ∀ (n_4 : Nat) (v1_4 : Int32) (v2_4 : Int32) (ls : Array Slot) (H : Heap) (locs : List Loc), lv_has ls 3 [(1, .int v1_4), (2, .int v2_4)] → Hw shR P M s H locs → lq2 (L_X11_sizeOf_4 p0 M) n_4 v1_4 v2_4 = some r → W p l e { frames := 0, cells := 0, slots := 0, locals := 0 } s m args below meth c H locs 0 0 (MQ below (CQ shR P E (some (.int r)) M) args s 0 0 (wA shR P)) (F0 m 4 ls []) := by
    intro n_4
    induction n_4 with
    | zero => intro v1_4 v2_4 ls H locs hl hw h; cases h
    | succ n_4 ih_4 =>
      intro v1_4 v2_4 ls H locs hl hw h
      replace h := lq2_succ h
      refine lv_iload_n hx hb dX11_sizeOf_4 rfl (lv_at hl 1 rfl) ?_
      refine lv_if_eq (tgt := 20) hx hb dX11_sizeOf_5 (by decide) (fun c1 => ?_) (fun c1 => ?_)
      · replace h := (if_pos c1).symm.trans h
        refine lv_iload_n hx hb dX11_sizeOf_20 rfl (lv_at hl 0 rfl) ?_
        exact wretI_R C hw h dX11_sizeOf_21
      · replace h := (if_neg c1).symm.trans h
        refine lv_iinc (v := (v1_4 + 1)) (lv' := [(1, .int (v1_4 + 1)), (2, .int v2_4)]) (k := 0) hx hb dX11_sizeOf_8 hl rfl (congrArg (fun z => v1_4 + z) (by decide)) (by decide) rfl (fun ls hl => ?_)
        refine lv_iload_n hx hb dX11_sizeOf_11 rfl (lv_at hl 1 rfl) ?_
        refine lv_iload_n hx hb dX11_sizeOf_12 rfl (lv_at hl 1 rfl) ?_
        refine lv_iconst (v := 1) hx hb dX11_sizeOf_13 (by decide) ?_
        refine lv_isub hx hb dX11_sizeOf_14 ?_
        refine lv_iand hx hb dX11_sizeOf_15 ?_
        refine lv_topi (fun x2 ex2 => ?_)
        replace h := letv_at ex2 h
        refine lv_istore_n (lv' := [(2, .int x2), (1, .int (v1_4 + 1))]) hx hb dX11_sizeOf_16 rfl hl (by decide) rfl (fun ls hl => ?_)
        refine lv_goto (tgt := 4) hx hb dX11_sizeOf_17 (by decide) ?_
        exact ih_4 (v1_4 + 1) x2 ls _ _ (lv_sub hl [1, 0] rfl) hw h
  refine lv_iconst (v := 0) hx hb dX11_sizeOf_0 (by decide) ?_
  refine lv_istore_n (lv' := [(1, .int 0), (0, .int p0)]) hx hb dX11_sizeOf_1 rfl hl (by decide) rfl (fun ls hl => ?_)
  refine lv_iload_n hx hb dX11_sizeOf_2 rfl (lv_at hl 1 rfl) ?_
  refine lv_istore_n (lv' := [(2, .int p0), (1, .int 0), (0, .int p0)]) hx hb dX11_sizeOf_3 rfl hl (by decide) rfl (fun ls hl => ?_)
  exact cut_4 FU 0 p0 ls _ _ (lv_sub hl [1, 0] rfl) hw h
set_option maxRecDepth 100000 in
set_option maxHeartbeats 4000000 in
theorem c_X11_lessOf {l : Launch} {P : Wp} {E : State → Heap → Prop} (hW : Wok shR P E) {p0 : Int32} {p1 : Int32} {M : Mem} {r : Int32} (h : f_X11_lessOf p0 p1 M = r) : CT l shR P E yX11_lessOf bX11_lessOf 2 ((some .int)) 0 0 [.int p0, .int p1] (some (.int r)) M M := by
  refine ct_of hW (by decide) (Nat.le_of_ble_eq_true rfl) (fun p e s m args below meth c C ls hl hw => ?_)
  have hx := C.1
  have hb := C.2.1
  replace hl : lv_has ls 2 [(0, .int p0), (1, .int p1)] := hl
  refine lv_iload_n hx hb dX11_lessOf_0 rfl (lv_at hl 0 rfl) ?_
  refine lv_iload_n hx hb dX11_lessOf_1 rfl (lv_at hl 1 rfl) ?_
  refine lv_icmp_ge (tgt := 9) hx hb dX11_lessOf_2 (by decide) (fun c1 => ?_) (fun c1 => ?_)
  · replace h := (if_pos c1).symm.trans h
    refine lv_iload_n hx hb dX11_lessOf_9 rfl (lv_at hl 1 rfl) ?_
    exact wretI_T C hw h dX11_lessOf_10
  · replace h := (if_neg c1).symm.trans h
    refine lv_iload_n hx hb dX11_lessOf_5 rfl (lv_at hl 0 rfl) ?_
    refine lv_goto (tgt := 10) hx hb dX11_lessOf_6 (by decide) ?_
    exact wretI_T C hw h dX11_lessOf_10
set_option maxRecDepth 100000 in
set_option maxHeartbeats 4000000 in
theorem c_X11_moreOf {l : Launch} {P : Wp} {E : State → Heap → Prop} (hW : Wok shR P E) {p0 : Int32} {p1 : Int32} {M : Mem} {r : Int32} (h : f_X11_moreOf p0 p1 M = r) : CT l shR P E yX11_moreOf bX11_moreOf 2 ((some .int)) 0 0 [.int p0, .int p1] (some (.int r)) M M := by
  refine ct_of hW (by decide) (Nat.le_of_ble_eq_true rfl) (fun p e s m args below meth c C ls hl hw => ?_)
  have hx := C.1
  have hb := C.2.1
  replace hl : lv_has ls 2 [(0, .int p0), (1, .int p1)] := hl
  refine lv_iload_n hx hb dX11_moreOf_0 rfl (lv_at hl 0 rfl) ?_
  refine lv_iload_n hx hb dX11_moreOf_1 rfl (lv_at hl 1 rfl) ?_
  refine lv_icmp_le (tgt := 9) hx hb dX11_moreOf_2 (by decide) (fun c1 => ?_) (fun c1 => ?_)
  · replace h := (if_pos c1).symm.trans h
    refine lv_iload_n hx hb dX11_moreOf_9 rfl (lv_at hl 1 rfl) ?_
    exact wretI_T C hw h dX11_moreOf_10
  · replace h := (if_neg c1).symm.trans h
    refine lv_iload_n hx hb dX11_moreOf_5 rfl (lv_at hl 0 rfl) ?_
    refine lv_goto (tgt := 10) hx hb dX11_moreOf_6 (by decide) ?_
    exact wretI_T C hw h dX11_moreOf_10
set_option maxRecDepth 100000 in
set_option maxHeartbeats 4000000 in
theorem c_X11_apart {l : Launch} {P : Wp} {E : State → Heap → Prop} (hW : Wok shR P E) {p0 : Int32} {p1 : Int32} {M : Mem} {r : Int32} (h : f_X11_apart p0 p1 M = r) : CT l shR P E yX11_apart bX11_apart 2 ((some .int)) 0 0 [.int p0, .int p1] (some (.int r)) M M := by
  refine ct_of hW (by decide) (Nat.le_of_ble_eq_true rfl) (fun p e s m args below meth c C ls hl hw => ?_)
  have hx := C.1
  have hb := C.2.1
  replace hl : lv_has ls 2 [(0, .int p0), (1, .int p1)] := hl
  refine lv_iload_n hx hb dX11_apart_0 rfl (lv_at hl 0 rfl) ?_
  refine lv_iload_n hx hb dX11_apart_1 rfl (lv_at hl 1 rfl) ?_
  refine lv_icmp_ge (tgt := 11) hx hb dX11_apart_2 (by decide) (fun c1 => ?_) (fun c1 => ?_)
  · replace h := (if_pos c1).symm.trans h
    refine lv_iload_n hx hb dX11_apart_11 rfl (lv_at hl 0 rfl) ?_
    refine lv_iload_n hx hb dX11_apart_12 rfl (lv_at hl 1 rfl) ?_
    refine lv_isub hx hb dX11_apart_13 ?_
    exact wretI_T C hw h dX11_apart_14
  · replace h := (if_neg c1).symm.trans h
    refine lv_iload_n hx hb dX11_apart_5 rfl (lv_at hl 1 rfl) ?_
    refine lv_iload_n hx hb dX11_apart_6 rfl (lv_at hl 0 rfl) ?_
    refine lv_isub hx hb dX11_apart_7 ?_
    refine lv_goto (tgt := 14) hx hb dX11_apart_8 (by decide) ?_
    exact wretI_T C hw h dX11_apart_14
set_option maxRecDepth 100000 in
set_option maxHeartbeats 4000000 in
theorem c_X11_lays {l : Launch} {P : Wp} {E : State → Heap → Prop} (hW : Wok shR P E) {M : Mem} {M' : Mem} (h : f_X11_lays M = some M') : CT l shR P E yX11_lays bX11_lays 2 (none) 1 20 [.ref (P.2.2.1 0)] none M M' := by
  refine ct_of hW (by decide) (Nat.le_of_ble_eq_true rfl) (fun p e s m args below meth c C ls hl hw => ?_)
  have hx := C.1
  have hb := C.2.1
  replace hl : lv_has ls 2 [(0, .ref (P.2.2.1 0))] := hl
  have cut_73 : ∀ (n_73 : Nat) (v1_73 : Int32) (M_73 : Mem) (ls : Array Slot) (H : Heap) (locs : List Loc), lv_has ls 2 [(0, .ref (P.2.2.1 0)), (1, .int v1_73)] → Hw shR P M_73 s H locs → lq2 (L_X11_lays_73) n_73 v1_73 M_73 = some M' → W p l e { frames := 1, cells := 0, slots := 0, locals := 20 } s m args below meth c H locs 0 0 (MQ below (CQ shR P E none M') args s 0 0 (wA shR P)) (F0 m 73 ls []) := by
    intro n_73
    induction n_73 with
    | zero => intro v1_73 M_73 ls H locs hl hw h; cases h
    | succ n_73 ih_73 =>
      intro v1_73 M_73 ls H locs hl hw h
      replace h := lq2_succ h
      refine lv_iload_n hx hb dX11_lays_73 rfl (lv_at hl 1 rfl) ?_
      refine lv_aload_n hx hb dX11_lays_74 rfl (lv_at hl 0 rfl) ?_
      obtain ⟨r10, e11, h⟩ := bnd_some h
      refine wcallV1 (As := []) (rest := [.int v1_73]) C hw (c_X11_pieces hW  e11) vlX11_227 ⟨Nat.le_of_ble_eq_true rfl, Nat.le_of_ble_eq_true rfl⟩ (rfl : _ = some (0, 11)) rfl rfl rfl hl.1 (Nat.le_of_ble_eq_true rfl) dX11_lays_75 ⟨Nat.zero_le _, Nat.zero_le _⟩ (fun H locs hw => ?_)
      refine lv_icmp_ge (tgt := 119) hx hb dX11_lays_78 (by decide) (fun c12 => ?_) (fun c12 => ?_)
      · replace h := (if_pos c12).symm.trans h
        exact wretV_W C hw h dX11_lays_119
      · replace h := (if_neg c12).symm.trans h
        refine lv_aload_n hx hb dX11_lays_81 rfl (lv_at hl 0 rfl) ?_
        refine wgetR (t := 13) C hw flX11_53 (rfl : _ = some (0, 11)) rfl dX11_lays_82 ?_
        refine lv_iload_n hx hb dX11_lays_85 rfl (lv_at hl 1 rfl) ?_
        refine lv_aload_n hx hb dX11_lays_86 rfl (lv_at hl 0 rfl) ?_
        refine wgetR (t := 9) C hw flX11_40 (rfl : _ = some (0, 11)) rfl dX11_lays_87 ?_
        refine lv_iconst (v := 4) hx hb dX11_lays_90 (by decide) ?_
        refine lv_iload_n hx hb dX11_lays_91 rfl (lv_at hl 1 rfl) ?_
        refine lv_imul hx hb dX11_lays_92 ?_
        refine lv_iconst (v := 1) hx hb dX11_lays_93 (by decide) ?_
        refine lv_iadd hx hb dX11_lays_94 ?_
        obtain ⟨g13, h⟩ := grd h
        refine wald C hw (rfl : _ = some (1, 120)) g13 dX11_lays_95 ?_
        obtain ⟨g15, h⟩ := grd h
        refine wast C hw (rfl : _ = some (1, 6)) g15 dX11_lays_96 (fun M14 eM14 H locs hw => ?_)
        replace h := letv_at eM14 h
        refine lv_aload_n hx hb dX11_lays_97 rfl (lv_at hl 0 rfl) ?_
        refine wgetR (t := 14) C hw flX11_56 (rfl : _ = some (0, 11)) rfl dX11_lays_98 ?_
        refine lv_iload_n hx hb dX11_lays_101 rfl (lv_at hl 1 rfl) ?_
        refine lv_aload_n hx hb dX11_lays_102 rfl (lv_at hl 0 rfl) ?_
        refine wgetR (t := 9) C hw flX11_40 (rfl : _ = some (0, 11)) rfl dX11_lays_103 ?_
        refine lv_iconst (v := 4) hx hb dX11_lays_106 (by decide) ?_
        refine lv_iload_n hx hb dX11_lays_107 rfl (lv_at hl 1 rfl) ?_
        refine lv_imul hx hb dX11_lays_108 ?_
        refine lv_iconst (v := 2) hx hb dX11_lays_109 (by decide) ?_
        refine lv_iadd hx hb dX11_lays_110 ?_
        obtain ⟨g16, h⟩ := grd h
        refine wald C hw (rfl : _ = some (1, 120)) g16 dX11_lays_111 ?_
        obtain ⟨g18, h⟩ := grd h
        refine wast C hw (rfl : _ = some (1, 6)) g18 dX11_lays_112 (fun M17 eM17 H locs hw => ?_)
        replace h := letv_at eM17 h
        refine lv_iinc (v := (v1_73 + 1)) (lv' := [(1, .int (v1_73 + 1)), (0, .ref (P.2.2.1 0))]) (k := 1) hx hb dX11_lays_113 hl rfl (congrArg (fun z => v1_73 + z) (by decide)) (by decide) rfl (fun ls hl => ?_)
        refine lv_goto (tgt := 73) hx hb dX11_lays_116 (by decide) ?_
        exact ih_73 (v1_73 + 1) M17 ls _ _ (lv_sub hl [1, 0] rfl) hw h
  have cut_45 : ∀ (n_45 : Nat) (v1_45 : Int32) (M_45 : Mem) (ls : Array Slot) (H : Heap) (locs : List Loc), lv_has ls 2 [(0, .ref (P.2.2.1 0)), (1, .int v1_45)] → Hw shR P M_45 s H locs → lq2 (L_X11_lays_45) n_45 v1_45 M_45 = some M' → W p l e { frames := 1, cells := 0, slots := 0, locals := 20 } s m args below meth c H locs 0 0 (MQ below (CQ shR P E none M') args s 0 0 (wA shR P)) (F0 m 45 ls []) := by
    intro n_45
    induction n_45 with
    | zero => intro v1_45 M_45 ls H locs hl hw h; cases h
    | succ n_45 ih_45 =>
      intro v1_45 M_45 ls H locs hl hw h
      replace h := lq2_succ h
      refine lv_iload_n hx hb dX11_lays_45 rfl (lv_at hl 1 rfl) ?_
      refine lv_aload_n hx hb dX11_lays_46 rfl (lv_at hl 0 rfl) ?_
      refine wgetI C hw flX11_252 (rfl : _ = some (0, 11)) dX11_lays_47 ?_
      refine lv_icmp_ge (tgt := 71) hx hb dX11_lays_50 (by decide) (fun c9 => ?_) (fun c9 => ?_)
      · replace h := (if_pos c9).symm.trans h
        refine lv_iconst (v := 0) hx hb dX11_lays_71 (by decide) ?_
        refine lv_istore_n (lv' := [(1, .int 0), (0, .ref (P.2.2.1 0))]) hx hb dX11_lays_72 rfl hl (by decide) rfl (fun ls hl => ?_)
        exact cut_73 FU 0 M_45 ls _ _ (lv_sub hl [1, 0] rfl) hw h
      · replace h := (if_neg c9).symm.trans h
        refine lv_aload_n hx hb dX11_lays_53 rfl (lv_at hl 0 rfl) ?_
        refine wgetR (t := 12) C hw flX11_50 (rfl : _ = some (0, 11)) rfl dX11_lays_54 ?_
        refine lv_iload_n hx hb dX11_lays_57 rfl (lv_at hl 1 rfl) ?_
        refine lv_aload_n hx hb dX11_lays_58 rfl (lv_at hl 0 rfl) ?_
        refine wgetR (t := 8) C hw flX11_37 (rfl : _ = some (0, 11)) rfl dX11_lays_59 ?_
        refine lv_iload_n hx hb dX11_lays_62 rfl (lv_at hl 1 rfl) ?_
        obtain ⟨g19, h⟩ := grd h
        refine wald C hw (rfl : _ = some (1, 35)) g19 dX11_lays_63 ?_
        obtain ⟨g21, h⟩ := grd h
        refine wast C hw (rfl : _ = some (1, 7)) g21 dX11_lays_64 (fun M20 eM20 H locs hw => ?_)
        replace h := letv_at eM20 h
        refine lv_iinc (v := (v1_45 + 1)) (lv' := [(1, .int (v1_45 + 1)), (0, .ref (P.2.2.1 0))]) (k := 1) hx hb dX11_lays_65 hl rfl (congrArg (fun z => v1_45 + z) (by decide)) (by decide) rfl (fun ls hl => ?_)
        refine lv_goto (tgt := 45) hx hb dX11_lays_68 (by decide) ?_
        exact ih_45 (v1_45 + 1) M20 ls _ _ (lv_sub hl [1, 0] rfl) hw h
  refine lv_aload_n hx hb dX11_lays_0 rfl (lv_at hl 0 rfl) ?_
  refine lv_aload_n hx hb dX11_lays_1 rfl (lv_at hl 0 rfl) ?_
  refine wgetR (t := 7) C hw flX11_34 (rfl : _ = some (0, 11)) rfl dX11_lays_2 ?_
  refine lv_iconst (v := 1) hx hb dX11_lays_5 (by decide) ?_
  obtain ⟨g1, h⟩ := grd h
  refine wald C hw (rfl : _ = some (1, 40)) g1 dX11_lays_6 ?_
  refine wputI C hw fpX11_243 (rfl : _ = some (0, 11)) dX11_lays_7 (fun M2 eM2 H locs hw => ?_)
  replace h := letv_at eM2 h
  refine lv_aload_n hx hb dX11_lays_10 rfl (lv_at hl 0 rfl) ?_
  refine lv_aload_n hx hb dX11_lays_11 rfl (lv_at hl 0 rfl) ?_
  refine wgetR (t := 7) C hw flX11_34 (rfl : _ = some (0, 11)) rfl dX11_lays_12 ?_
  refine lv_iconst (v := 3) hx hb dX11_lays_15 (by decide) ?_
  obtain ⟨g3, h⟩ := grd h
  refine wald C hw (rfl : _ = some (1, 40)) g3 dX11_lays_16 ?_
  refine wputI C hw fpX11_246 (rfl : _ = some (0, 11)) dX11_lays_17 (fun M4 eM4 H locs hw => ?_)
  replace h := letv_at eM4 h
  refine lv_aload_n hx hb dX11_lays_20 rfl (lv_at hl 0 rfl) ?_
  refine lv_iconst (v := 0) hx hb dX11_lays_21 (by decide) ?_
  refine wputI C hw fpX11_249 (rfl : _ = some (0, 11)) dX11_lays_22 (fun M5 eM5 H locs hw => ?_)
  replace h := letv_at eM5 h
  refine lv_aload_n hx hb dX11_lays_25 rfl (lv_at hl 0 rfl) ?_
  refine lv_aload_n hx hb dX11_lays_26 rfl (lv_at hl 0 rfl) ?_
  refine wgetR (t := 7) C hw flX11_34 (rfl : _ = some (0, 11)) rfl dX11_lays_27 ?_
  refine lv_iconst (v := 5) hx hb dX11_lays_30 (by decide) ?_
  obtain ⟨g6, h⟩ := grd h
  refine wald C hw (rfl : _ = some (1, 40)) g6 dX11_lays_31 ?_
  refine wputI C hw fpX11_252 (rfl : _ = some (0, 11)) dX11_lays_32 (fun M7 eM7 H locs hw => ?_)
  replace h := letv_at eM7 h
  refine lv_aload_n hx hb dX11_lays_35 rfl (lv_at hl 0 rfl) ?_
  refine lv_aload_n hx hb dX11_lays_36 rfl (lv_at hl 0 rfl) ?_
  refine wgetI C hw flX11_252 (rfl : _ = some (0, 11)) dX11_lays_37 ?_
  refine wputI C hw fpX11_255 (rfl : _ = some (0, 11)) dX11_lays_40 (fun M8 eM8 H locs hw => ?_)
  replace h := letv_at eM8 h
  refine lv_iconst (v := 0) hx hb dX11_lays_43 (by decide) ?_
  refine lv_istore_n (lv' := [(1, .int 0), (0, .ref (P.2.2.1 0))]) hx hb dX11_lays_44 rfl hl (by decide) rfl (fun ls hl => ?_)
  exact cut_45 FU 0 M8 ls _ _ (lv_sub hl [1, 0] rfl) hw h
set_option maxRecDepth 100000 in
set_option maxHeartbeats 4000000 in
theorem c_X11_skips {l : Launch} {P : Wp} {E : State → Heap → Prop} (hW : Wok shR P E) {p1 : Int32} {M : Mem} {M' : Mem} (h : f_X11_skips p1 M = some M') : CT l shR P E yX11_skips bX11_skips 3 (none) 0 0 [.ref (P.2.2.1 0), .int p1] none M M' := by
  refine ct_of hW (by decide) (Nat.le_of_ble_eq_true rfl) (fun p e s m args below meth c C ls hl hw => ?_)
  have hx := C.1
  have hb := C.2.1
  replace hl : lv_has ls 3 [(0, .ref (P.2.2.1 0)), (1, .int p1)] := hl
  have cut_17 : ∀ (n_17 : Nat) (v2_17 : Int32) (M_17 : Mem) (ls : Array Slot) (H : Heap) (locs : List Loc), lv_has ls 3 [(0, .ref (P.2.2.1 0)), (2, .int v2_17)] → Hw shR P M_17 s H locs → lq2 (L_X11_skips_17 p1) n_17 v2_17 M_17 = some M' → W p l e { frames := 0, cells := 0, slots := 0, locals := 0 } s m args below meth c H locs 0 0 (MQ below (CQ shR P E none M') args s 0 0 (wA shR P)) (F0 m 17 ls []) := by
    intro n_17
    induction n_17 with
    | zero => intro v2_17 M_17 ls H locs hl hw h; cases h
    | succ n_17 ih_17 =>
      intro v2_17 M_17 ls H locs hl hw h
      replace h := lq2_succ h
      refine lv_iload_n hx hb dX11_skips_17 rfl (lv_at hl 1 rfl) ?_
      refine lv_aload_n hx hb dX11_skips_18 rfl (lv_at hl 0 rfl) ?_
      refine wgetI C hw flX11_252 (rfl : _ = some (0, 11)) dX11_skips_19 ?_
      refine lv_icmp_ge (tgt := 45) hx hb dX11_skips_22 (by decide) (fun c3 => ?_) (fun c3 => ?_)
      · replace h := (if_pos c3).symm.trans h
        exact wretV_W C hw h dX11_skips_45
      · replace h := (if_neg c3).symm.trans h
        refine lv_aload_n hx hb dX11_skips_25 rfl (lv_at hl 0 rfl) ?_
        refine wgetR (t := 12) C hw flX11_50 (rfl : _ = some (0, 11)) rfl dX11_skips_26 ?_
        refine lv_iload_n hx hb dX11_skips_29 rfl (lv_at hl 1 rfl) ?_
        refine lv_aload_n hx hb dX11_skips_30 rfl (lv_at hl 0 rfl) ?_
        refine wgetR (t := 8) C hw flX11_37 (rfl : _ = some (0, 11)) rfl dX11_skips_31 ?_
        refine lv_iload_n hx hb dX11_skips_34 rfl (lv_at hl 1 rfl) ?_
        refine lv_iconst (v := 1) hx hb dX11_skips_35 (by decide) ?_
        refine lv_iadd hx hb dX11_skips_36 ?_
        obtain ⟨g4, h⟩ := grd h
        refine wald C hw (rfl : _ = some (1, 35)) g4 dX11_skips_37 ?_
        obtain ⟨g6, h⟩ := grd h
        refine wast C hw (rfl : _ = some (1, 7)) g6 dX11_skips_38 (fun M5 eM5 H locs hw => ?_)
        replace h := letv_at eM5 h
        refine lv_iinc (v := (v2_17 + 1)) (lv' := [(2, .int (v2_17 + 1)), (0, .ref (P.2.2.1 0))]) (k := 1) hx hb dX11_skips_39 hl rfl (congrArg (fun z => v2_17 + z) (by decide)) (by decide) rfl (fun ls hl => ?_)
        refine lv_goto (tgt := 17) hx hb dX11_skips_42 (by decide) ?_
        exact ih_17 (v2_17 + 1) M5 ls _ _ (lv_sub hl [1, 0] rfl) hw h
  refine lv_aload_n hx hb dX11_skips_0 rfl (lv_at hl 0 rfl) ?_
  refine lv_dup hx hb dX11_skips_1 rfl ?_
  refine wgetI C hw flX11_252 (rfl : _ = some (0, 11)) dX11_skips_2 ?_
  refine lv_iconst (v := 1) hx hb dX11_skips_5 (by decide) ?_
  refine lv_isub hx hb dX11_skips_6 ?_
  refine wputI C hw fpX11_252 (rfl : _ = some (0, 11)) dX11_skips_7 (fun M1 eM1 H locs hw => ?_)
  replace h := letv_at eM1 h
  refine lv_aload_n hx hb dX11_skips_10 rfl (lv_at hl 0 rfl) ?_
  refine lv_iload_n hx hb dX11_skips_11 rfl (lv_at hl 1 rfl) ?_
  refine wputI C hw fpX11_255 (rfl : _ = some (0, 11)) dX11_skips_12 (fun M2 eM2 H locs hw => ?_)
  replace h := letv_at eM2 h
  refine lv_iload_n hx hb dX11_skips_15 rfl (lv_at hl 1 rfl) ?_
  refine lv_istore_n (lv' := [(2, .int p1), (0, .ref (P.2.2.1 0)), (1, .int p1)]) hx hb dX11_skips_16 rfl hl (by decide) rfl (fun ls hl => ?_)
  exact cut_17 FU p1 M2 ls _ _ (lv_sub hl [1, 0] rfl) hw h
set_option maxRecDepth 100000 in
set_option maxHeartbeats 4000000 in
theorem c_X11_airOf {l : Launch} {P : Wp} {E : State → Heap → Prop} (hW : Wok shR P E) {p1 : Int32} {p2 : Int32} {M : Mem} {r : Int32} (h : f_X11_airOf p1 p2 M = some r) : CT l shR P E yX11_airOf bX11_airOf 7 ((some .int)) 1 21 [.ref (P.2.2.1 0), .int p1, .int p2] (some (.int r)) M M := by
  refine ct_of hW (by decide) (Nat.le_of_ble_eq_true rfl) (fun p e s m args below meth c C ls hl hw => ?_)
  have hx := C.1
  have hb := C.2.1
  replace hl : lv_has ls 7 [(0, .ref (P.2.2.1 0)), (1, .int p1), (2, .int p2)] := hl
  have cut_20 : ∀ (n_20 : Nat) (v3_20 : Int32) (v4_20 : Int32) (v5_20 : Int32) (ls : Array Slot) (H : Heap) (locs : List Loc), lv_has ls 7 [(0, .ref (P.2.2.1 0)), (1, .int p1), (2, .int p2), (3, .int v3_20), (4, .int v4_20), (5, .int v5_20)] → Hw shR P M s H locs → lq3 (L_X11_airOf_20 p1 p2 M) n_20 v3_20 v4_20 v5_20 = some r → W p l e { frames := 1, cells := 0, slots := 0, locals := 21 } s m args below meth c H locs 0 0 (MQ below (CQ shR P E (some (.int r)) M) args s 0 0 (wA shR P)) (F0 m 20 ls []) := by
    intro n_20
    induction n_20 with
    | zero => intro v3_20 v4_20 v5_20 ls H locs hl hw h; cases h
    | succ n_20 ih_20 =>
      intro v3_20 v4_20 v5_20 ls H locs hl hw h
      replace h := lq3_succ h
      have cut_114 : ∀ (v3_114 : Int32) (v4_114 : Int32) (v5_114 : Int32) (ls : Array Slot) (H : Heap) (locs : List Loc), lv_has ls 7 [(0, .ref (P.2.2.1 0)), (1, .int p1), (2, .int p2), (3, .int v3_114), (4, .int v4_114), (5, .int v5_114)] → Hw shR P M s H locs → J_X11_airOf_114 p1 p2 M (lq3 (L_X11_airOf_20 p1 p2 M) n_20) v3_114 v4_114 v5_114 = some r → W p l e { frames := 1, cells := 0, slots := 0, locals := 21 } s m args below meth c H locs 0 0 (MQ below (CQ shR P E (some (.int r)) M) args s 0 0 (wA shR P)) (F0 m 114 ls []) := by
        intro v3_114 v4_114 v5_114 ls H locs hl hw h
        refine lv_iload hx hb dX11_airOf_114 (lv_at hl 4 rfl) ?_
        refine lv_aload_n hx hb dX11_airOf_116 rfl (lv_at hl 0 rfl) ?_
        refine wgetR (t := 10) C hw flX11_43 (rfl : _ = some (0, 11)) rfl dX11_airOf_117 ?_
        refine lv_iconst (v := 4) hx hb dX11_airOf_120 (by decide) ?_
        refine lv_iload hx hb dX11_airOf_121 (lv_at hl 5 rfl) ?_
        refine lv_imul hx hb dX11_airOf_123 ?_
        obtain ⟨g12, h⟩ := grd h
        refine wald C hw (rfl : _ = some (1, 600)) g12 dX11_airOf_124 ?_
        refine lv_iconst (v := 1) hx hb dX11_airOf_125 (by decide) ?_
        refine lv_icmp_ne (tgt := 148) hx hb dX11_airOf_126 (by decide) (fun c13 => ?_) (fun c13 => ?_)
        · replace h := (if_neg c13).symm.trans h
          refine lv_iconst (v := 0) hx hb dX11_airOf_148 (by decide) ?_
          refine lv_ior hx hb dX11_airOf_149 ?_
          refine lv_topi (fun x14 ex14 => ?_)
          replace h := letv_at ex14 h
          refine lv_istore (lv' := [(4, .int x14), (0, .ref (P.2.2.1 0)), (1, .int p1), (2, .int p2), (3, .int v3_114), (5, .int v5_114)]) hx hb dX11_airOf_150 hl (by decide) rfl (fun ls hl => ?_)
          refine lv_iinc (v := (v5_114 + 1)) (lv' := [(5, .int (v5_114 + 1)), (4, .int x14), (0, .ref (P.2.2.1 0)), (1, .int p1), (2, .int p2), (3, .int v3_114)]) (k := 5) hx hb dX11_airOf_152 hl rfl (congrArg (fun z => v5_114 + z) (by decide)) (by decide) rfl (fun ls hl => ?_)
          refine lv_goto (tgt := 20) hx hb dX11_airOf_155 (by decide) ?_
          exact ih_20 v3_114 x14 (v5_114 + 1) ls _ _ (lv_sub hl [2, 3, 4, 5, 1, 0] rfl) hw h
        · replace h := (if_pos c13).symm.trans h
          refine lv_aload_n hx hb dX11_airOf_129 rfl (lv_at hl 0 rfl) ?_
          refine wgetR (t := 10) C hw flX11_43 (rfl : _ = some (0, 11)) rfl dX11_airOf_130 ?_
          refine lv_iconst (v := 4) hx hb dX11_airOf_133 (by decide) ?_
          refine lv_iload hx hb dX11_airOf_134 (lv_at hl 5 rfl) ?_
          refine lv_imul hx hb dX11_airOf_136 ?_
          refine lv_iconst (v := 3) hx hb dX11_airOf_137 (by decide) ?_
          refine lv_iadd hx hb dX11_airOf_138 ?_
          obtain ⟨g15, h⟩ := grd h
          refine wald C hw (rfl : _ = some (1, 600)) g15 dX11_airOf_139 ?_
          refine lv_iload_n hx hb dX11_airOf_140 rfl (lv_at hl 2 rfl) ?_
          refine lv_icmp_ne (tgt := 148) hx hb dX11_airOf_141 (by decide) (fun c16 => ?_) (fun c16 => ?_)
          · replace h := (if_neg c16).symm.trans h
            refine lv_iconst (v := 0) hx hb dX11_airOf_148 (by decide) ?_
            refine lv_ior hx hb dX11_airOf_149 ?_
            refine lv_topi (fun x17 ex17 => ?_)
            replace h := letv_at ex17 h
            refine lv_istore (lv' := [(4, .int x17), (0, .ref (P.2.2.1 0)), (1, .int p1), (2, .int p2), (3, .int v3_114), (5, .int v5_114)]) hx hb dX11_airOf_150 hl (by decide) rfl (fun ls hl => ?_)
            refine lv_iinc (v := (v5_114 + 1)) (lv' := [(5, .int (v5_114 + 1)), (4, .int x17), (0, .ref (P.2.2.1 0)), (1, .int p1), (2, .int p2), (3, .int v3_114)]) (k := 5) hx hb dX11_airOf_152 hl rfl (congrArg (fun z => v5_114 + z) (by decide)) (by decide) rfl (fun ls hl => ?_)
            refine lv_goto (tgt := 20) hx hb dX11_airOf_155 (by decide) ?_
            exact ih_20 v3_114 x17 (v5_114 + 1) ls _ _ (lv_sub hl [2, 3, 4, 5, 1, 0] rfl) hw h
          · replace h := (if_pos c16).symm.trans h
            refine lv_iconst (v := 1) hx hb dX11_airOf_144 (by decide) ?_
            refine lv_goto (tgt := 149) hx hb dX11_airOf_145 (by decide) ?_
            refine lv_ior hx hb dX11_airOf_149 ?_
            refine lv_topi (fun x18 ex18 => ?_)
            replace h := letv_at ex18 h
            refine lv_istore (lv' := [(4, .int x18), (0, .ref (P.2.2.1 0)), (1, .int p1), (2, .int p2), (3, .int v3_114), (5, .int v5_114)]) hx hb dX11_airOf_150 hl (by decide) rfl (fun ls hl => ?_)
            refine lv_iinc (v := (v5_114 + 1)) (lv' := [(5, .int (v5_114 + 1)), (4, .int x18), (0, .ref (P.2.2.1 0)), (1, .int p1), (2, .int p2), (3, .int v3_114)]) (k := 5) hx hb dX11_airOf_152 hl rfl (congrArg (fun z => v5_114 + z) (by decide)) (by decide) rfl (fun ls hl => ?_)
            refine lv_goto (tgt := 20) hx hb dX11_airOf_155 (by decide) ?_
            exact ih_20 v3_114 x18 (v5_114 + 1) ls _ _ (lv_sub hl [2, 3, 4, 5, 1, 0] rfl) hw h
      have cut_66 : ∀ (v3_66 : Int32) (v4_66 : Int32) (v5_66 : Int32) (w0_66 : Int32) (ls : Array Slot) (H : Heap) (locs : List Loc), lv_has ls 7 [(0, .ref (P.2.2.1 0)), (1, .int p1), (2, .int p2), (3, .int v3_66), (4, .int v4_66), (5, .int v5_66)] → Hw shR P M s H locs → J_X11_airOf_66 p1 p2 M (lq3 (L_X11_airOf_20 p1 p2 M) n_20) v3_66 v4_66 v5_66 w0_66 = some r → W p l e { frames := 1, cells := 0, slots := 0, locals := 21 } s m args below meth c H locs 0 0 (MQ below (CQ shR P E (some (.int r)) M) args s 0 0 (wA shR P)) (F0 m 66 ls [.int w0_66]) := by
        intro v3_66 v4_66 v5_66 w0_66 ls H locs hl hw h
        refine lv_istore (lv' := [(6, .int w0_66), (0, .ref (P.2.2.1 0)), (1, .int p1), (2, .int p2), (3, .int v3_66), (4, .int v4_66), (5, .int v5_66)]) hx hb dX11_airOf_66 hl (by decide) rfl (fun ls hl => ?_)
        refine lv_aload_n hx hb dX11_airOf_68 rfl (lv_at hl 1 rfl) ?_
        refine wgetR (t := 10) C hw flX11_43 (rfl : _ = some (0, 11)) rfl dX11_airOf_69 ?_
        refine lv_iconst (v := 4) hx hb dX11_airOf_72 (by decide) ?_
        refine lv_iload hx hb dX11_airOf_73 (lv_at hl 6 rfl) ?_
        refine lv_imul hx hb dX11_airOf_75 ?_
        obtain ⟨g10, h⟩ := grd h
        refine wald C hw (rfl : _ = some (1, 600)) g10 dX11_airOf_76 ?_
        refine lv_if_ne (tgt := 114) hx hb dX11_airOf_77 (by decide) (fun c11 => ?_) (fun c11 => ?_)
        · replace h := (if_neg c11).symm.trans h
          exact cut_114 v3_66 v4_66 v5_66 ls _ _ (lv_sub hl [1, 2, 3, 4, 5, 6] rfl) hw h
        · replace h := (if_pos c11).symm.trans h
          refine lv_iload hx hb dX11_airOf_80 (lv_at hl 0 rfl) ?_
          refine lv_if_eq (tgt := 114) hx hb dX11_airOf_82 (by decide) (fun c19 => ?_) (fun c19 => ?_)
          · replace h := (if_pos c19).symm.trans h
            exact cut_114 v3_66 v4_66 v5_66 ls _ _ (lv_sub hl [1, 2, 3, 4, 5, 6] rfl) hw h
          · replace h := (if_neg c19).symm.trans h
            refine lv_aload_n hx hb dX11_airOf_85 rfl (lv_at hl 1 rfl) ?_
            refine wgetR (t := 10) C hw flX11_43 (rfl : _ = some (0, 11)) rfl dX11_airOf_86 ?_
            refine lv_iconst (v := 4) hx hb dX11_airOf_89 (by decide) ?_
            refine lv_iload hx hb dX11_airOf_90 (lv_at hl 6 rfl) ?_
            refine lv_imul hx hb dX11_airOf_92 ?_
            refine lv_iconst (v := 3) hx hb dX11_airOf_93 (by decide) ?_
            refine lv_iadd hx hb dX11_airOf_94 ?_
            obtain ⟨g20, h⟩ := grd h
            refine wald C hw (rfl : _ = some (1, 600)) g20 dX11_airOf_95 ?_
            refine lv_iload_n hx hb dX11_airOf_96 rfl (lv_at hl 3 rfl) ?_
            refine lv_icmp_gt (tgt := 114) hx hb dX11_airOf_97 (by decide) (fun c21 => ?_) (fun c21 => ?_)
            · replace h := (if_pos c21).symm.trans h
              exact cut_114 v3_66 v4_66 v5_66 ls _ _ (lv_sub hl [1, 2, 3, 4, 5, 6] rfl) hw h
            · replace h := (if_neg c21).symm.trans h
              refine lv_iload_n hx hb dX11_airOf_100 rfl (lv_at hl 4 rfl) ?_
              refine lv_aload_n hx hb dX11_airOf_101 rfl (lv_at hl 1 rfl) ?_
              refine wgetR (t := 10) C hw flX11_43 (rfl : _ = some (0, 11)) rfl dX11_airOf_102 ?_
              refine lv_iconst (v := 4) hx hb dX11_airOf_105 (by decide) ?_
              refine lv_iload hx hb dX11_airOf_106 (lv_at hl 6 rfl) ?_
              refine lv_imul hx hb dX11_airOf_108 ?_
              refine lv_iconst (v := 2) hx hb dX11_airOf_109 (by decide) ?_
              refine lv_iadd hx hb dX11_airOf_110 ?_
              obtain ⟨g22, h⟩ := grd h
              refine wald C hw (rfl : _ = some (1, 600)) g22 dX11_airOf_111 ?_
              refine lv_iadd hx hb dX11_airOf_112 ?_
              refine lv_topi (fun x23 ex23 => ?_)
              replace h := letv_at ex23 h
              refine lv_istore_n (lv' := [(3, .int x23), (6, .int w0_66), (0, .ref (P.2.2.1 0)), (1, .int p1), (2, .int p2), (4, .int v4_66), (5, .int v5_66)]) hx hb dX11_airOf_113 rfl hl (by decide) rfl (fun ls hl => ?_)
              exact cut_114 x23 v4_66 v5_66 ls _ _ (lv_sub hl [2, 3, 4, 0, 5, 6] rfl) hw h
      refine lv_iload hx hb dX11_airOf_20 (lv_at hl 5 rfl) ?_
      refine lv_aload_n hx hb dX11_airOf_22 rfl (lv_at hl 0 rfl) ?_
      refine wgetR (t := 7) C hw flX11_34 (rfl : _ = some (0, 11)) rfl dX11_airOf_23 ?_
      refine lv_bipush (v := 7) hx hb dX11_airOf_26 (by decide) ?_
      obtain ⟨g4, h⟩ := grd h
      refine wald C hw (rfl : _ = some (1, 40)) g4 dX11_airOf_28 ?_
      refine lv_icmp_ge (tgt := 158) hx hb dX11_airOf_29 (by decide) (fun c5 => ?_) (fun c5 => ?_)
      · replace h := (if_pos c5).symm.trans h
        refine lv_iload hx hb dX11_airOf_158 (lv_at hl 4 rfl) ?_
        refine lv_if_eq (tgt := 174) hx hb dX11_airOf_160 (by decide) (fun c6 => ?_) (fun c6 => ?_)
        · replace h := (if_pos c6).symm.trans h
          refine lv_iload_n hx hb dX11_airOf_174 rfl (lv_at hl 3 rfl) ?_
          exact wretI_R C hw h dX11_airOf_175
        · replace h := (if_neg c6).symm.trans h
          refine lv_iconst (v := 0) hx hb dX11_airOf_163 (by decide) ?_
          refine lv_iload_n hx hb dX11_airOf_164 rfl (lv_at hl 3 rfl) ?_
          refine lv_bipush (v := 80) hx hb dX11_airOf_165 (by decide) ?_
          refine lv_isub hx hb dX11_airOf_167 ?_
          refine wcallS1 (As := [.int 0, .int (v3_20 - (80 : Int32))]) (rest := []) C hw (c_X11_moreOf hW  rfl) slX11_262 ⟨Nat.le_of_ble_eq_true rfl, Nat.le_of_ble_eq_true rfl⟩ rfl rfl hl.1 (Nat.le_of_ble_eq_true rfl) dX11_airOf_168 ⟨Nat.zero_le _, Nat.zero_le _⟩ (fun H locs hw => ?_)
          refine lv_goto (tgt := 175) hx hb dX11_airOf_171 (by decide) ?_
          exact wretI_R C hw h dX11_airOf_175
      · replace h := (if_neg c5).symm.trans h
        refine lv_aload_n hx hb dX11_airOf_32 rfl (lv_at hl 0 rfl) ?_
        refine wgetR (t := 10) C hw flX11_43 (rfl : _ = some (0, 11)) rfl dX11_airOf_33 ?_
        refine lv_iconst (v := 4) hx hb dX11_airOf_36 (by decide) ?_
        refine lv_iload hx hb dX11_airOf_37 (lv_at hl 5 rfl) ?_
        refine lv_imul hx hb dX11_airOf_39 ?_
        refine lv_iconst (v := 1) hx hb dX11_airOf_40 (by decide) ?_
        refine lv_iadd hx hb dX11_airOf_41 ?_
        obtain ⟨g7, h⟩ := grd h
        refine wald C hw (rfl : _ = some (1, 600)) g7 dX11_airOf_42 ?_
        refine lv_iload_n hx hb dX11_airOf_43 rfl (lv_at hl 1 rfl) ?_
        refine lv_aload_n hx hb dX11_airOf_44 rfl (lv_at hl 0 rfl) ?_
        refine wgetI C hw flX11_255 (rfl : _ = some (0, 11)) dX11_airOf_45 ?_
        refine lv_icmp_ge (tgt := 55) hx hb dX11_airOf_48 (by decide) (fun c8 => ?_) (fun c8 => ?_)
        · replace h := (if_pos c8).symm.trans h
          refine lv_iload_n hx hb dX11_airOf_55 rfl (lv_at hl 1 rfl) ?_
          refine lv_iconst (v := 1) hx hb dX11_airOf_56 (by decide) ?_
          refine lv_iadd hx hb dX11_airOf_57 ?_
          refine lv_icmp_ne (tgt := 65) hx hb dX11_airOf_58 (by decide) (fun c9 => ?_) (fun c9 => ?_)
          · replace h := (if_neg c9).symm.trans h
            refine lv_iconst (v := 0) hx hb dX11_airOf_65 (by decide) ?_
            exact cut_66 v3_20 v4_20 v5_20 0 ls _ _ (lv_sub hl [0, 1, 2, 3, 4, 5] rfl) hw h
          · replace h := (if_pos c9).symm.trans h
            refine lv_iconst (v := 1) hx hb dX11_airOf_61 (by decide) ?_
            refine lv_goto (tgt := 66) hx hb dX11_airOf_62 (by decide) ?_
            exact cut_66 v3_20 v4_20 v5_20 1 ls _ _ (lv_sub hl [0, 1, 2, 3, 4, 5] rfl) hw h
        · replace h := (if_neg c8).symm.trans h
          refine lv_iload_n hx hb dX11_airOf_51 rfl (lv_at hl 1 rfl) ?_
          refine lv_goto (tgt := 58) hx hb dX11_airOf_52 (by decide) ?_
          refine lv_icmp_ne (tgt := 65) hx hb dX11_airOf_58 (by decide) (fun c24 => ?_) (fun c24 => ?_)
          · replace h := (if_neg c24).symm.trans h
            refine lv_iconst (v := 0) hx hb dX11_airOf_65 (by decide) ?_
            exact cut_66 v3_20 v4_20 v5_20 0 ls _ _ (lv_sub hl [0, 1, 2, 3, 4, 5] rfl) hw h
          · replace h := (if_pos c24).symm.trans h
            refine lv_iconst (v := 1) hx hb dX11_airOf_61 (by decide) ?_
            refine lv_goto (tgt := 66) hx hb dX11_airOf_62 (by decide) ?_
            exact cut_66 v3_20 v4_20 v5_20 1 ls _ _ (lv_sub hl [0, 1, 2, 3, 4, 5] rfl) hw h
  refine lv_aload_n hx hb dX11_airOf_0 rfl (lv_at hl 0 rfl) ?_
  refine wgetR (t := 12) C hw flX11_50 (rfl : _ = some (0, 11)) rfl dX11_airOf_1 ?_
  refine lv_iload_n hx hb dX11_airOf_4 rfl (lv_at hl 1 rfl) ?_
  obtain ⟨g1, h⟩ := grd h
  refine wald C hw (rfl : _ = some (1, 7)) g1 dX11_airOf_5 ?_
  refine lv_topi (fun x2 ex2 => ?_)
  replace h := letv_at ex2 h
  refine lv_istore_n (lv' := [(3, .int x2), (0, .ref (P.2.2.1 0)), (1, .int p1), (2, .int p2)]) hx hb dX11_airOf_6 rfl hl (by decide) rfl (fun ls hl => ?_)
  refine lv_aload_n hx hb dX11_airOf_7 rfl (lv_at hl 1 rfl) ?_
  refine wgetI C hw flX11_249 (rfl : _ = some (0, 11)) dX11_airOf_8 ?_
  refine lv_iload_n hx hb dX11_airOf_11 rfl (lv_at hl 3 rfl) ?_
  refine wcallS1 (As := [.int (M.1 0 24), .int p2]) (rest := []) C hw (c_X11_isBit hW  rfl) slX11_258 ⟨Nat.le_of_ble_eq_true rfl, Nat.le_of_ble_eq_true rfl⟩ rfl rfl hl.1 (Nat.le_of_ble_eq_true rfl) dX11_airOf_12 ⟨Nat.zero_le _, Nat.zero_le _⟩ (fun H locs hw => ?_)
  refine lv_topi (fun x3 ex3 => ?_)
  replace h := letv_at ex3 h
  refine lv_istore (lv' := [(4, .int x3), (3, .int x2), (0, .ref (P.2.2.1 0)), (1, .int p1), (2, .int p2)]) hx hb dX11_airOf_15 hl (by decide) rfl (fun ls hl => ?_)
  refine lv_iconst (v := 0) hx hb dX11_airOf_17 (by decide) ?_
  refine lv_istore (lv' := [(5, .int 0), (4, .int x3), (3, .int x2), (0, .ref (P.2.2.1 0)), (1, .int p1), (2, .int p2)]) hx hb dX11_airOf_18 hl (by decide) rfl (fun ls hl => ?_)
  exact cut_20 FU x2 x3 0 ls _ _ (lv_sub hl [3, 4, 5, 2, 1, 0] rfl) hw h
set_option maxRecDepth 100000 in
set_option maxHeartbeats 4000000 in
theorem c_X11_comes {l : Launch} {P : Wp} {E : State → Heap → Prop} (hW : Wok shR P E) {p1 : Int32} {M : Mem} {r : Int32} (h : f_X11_comes p1 M = some r) : CT l shR P E yX11_comes bX11_comes 2 ((some .int)) 0 0 [.ref (P.2.2.1 0), .int p1] (some (.int r)) M M := by
  refine ct_of hW (by decide) (Nat.le_of_ble_eq_true rfl) (fun p e s m args below meth c C ls hl hw => ?_)
  have hx := C.1
  have hb := C.2.1
  replace hl : lv_has ls 2 [(0, .ref (P.2.2.1 0)), (1, .int p1)] := hl
  refine lv_aload_n hx hb dX11_comes_0 rfl (lv_at hl 0 rfl) ?_
  refine wgetR (t := 9) C hw flX11_40 (rfl : _ = some (0, 11)) rfl dX11_comes_1 ?_
  refine lv_iconst (v := 4) hx hb dX11_comes_4 (by decide) ?_
  refine lv_iload_n hx hb dX11_comes_5 rfl (lv_at hl 1 rfl) ?_
  refine lv_imul hx hb dX11_comes_6 ?_
  refine lv_iconst (v := 3) hx hb dX11_comes_7 (by decide) ?_
  refine lv_iadd hx hb dX11_comes_8 ?_
  obtain ⟨g1, h⟩ := grd h
  refine wald C hw (rfl : _ = some (1, 120)) g1 dX11_comes_9 ?_
  exact wretI_R C hw h dX11_comes_10
set_option maxRecDepth 100000 in
set_option maxHeartbeats 4000000 in
theorem c_X11_whereOf {l : Launch} {P : Wp} {E : State → Heap → Prop} (hW : Wok shR P E) {p1 : Int32} {p2 : Int32} {M : Mem} {r : Int32} (h : f_X11_whereOf p1 p2 M = some r) : CT l shR P E yX11_whereOf bX11_whereOf 4 ((some .int)) 1 21 [.ref (P.2.2.1 0), .int p1, .int p2] (some (.int r)) M M := by
  refine ct_of hW (by decide) (Nat.le_of_ble_eq_true rfl) (fun p e s m args below meth c C ls hl hw => ?_)
  have hx := C.1
  have hb := C.2.1
  replace hl : lv_has ls 4 [(0, .ref (P.2.2.1 0)), (1, .int p1), (2, .int p2)] := hl
  refine lv_iload_n hx hb dX11_whereOf_0 rfl (lv_at hl 2 rfl) ?_
  refine lv_aload_n hx hb dX11_whereOf_1 rfl (lv_at hl 0 rfl) ?_
  refine lv_iload_n hx hb dX11_whereOf_2 rfl (lv_at hl 1 rfl) ?_
  obtain ⟨r1, e2, h⟩ := bnd_some h
  refine wcallV1 (As := [.int p1]) (rest := [.int p2]) C hw (c_X11_comes hW  e2) vlX11_265 ⟨Nat.le_of_ble_eq_true rfl, Nat.le_of_ble_eq_true rfl⟩ (rfl : _ = some (0, 11)) rfl rfl rfl hl.1 (Nat.le_of_ble_eq_true rfl) dX11_whereOf_3 ⟨Nat.zero_le _, Nat.zero_le _⟩ (fun H locs hw => ?_)
  refine lv_icmp_ge (tgt := 11) hx hb dX11_whereOf_6 (by decide) (fun c3 => ?_) (fun c3 => ?_)
  · replace h := (if_pos c3).symm.trans h
    refine lv_iload_n hx hb dX11_whereOf_11 rfl (lv_at hl 2 rfl) ?_
    refine lv_aload_n hx hb dX11_whereOf_12 rfl (lv_at hl 0 rfl) ?_
    refine lv_iload_n hx hb dX11_whereOf_13 rfl (lv_at hl 1 rfl) ?_
    obtain ⟨r4, e5, h⟩ := bnd_some h
    refine wcallV1 (As := [.int p1]) (rest := [.int p2]) C hw (c_X11_comes hW  e5) vlX11_265 ⟨Nat.le_of_ble_eq_true rfl, Nat.le_of_ble_eq_true rfl⟩ (rfl : _ = some (0, 11)) rfl rfl rfl hl.1 (Nat.le_of_ble_eq_true rfl) dX11_whereOf_14 ⟨Nat.zero_le _, Nat.zero_le _⟩ (fun H locs hw => ?_)
    refine lv_isub hx hb dX11_whereOf_17 ?_
    refine lv_aload_n hx hb dX11_whereOf_18 rfl (lv_at hl 0 rfl) ?_
    refine wgetI C hw flX11_246 (rfl : _ = some (0, 11)) dX11_whereOf_19 ?_
    obtain ⟨g6, h⟩ := grd0 h
    refine lv_idiv hx hb dX11_whereOf_22 g6 ?_
    refine lv_topi (fun x7 ex7 => ?_)
    replace h := letv_at ex7 h
    refine lv_istore_n (lv' := [(3, .int x7), (0, .ref (P.2.2.1 0)), (1, .int p1), (2, .int p2)]) hx hb dX11_whereOf_23 rfl hl (by decide) rfl (fun ls hl => ?_)
    refine lv_iload_n hx hb dX11_whereOf_24 rfl (lv_at hl 0 rfl) ?_
    refine lv_aload_n hx hb dX11_whereOf_25 rfl (lv_at hl 1 rfl) ?_
    refine wgetI C hw flX11_252 (rfl : _ = some (0, 11)) dX11_whereOf_26 ?_
    refine lv_icmp_ge (tgt := 36) hx hb dX11_whereOf_29 (by decide) (fun c8 => ?_) (fun c8 => ?_)
    · replace h := (if_pos c8).symm.trans h
      refine lv_bipush (v := 10) hx hb dX11_whereOf_36 (by decide) ?_
      exact wretI_R C hw h dX11_whereOf_38
    · replace h := (if_neg c8).symm.trans h
      refine lv_iload_n hx hb dX11_whereOf_32 rfl (lv_at hl 0 rfl) ?_
      refine lv_goto (tgt := 38) hx hb dX11_whereOf_33 (by decide) ?_
      exact wretI_R C hw h dX11_whereOf_38
  · replace h := (if_neg c3).symm.trans h
    refine lv_iconst (v := (-1)) hx hb dX11_whereOf_9 (by decide) ?_
    exact wretI_R C hw h dX11_whereOf_10
set_option maxRecDepth 100000 in
set_option maxHeartbeats 4000000 in
theorem c_X11_skinOf {l : Launch} {P : Wp} {E : State → Heap → Prop} (hW : Wok shR P E) {p1 : Int32} {p2 : Int32} {M : Mem} {r : Int32} (h : f_X11_skinOf p1 p2 M = some r) : CT l shR P E yX11_skinOf bX11_skinOf 3 ((some .int)) 0 0 [.ref (P.2.2.1 0), .int p1, .int p2] (some (.int r)) M M := by
  refine ct_of hW (by decide) (Nat.le_of_ble_eq_true rfl) (fun p e s m args below meth c C ls hl hw => ?_)
  have hx := C.1
  have hb := C.2.1
  replace hl : lv_has ls 3 [(0, .ref (P.2.2.1 0)), (1, .int p1), (2, .int p2)] := hl
  refine lv_aload_n hx hb dX11_skinOf_0 rfl (lv_at hl 0 rfl) ?_
  refine wgetR (t := 15) C hw flX11_59 (rfl : _ = some (0, 11)) rfl dX11_skinOf_1 ?_
  refine lv_bipush (v := 6) hx hb dX11_skinOf_4 (by decide) ?_
  refine lv_iload_n hx hb dX11_skinOf_6 rfl (lv_at hl 2 rfl) ?_
  refine lv_imul hx hb dX11_skinOf_7 ?_
  refine lv_iload_n hx hb dX11_skinOf_8 rfl (lv_at hl 1 rfl) ?_
  refine lv_iadd hx hb dX11_skinOf_9 ?_
  obtain ⟨g1, h⟩ := grd h
  refine wald C hw (rfl : _ = some (1, 90)) g1 dX11_skinOf_10 ?_
  exact wretI_R C hw h dX11_skinOf_11
set_option maxRecDepth 100000 in
set_option maxHeartbeats 4000000 in
theorem c_X11_coreOf {l : Launch} {P : Wp} {E : State → Heap → Prop} (hW : Wok shR P E) {p1 : Int32} {p2 : Int32} {M : Mem} {r : Int32} (h : f_X11_coreOf p1 p2 M = some r) : CT l shR P E yX11_coreOf bX11_coreOf 3 ((some .int)) 0 0 [.ref (P.2.2.1 0), .int p1, .int p2] (some (.int r)) M M := by
  refine ct_of hW (by decide) (Nat.le_of_ble_eq_true rfl) (fun p e s m args below meth c C ls hl hw => ?_)
  have hx := C.1
  have hb := C.2.1
  replace hl : lv_has ls 3 [(0, .ref (P.2.2.1 0)), (1, .int p1), (2, .int p2)] := hl
  refine lv_aload_n hx hb dX11_coreOf_0 rfl (lv_at hl 0 rfl) ?_
  refine wgetR (t := 16) C hw flX11_62 (rfl : _ = some (0, 11)) rfl dX11_coreOf_1 ?_
  refine lv_bipush (v := 6) hx hb dX11_coreOf_4 (by decide) ?_
  refine lv_iload_n hx hb dX11_coreOf_6 rfl (lv_at hl 2 rfl) ?_
  refine lv_imul hx hb dX11_coreOf_7 ?_
  refine lv_iload_n hx hb dX11_coreOf_8 rfl (lv_at hl 1 rfl) ?_
  refine lv_iadd hx hb dX11_coreOf_9 ?_
  obtain ⟨g1, h⟩ := grd h
  refine wald C hw (rfl : _ = some (1, 90)) g1 dX11_coreOf_10 ?_
  exact wretI_R C hw h dX11_coreOf_11
set_option maxRecDepth 100000 in
set_option maxHeartbeats 4000000 in
theorem c_X11_strainOf {l : Launch} {P : Wp} {E : State → Heap → Prop} (hW : Wok shR P E) {p1 : Int32} {p2 : Int32} {M : Mem} {r : Int32} (h : f_X11_strainOf p1 p2 M = some r) : CT l shR P E yX11_strainOf bX11_strainOf 3 ((some .int)) 1 22 [.ref (P.2.2.1 0), .int p1, .int p2] (some (.int r)) M M := by
  refine ct_of hW (by decide) (Nat.le_of_ble_eq_true rfl) (fun p e s m args below meth c C ls hl hw => ?_)
  have hx := C.1
  have hb := C.2.1
  replace hl : lv_has ls 3 [(0, .ref (P.2.2.1 0)), (1, .int p1), (2, .int p2)] := hl
  refine lv_aload_n hx hb dX11_strainOf_0 rfl (lv_at hl 0 rfl) ?_
  refine lv_iload_n hx hb dX11_strainOf_1 rfl (lv_at hl 1 rfl) ?_
  refine lv_iload_n hx hb dX11_strainOf_2 rfl (lv_at hl 2 rfl) ?_
  obtain ⟨r1, e2, h⟩ := bnd_some h
  refine wcallV1 (As := [.int p1, .int p2]) (rest := []) C hw (c_X11_skinOf hW  e2) vlX11_268 ⟨Nat.le_of_ble_eq_true rfl, Nat.le_of_ble_eq_true rfl⟩ (rfl : _ = some (0, 11)) rfl rfl rfl hl.1 (Nat.le_of_ble_eq_true rfl) dX11_strainOf_3 ⟨Nat.zero_le _, Nat.zero_le _⟩ (fun H locs hw => ?_)
  refine lv_aload_n hx hb dX11_strainOf_6 rfl (lv_at hl 0 rfl) ?_
  refine lv_iload_n hx hb dX11_strainOf_7 rfl (lv_at hl 1 rfl) ?_
  refine lv_iload_n hx hb dX11_strainOf_8 rfl (lv_at hl 2 rfl) ?_
  obtain ⟨r3, e4, h⟩ := bnd_some h
  refine wcallV1 (As := [.int p1, .int p2]) (rest := [.int r1]) C hw (c_X11_coreOf hW  e4) vlX11_271 ⟨Nat.le_of_ble_eq_true rfl, Nat.le_of_ble_eq_true rfl⟩ (rfl : _ = some (0, 11)) rfl rfl rfl hl.1 (Nat.le_of_ble_eq_true rfl) dX11_strainOf_9 ⟨Nat.zero_le _, Nat.zero_le _⟩ (fun H locs hw => ?_)
  refine wcallS1 (As := [.int r1, .int r3]) (rest := []) C hw (c_X11_apart hW  rfl) slX11_274 ⟨Nat.le_of_ble_eq_true rfl, Nat.le_of_ble_eq_true rfl⟩ rfl rfl hl.1 (Nat.le_of_ble_eq_true rfl) dX11_strainOf_12 ⟨Nat.zero_le _, Nat.zero_le _⟩ (fun H locs hw => ?_)
  exact wretI_R C hw h dX11_strainOf_15
set_option maxRecDepth 100000 in
set_option maxHeartbeats 4000000 in
theorem c_X11_pullOf {l : Launch} {P : Wp} {E : State → Heap → Prop} (hW : Wok shR P E) {p1 : Int32} {p2 : Int32} {p3 : Int32} {M : Mem} {r : Int32} (h : f_X11_pullOf p1 p2 p3 M = some r) : CT l shR P E yX11_pullOf bX11_pullOf 7 ((some .int)) 2 47 [.ref (P.2.2.1 0), .int p1, .int p2, .int p3] (some (.int r)) M M := by
  refine ct_of hW (by decide) (Nat.le_of_ble_eq_true rfl) (fun p e s m args below meth c C ls hl hw => ?_)
  have hx := C.1
  have hb := C.2.1
  replace hl : lv_has ls 7 [(0, .ref (P.2.2.1 0)), (1, .int p1), (2, .int p2), (3, .int p3)] := hl
  have cut_79 : ∀ (v4_79 : Int32) (ls : Array Slot) (H : Heap) (locs : List Loc), lv_has ls 7 [(0, .ref (P.2.2.1 0)), (1, .int p1), (2, .int p2), (4, .int v4_79)] → Hw shR P M s H locs → J_X11_pullOf_79 p1 p2 p3 M v4_79 = some r → W p l e { frames := 2, cells := 0, slots := 0, locals := 47 } s m args below meth c H locs 0 0 (MQ below (CQ shR P E (some (.int r)) M) args s 0 0 (wA shR P)) (F0 m 79 ls []) := by
    intro v4_79 ls H locs hl hw h
    refine lv_iload hx hb dX11_pullOf_79 (lv_at hl 3 rfl) ?_
    refine lv_aload_n hx hb dX11_pullOf_81 rfl (lv_at hl 0 rfl) ?_
    refine lv_iload_n hx hb dX11_pullOf_82 rfl (lv_at hl 1 rfl) ?_
    refine lv_iload_n hx hb dX11_pullOf_83 rfl (lv_at hl 2 rfl) ?_
    obtain ⟨r4, e5, h⟩ := bnd_some h
    refine wcallV1 (As := [.int p1, .int p2]) (rest := [.int v4_79]) C hw (c_X11_skinOf hW  e5) vlX11_268 ⟨Nat.le_of_ble_eq_true rfl, Nat.le_of_ble_eq_true rfl⟩ (rfl : _ = some (0, 11)) rfl rfl rfl hl.1 (Nat.le_of_ble_eq_true rfl) dX11_pullOf_84 ⟨Nat.zero_le _, Nat.zero_le _⟩ (fun H locs hw => ?_)
    refine lv_isub hx hb dX11_pullOf_87 ?_
    refine lv_topi (fun x6 ex6 => ?_)
    replace h := letv_at ex6 h
    refine lv_istore (lv' := [(5, .int x6), (0, .ref (P.2.2.1 0)), (1, .int p1), (2, .int p2), (4, .int v4_79)]) hx hb dX11_pullOf_88 hl (by decide) rfl (fun ls hl => ?_)
    refine lv_aload_n hx hb dX11_pullOf_90 rfl (lv_at hl 1 rfl) ?_
    refine wgetI C hw flX11_243 (rfl : _ = some (0, 11)) dX11_pullOf_91 ?_
    refine lv_iconst (v := 3) hx hb dX11_pullOf_94 (by decide) ?_
    refine lv_icmp_ne (tgt := 103) hx hb dX11_pullOf_95 (by decide) (fun c7 => ?_) (fun c7 => ?_)
    · replace h := (if_neg c7).symm.trans h
      refine lv_iload hx hb dX11_pullOf_103 (lv_at hl 0 rfl) ?_
      refine lv_iconst (v := 2) hx hb dX11_pullOf_105 (by decide) ?_
      refine lv_idiv hx hb dX11_pullOf_106 (by decide) ?_
      refine lv_topi (fun x8 ex8 => ?_)
      replace h := letv_at ex8 h
      refine lv_istore (lv' := [(5, .int x8), (0, .ref (P.2.2.1 0)), (1, .int p1), (2, .int p2), (4, .int v4_79)]) hx hb dX11_pullOf_107 hl (by decide) rfl (fun ls hl => ?_)
      refine lv_aload_n hx hb dX11_pullOf_109 rfl (lv_at hl 1 rfl) ?_
      refine wgetI C hw flX11_243 (rfl : _ = some (0, 11)) dX11_pullOf_110 ?_
      refine lv_iconst (v := 1) hx hb dX11_pullOf_113 (by decide) ?_
      refine lv_icmp_ne (tgt := 132) hx hb dX11_pullOf_114 (by decide) (fun c9 => ?_) (fun c9 => ?_)
      · replace h := (if_neg c9).symm.trans h
        refine lv_iload hx hb dX11_pullOf_132 (lv_at hl 0 rfl) ?_
        exact wretI_R C hw h dX11_pullOf_134
      · replace h := (if_pos c9).symm.trans h
        refine lv_bipush (v := 60) hx hb dX11_pullOf_117 (by decide) ?_
        refine lv_bipush (v := (-60)) hx hb dX11_pullOf_119 (by decide) ?_
        refine lv_iload hx hb dX11_pullOf_121 (lv_at hl 0 rfl) ?_
        refine wcallS1 (As := [.int (-60), .int x8]) (rest := [.int 60]) C hw (c_X11_moreOf hW  rfl) slX11_262 ⟨Nat.le_of_ble_eq_true rfl, Nat.le_of_ble_eq_true rfl⟩ rfl rfl hl.1 (Nat.le_of_ble_eq_true rfl) dX11_pullOf_123 ⟨Nat.zero_le _, Nat.zero_le _⟩ (fun H locs hw => ?_)
        refine wcallS1 (As := [.int 60, .int (f_X11_moreOf ((-60) : Int32) x8 M)]) (rest := []) C hw (c_X11_lessOf hW  rfl) slX11_283 ⟨Nat.le_of_ble_eq_true rfl, Nat.le_of_ble_eq_true rfl⟩ rfl rfl hl.1 (Nat.le_of_ble_eq_true rfl) dX11_pullOf_126 ⟨Nat.zero_le _, Nat.zero_le _⟩ (fun H locs hw => ?_)
        refine lv_goto (tgt := 134) hx hb dX11_pullOf_129 (by decide) ?_
        exact wretI_R C hw h dX11_pullOf_134
    · replace h := (if_pos c7).symm.trans h
      refine lv_iload hx hb dX11_pullOf_98 (lv_at hl 0 rfl) ?_
      refine lv_iconst (v := 3) hx hb dX11_pullOf_100 (by decide) ?_
      refine lv_idiv hx hb dX11_pullOf_101 (by decide) ?_
      exact wretI_R C hw h dX11_pullOf_102
  have cut_22 : ∀ (n_22 : Nat) (v4_22 : Int32) (v5_22 : Int32) (v6_22 : Int32) (ls : Array Slot) (H : Heap) (locs : List Loc), lv_has ls 7 [(0, .ref (P.2.2.1 0)), (1, .int p1), (2, .int p2), (3, .int p3), (4, .int v4_22), (5, .int v5_22), (6, .int v6_22)] → Hw shR P M s H locs → lq3 (L_X11_pullOf_22 p1 p2 p3 M) n_22 v4_22 v5_22 v6_22 = some r → W p l e { frames := 2, cells := 0, slots := 0, locals := 47 } s m args below meth c H locs 0 0 (MQ below (CQ shR P E (some (.int r)) M) args s 0 0 (wA shR P)) (F0 m 22 ls []) := by
    intro n_22
    induction n_22 with
    | zero => intro v4_22 v5_22 v6_22 ls H locs hl hw h; cases h
    | succ n_22 ih_22 =>
      intro v4_22 v5_22 v6_22 ls H locs hl hw h
      replace h := lq3_succ h
      refine lv_iload hx hb dX11_pullOf_22 (lv_at hl 6 rfl) ?_
      refine lv_aload_n hx hb dX11_pullOf_24 rfl (lv_at hl 0 rfl) ?_
      obtain ⟨r10, e11, h⟩ := bnd_some h
      refine wcallV1 (As := []) (rest := [.int v6_22]) C hw (c_X11_pieces hW  e11) vlX11_227 ⟨Nat.le_of_ble_eq_true rfl, Nat.le_of_ble_eq_true rfl⟩ (rfl : _ = some (0, 11)) rfl rfl rfl hl.1 (Nat.le_of_ble_eq_true rfl) dX11_pullOf_25 ⟨Nat.zero_le _, Nat.zero_le _⟩ (fun H locs hw => ?_)
      refine lv_icmp_ge (tgt := 72) hx hb dX11_pullOf_28 (by decide) (fun c12 => ?_) (fun c12 => ?_)
      · replace h := (if_pos c12).symm.trans h
        refine lv_iload hx hb dX11_pullOf_72 (lv_at hl 4 rfl) ?_
        refine lv_iload hx hb dX11_pullOf_74 (lv_at hl 5 rfl) ?_
        obtain ⟨g13, h⟩ := grd0 h
        refine lv_idiv hx hb dX11_pullOf_76 g13 ?_
        refine lv_topi (fun x14 ex14 => ?_)
        replace h := letv_at ex14 h
        refine lv_istore (lv' := [(4, .int x14), (0, .ref (P.2.2.1 0)), (1, .int p1), (2, .int p2), (3, .int p3), (5, .int v5_22), (6, .int v6_22)]) hx hb dX11_pullOf_77 hl (by decide) rfl (fun ls hl => ?_)
        exact cut_79 x14 ls _ _ (lv_sub hl [1, 2, 3, 0] rfl) hw h
      · replace h := (if_neg c12).symm.trans h
        refine lv_iload hx hb dX11_pullOf_31 (lv_at hl 6 rfl) ?_
        refine lv_iload_n hx hb dX11_pullOf_33 rfl (lv_at hl 1 rfl) ?_
        refine lv_icmp_eq (tgt := 66) hx hb dX11_pullOf_34 (by decide) (fun c15 => ?_) (fun c15 => ?_)
        · replace h := (if_pos c15).symm.trans h
          refine lv_iinc (v := (v6_22 + 1)) (lv' := [(6, .int (v6_22 + 1)), (0, .ref (P.2.2.1 0)), (1, .int p1), (2, .int p2), (3, .int p3), (4, .int v4_22), (5, .int v5_22)]) (k := 6) hx hb dX11_pullOf_66 hl rfl (congrArg (fun z => v6_22 + z) (by decide)) (by decide) rfl (fun ls hl => ?_)
          refine lv_goto (tgt := 22) hx hb dX11_pullOf_69 (by decide) ?_
          exact ih_22 v4_22 v5_22 (v6_22 + 1) ls _ _ (lv_sub hl [1, 2, 3, 4, 5, 6, 0] rfl) hw h
        · replace h := (if_neg c15).symm.trans h
          refine lv_aload_n hx hb dX11_pullOf_37 rfl (lv_at hl 0 rfl) ?_
          refine lv_iload hx hb dX11_pullOf_38 (lv_at hl 6 rfl) ?_
          refine lv_iload_n hx hb dX11_pullOf_40 rfl (lv_at hl 2 rfl) ?_
          obtain ⟨r16, e17, h⟩ := bnd_some h
          refine wcallV1 (As := [.int v6_22, .int p2]) (rest := []) C hw (c_X11_whereOf hW  e17) vlX11_280 ⟨Nat.le_of_ble_eq_true rfl, Nat.le_of_ble_eq_true rfl⟩ (rfl : _ = some (0, 11)) rfl rfl rfl hl.1 (Nat.le_of_ble_eq_true rfl) dX11_pullOf_41 ⟨Nat.zero_le _, Nat.zero_le _⟩ (fun H locs hw => ?_)
          refine lv_iload_n hx hb dX11_pullOf_44 rfl (lv_at hl 3 rfl) ?_
          refine lv_icmp_eq (tgt := 51) hx hb dX11_pullOf_45 (by decide) (fun c18 => ?_) (fun c18 => ?_)
          · replace h := (if_pos c18).symm.trans h
            refine lv_iload hx hb dX11_pullOf_51 (lv_at hl 4 rfl) ?_
            refine lv_aload_n hx hb dX11_pullOf_53 rfl (lv_at hl 0 rfl) ?_
            refine lv_iload hx hb dX11_pullOf_54 (lv_at hl 6 rfl) ?_
            refine lv_iload_n hx hb dX11_pullOf_56 rfl (lv_at hl 2 rfl) ?_
            obtain ⟨r19, e20, h⟩ := bnd_some h
            refine wcallV1 (As := [.int v6_22, .int p2]) (rest := [.int v4_22]) C hw (c_X11_skinOf hW  e20) vlX11_268 ⟨Nat.le_of_ble_eq_true rfl, Nat.le_of_ble_eq_true rfl⟩ (rfl : _ = some (0, 11)) rfl rfl rfl hl.1 (Nat.le_of_ble_eq_true rfl) dX11_pullOf_57 ⟨Nat.zero_le _, Nat.zero_le _⟩ (fun H locs hw => ?_)
            refine lv_iadd hx hb dX11_pullOf_60 ?_
            refine lv_topi (fun x21 ex21 => ?_)
            replace h := letv_at ex21 h
            refine lv_istore (lv' := [(4, .int x21), (0, .ref (P.2.2.1 0)), (1, .int p1), (2, .int p2), (3, .int p3), (5, .int v5_22), (6, .int v6_22)]) hx hb dX11_pullOf_61 hl (by decide) rfl (fun ls hl => ?_)
            refine lv_iinc (v := (v5_22 + 1)) (lv' := [(5, .int (v5_22 + 1)), (4, .int x21), (0, .ref (P.2.2.1 0)), (1, .int p1), (2, .int p2), (3, .int p3), (6, .int v6_22)]) (k := 5) hx hb dX11_pullOf_63 hl rfl (congrArg (fun z => v5_22 + z) (by decide)) (by decide) rfl (fun ls hl => ?_)
            refine lv_iinc (v := (v6_22 + 1)) (lv' := [(6, .int (v6_22 + 1)), (5, .int (v5_22 + 1)), (4, .int x21), (0, .ref (P.2.2.1 0)), (1, .int p1), (2, .int p2), (3, .int p3)]) (k := 6) hx hb dX11_pullOf_66 hl rfl (congrArg (fun z => v6_22 + z) (by decide)) (by decide) rfl (fun ls hl => ?_)
            refine lv_goto (tgt := 22) hx hb dX11_pullOf_69 (by decide) ?_
            exact ih_22 x21 (v5_22 + 1) (v6_22 + 1) ls _ _ (lv_sub hl [3, 4, 5, 6, 2, 1, 0] rfl) hw h
          · replace h := (if_neg c18).symm.trans h
            refine lv_goto (tgt := 66) hx hb dX11_pullOf_48 (by decide) ?_
            refine lv_iinc (v := (v6_22 + 1)) (lv' := [(6, .int (v6_22 + 1)), (0, .ref (P.2.2.1 0)), (1, .int p1), (2, .int p2), (3, .int p3), (4, .int v4_22), (5, .int v5_22)]) (k := 6) hx hb dX11_pullOf_66 hl rfl (congrArg (fun z => v6_22 + z) (by decide)) (by decide) rfl (fun ls hl => ?_)
            refine lv_goto (tgt := 22) hx hb dX11_pullOf_69 (by decide) ?_
            exact ih_22 v4_22 v5_22 (v6_22 + 1) ls _ _ (lv_sub hl [1, 2, 3, 4, 5, 6, 0] rfl) hw h
  refine lv_aload_n hx hb dX11_pullOf_0 rfl (lv_at hl 0 rfl) ?_
  refine lv_iload_n hx hb dX11_pullOf_1 rfl (lv_at hl 3 rfl) ?_
  refine lv_iload_n hx hb dX11_pullOf_2 rfl (lv_at hl 2 rfl) ?_
  obtain ⟨r1, e2, h⟩ := bnd_some h
  refine wcallV1 (As := [.int p3, .int p2]) (rest := []) C hw (c_X11_airOf hW  e2) vlX11_277 ⟨Nat.le_of_ble_eq_true rfl, Nat.le_of_ble_eq_true rfl⟩ (rfl : _ = some (0, 11)) rfl rfl rfl hl.1 (Nat.le_of_ble_eq_true rfl) dX11_pullOf_3 ⟨Nat.zero_le _, Nat.zero_le _⟩ (fun H locs hw => ?_)
  refine lv_istore (lv' := [(4, .int r1), (0, .ref (P.2.2.1 0)), (1, .int p1), (2, .int p2), (3, .int p3)]) hx hb dX11_pullOf_6 hl (by decide) rfl (fun ls hl => ?_)
  refine lv_aload_n hx hb dX11_pullOf_8 rfl (lv_at hl 1 rfl) ?_
  refine wgetI C hw flX11_243 (rfl : _ = some (0, 11)) dX11_pullOf_9 ?_
  refine lv_iconst (v := 2) hx hb dX11_pullOf_12 (by decide) ?_
  refine lv_icmp_ne (tgt := 79) hx hb dX11_pullOf_13 (by decide) (fun c3 => ?_) (fun c3 => ?_)
  · replace h := (if_neg c3).symm.trans h
    exact cut_79 r1 ls _ _ (lv_sub hl [1, 2, 3, 0] rfl) hw h
  · replace h := (if_pos c3).symm.trans h
    refine lv_iconst (v := 1) hx hb dX11_pullOf_16 (by decide) ?_
    refine lv_istore (lv' := [(5, .int 1), (4, .int r1), (0, .ref (P.2.2.1 0)), (1, .int p1), (2, .int p2), (3, .int p3)]) hx hb dX11_pullOf_17 hl (by decide) rfl (fun ls hl => ?_)
    refine lv_iconst (v := 0) hx hb dX11_pullOf_19 (by decide) ?_
    refine lv_istore (lv' := [(6, .int 0), (5, .int 1), (4, .int r1), (0, .ref (P.2.2.1 0)), (1, .int p1), (2, .int p2), (3, .int p3)]) hx hb dX11_pullOf_20 hl (by decide) rfl (fun ls hl => ?_)
    exact cut_22 FU r1 1 0 ls _ _ (lv_sub hl [3, 4, 5, 6, 2, 1, 0] rfl) hw h
set_option maxRecDepth 100000 in
set_option maxHeartbeats 4000000 in
theorem c_X11_goesOn {l : Launch} {P : Wp} {E : State → Heap → Prop} (hW : Wok shR P E) {p1 : Int32} {p2 : Int32} {M : Mem} {M' : Mem} (h : f_X11_goesOn p1 p2 M = some M') : CT l shR P E yX11_goesOn bX11_goesOn 7 (none) 3 73 [.ref (P.2.2.1 0), .int p1, .int p2] none M M' := by
  refine ct_of hW (by decide) (Nat.le_of_ble_eq_true rfl) (fun p e s m args below meth c C ls hl hw => ?_)
  have hx := C.1
  have hb := C.2.1
  replace hl : lv_has ls 7 [(0, .ref (P.2.2.1 0)), (1, .int p1), (2, .int p2)] := hl
  have cut_247 : ∀ (v6_247 : Int32) (M_247 : Mem) (ls : Array Slot) (H : Heap) (locs : List Loc), lv_has ls 7 [(0, .ref (P.2.2.1 0)), (1, .int p1), (2, .int p2), (6, .int v6_247)] → Hw shR P M_247 s H locs → J_X11_goesOn_247 p1 p2 v6_247 M_247 = some M' → W p l e { frames := 3, cells := 0, slots := 0, locals := 73 } s m args below meth c H locs 0 0 (MQ below (CQ shR P E none M') args s 0 0 (wA shR P)) (F0 m 247 ls []) := by
    intro v6_247 M_247 ls H locs hl hw h
    refine lv_aload_n hx hb dX11_goesOn_247 rfl (lv_at hl 0 rfl) ?_
    refine wgetR (t := 19) C hw flX11_71 (rfl : _ = some (0, 11)) rfl dX11_goesOn_248 ?_
    refine lv_iload_n hx hb dX11_goesOn_251 rfl (lv_at hl 1 rfl) ?_
    refine lv_iload_n hx hb dX11_goesOn_252 rfl (lv_at hl 2 rfl) ?_
    refine lv_iconst (v := 1) hx hb dX11_goesOn_253 (by decide) ?_
    refine lv_iadd hx hb dX11_goesOn_254 ?_
    obtain ⟨g41, h⟩ := grd h
    refine wast C hw (rfl : _ = some (1, 6)) g41 dX11_goesOn_255 (fun M40 eM40 H locs hw => ?_)
    replace h := letv_at eM40 h
    refine lv_aload_n hx hb dX11_goesOn_256 rfl (lv_at hl 0 rfl) ?_
    refine wgetR (t := 20) C hw flX11_74 (rfl : _ = some (0, 11)) rfl dX11_goesOn_257 ?_
    refine lv_iload_n hx hb dX11_goesOn_260 rfl (lv_at hl 1 rfl) ?_
    refine lv_iload hx hb dX11_goesOn_261 (lv_at hl 3 rfl) ?_
    refine lv_if_eq (tgt := 270) hx hb dX11_goesOn_263 (by decide) (fun c42 => ?_) (fun c42 => ?_)
    · replace h := (if_pos c42).symm.trans h
      refine lv_iconst (v := 2) hx hb dX11_goesOn_270 (by decide) ?_
      obtain ⟨g44, h⟩ := grd h
      refine wast C hw (rfl : _ = some (1, 6)) g44 dX11_goesOn_271 (fun M43 eM43 H locs hw => ?_)
      replace h := letv_at eM43 h
      exact wretV_W C hw h dX11_goesOn_272
    · replace h := (if_neg c42).symm.trans h
      refine lv_iconst (v := 1) hx hb dX11_goesOn_266 (by decide) ?_
      refine lv_goto (tgt := 271) hx hb dX11_goesOn_267 (by decide) ?_
      obtain ⟨g46, h⟩ := grd h
      refine wast C hw (rfl : _ = some (1, 6)) g46 dX11_goesOn_271 (fun M45 eM45 H locs hw => ?_)
      replace h := letv_at eM45 h
      exact wretV_W C hw h dX11_goesOn_272
  have cut_210 : ∀ (w0_210 : Int32) (M_210 : Mem) (ls : Array Slot) (H : Heap) (locs : List Loc), lv_has ls 7 [(0, .ref (P.2.2.1 0)), (1, .int p1), (2, .int p2)] → Hw shR P M_210 s H locs → J_X11_goesOn_210 p1 p2 w0_210 M_210 = some M' → W p l e { frames := 3, cells := 0, slots := 0, locals := 73 } s m args below meth c H locs 0 0 (MQ below (CQ shR P E none M') args s 0 0 (wA shR P)) (F0 m 210 ls [.int w0_210]) := by
    intro w0_210 M_210 ls H locs hl hw h
    refine lv_istore (lv' := [(5, .int w0_210), (0, .ref (P.2.2.1 0)), (1, .int p1), (2, .int p2)]) hx hb dX11_goesOn_210 hl (by decide) rfl (fun ls hl => ?_)
    refine lv_aload_n hx hb dX11_goesOn_212 rfl (lv_at hl 1 rfl) ?_
    refine lv_iload_n hx hb dX11_goesOn_213 rfl (lv_at hl 2 rfl) ?_
    refine lv_iload_n hx hb dX11_goesOn_214 rfl (lv_at hl 3 rfl) ?_
    refine lv_iconst (v := 1) hx hb dX11_goesOn_215 (by decide) ?_
    refine lv_iadd hx hb dX11_goesOn_216 ?_
    obtain ⟨r35, e36, h⟩ := bnd_some h
    refine wcallV1 (As := [.int p1, .int (p2 + (1 : Int32))]) (rest := []) C hw (c_X11_strainOf hW  e36) vlX11_290 ⟨Nat.le_of_ble_eq_true rfl, Nat.le_of_ble_eq_true rfl⟩ (rfl : _ = some (0, 11)) rfl rfl rfl hl.1 (Nat.le_of_ble_eq_true rfl) dX11_goesOn_217 ⟨Nat.zero_le _, Nat.zero_le _⟩ (fun H locs hw => ?_)
    refine lv_aload_n hx hb dX11_goesOn_220 rfl (lv_at hl 1 rfl) ?_
    refine wgetR (t := 14) C hw flX11_56 (rfl : _ = some (0, 11)) rfl dX11_goesOn_221 ?_
    refine lv_iload_n hx hb dX11_goesOn_224 rfl (lv_at hl 2 rfl) ?_
    obtain ⟨g37, h⟩ := grd h
    refine wald C hw (rfl : _ = some (1, 6)) g37 dX11_goesOn_225 ?_
    refine lv_icmp_le (tgt := 233) hx hb dX11_goesOn_226 (by decide) (fun c38 => ?_) (fun c38 => ?_)
    · replace h := (if_pos c38).symm.trans h
      refine lv_iconst (v := 0) hx hb dX11_goesOn_233 (by decide) ?_
      refine lv_istore (lv' := [(6, .int 0), (5, .int w0_210), (0, .ref (P.2.2.1 0)), (1, .int p1), (2, .int p2)]) hx hb dX11_goesOn_234 hl (by decide) rfl (fun ls hl => ?_)
      refine lv_iload hx hb dX11_goesOn_236 (lv_at hl 0 rfl) ?_
      refine lv_if_ne (tgt := 247) hx hb dX11_goesOn_238 (by decide) (fun c39 => ?_) (fun c39 => ?_)
      · replace h := (if_neg c39).symm.trans h
        exact cut_247 0 M_210 ls _ _ (lv_sub hl [2, 3, 4, 0] rfl) hw h
      · replace h := (if_pos c39).symm.trans h
        refine lv_iload hx hb dX11_goesOn_241 (lv_at hl 1 rfl) ?_
        refine lv_if_ne (tgt := 247) hx hb dX11_goesOn_243 (by decide) (fun c47 => ?_) (fun c47 => ?_)
        · replace h := (if_neg c47).symm.trans h
          exact cut_247 0 M_210 ls _ _ (lv_sub hl [2, 3, 4, 0] rfl) hw h
        · replace h := (if_pos c47).symm.trans h
          exact wretV_W C hw h dX11_goesOn_246
    · replace h := (if_neg c38).symm.trans h
      refine lv_iconst (v := 1) hx hb dX11_goesOn_229 (by decide) ?_
      refine lv_goto (tgt := 234) hx hb dX11_goesOn_230 (by decide) ?_
      refine lv_istore (lv' := [(6, .int 1), (5, .int w0_210), (0, .ref (P.2.2.1 0)), (1, .int p1), (2, .int p2)]) hx hb dX11_goesOn_234 hl (by decide) rfl (fun ls hl => ?_)
      refine lv_iload hx hb dX11_goesOn_236 (lv_at hl 0 rfl) ?_
      refine lv_if_ne (tgt := 247) hx hb dX11_goesOn_238 (by decide) (fun c48 => ?_) (fun c48 => ?_)
      · replace h := (if_neg c48).symm.trans h
        exact cut_247 1 M_210 ls _ _ (lv_sub hl [2, 3, 4, 0] rfl) hw h
      · replace h := (if_pos c48).symm.trans h
        refine lv_iload hx hb dX11_goesOn_241 (lv_at hl 1 rfl) ?_
        refine lv_if_ne (tgt := 247) hx hb dX11_goesOn_243 (by decide) (fun c49 => ?_) (fun c49 => ?_)
        · replace h := (if_neg c49).symm.trans h
          exact cut_247 1 M_210 ls _ _ (lv_sub hl [2, 3, 4, 0] rfl) hw h
        · replace h := (if_pos c49).symm.trans h
          exact wretV_W C hw h dX11_goesOn_246
  have cut_165 : ∀ (M_165 : Mem) (ls : Array Slot) (H : Heap) (locs : List Loc), lv_has ls 7 [(0, .ref (P.2.2.1 0)), (1, .int p1), (2, .int p2)] → Hw shR P M_165 s H locs → J_X11_goesOn_165 p1 p2 M_165 = some M' → W p l e { frames := 3, cells := 0, slots := 0, locals := 73 } s m args below meth c H locs 0 0 (MQ below (CQ shR P E none M') args s 0 0 (wA shR P)) (F0 m 165 ls []) := by
    intro M_165 ls H locs hl hw h
    refine lv_aload_n hx hb dX11_goesOn_165 rfl (lv_at hl 0 rfl) ?_
    refine lv_iload_n hx hb dX11_goesOn_166 rfl (lv_at hl 1 rfl) ?_
    refine lv_iload_n hx hb dX11_goesOn_167 rfl (lv_at hl 2 rfl) ?_
    refine lv_iconst (v := 1) hx hb dX11_goesOn_168 (by decide) ?_
    refine lv_iadd hx hb dX11_goesOn_169 ?_
    obtain ⟨r32, e33, h⟩ := bnd_some h
    refine wcallV1 (As := [.int p1, .int (p2 + (1 : Int32))]) (rest := []) C hw (c_X11_whereOf hW  e33) vlX11_280 ⟨Nat.le_of_ble_eq_true rfl, Nat.le_of_ble_eq_true rfl⟩ (rfl : _ = some (0, 11)) rfl rfl rfl hl.1 (Nat.le_of_ble_eq_true rfl) dX11_goesOn_170 ⟨Nat.zero_le _, Nat.zero_le _⟩ (fun H locs hw => ?_)
    refine lv_bipush (v := 10) hx hb dX11_goesOn_173 (by decide) ?_
    refine lv_icmp_ne (tgt := 209) hx hb dX11_goesOn_175 (by decide) (fun c34 => ?_) (fun c34 => ?_)
    · replace h := (if_neg c34).symm.trans h
      refine lv_iconst (v := 0) hx hb dX11_goesOn_209 (by decide) ?_
      exact cut_210 0 M_165 ls _ _ (lv_sub hl [0, 1, 2] rfl) hw h
    · replace h := (if_pos c34).symm.trans h
      refine lv_aload_n hx hb dX11_goesOn_178 rfl (lv_at hl 0 rfl) ?_
      refine wgetR (t := 17) C hw flX11_65 (rfl : _ = some (0, 11)) rfl dX11_goesOn_179 ?_
      refine lv_iload_n hx hb dX11_goesOn_182 rfl (lv_at hl 1 rfl) ?_
      obtain ⟨g50, h⟩ := grd h
      refine wald C hw (rfl : _ = some (1, 6)) g50 dX11_goesOn_183 ?_
      refine lv_iconst (v := (-1)) hx hb dX11_goesOn_184 (by decide) ?_
      refine lv_icmp_eq (tgt := 209) hx hb dX11_goesOn_185 (by decide) (fun c51 => ?_) (fun c51 => ?_)
      · replace h := (if_pos c51).symm.trans h
        refine lv_iconst (v := 0) hx hb dX11_goesOn_209 (by decide) ?_
        exact cut_210 0 M_165 ls _ _ (lv_sub hl [0, 1, 2] rfl) hw h
      · replace h := (if_neg c51).symm.trans h
        refine lv_aload_n hx hb dX11_goesOn_188 rfl (lv_at hl 0 rfl) ?_
        refine wgetR (t := 17) C hw flX11_65 (rfl : _ = some (0, 11)) rfl dX11_goesOn_189 ?_
        refine lv_iload_n hx hb dX11_goesOn_192 rfl (lv_at hl 1 rfl) ?_
        obtain ⟨g52, h⟩ := grd h
        refine wald C hw (rfl : _ = some (1, 6)) g52 dX11_goesOn_193 ?_
        refine lv_aload_n hx hb dX11_goesOn_194 rfl (lv_at hl 0 rfl) ?_
        refine wgetR (t := 14) C hw flX11_56 (rfl : _ = some (0, 11)) rfl dX11_goesOn_195 ?_
        refine lv_iload_n hx hb dX11_goesOn_198 rfl (lv_at hl 1 rfl) ?_
        obtain ⟨g53, h⟩ := grd h
        refine wald C hw (rfl : _ = some (1, 6)) g53 dX11_goesOn_199 ?_
        refine lv_iconst (v := 2) hx hb dX11_goesOn_200 (by decide) ?_
        refine lv_idiv hx hb dX11_goesOn_201 (by decide) ?_
        refine lv_icmp_le (tgt := 209) hx hb dX11_goesOn_202 (by decide) (fun c54 => ?_) (fun c54 => ?_)
        · replace h := (if_pos c54).symm.trans h
          refine lv_iconst (v := 0) hx hb dX11_goesOn_209 (by decide) ?_
          exact cut_210 0 M_165 ls _ _ (lv_sub hl [0, 1, 2] rfl) hw h
        · replace h := (if_neg c54).symm.trans h
          refine lv_iconst (v := 1) hx hb dX11_goesOn_205 (by decide) ?_
          refine lv_goto (tgt := 210) hx hb dX11_goesOn_206 (by decide) ?_
          exact cut_210 1 M_165 ls _ _ (lv_sub hl [0, 1, 2] rfl) hw h
  refine lv_bipush (v := 6) hx hb dX11_goesOn_0 (by decide) ?_
  refine lv_iload_n hx hb dX11_goesOn_2 rfl (lv_at hl 2 rfl) ?_
  refine lv_imul hx hb dX11_goesOn_3 ?_
  refine lv_bipush (v := 6) hx hb dX11_goesOn_4 (by decide) ?_
  refine lv_iadd hx hb dX11_goesOn_6 ?_
  refine lv_iload_n hx hb dX11_goesOn_7 rfl (lv_at hl 1 rfl) ?_
  refine lv_iadd hx hb dX11_goesOn_8 ?_
  refine lv_topi (fun x1 ex1 => ?_)
  replace h := letv_at ex1 h
  refine lv_istore_n (lv' := [(3, .int x1), (0, .ref (P.2.2.1 0)), (1, .int p1), (2, .int p2)]) hx hb dX11_goesOn_9 rfl hl (by decide) rfl (fun ls hl => ?_)
  refine lv_aload_n hx hb dX11_goesOn_10 rfl (lv_at hl 1 rfl) ?_
  refine wgetR (t := 15) C hw flX11_59 (rfl : _ = some (0, 11)) rfl dX11_goesOn_11 ?_
  refine lv_iload_n hx hb dX11_goesOn_14 rfl (lv_at hl 0 rfl) ?_
  refine lv_aload_n hx hb dX11_goesOn_15 rfl (lv_at hl 1 rfl) ?_
  refine lv_iload_n hx hb dX11_goesOn_16 rfl (lv_at hl 2 rfl) ?_
  refine lv_iload_n hx hb dX11_goesOn_17 rfl (lv_at hl 3 rfl) ?_
  obtain ⟨r2, e3, h⟩ := bnd_some h
  refine wcallV1 (As := [.int p1, .int p2]) (rest := [.int x1, .ref (P.2.2.1 15)]) C hw (c_X11_skinOf hW  e3) vlX11_268 ⟨Nat.le_of_ble_eq_true rfl, Nat.le_of_ble_eq_true rfl⟩ (rfl : _ = some (0, 11)) rfl rfl rfl hl.1 (Nat.le_of_ble_eq_true rfl) dX11_goesOn_18 ⟨Nat.zero_le _, Nat.zero_le _⟩ (fun H locs hw => ?_)
  obtain ⟨g5, h⟩ := grd h
  refine wast C hw (rfl : _ = some (1, 90)) g5 dX11_goesOn_21 (fun M4 eM4 H locs hw => ?_)
  replace h := letv_at eM4 h
  refine lv_aload_n hx hb dX11_goesOn_22 rfl (lv_at hl 1 rfl) ?_
  refine wgetR (t := 16) C hw flX11_62 (rfl : _ = some (0, 11)) rfl dX11_goesOn_23 ?_
  refine lv_iload_n hx hb dX11_goesOn_26 rfl (lv_at hl 0 rfl) ?_
  refine lv_aload_n hx hb dX11_goesOn_27 rfl (lv_at hl 1 rfl) ?_
  refine lv_iload_n hx hb dX11_goesOn_28 rfl (lv_at hl 2 rfl) ?_
  refine lv_iload_n hx hb dX11_goesOn_29 rfl (lv_at hl 3 rfl) ?_
  obtain ⟨r6, e7, h⟩ := bnd_some h
  refine wcallV1 (As := [.int p1, .int p2]) (rest := [.int x1, .ref (P.2.2.1 16)]) C hw (c_X11_coreOf hW  e7) vlX11_271 ⟨Nat.le_of_ble_eq_true rfl, Nat.le_of_ble_eq_true rfl⟩ (rfl : _ = some (0, 11)) rfl rfl rfl hl.1 (Nat.le_of_ble_eq_true rfl) dX11_goesOn_30 ⟨Nat.zero_le _, Nat.zero_le _⟩ (fun H locs hw => ?_)
  obtain ⟨g9, h⟩ := grd h
  refine wast C hw (rfl : _ = some (1, 90)) g9 dX11_goesOn_33 (fun M8 eM8 H locs hw => ?_)
  replace h := letv_at eM8 h
  refine lv_aload_n hx hb dX11_goesOn_34 rfl (lv_at hl 1 rfl) ?_
  refine lv_iload_n hx hb dX11_goesOn_35 rfl (lv_at hl 2 rfl) ?_
  refine lv_iload_n hx hb dX11_goesOn_36 rfl (lv_at hl 3 rfl) ?_
  obtain ⟨r10, e11, h⟩ := bnd_some h
  refine wcallV1 (As := [.int p1, .int p2]) (rest := []) C hw (c_X11_whereOf hW  e11) vlX11_280 ⟨Nat.le_of_ble_eq_true rfl, Nat.le_of_ble_eq_true rfl⟩ (rfl : _ = some (0, 11)) rfl rfl rfl hl.1 (Nat.le_of_ble_eq_true rfl) dX11_goesOn_37 ⟨Nat.zero_le _, Nat.zero_le _⟩ (fun H locs hw => ?_)
  refine lv_istore (lv' := [(4, .int r10), (3, .int x1), (0, .ref (P.2.2.1 0)), (1, .int p1), (2, .int p2)]) hx hb dX11_goesOn_40 hl (by decide) rfl (fun ls hl => ?_)
  refine lv_iload hx hb dX11_goesOn_42 (lv_at hl 0 rfl) ?_
  refine lv_iconst (v := (-1)) hx hb dX11_goesOn_44 (by decide) ?_
  refine lv_icmp_eq (tgt := 65) hx hb dX11_goesOn_45 (by decide) (fun c12 => ?_) (fun c12 => ?_)
  · replace h := (if_pos c12).symm.trans h
    exact wretV_W C hw h dX11_goesOn_65
  · replace h := (if_neg c12).symm.trans h
    refine lv_iload hx hb dX11_goesOn_48 (lv_at hl 0 rfl) ?_
    refine lv_bipush (v := 10) hx hb dX11_goesOn_50 (by decide) ?_
    refine lv_icmp_eq (tgt := 65) hx hb dX11_goesOn_52 (by decide) (fun c13 => ?_) (fun c13 => ?_)
    · replace h := (if_pos c13).symm.trans h
      exact wretV_W C hw h dX11_goesOn_65
    · replace h := (if_neg c13).symm.trans h
      refine lv_aload_n hx hb dX11_goesOn_55 rfl (lv_at hl 2 rfl) ?_
      refine wgetR (t := 19) C hw flX11_71 (rfl : _ = some (0, 11)) rfl dX11_goesOn_56 ?_
      refine lv_iload_n hx hb dX11_goesOn_59 rfl (lv_at hl 3 rfl) ?_
      obtain ⟨g14, h⟩ := grd h
      refine wald C hw (rfl : _ = some (1, 6)) g14 dX11_goesOn_60 ?_
      refine lv_iconst (v := (-1)) hx hb dX11_goesOn_61 (by decide) ?_
      refine lv_icmp_eq (tgt := 66) hx hb dX11_goesOn_62 (by decide) (fun c15 => ?_) (fun c15 => ?_)
      · replace h := (if_pos c15).symm.trans h
        refine lv_aload_n hx hb dX11_goesOn_66 rfl (lv_at hl 2 rfl) ?_
        refine wgetR (t := 15) C hw flX11_59 (rfl : _ = some (0, 11)) rfl dX11_goesOn_67 ?_
        refine lv_iload_n hx hb dX11_goesOn_70 rfl (lv_at hl 1 rfl) ?_
        refine lv_dup2_11 hx hb dX11_goesOn_71 rfl rfl ?_
        obtain ⟨g16, h⟩ := grd h
        refine wald C hw (rfl : _ = some (1, 90)) g16 dX11_goesOn_72 ?_
        refine lv_aload_n hx hb dX11_goesOn_73 rfl (lv_at hl 2 rfl) ?_
        refine lv_iload_n hx hb dX11_goesOn_74 rfl (lv_at hl 3 rfl) ?_
        refine lv_iload_n hx hb dX11_goesOn_75 rfl (lv_at hl 4 rfl) ?_
        refine lv_iload hx hb dX11_goesOn_76 (lv_at hl 0 rfl) ?_
        obtain ⟨r17, e18, h⟩ := bnd_some h
        refine wcallV1 (As := [.int p1, .int p2, .int r10]) (rest := [.int (M8.1 15 (ix x1)), .int x1, .ref (P.2.2.1 15)]) C hw (c_X11_pullOf hW  e18) vlX11_286 ⟨Nat.le_of_ble_eq_true rfl, Nat.le_of_ble_eq_true rfl⟩ (rfl : _ = some (0, 11)) rfl rfl rfl hl.1 (Nat.le_of_ble_eq_true rfl) dX11_goesOn_78 ⟨Nat.zero_le _, Nat.zero_le _⟩ (fun H locs hw => ?_)
        refine lv_iadd hx hb dX11_goesOn_81 ?_
        obtain ⟨g20, h⟩ := grd h
        refine wast C hw (rfl : _ = some (1, 90)) g20 dX11_goesOn_82 (fun M19 eM19 H locs hw => ?_)
        replace h := letv_at eM19 h
        refine lv_aload_n hx hb dX11_goesOn_83 rfl (lv_at hl 2 rfl) ?_
        refine wgetR (t := 16) C hw flX11_62 (rfl : _ = some (0, 11)) rfl dX11_goesOn_84 ?_
        refine lv_iload_n hx hb dX11_goesOn_87 rfl (lv_at hl 1 rfl) ?_
        refine lv_dup2_11 hx hb dX11_goesOn_88 rfl rfl ?_
        obtain ⟨g21, h⟩ := grd h
        refine wald C hw (rfl : _ = some (1, 90)) g21 dX11_goesOn_89 ?_
        refine lv_aload_n hx hb dX11_goesOn_90 rfl (lv_at hl 2 rfl) ?_
        refine wgetR (t := 15) C hw flX11_59 (rfl : _ = some (0, 11)) rfl dX11_goesOn_91 ?_
        refine lv_iload_n hx hb dX11_goesOn_94 rfl (lv_at hl 1 rfl) ?_
        obtain ⟨g22, h⟩ := grd h
        refine wald C hw (rfl : _ = some (1, 90)) g22 dX11_goesOn_95 ?_
        refine lv_aload_n hx hb dX11_goesOn_96 rfl (lv_at hl 2 rfl) ?_
        refine wgetR (t := 16) C hw flX11_62 (rfl : _ = some (0, 11)) rfl dX11_goesOn_97 ?_
        refine lv_iload_n hx hb dX11_goesOn_100 rfl (lv_at hl 1 rfl) ?_
        obtain ⟨g23, h⟩ := grd h
        refine wald C hw (rfl : _ = some (1, 90)) g23 dX11_goesOn_101 ?_
        refine lv_isub hx hb dX11_goesOn_102 ?_
        refine lv_aload_n hx hb dX11_goesOn_103 rfl (lv_at hl 2 rfl) ?_
        refine wgetR (t := 13) C hw flX11_53 (rfl : _ = some (0, 11)) rfl dX11_goesOn_104 ?_
        refine lv_iload_n hx hb dX11_goesOn_107 rfl (lv_at hl 3 rfl) ?_
        obtain ⟨g24, h⟩ := grd h
        refine wald C hw (rfl : _ = some (1, 6)) g24 dX11_goesOn_108 ?_
        obtain ⟨g25, h⟩ := grd0 h
        refine lv_idiv hx hb dX11_goesOn_109 g25 ?_
        refine lv_iadd hx hb dX11_goesOn_110 ?_
        obtain ⟨g27, h⟩ := grd h
        refine wast C hw (rfl : _ = some (1, 90)) g27 dX11_goesOn_111 (fun M26 eM26 H locs hw => ?_)
        replace h := letv_at eM26 h
        refine lv_aload_n hx hb dX11_goesOn_112 rfl (lv_at hl 2 rfl) ?_
        refine lv_iload_n hx hb dX11_goesOn_113 rfl (lv_at hl 3 rfl) ?_
        refine lv_iload_n hx hb dX11_goesOn_114 rfl (lv_at hl 4 rfl) ?_
        obtain ⟨r28, e29, h⟩ := bnd_some h
        refine wcallV1 (As := [.int p1, .int p2]) (rest := []) C hw (c_X11_coreOf hW  e29) vlX11_271 ⟨Nat.le_of_ble_eq_true rfl, Nat.le_of_ble_eq_true rfl⟩ (rfl : _ = some (0, 11)) rfl rfl rfl hl.1 (Nat.le_of_ble_eq_true rfl) dX11_goesOn_115 ⟨Nat.zero_le _, Nat.zero_le _⟩ (fun H locs hw => ?_)
        refine lv_aload_n hx hb dX11_goesOn_118 rfl (lv_at hl 2 rfl) ?_
        refine wgetR (t := 7) C hw flX11_34 (rfl : _ = some (0, 11)) rfl dX11_goesOn_119 ?_
        refine lv_iconst (v := 4) hx hb dX11_goesOn_122 (by decide) ?_
        obtain ⟨g30, h⟩ := grd h
        refine wald C hw (rfl : _ = some (1, 40)) g30 dX11_goesOn_123 ?_
        refine lv_icmp_lt (tgt := 165) hx hb dX11_goesOn_124 (by decide) (fun c31 => ?_) (fun c31 => ?_)
        · replace h := (if_pos c31).symm.trans h
          exact cut_165 M26 ls _ _ (lv_sub hl [2, 3, 4] rfl) hw h
        · replace h := (if_neg c31).symm.trans h
          refine lv_aload_n hx hb dX11_goesOn_127 rfl (lv_at hl 2 rfl) ?_
          refine wgetR (t := 16) C hw flX11_62 (rfl : _ = some (0, 11)) rfl dX11_goesOn_128 ?_
          refine lv_iload_n hx hb dX11_goesOn_131 rfl (lv_at hl 1 rfl) ?_
          obtain ⟨g55, h⟩ := grd h
          refine wald C hw (rfl : _ = some (1, 90)) g55 dX11_goesOn_132 ?_
          refine lv_aload_n hx hb dX11_goesOn_133 rfl (lv_at hl 2 rfl) ?_
          refine wgetR (t := 7) C hw flX11_34 (rfl : _ = some (0, 11)) rfl dX11_goesOn_134 ?_
          refine lv_iconst (v := 4) hx hb dX11_goesOn_137 (by decide) ?_
          obtain ⟨g56, h⟩ := grd h
          refine wald C hw (rfl : _ = some (1, 40)) g56 dX11_goesOn_138 ?_
          refine lv_icmp_ge (tgt := 165) hx hb dX11_goesOn_139 (by decide) (fun c57 => ?_) (fun c57 => ?_)
          · replace h := (if_pos c57).symm.trans h
            exact cut_165 M26 ls _ _ (lv_sub hl [2, 3, 4] rfl) hw h
          · replace h := (if_neg c57).symm.trans h
            refine lv_aload_n hx hb dX11_goesOn_142 rfl (lv_at hl 2 rfl) ?_
            refine wgetR (t := 17) C hw flX11_65 (rfl : _ = some (0, 11)) rfl dX11_goesOn_143 ?_
            refine lv_iload_n hx hb dX11_goesOn_146 rfl (lv_at hl 3 rfl) ?_
            refine lv_aload_n hx hb dX11_goesOn_147 rfl (lv_at hl 2 rfl) ?_
            refine lv_iload_n hx hb dX11_goesOn_148 rfl (lv_at hl 3 rfl) ?_
            refine lv_iload_n hx hb dX11_goesOn_149 rfl (lv_at hl 4 rfl) ?_
            refine lv_iconst (v := 1) hx hb dX11_goesOn_150 (by decide) ?_
            refine lv_iadd hx hb dX11_goesOn_151 ?_
            obtain ⟨r58, e59, h⟩ := bnd_some h
            refine wcallV1 (As := [.int p1, .int (p2 + (1 : Int32))]) (rest := [.int p1, .ref (P.2.2.1 17)]) C hw (c_X11_strainOf hW  e59) vlX11_290 ⟨Nat.le_of_ble_eq_true rfl, Nat.le_of_ble_eq_true rfl⟩ (rfl : _ = some (0, 11)) rfl rfl rfl hl.1 (Nat.le_of_ble_eq_true rfl) dX11_goesOn_152 ⟨Nat.zero_le _, Nat.zero_le _⟩ (fun H locs hw => ?_)
            obtain ⟨g61, h⟩ := grd h
            refine wast C hw (rfl : _ = some (1, 6)) g61 dX11_goesOn_155 (fun M60 eM60 H locs hw => ?_)
            replace h := letv_at eM60 h
            refine lv_aload_n hx hb dX11_goesOn_156 rfl (lv_at hl 2 rfl) ?_
            refine wgetR (t := 18) C hw flX11_68 (rfl : _ = some (0, 11)) rfl dX11_goesOn_157 ?_
            refine lv_iload_n hx hb dX11_goesOn_160 rfl (lv_at hl 3 rfl) ?_
            refine lv_iload_n hx hb dX11_goesOn_161 rfl (lv_at hl 4 rfl) ?_
            refine lv_iconst (v := 1) hx hb dX11_goesOn_162 (by decide) ?_
            refine lv_iadd hx hb dX11_goesOn_163 ?_
            obtain ⟨g63, h⟩ := grd h
            refine wast C hw (rfl : _ = some (1, 6)) g63 dX11_goesOn_164 (fun M62 eM62 H locs hw => ?_)
            replace h := letv_at eM62 h
            exact cut_165 M62 ls _ _ (lv_sub hl [2, 3, 4] rfl) hw h
      · replace h := (if_neg c15).symm.trans h
        exact wretV_W C hw h dX11_goesOn_65
set_option maxRecDepth 100000 in
set_option maxHeartbeats 4000000 in
theorem c_X11_runs {l : Launch} {P : Wp} {E : State → Heap → Prop} (hW : Wok shR P E) {M : Mem} {M' : Mem} (h : f_X11_runs M = some M') : CT l shR P E yX11_runs bX11_runs 3 (none) 4 99 [.ref (P.2.2.1 0)] none M M' := by
  refine ct_of hW (by decide) (Nat.le_of_ble_eq_true rfl) (fun p e s m args below meth c C ls hl hw => ?_)
  have hx := C.1
  have hb := C.2.1
  replace hl : lv_has ls 3 [(0, .ref (P.2.2.1 0))] := hl
  have cut_74 : ∀ (n_74 : Nat) (v1_74 : Int32) (M_74 : Mem) (ls : Array Slot) (H : Heap) (locs : List Loc), lv_has ls 3 [(0, .ref (P.2.2.1 0)), (1, .int v1_74)] → Hw shR P M_74 s H locs → lq2 (L_X11_runs_74) n_74 v1_74 M_74 = some M' → W p l e { frames := 4, cells := 0, slots := 0, locals := 99 } s m args below meth c H locs 0 0 (MQ below (CQ shR P E none M') args s 0 0 (wA shR P)) (F0 m 74 ls []) := by
    intro n_74
    induction n_74 with
    | zero => intro v1_74 M_74 ls H locs hl hw h; cases h
    | succ n_74 ih_74 =>
      intro v1_74 M_74 ls H locs hl hw h
      replace h := lq2_succ h
      have cut_84 : ∀ (v1_84 : Int32) (n_84 : Nat) (v2_84 : Int32) (M_84 : Mem) (ls : Array Slot) (H : Heap) (locs : List Loc), lv_has ls 3 [(0, .ref (P.2.2.1 0)), (1, .int v1_84), (2, .int v2_84)] → Hw shR P M_84 s H locs → lq2 (L_X11_runs_84 (lq2 (L_X11_runs_74) n_74) v1_84) n_84 v2_84 M_84 = some M' → W p l e { frames := 4, cells := 0, slots := 0, locals := 99 } s m args below meth c H locs 0 0 (MQ below (CQ shR P E none M') args s 0 0 (wA shR P)) (F0 m 84 ls []) := by
        intro v1_84 n_84
        induction n_84 with
        | zero => intro v2_84 M_84 ls H locs hl hw h; cases h
        | succ n_84 ih_84 =>
          intro v2_84 M_84 ls H locs hl hw h
          replace h := lq2_succ h
          refine lv_iload_n hx hb dX11_runs_84 rfl (lv_at hl 2 rfl) ?_
          refine lv_aload_n hx hb dX11_runs_85 rfl (lv_at hl 0 rfl) ?_
          obtain ⟨r7, e8, h⟩ := bnd_some h
          refine wcallV1 (As := []) (rest := [.int v2_84]) C hw (c_X11_pieces hW  e8) vlX11_227 ⟨Nat.le_of_ble_eq_true rfl, Nat.le_of_ble_eq_true rfl⟩ (rfl : _ = some (0, 11)) rfl rfl rfl hl.1 (Nat.le_of_ble_eq_true rfl) dX11_runs_86 ⟨Nat.zero_le _, Nat.zero_le _⟩ (fun H locs hw => ?_)
          refine lv_icmp_ge (tgt := 104) hx hb dX11_runs_89 (by decide) (fun c9 => ?_) (fun c9 => ?_)
          · replace h := (if_pos c9).symm.trans h
            refine lv_iinc (v := (v1_84 + 1)) (lv' := [(1, .int (v1_84 + 1)), (0, .ref (P.2.2.1 0)), (2, .int v2_84)]) (k := 1) hx hb dX11_runs_104 hl rfl (congrArg (fun z => v1_84 + z) (by decide)) (by decide) rfl (fun ls hl => ?_)
            refine lv_goto (tgt := 74) hx hb dX11_runs_107 (by decide) ?_
            exact ih_74 (v1_84 + 1) M_84 ls _ _ (lv_sub hl [1, 0] rfl) hw h
          · replace h := (if_neg c9).symm.trans h
            refine lv_aload_n hx hb dX11_runs_92 rfl (lv_at hl 0 rfl) ?_
            refine lv_iload_n hx hb dX11_runs_93 rfl (lv_at hl 2 rfl) ?_
            refine lv_iload_n hx hb dX11_runs_94 rfl (lv_at hl 1 rfl) ?_
            obtain ⟨M12, e11, h⟩ := bnd_some h
            refine wcallV0 (As := [.int v2_84, .int v1_84]) (rest := []) C hw (c_X11_goesOn hW  e11) vlX11_293 ⟨Nat.le_of_ble_eq_true rfl, Nat.le_of_ble_eq_true rfl⟩ (rfl : _ = some (0, 11)) rfl rfl rfl hl.1 (Nat.le_of_ble_eq_true rfl) dX11_runs_95 ⟨Nat.zero_le _, Nat.zero_le _⟩ (fun H locs hw => ?_)
            refine lv_iinc (v := (v2_84 + 1)) (lv' := [(2, .int (v2_84 + 1)), (0, .ref (P.2.2.1 0)), (1, .int v1_84)]) (k := 2) hx hb dX11_runs_98 hl rfl (congrArg (fun z => v2_84 + z) (by decide)) (by decide) rfl (fun ls hl => ?_)
            refine lv_goto (tgt := 84) hx hb dX11_runs_101 (by decide) ?_
            exact ih_84 (v2_84 + 1) M12 ls _ _ (lv_sub hl [1, 2, 0] rfl) hw h
      refine lv_iload_n hx hb dX11_runs_74 rfl (lv_at hl 1 rfl) ?_
      refine lv_aload_n hx hb dX11_runs_75 rfl (lv_at hl 0 rfl) ?_
      obtain ⟨r4, e5, h⟩ := bnd_some h
      refine wcallV1 (As := []) (rest := [.int v1_74]) C hw (c_X11_steps hW  e5) vlX11_234 ⟨Nat.le_of_ble_eq_true rfl, Nat.le_of_ble_eq_true rfl⟩ (rfl : _ = some (0, 11)) rfl rfl rfl hl.1 (Nat.le_of_ble_eq_true rfl) dX11_runs_76 ⟨Nat.zero_le _, Nat.zero_le _⟩ (fun H locs hw => ?_)
      refine lv_icmp_ge (tgt := 110) hx hb dX11_runs_79 (by decide) (fun c6 => ?_) (fun c6 => ?_)
      · replace h := (if_pos c6).symm.trans h
        exact wretV_W C hw h dX11_runs_110
      · replace h := (if_neg c6).symm.trans h
        refine lv_iconst (v := 0) hx hb dX11_runs_82 (by decide) ?_
        refine lv_istore_n (lv' := [(2, .int 0), (0, .ref (P.2.2.1 0)), (1, .int v1_74)]) hx hb dX11_runs_83 rfl hl (by decide) rfl (fun ls hl => ?_)
        exact cut_84 v1_74 FU 0 M_74 ls _ _ (lv_sub hl [1, 2, 0] rfl) hw h
  have cut_2 : ∀ (n_2 : Nat) (v1_2 : Int32) (M_2 : Mem) (ls : Array Slot) (H : Heap) (locs : List Loc), lv_has ls 3 [(0, .ref (P.2.2.1 0)), (1, .int v1_2)] → Hw shR P M_2 s H locs → lq2 (L_X11_runs_2) n_2 v1_2 M_2 = some M' → W p l e { frames := 4, cells := 0, slots := 0, locals := 99 } s m args below meth c H locs 0 0 (MQ below (CQ shR P E none M') args s 0 0 (wA shR P)) (F0 m 2 ls []) := by
    intro n_2
    induction n_2 with
    | zero => intro v1_2 M_2 ls H locs hl hw h; cases h
    | succ n_2 ih_2 =>
      intro v1_2 M_2 ls H locs hl hw h
      replace h := lq2_succ h
      refine lv_iload_n hx hb dX11_runs_2 rfl (lv_at hl 1 rfl) ?_
      refine lv_aload_n hx hb dX11_runs_3 rfl (lv_at hl 0 rfl) ?_
      obtain ⟨r1, e2, h⟩ := bnd_some h
      refine wcallV1 (As := []) (rest := [.int v1_2]) C hw (c_X11_pieces hW  e2) vlX11_227 ⟨Nat.le_of_ble_eq_true rfl, Nat.le_of_ble_eq_true rfl⟩ (rfl : _ = some (0, 11)) rfl rfl rfl hl.1 (Nat.le_of_ble_eq_true rfl) dX11_runs_4 ⟨Nat.zero_le _, Nat.zero_le _⟩ (fun H locs hw => ?_)
      refine lv_icmp_ge (tgt := 72) hx hb dX11_runs_7 (by decide) (fun c3 => ?_) (fun c3 => ?_)
      · replace h := (if_pos c3).symm.trans h
        refine lv_iconst (v := 0) hx hb dX11_runs_72 (by decide) ?_
        refine lv_istore_n (lv' := [(1, .int 0), (0, .ref (P.2.2.1 0))]) hx hb dX11_runs_73 rfl hl (by decide) rfl (fun ls hl => ?_)
        exact cut_74 FU 0 M_2 ls _ _ (lv_sub hl [1, 0] rfl) hw h
      · replace h := (if_neg c3).symm.trans h
        refine lv_aload_n hx hb dX11_runs_10 rfl (lv_at hl 0 rfl) ?_
        refine wgetR (t := 15) C hw flX11_59 (rfl : _ = some (0, 11)) rfl dX11_runs_11 ?_
        refine lv_iload_n hx hb dX11_runs_14 rfl (lv_at hl 1 rfl) ?_
        refine lv_aload_n hx hb dX11_runs_15 rfl (lv_at hl 0 rfl) ?_
        refine wgetR (t := 9) C hw flX11_40 (rfl : _ = some (0, 11)) rfl dX11_runs_16 ?_
        refine lv_iconst (v := 4) hx hb dX11_runs_19 (by decide) ?_
        refine lv_iload_n hx hb dX11_runs_20 rfl (lv_at hl 1 rfl) ?_
        refine lv_imul hx hb dX11_runs_21 ?_
        obtain ⟨g13, h⟩ := grd h
        refine wald C hw (rfl : _ = some (1, 120)) g13 dX11_runs_22 ?_
        obtain ⟨g15, h⟩ := grd h
        refine wast C hw (rfl : _ = some (1, 90)) g15 dX11_runs_23 (fun M14 eM14 H locs hw => ?_)
        replace h := letv_at eM14 h
        refine lv_aload_n hx hb dX11_runs_24 rfl (lv_at hl 0 rfl) ?_
        refine wgetR (t := 16) C hw flX11_62 (rfl : _ = some (0, 11)) rfl dX11_runs_25 ?_
        refine lv_iload_n hx hb dX11_runs_28 rfl (lv_at hl 1 rfl) ?_
        refine lv_aload_n hx hb dX11_runs_29 rfl (lv_at hl 0 rfl) ?_
        refine wgetR (t := 9) C hw flX11_40 (rfl : _ = some (0, 11)) rfl dX11_runs_30 ?_
        refine lv_iconst (v := 4) hx hb dX11_runs_33 (by decide) ?_
        refine lv_iload_n hx hb dX11_runs_34 rfl (lv_at hl 1 rfl) ?_
        refine lv_imul hx hb dX11_runs_35 ?_
        obtain ⟨g16, h⟩ := grd h
        refine wald C hw (rfl : _ = some (1, 120)) g16 dX11_runs_36 ?_
        obtain ⟨g18, h⟩ := grd h
        refine wast C hw (rfl : _ = some (1, 90)) g18 dX11_runs_37 (fun M17 eM17 H locs hw => ?_)
        replace h := letv_at eM17 h
        refine lv_aload_n hx hb dX11_runs_38 rfl (lv_at hl 0 rfl) ?_
        refine wgetR (t := 17) C hw flX11_65 (rfl : _ = some (0, 11)) rfl dX11_runs_39 ?_
        refine lv_iload_n hx hb dX11_runs_42 rfl (lv_at hl 1 rfl) ?_
        refine lv_iconst (v := (-1)) hx hb dX11_runs_43 (by decide) ?_
        obtain ⟨g20, h⟩ := grd h
        refine wast C hw (rfl : _ = some (1, 6)) g20 dX11_runs_44 (fun M19 eM19 H locs hw => ?_)
        replace h := letv_at eM19 h
        refine lv_aload_n hx hb dX11_runs_45 rfl (lv_at hl 0 rfl) ?_
        refine wgetR (t := 18) C hw flX11_68 (rfl : _ = some (0, 11)) rfl dX11_runs_46 ?_
        refine lv_iload_n hx hb dX11_runs_49 rfl (lv_at hl 1 rfl) ?_
        refine lv_iconst (v := (-1)) hx hb dX11_runs_50 (by decide) ?_
        obtain ⟨g22, h⟩ := grd h
        refine wast C hw (rfl : _ = some (1, 6)) g22 dX11_runs_51 (fun M21 eM21 H locs hw => ?_)
        replace h := letv_at eM21 h
        refine lv_aload_n hx hb dX11_runs_52 rfl (lv_at hl 0 rfl) ?_
        refine wgetR (t := 19) C hw flX11_71 (rfl : _ = some (0, 11)) rfl dX11_runs_53 ?_
        refine lv_iload_n hx hb dX11_runs_56 rfl (lv_at hl 1 rfl) ?_
        refine lv_iconst (v := (-1)) hx hb dX11_runs_57 (by decide) ?_
        obtain ⟨g24, h⟩ := grd h
        refine wast C hw (rfl : _ = some (1, 6)) g24 dX11_runs_58 (fun M23 eM23 H locs hw => ?_)
        replace h := letv_at eM23 h
        refine lv_aload_n hx hb dX11_runs_59 rfl (lv_at hl 0 rfl) ?_
        refine wgetR (t := 20) C hw flX11_74 (rfl : _ = some (0, 11)) rfl dX11_runs_60 ?_
        refine lv_iload_n hx hb dX11_runs_63 rfl (lv_at hl 1 rfl) ?_
        refine lv_iconst (v := 0) hx hb dX11_runs_64 (by decide) ?_
        obtain ⟨g26, h⟩ := grd h
        refine wast C hw (rfl : _ = some (1, 6)) g26 dX11_runs_65 (fun M25 eM25 H locs hw => ?_)
        replace h := letv_at eM25 h
        refine lv_iinc (v := (v1_2 + 1)) (lv' := [(1, .int (v1_2 + 1)), (0, .ref (P.2.2.1 0))]) (k := 1) hx hb dX11_runs_66 hl rfl (congrArg (fun z => v1_2 + z) (by decide)) (by decide) rfl (fun ls hl => ?_)
        refine lv_goto (tgt := 2) hx hb dX11_runs_69 (by decide) ?_
        exact ih_2 (v1_2 + 1) M25 ls _ _ (lv_sub hl [1, 0] rfl) hw h
  refine lv_iconst (v := 0) hx hb dX11_runs_0 (by decide) ?_
  refine lv_istore_n (lv' := [(1, .int 0), (0, .ref (P.2.2.1 0))]) hx hb dX11_runs_1 rfl hl (by decide) rfl (fun ls hl => ?_)
  exact cut_2 FU 0 M ls _ _ (lv_sub hl [1, 0] rfl) hw h
set_option maxRecDepth 100000 in
set_option maxHeartbeats 4000000 in
theorem c_X11_laysNow {l : Launch} {P : Wp} {E : State → Heap → Prop} (hW : Wok shR P E) {M : Mem} {M' : Mem} (h : f_X11_laysNow M = some M') : CT l shR P E yX11_laysNow bX11_laysNow 1 (none) 5 121 [.ref (P.2.2.1 0)] none M M' := by
  refine ct_of hW (by decide) (Nat.le_of_ble_eq_true rfl) (fun p e s m args below meth c C ls hl hw => ?_)
  have hx := C.1
  have hb := C.2.1
  replace hl : lv_has ls 1 [(0, .ref (P.2.2.1 0))] := hl
  refine lv_aload_n hx hb dX11_laysNow_0 rfl (lv_at hl 0 rfl) ?_
  obtain ⟨M3, e2, h⟩ := bnd_some h
  refine wcallV0 (As := []) (rest := []) C hw (c_X11_lays hW  e2) vlX11_296 ⟨Nat.le_of_ble_eq_true rfl, Nat.le_of_ble_eq_true rfl⟩ (rfl : _ = some (0, 11)) rfl rfl rfl hl.1 (Nat.le_of_ble_eq_true rfl) dX11_laysNow_1 ⟨Nat.zero_le _, Nat.zero_le _⟩ (fun H locs hw => ?_)
  refine lv_aload_n hx hb dX11_laysNow_4 rfl (lv_at hl 0 rfl) ?_
  obtain ⟨M6, e5, h⟩ := bnd_some h
  refine wcallV0 (As := []) (rest := []) C hw (c_X11_runs hW  e5) vlX11_299 ⟨Nat.le_of_ble_eq_true rfl, Nat.le_of_ble_eq_true rfl⟩ (rfl : _ = some (0, 11)) rfl rfl rfl hl.1 (Nat.le_of_ble_eq_true rfl) dX11_laysNow_5 ⟨Nat.zero_le _, Nat.zero_le _⟩ (fun H locs hw => ?_)
  exact wretV_W C hw h dX11_laysNow_8
set_option maxRecDepth 100000 in
set_option maxHeartbeats 4000000 in
theorem c_X11_soundNow {l : Launch} {P : Wp} {E : State → Heap → Prop} (hW : Wok shR P E) {M : Mem} {r : Int32} (h : f_X11_soundNow M = some r) : CT l shR P E yX11_soundNow bX11_soundNow 3 ((some .int)) 1 20 [.ref (P.2.2.1 0)] (some (.int r)) M M := by
  refine ct_of hW (by decide) (Nat.le_of_ble_eq_true rfl) (fun p e s m args below meth c C ls hl hw => ?_)
  have hx := C.1
  have hb := C.2.1
  replace hl : lv_has ls 3 [(0, .ref (P.2.2.1 0))] := hl
  have cut_4 : ∀ (n_4 : Nat) (v1_4 : Int32) (v2_4 : Int32) (ls : Array Slot) (H : Heap) (locs : List Loc), lv_has ls 3 [(0, .ref (P.2.2.1 0)), (1, .int v1_4), (2, .int v2_4)] → Hw shR P M s H locs → lq2 (L_X11_soundNow_4 M) n_4 v1_4 v2_4 = some r → W p l e { frames := 1, cells := 0, slots := 0, locals := 20 } s m args below meth c H locs 0 0 (MQ below (CQ shR P E (some (.int r)) M) args s 0 0 (wA shR P)) (F0 m 4 ls []) := by
    intro n_4
    induction n_4 with
    | zero => intro v1_4 v2_4 ls H locs hl hw h; cases h
    | succ n_4 ih_4 =>
      intro v1_4 v2_4 ls H locs hl hw h
      replace h := lq2_succ h
      refine lv_iload_n hx hb dX11_soundNow_4 rfl (lv_at hl 2 rfl) ?_
      refine lv_aload_n hx hb dX11_soundNow_5 rfl (lv_at hl 0 rfl) ?_
      obtain ⟨r1, e2, h⟩ := bnd_some h
      refine wcallV1 (As := []) (rest := [.int v2_4]) C hw (c_X11_pieces hW  e2) vlX11_227 ⟨Nat.le_of_ble_eq_true rfl, Nat.le_of_ble_eq_true rfl⟩ (rfl : _ = some (0, 11)) rfl rfl rfl hl.1 (Nat.le_of_ble_eq_true rfl) dX11_soundNow_6 ⟨Nat.zero_le _, Nat.zero_le _⟩ (fun H locs hw => ?_)
      refine lv_icmp_ge (tgt := 38) hx hb dX11_soundNow_9 (by decide) (fun c3 => ?_) (fun c3 => ?_)
      · replace h := (if_pos c3).symm.trans h
        refine lv_iload_n hx hb dX11_soundNow_38 rfl (lv_at hl 1 rfl) ?_
        exact wretI_R C hw h dX11_soundNow_39
      · replace h := (if_neg c3).symm.trans h
        refine lv_iload_n hx hb dX11_soundNow_12 rfl (lv_at hl 1 rfl) ?_
        refine lv_aload_n hx hb dX11_soundNow_13 rfl (lv_at hl 0 rfl) ?_
        refine wgetR (t := 19) C hw flX11_71 (rfl : _ = some (0, 11)) rfl dX11_soundNow_14 ?_
        refine lv_iload_n hx hb dX11_soundNow_17 rfl (lv_at hl 2 rfl) ?_
        obtain ⟨g4, h⟩ := grd h
        refine wald C hw (rfl : _ = some (1, 6)) g4 dX11_soundNow_18 ?_
        refine lv_iconst (v := (-1)) hx hb dX11_soundNow_19 (by decide) ?_
        refine lv_icmp_ne (tgt := 29) hx hb dX11_soundNow_20 (by decide) (fun c5 => ?_) (fun c5 => ?_)
        · replace h := (if_neg c5).symm.trans h
          refine lv_iconst (v := 0) hx hb dX11_soundNow_29 (by decide) ?_
          refine lv_ior hx hb dX11_soundNow_30 ?_
          refine lv_topi (fun x6 ex6 => ?_)
          replace h := letv_at ex6 h
          refine lv_istore_n (lv' := [(1, .int x6), (0, .ref (P.2.2.1 0)), (2, .int v2_4)]) hx hb dX11_soundNow_31 rfl hl (by decide) rfl (fun ls hl => ?_)
          refine lv_iinc (v := (v2_4 + 1)) (lv' := [(2, .int (v2_4 + 1)), (1, .int x6), (0, .ref (P.2.2.1 0))]) (k := 2) hx hb dX11_soundNow_32 hl rfl (congrArg (fun z => v2_4 + z) (by decide)) (by decide) rfl (fun ls hl => ?_)
          refine lv_goto (tgt := 4) hx hb dX11_soundNow_35 (by decide) ?_
          exact ih_4 x6 (v2_4 + 1) ls _ _ (lv_sub hl [2, 1, 0] rfl) hw h
        · replace h := (if_pos c5).symm.trans h
          refine lv_iconst (v := 1) hx hb dX11_soundNow_23 (by decide) ?_
          refine lv_iload_n hx hb dX11_soundNow_24 rfl (lv_at hl 2 rfl) ?_
          refine lv_ishl hx hb dX11_soundNow_25 ?_
          refine lv_goto (tgt := 30) hx hb dX11_soundNow_26 (by decide) ?_
          refine lv_ior hx hb dX11_soundNow_30 ?_
          refine lv_topi (fun x7 ex7 => ?_)
          replace h := letv_at ex7 h
          refine lv_istore_n (lv' := [(1, .int x7), (0, .ref (P.2.2.1 0)), (2, .int v2_4)]) hx hb dX11_soundNow_31 rfl hl (by decide) rfl (fun ls hl => ?_)
          refine lv_iinc (v := (v2_4 + 1)) (lv' := [(2, .int (v2_4 + 1)), (1, .int x7), (0, .ref (P.2.2.1 0))]) (k := 2) hx hb dX11_soundNow_32 hl rfl (congrArg (fun z => v2_4 + z) (by decide)) (by decide) rfl (fun ls hl => ?_)
          refine lv_goto (tgt := 4) hx hb dX11_soundNow_35 (by decide) ?_
          exact ih_4 x7 (v2_4 + 1) ls _ _ (lv_sub hl [2, 1, 0] rfl) hw h
  refine lv_iconst (v := 0) hx hb dX11_soundNow_0 (by decide) ?_
  refine lv_istore_n (lv' := [(1, .int 0), (0, .ref (P.2.2.1 0))]) hx hb dX11_soundNow_1 rfl hl (by decide) rfl (fun ls hl => ?_)
  refine lv_iconst (v := 0) hx hb dX11_soundNow_2 (by decide) ?_
  refine lv_istore_n (lv' := [(2, .int 0), (1, .int 0), (0, .ref (P.2.2.1 0))]) hx hb dX11_soundNow_3 rfl hl (by decide) rfl (fun ls hl => ?_)
  exact cut_4 FU 0 0 ls _ _ (lv_sub hl [2, 1, 0] rfl) hw h
set_option maxRecDepth 100000 in
set_option maxHeartbeats 4000000 in
theorem c_X11_hasCome {l : Launch} {P : Wp} {E : State → Heap → Prop} (hW : Wok shR P E) {p1 : Int32} {p2 : Int32} {M : Mem} {r : Int32} (h : f_X11_hasCome p1 p2 M = some r) : CT l shR P E yX11_hasCome bX11_hasCome 3 ((some .boolean)) 1 21 [.ref (P.2.2.1 0), .int p1, .int p2] (some (.int r)) M M := by
  refine ct_of hW (by decide) (Nat.le_of_ble_eq_true rfl) (fun p e s m args below meth c C ls hl hw => ?_)
  have hx := C.1
  have hb := C.2.1
  replace hl : lv_has ls 3 [(0, .ref (P.2.2.1 0)), (1, .int p1), (2, .int p2)] := hl
  refine lv_iload_n hx hb dX11_hasCome_0 rfl (lv_at hl 2 rfl) ?_
  refine lv_aload_n hx hb dX11_hasCome_1 rfl (lv_at hl 0 rfl) ?_
  refine lv_iload_n hx hb dX11_hasCome_2 rfl (lv_at hl 1 rfl) ?_
  obtain ⟨r1, e2, h⟩ := bnd_some h
  refine wcallV1 (As := [.int p1]) (rest := [.int p2]) C hw (c_X11_comes hW  e2) vlX11_265 ⟨Nat.le_of_ble_eq_true rfl, Nat.le_of_ble_eq_true rfl⟩ (rfl : _ = some (0, 11)) rfl rfl rfl hl.1 (Nat.le_of_ble_eq_true rfl) dX11_hasCome_3 ⟨Nat.zero_le _, Nat.zero_le _⟩ (fun H locs hw => ?_)
  refine lv_icmp_lt (tgt := 13) hx hb dX11_hasCome_6 (by decide) (fun c3 => ?_) (fun c3 => ?_)
  · replace h := (if_pos c3).symm.trans h
    refine lv_iconst (v := 0) hx hb dX11_hasCome_13 (by decide) ?_
    exact wretZ_R C hw (Or.inl rfl) h dX11_hasCome_14
  · replace h := (if_neg c3).symm.trans h
    refine lv_iconst (v := 1) hx hb dX11_hasCome_9 (by decide) ?_
    refine lv_goto (tgt := 14) hx hb dX11_hasCome_10 (by decide) ?_
    exact wretZ_R C hw (Or.inr rfl) h dX11_hasCome_14
set_option maxRecDepth 100000 in
set_option maxHeartbeats 4000000 in
theorem c_X11_isWhole {l : Launch} {P : Wp} {E : State → Heap → Prop} (hW : Wok shR P E) {p1 : Int32} {p2 : Int32} {M : Mem} {r : Int32} (h : f_X11_isWhole p1 p2 M = some r) : CT l shR P E yX11_isWhole bX11_isWhole 3 ((some .boolean)) 0 0 [.ref (P.2.2.1 0), .int p1, .int p2] (some (.int r)) M M := by
  refine ct_of hW (by decide) (Nat.le_of_ble_eq_true rfl) (fun p e s m args below meth c C ls hl hw => ?_)
  have hx := C.1
  have hb := C.2.1
  replace hl : lv_has ls 3 [(0, .ref (P.2.2.1 0)), (1, .int p1), (2, .int p2)] := hl
  refine lv_aload_n hx hb dX11_isWhole_0 rfl (lv_at hl 0 rfl) ?_
  refine wgetR (t := 19) C hw flX11_71 (rfl : _ = some (0, 11)) rfl dX11_isWhole_1 ?_
  refine lv_iload_n hx hb dX11_isWhole_4 rfl (lv_at hl 1 rfl) ?_
  obtain ⟨g1, h⟩ := grd h
  refine wald C hw (rfl : _ = some (1, 6)) g1 dX11_isWhole_5 ?_
  refine lv_iconst (v := (-1)) hx hb dX11_isWhole_6 (by decide) ?_
  refine lv_icmp_eq (tgt := 20) hx hb dX11_isWhole_7 (by decide) (fun c2 => ?_) (fun c2 => ?_)
  · replace h := (if_pos c2).symm.trans h
    refine lv_iconst (v := 1) hx hb dX11_isWhole_20 (by decide) ?_
    refine lv_goto (tgt := 25) hx hb dX11_isWhole_21 (by decide) ?_
    exact wretZ_R C hw (Or.inr rfl) h dX11_isWhole_25
  · replace h := (if_neg c2).symm.trans h
    refine lv_aload_n hx hb dX11_isWhole_10 rfl (lv_at hl 0 rfl) ?_
    refine wgetR (t := 19) C hw flX11_71 (rfl : _ = some (0, 11)) rfl dX11_isWhole_11 ?_
    refine lv_iload_n hx hb dX11_isWhole_14 rfl (lv_at hl 1 rfl) ?_
    obtain ⟨g3, h⟩ := grd h
    refine wald C hw (rfl : _ = some (1, 6)) g3 dX11_isWhole_15 ?_
    refine lv_iload_n hx hb dX11_isWhole_16 rfl (lv_at hl 2 rfl) ?_
    refine lv_icmp_le (tgt := 24) hx hb dX11_isWhole_17 (by decide) (fun c4 => ?_) (fun c4 => ?_)
    · replace h := (if_pos c4).symm.trans h
      refine lv_iconst (v := 0) hx hb dX11_isWhole_24 (by decide) ?_
      exact wretZ_R C hw (Or.inl rfl) h dX11_isWhole_25
    · replace h := (if_neg c4).symm.trans h
      refine lv_iconst (v := 1) hx hb dX11_isWhole_20 (by decide) ?_
      refine lv_goto (tgt := 25) hx hb dX11_isWhole_21 (by decide) ?_
      exact wretZ_R C hw (Or.inr rfl) h dX11_isWhole_25
set_option maxRecDepth 100000 in
set_option maxHeartbeats 4000000 in
theorem c_X11_zone {l : Launch} {P : Wp} {E : State → Heap → Prop} (hW : Wok shR P E) {p1 : Int32} {M : Mem} {r : Int32} {M' : Mem} (h : f_X11_zone p1 M = some (r, M')) : CT l shR P E yX11_zone bX11_zone 2 ((some .int)) 2 46 [.ref (P.2.2.1 0), .int p1] (some (.int r)) M M' := by
  refine ct_of hW (by decide) (Nat.le_of_ble_eq_true rfl) (fun p e s m args below meth c C ls hl hw => ?_)
  have hx := C.1
  have hb := C.2.1
  replace hl : lv_has ls 2 [(0, .ref (P.2.2.1 0)), (1, .int p1)] := hl
  refine lv_aload_n hx hb dX11_zone_0 rfl (lv_at hl 0 rfl) ?_
  refine lv_iconst (v := 0) hx hb dX11_zone_1 (by decide) ?_
  refine wputI C hw fpX11_77 (rfl : _ = some (0, 11)) dX11_zone_2 (fun M1 eM1 H locs hw => ?_)
  replace h := letv_at eM1 h
  refine lv_aload_n hx hb dX11_zone_5 rfl (lv_at hl 0 rfl) ?_
  refine lv_iload_n hx hb dX11_zone_6 rfl (lv_at hl 1 rfl) ?_
  obtain ⟨r2, e3, h⟩ := bnd_some h
  refine wcallV1 (As := [.int p1]) (rest := []) C hw (c_X11_isZone hW  e3) vlX11_302 ⟨Nat.le_of_ble_eq_true rfl, Nat.le_of_ble_eq_true rfl⟩ (rfl : _ = some (0, 11)) rfl rfl rfl hl.1 (Nat.le_of_ble_eq_true rfl) dX11_zone_7 ⟨Nat.zero_le _, Nat.zero_le _⟩ (fun H locs hw => ?_)
  refine lv_if_eq (tgt := 22) hx hb dX11_zone_10 (by decide) (fun c4 => ?_) (fun c4 => ?_)
  · replace h := (if_pos c4).symm.trans h
    refine lv_bipush (v := (-2)) hx hb dX11_zone_22 (by decide) ?_
    exact wretI_W C hw h dX11_zone_24
  · replace h := (if_neg c4).symm.trans h
    refine lv_aload_n hx hb dX11_zone_13 rfl (lv_at hl 0 rfl) ?_
    refine wgetR (t := 8) C hw flX11_37 (rfl : _ = some (0, 11)) rfl dX11_zone_14 ?_
    refine lv_iload_n hx hb dX11_zone_17 rfl (lv_at hl 1 rfl) ?_
    obtain ⟨g5, h⟩ := grd h
    refine wald C hw (rfl : _ = some (1, 35)) g5 dX11_zone_18 ?_
    refine lv_goto (tgt := 24) hx hb dX11_zone_19 (by decide) ?_
    exact wretI_W C hw h dX11_zone_24
set_option maxRecDepth 100000 in
set_option maxHeartbeats 4000000 in
theorem c_X11_piece {l : Launch} {P : Wp} {E : State → Heap → Prop} (hW : Wok shR P E) {p1 : Int32} {p2 : Int32} {M : Mem} {r : Int32} {M' : Mem} (h : f_X11_piece p1 p2 M = some (r, M')) : CT l shR P E yX11_piece bX11_piece 3 ((some .int)) 2 47 [.ref (P.2.2.1 0), .int p1, .int p2] (some (.int r)) M M' := by
  refine ct_of hW (by decide) (Nat.le_of_ble_eq_true rfl) (fun p e s m args below meth c C ls hl hw => ?_)
  have hx := C.1
  have hb := C.2.1
  replace hl : lv_has ls 3 [(0, .ref (P.2.2.1 0)), (1, .int p1), (2, .int p2)] := hl
  refine lv_aload_n hx hb dX11_piece_0 rfl (lv_at hl 0 rfl) ?_
  refine lv_iconst (v := 0) hx hb dX11_piece_1 (by decide) ?_
  refine wputI C hw fpX11_77 (rfl : _ = some (0, 11)) dX11_piece_2 (fun M1 eM1 H locs hw => ?_)
  replace h := letv_at eM1 h
  refine lv_aload_n hx hb dX11_piece_5 rfl (lv_at hl 0 rfl) ?_
  refine lv_iload_n hx hb dX11_piece_6 rfl (lv_at hl 1 rfl) ?_
  refine lv_i2l hx hb dX11_piece_7 rfl ?_
  obtain ⟨r2, e3, h⟩ := bnd_some h
  refine wcallV1 (As := [.long ((p1 : Int32).toInt64)]) (rest := []) C hw (c_X11_isPiece hW  e3) vlX11_237 ⟨Nat.le_of_ble_eq_true rfl, Nat.le_of_ble_eq_true rfl⟩ (rfl : _ = some (0, 11)) rfl rfl rfl hl.1 (Nat.le_of_ble_eq_true rfl) dX11_piece_8 ⟨Nat.zero_le _, Nat.zero_le _⟩ (fun H locs hw => ?_)
  refine lv_if_eq (tgt := 39) hx hb dX11_piece_11 (by decide) (fun c4 => ?_) (fun c4 => ?_)
  · replace h := (if_pos c4).symm.trans h
    refine lv_bipush (v := (-2)) hx hb dX11_piece_39 (by decide) ?_
    exact wretI_W C hw h dX11_piece_41
  · replace h := (if_neg c4).symm.trans h
    refine lv_iload_n hx hb dX11_piece_14 rfl (lv_at hl 2 rfl) ?_
    refine lv_i2l hx hb dX11_piece_15 rfl ?_
    refine lv_lconst (v := 0) hx hb dX11_piece_16 (by decide) ?_
    refine lv_ldc2 hx hb C.2.2.2.1 (C.2.2.2.2.1 _ (List.mem_cons_of_mem _ (gm kcX11_80 rfl))) dX11_piece_17 ?_
    refine wcallS1 (As := [.long ((p2 : Int32).toInt64), .long 0, .long 3]) (rest := []) C hw (c_X11_in hW  rfl) slX11_82 ⟨Nat.le_of_ble_eq_true rfl, Nat.le_of_ble_eq_true rfl⟩ rfl rfl hl.1 (Nat.le_of_ble_eq_true rfl) dX11_piece_20 ⟨Nat.zero_le _, Nat.zero_le _⟩ (fun H locs hw => ?_)
    refine lv_if_eq (tgt := 39) hx hb dX11_piece_23 (by decide) (fun c5 => ?_) (fun c5 => ?_)
    · replace h := (if_pos c5).symm.trans h
      refine lv_bipush (v := (-2)) hx hb dX11_piece_39 (by decide) ?_
      exact wretI_W C hw h dX11_piece_41
    · replace h := (if_neg c5).symm.trans h
      refine lv_aload_n hx hb dX11_piece_26 rfl (lv_at hl 0 rfl) ?_
      refine wgetR (t := 9) C hw flX11_40 (rfl : _ = some (0, 11)) rfl dX11_piece_27 ?_
      refine lv_iconst (v := 4) hx hb dX11_piece_30 (by decide) ?_
      refine lv_iload_n hx hb dX11_piece_31 rfl (lv_at hl 1 rfl) ?_
      refine lv_imul hx hb dX11_piece_32 ?_
      refine lv_iload_n hx hb dX11_piece_33 rfl (lv_at hl 2 rfl) ?_
      refine lv_iadd hx hb dX11_piece_34 ?_
      obtain ⟨g6, h⟩ := grd h
      refine wald C hw (rfl : _ = some (1, 120)) g6 dX11_piece_35 ?_
      refine lv_goto (tgt := 41) hx hb dX11_piece_36 (by decide) ?_
      exact wretI_W C hw h dX11_piece_41
set_option maxRecDepth 100000 in
set_option maxHeartbeats 4000000 in
theorem c_X11_air {l : Launch} {P : Wp} {E : State → Heap → Prop} (hW : Wok shR P E) {p1 : Int32} {p2 : Int32} {M : Mem} {r : Int32} {M' : Mem} (h : f_X11_air p1 p2 M = some (r, M')) : CT l shR P E yX11_air bX11_air 3 ((some .int)) 2 47 [.ref (P.2.2.1 0), .int p1, .int p2] (some (.int r)) M M' := by
  refine ct_of hW (by decide) (Nat.le_of_ble_eq_true rfl) (fun p e s m args below meth c C ls hl hw => ?_)
  have hx := C.1
  have hb := C.2.1
  replace hl : lv_has ls 3 [(0, .ref (P.2.2.1 0)), (1, .int p1), (2, .int p2)] := hl
  refine lv_aload_n hx hb dX11_air_0 rfl (lv_at hl 0 rfl) ?_
  refine lv_iconst (v := 0) hx hb dX11_air_1 (by decide) ?_
  refine wputI C hw fpX11_77 (rfl : _ = some (0, 11)) dX11_air_2 (fun M1 eM1 H locs hw => ?_)
  replace h := letv_at eM1 h
  refine lv_aload_n hx hb dX11_air_5 rfl (lv_at hl 0 rfl) ?_
  refine lv_iload_n hx hb dX11_air_6 rfl (lv_at hl 1 rfl) ?_
  obtain ⟨r2, e3, h⟩ := bnd_some h
  refine wcallV1 (As := [.int p1]) (rest := []) C hw (c_X11_isZone hW  e3) vlX11_302 ⟨Nat.le_of_ble_eq_true rfl, Nat.le_of_ble_eq_true rfl⟩ (rfl : _ = some (0, 11)) rfl rfl rfl hl.1 (Nat.le_of_ble_eq_true rfl) dX11_air_7 ⟨Nat.zero_le _, Nat.zero_le _⟩ (fun H locs hw => ?_)
  refine lv_if_eq (tgt := 22) hx hb dX11_air_10 (by decide) (fun c4 => ?_) (fun c4 => ?_)
  · replace h := (if_pos c4).symm.trans h
    refine lv_bipush (v := (-2)) hx hb dX11_air_22 (by decide) ?_
    exact wretI_W C hw h dX11_air_24
  · replace h := (if_neg c4).symm.trans h
    refine lv_aload_n hx hb dX11_air_13 rfl (lv_at hl 0 rfl) ?_
    refine lv_iload_n hx hb dX11_air_14 rfl (lv_at hl 2 rfl) ?_
    refine lv_i2l hx hb dX11_air_15 rfl ?_
    obtain ⟨r5, e6, h⟩ := bnd_some h
    refine wcallV1 (As := [.long ((p2 : Int32).toInt64)]) (rest := []) C hw (c_X11_isStep hW  e6) vlX11_240 ⟨Nat.le_of_ble_eq_true rfl, Nat.le_of_ble_eq_true rfl⟩ (rfl : _ = some (0, 11)) rfl rfl rfl hl.1 (Nat.le_of_ble_eq_true rfl) dX11_air_16 ⟨Nat.zero_le _, Nat.zero_le _⟩ (fun H locs hw => ?_)
    refine lv_if_ne (tgt := 25) hx hb dX11_air_19 (by decide) (fun c7 => ?_) (fun c7 => ?_)
    · replace h := (if_neg c7).symm.trans h
      refine lv_aload_n hx hb dX11_air_25 rfl (lv_at hl 0 rfl) ?_
      obtain ⟨M10, e9, h⟩ := bnd_some h
      refine wcallV0 (As := []) (rest := []) C hw (c_X11_lays hW  e9) vlX11_296 ⟨Nat.le_of_ble_eq_true rfl, Nat.le_of_ble_eq_true rfl⟩ (rfl : _ = some (0, 11)) rfl rfl rfl hl.1 (Nat.le_of_ble_eq_true rfl) dX11_air_26 ⟨Nat.zero_le _, Nat.zero_le _⟩ (fun H locs hw => ?_)
      refine lv_aload_n hx hb dX11_air_29 rfl (lv_at hl 0 rfl) ?_
      refine lv_iload_n hx hb dX11_air_30 rfl (lv_at hl 1 rfl) ?_
      refine lv_iload_n hx hb dX11_air_31 rfl (lv_at hl 2 rfl) ?_
      obtain ⟨r11, e12, h⟩ := bnd_some h
      refine wcallV1 (As := [.int p1, .int p2]) (rest := []) C hw (c_X11_airOf hW  e12) vlX11_277 ⟨Nat.le_of_ble_eq_true rfl, Nat.le_of_ble_eq_true rfl⟩ (rfl : _ = some (0, 11)) rfl rfl rfl hl.1 (Nat.le_of_ble_eq_true rfl) dX11_air_32 ⟨Nat.zero_le _, Nat.zero_le _⟩ (fun H locs hw => ?_)
      exact wretI_W C hw h dX11_air_35
    · replace h := (if_pos c7).symm.trans h
      refine lv_bipush (v := (-2)) hx hb dX11_air_22 (by decide) ?_
      exact wretI_W C hw h dX11_air_24
set_option maxRecDepth 100000 in
set_option maxHeartbeats 4000000 in
theorem c_X11_where {l : Launch} {P : Wp} {E : State → Heap → Prop} (hW : Wok shR P E) {p1 : Int32} {p2 : Int32} {M : Mem} {r : Int32} {M' : Mem} (h : f_X11_where p1 p2 M = some (r, M')) : CT l shR P E yX11_where bX11_where 3 ((some .int)) 3 69 [.ref (P.2.2.1 0), .int p1, .int p2] (some (.int r)) M M' := by
  refine ct_of hW (by decide) (Nat.le_of_ble_eq_true rfl) (fun p e s m args below meth c C ls hl hw => ?_)
  have hx := C.1
  have hb := C.2.1
  replace hl : lv_has ls 3 [(0, .ref (P.2.2.1 0)), (1, .int p1), (2, .int p2)] := hl
  refine lv_aload_n hx hb dX11_where_0 rfl (lv_at hl 0 rfl) ?_
  refine lv_iconst (v := 0) hx hb dX11_where_1 (by decide) ?_
  refine wputI C hw fpX11_77 (rfl : _ = some (0, 11)) dX11_where_2 (fun M1 eM1 H locs hw => ?_)
  replace h := letv_at eM1 h
  refine lv_aload_n hx hb dX11_where_5 rfl (lv_at hl 0 rfl) ?_
  refine lv_iload_n hx hb dX11_where_6 rfl (lv_at hl 1 rfl) ?_
  refine lv_iload_n hx hb dX11_where_7 rfl (lv_at hl 2 rfl) ?_
  obtain ⟨r2, e3, h⟩ := bnd_some h
  refine wcallV1 (As := [.int p1, .int p2]) (rest := []) C hw (c_X11_isThen hW  e3) vlX11_305 ⟨Nat.le_of_ble_eq_true rfl, Nat.le_of_ble_eq_true rfl⟩ (rfl : _ = some (0, 11)) rfl rfl rfl hl.1 (Nat.le_of_ble_eq_true rfl) dX11_where_8 ⟨Nat.zero_le _, Nat.zero_le _⟩ (fun H locs hw => ?_)
  refine lv_if_ne (tgt := 17) hx hb dX11_where_11 (by decide) (fun c4 => ?_) (fun c4 => ?_)
  · replace h := (if_neg c4).symm.trans h
    refine lv_aload_n hx hb dX11_where_17 rfl (lv_at hl 0 rfl) ?_
    obtain ⟨M7, e6, h⟩ := bnd_some h
    refine wcallV0 (As := []) (rest := []) C hw (c_X11_lays hW  e6) vlX11_296 ⟨Nat.le_of_ble_eq_true rfl, Nat.le_of_ble_eq_true rfl⟩ (rfl : _ = some (0, 11)) rfl rfl rfl hl.1 (Nat.le_of_ble_eq_true rfl) dX11_where_18 ⟨Nat.zero_le _, Nat.zero_le _⟩ (fun H locs hw => ?_)
    refine lv_aload_n hx hb dX11_where_21 rfl (lv_at hl 0 rfl) ?_
    refine lv_iload_n hx hb dX11_where_22 rfl (lv_at hl 1 rfl) ?_
    refine lv_iload_n hx hb dX11_where_23 rfl (lv_at hl 2 rfl) ?_
    obtain ⟨r8, e9, h⟩ := bnd_some h
    refine wcallV1 (As := [.int p1, .int p2]) (rest := []) C hw (c_X11_whereOf hW  e9) vlX11_280 ⟨Nat.le_of_ble_eq_true rfl, Nat.le_of_ble_eq_true rfl⟩ (rfl : _ = some (0, 11)) rfl rfl rfl hl.1 (Nat.le_of_ble_eq_true rfl) dX11_where_24 ⟨Nat.zero_le _, Nat.zero_le _⟩ (fun H locs hw => ?_)
    exact wretI_W C hw h dX11_where_27
  · replace h := (if_pos c4).symm.trans h
    refine lv_bipush (v := (-2)) hx hb dX11_where_14 (by decide) ?_
    exact wretI_W C hw h dX11_where_16
set_option maxRecDepth 100000 in
set_option maxHeartbeats 4000000 in
theorem c_X11_insideOf {l : Launch} {P : Wp} {E : State → Heap → Prop} (hW : Wok shR P E) {p1 : Int32} {p2 : Int32} {M : Mem} {r : Int32} (h : f_X11_insideOf p1 p2 M = some r) : CT l shR P E yX11_insideOf bX11_insideOf 5 ((some .int)) 2 44 [.ref (P.2.2.1 0), .int p1, .int p2] (some (.int r)) M M := by
  refine ct_of hW (by decide) (Nat.le_of_ble_eq_true rfl) (fun p e s m args below meth c C ls hl hw => ?_)
  have hx := C.1
  have hb := C.2.1
  replace hl : lv_has ls 5 [(0, .ref (P.2.2.1 0)), (1, .int p1), (2, .int p2)] := hl
  have cut_5 : ∀ (n_5 : Nat) (v3_5 : Int32) (v4_5 : Int32) (ls : Array Slot) (H : Heap) (locs : List Loc), lv_has ls 5 [(0, .ref (P.2.2.1 0)), (1, .int p1), (2, .int p2), (3, .int v3_5), (4, .int v4_5)] → Hw shR P M s H locs → lq2 (L_X11_insideOf_5 p1 p2 M) n_5 v3_5 v4_5 = some r → W p l e { frames := 2, cells := 0, slots := 0, locals := 44 } s m args below meth c H locs 0 0 (MQ below (CQ shR P E (some (.int r)) M) args s 0 0 (wA shR P)) (F0 m 5 ls []) := by
    intro n_5
    induction n_5 with
    | zero => intro v3_5 v4_5 ls H locs hl hw h; cases h
    | succ n_5 ih_5 =>
      intro v3_5 v4_5 ls H locs hl hw h
      replace h := lq2_succ h
      refine lv_iload hx hb dX11_insideOf_5 (lv_at hl 4 rfl) ?_
      refine lv_aload_n hx hb dX11_insideOf_7 rfl (lv_at hl 0 rfl) ?_
      obtain ⟨r1, e2, h⟩ := bnd_some h
      refine wcallV1 (As := []) (rest := [.int v4_5]) C hw (c_X11_pieces hW  e2) vlX11_227 ⟨Nat.le_of_ble_eq_true rfl, Nat.le_of_ble_eq_true rfl⟩ (rfl : _ = some (0, 11)) rfl rfl rfl hl.1 (Nat.le_of_ble_eq_true rfl) dX11_insideOf_8 ⟨Nat.zero_le _, Nat.zero_le _⟩ (fun H locs hw => ?_)
      refine lv_icmp_ge (tgt := 42) hx hb dX11_insideOf_11 (by decide) (fun c3 => ?_) (fun c3 => ?_)
      · replace h := (if_pos c3).symm.trans h
        refine lv_iload_n hx hb dX11_insideOf_42 rfl (lv_at hl 3 rfl) ?_
        exact wretI_R C hw h dX11_insideOf_43
      · replace h := (if_neg c3).symm.trans h
        refine lv_iload_n hx hb dX11_insideOf_14 rfl (lv_at hl 3 rfl) ?_
        refine lv_aload_n hx hb dX11_insideOf_15 rfl (lv_at hl 0 rfl) ?_
        refine lv_iload hx hb dX11_insideOf_16 (lv_at hl 4 rfl) ?_
        refine lv_iload_n hx hb dX11_insideOf_18 rfl (lv_at hl 2 rfl) ?_
        obtain ⟨r4, e5, h⟩ := bnd_some h
        refine wcallV1 (As := [.int v4_5, .int p2]) (rest := [.int v3_5]) C hw (c_X11_whereOf hW  e5) vlX11_280 ⟨Nat.le_of_ble_eq_true rfl, Nat.le_of_ble_eq_true rfl⟩ (rfl : _ = some (0, 11)) rfl rfl rfl hl.1 (Nat.le_of_ble_eq_true rfl) dX11_insideOf_19 ⟨Nat.zero_le _, Nat.zero_le _⟩ (fun H locs hw => ?_)
        refine lv_iload_n hx hb dX11_insideOf_22 rfl (lv_at hl 1 rfl) ?_
        refine lv_icmp_ne (tgt := 33) hx hb dX11_insideOf_23 (by decide) (fun c6 => ?_) (fun c6 => ?_)
        · replace h := (if_neg c6).symm.trans h
          refine lv_iconst (v := 0) hx hb dX11_insideOf_33 (by decide) ?_
          refine lv_ior hx hb dX11_insideOf_34 ?_
          refine lv_topi (fun x7 ex7 => ?_)
          replace h := letv_at ex7 h
          refine lv_istore_n (lv' := [(3, .int x7), (0, .ref (P.2.2.1 0)), (1, .int p1), (2, .int p2), (4, .int v4_5)]) hx hb dX11_insideOf_35 rfl hl (by decide) rfl (fun ls hl => ?_)
          refine lv_iinc (v := (v4_5 + 1)) (lv' := [(4, .int (v4_5 + 1)), (3, .int x7), (0, .ref (P.2.2.1 0)), (1, .int p1), (2, .int p2)]) (k := 4) hx hb dX11_insideOf_36 hl rfl (congrArg (fun z => v4_5 + z) (by decide)) (by decide) rfl (fun ls hl => ?_)
          refine lv_goto (tgt := 5) hx hb dX11_insideOf_39 (by decide) ?_
          exact ih_5 x7 (v4_5 + 1) ls _ _ (lv_sub hl [2, 3, 4, 1, 0] rfl) hw h
        · replace h := (if_pos c6).symm.trans h
          refine lv_iconst (v := 1) hx hb dX11_insideOf_26 (by decide) ?_
          refine lv_iload hx hb dX11_insideOf_27 (lv_at hl 4 rfl) ?_
          refine lv_ishl hx hb dX11_insideOf_29 ?_
          refine lv_goto (tgt := 34) hx hb dX11_insideOf_30 (by decide) ?_
          refine lv_ior hx hb dX11_insideOf_34 ?_
          refine lv_topi (fun x8 ex8 => ?_)
          replace h := letv_at ex8 h
          refine lv_istore_n (lv' := [(3, .int x8), (0, .ref (P.2.2.1 0)), (1, .int p1), (2, .int p2), (4, .int v4_5)]) hx hb dX11_insideOf_35 rfl hl (by decide) rfl (fun ls hl => ?_)
          refine lv_iinc (v := (v4_5 + 1)) (lv' := [(4, .int (v4_5 + 1)), (3, .int x8), (0, .ref (P.2.2.1 0)), (1, .int p1), (2, .int p2)]) (k := 4) hx hb dX11_insideOf_36 hl rfl (congrArg (fun z => v4_5 + z) (by decide)) (by decide) rfl (fun ls hl => ?_)
          refine lv_goto (tgt := 5) hx hb dX11_insideOf_39 (by decide) ?_
          exact ih_5 x8 (v4_5 + 1) ls _ _ (lv_sub hl [2, 3, 4, 1, 0] rfl) hw h
  refine lv_iconst (v := 0) hx hb dX11_insideOf_0 (by decide) ?_
  refine lv_istore_n (lv' := [(3, .int 0), (0, .ref (P.2.2.1 0)), (1, .int p1), (2, .int p2)]) hx hb dX11_insideOf_1 rfl hl (by decide) rfl (fun ls hl => ?_)
  refine lv_iconst (v := 0) hx hb dX11_insideOf_2 (by decide) ?_
  refine lv_istore (lv' := [(4, .int 0), (3, .int 0), (0, .ref (P.2.2.1 0)), (1, .int p1), (2, .int p2)]) hx hb dX11_insideOf_3 hl (by decide) rfl (fun ls hl => ?_)
  exact cut_5 FU 0 0 ls _ _ (lv_sub hl [2, 3, 4, 1, 0] rfl) hw h
set_option maxRecDepth 100000 in
set_option maxHeartbeats 4000000 in
theorem c_X11_inside {l : Launch} {P : Wp} {E : State → Heap → Prop} (hW : Wok shR P E) {p1 : Int32} {p2 : Int32} {M : Mem} {r : Int32} {M' : Mem} (h : f_X11_inside p1 p2 M = some (r, M')) : CT l shR P E yX11_inside bX11_inside 3 ((some .int)) 3 68 [.ref (P.2.2.1 0), .int p1, .int p2] (some (.int r)) M M' := by
  refine ct_of hW (by decide) (Nat.le_of_ble_eq_true rfl) (fun p e s m args below meth c C ls hl hw => ?_)
  have hx := C.1
  have hb := C.2.1
  replace hl : lv_has ls 3 [(0, .ref (P.2.2.1 0)), (1, .int p1), (2, .int p2)] := hl
  refine lv_aload_n hx hb dX11_inside_0 rfl (lv_at hl 0 rfl) ?_
  refine lv_iconst (v := 0) hx hb dX11_inside_1 (by decide) ?_
  refine wputI C hw fpX11_77 (rfl : _ = some (0, 11)) dX11_inside_2 (fun M1 eM1 H locs hw => ?_)
  replace h := letv_at eM1 h
  refine lv_aload_n hx hb dX11_inside_5 rfl (lv_at hl 0 rfl) ?_
  refine lv_iload_n hx hb dX11_inside_6 rfl (lv_at hl 1 rfl) ?_
  obtain ⟨r2, e3, h⟩ := bnd_some h
  refine wcallV1 (As := [.int p1]) (rest := []) C hw (c_X11_isZone hW  e3) vlX11_302 ⟨Nat.le_of_ble_eq_true rfl, Nat.le_of_ble_eq_true rfl⟩ (rfl : _ = some (0, 11)) rfl rfl rfl hl.1 (Nat.le_of_ble_eq_true rfl) dX11_inside_7 ⟨Nat.zero_le _, Nat.zero_le _⟩ (fun H locs hw => ?_)
  refine lv_if_eq (tgt := 22) hx hb dX11_inside_10 (by decide) (fun c4 => ?_) (fun c4 => ?_)
  · replace h := (if_pos c4).symm.trans h
    refine lv_bipush (v := (-2)) hx hb dX11_inside_22 (by decide) ?_
    exact wretI_W C hw h dX11_inside_24
  · replace h := (if_neg c4).symm.trans h
    refine lv_aload_n hx hb dX11_inside_13 rfl (lv_at hl 0 rfl) ?_
    refine lv_iload_n hx hb dX11_inside_14 rfl (lv_at hl 2 rfl) ?_
    refine lv_i2l hx hb dX11_inside_15 rfl ?_
    obtain ⟨r5, e6, h⟩ := bnd_some h
    refine wcallV1 (As := [.long ((p2 : Int32).toInt64)]) (rest := []) C hw (c_X11_isStep hW  e6) vlX11_240 ⟨Nat.le_of_ble_eq_true rfl, Nat.le_of_ble_eq_true rfl⟩ (rfl : _ = some (0, 11)) rfl rfl rfl hl.1 (Nat.le_of_ble_eq_true rfl) dX11_inside_16 ⟨Nat.zero_le _, Nat.zero_le _⟩ (fun H locs hw => ?_)
    refine lv_if_ne (tgt := 25) hx hb dX11_inside_19 (by decide) (fun c7 => ?_) (fun c7 => ?_)
    · replace h := (if_neg c7).symm.trans h
      refine lv_aload_n hx hb dX11_inside_25 rfl (lv_at hl 0 rfl) ?_
      obtain ⟨M10, e9, h⟩ := bnd_some h
      refine wcallV0 (As := []) (rest := []) C hw (c_X11_lays hW  e9) vlX11_296 ⟨Nat.le_of_ble_eq_true rfl, Nat.le_of_ble_eq_true rfl⟩ (rfl : _ = some (0, 11)) rfl rfl rfl hl.1 (Nat.le_of_ble_eq_true rfl) dX11_inside_26 ⟨Nat.zero_le _, Nat.zero_le _⟩ (fun H locs hw => ?_)
      refine lv_aload_n hx hb dX11_inside_29 rfl (lv_at hl 0 rfl) ?_
      refine lv_iload_n hx hb dX11_inside_30 rfl (lv_at hl 1 rfl) ?_
      refine lv_iload_n hx hb dX11_inside_31 rfl (lv_at hl 2 rfl) ?_
      obtain ⟨r11, e12, h⟩ := bnd_some h
      refine wcallV1 (As := [.int p1, .int p2]) (rest := []) C hw (c_X11_insideOf hW  e12) vlX11_308 ⟨Nat.le_of_ble_eq_true rfl, Nat.le_of_ble_eq_true rfl⟩ (rfl : _ = some (0, 11)) rfl rfl rfl hl.1 (Nat.le_of_ble_eq_true rfl) dX11_inside_32 ⟨Nat.zero_le _, Nat.zero_le _⟩ (fun H locs hw => ?_)
      exact wretI_W C hw h dX11_inside_35
    · replace h := (if_pos c7).symm.trans h
      refine lv_bipush (v := (-2)) hx hb dX11_inside_22 (by decide) ?_
      exact wretI_W C hw h dX11_inside_24
set_option maxRecDepth 100000 in
set_option maxHeartbeats 4000000 in
theorem c_X11_out {l : Launch} {P : Wp} {E : State → Heap → Prop} (hW : Wok shR P E) {p1 : Int32} {M : Mem} {r : Int32} {M' : Mem} (h : f_X11_out p1 M = some (r, M')) : CT l shR P E yX11_out bX11_out 2 ((some .int)) 3 68 [.ref (P.2.2.1 0), .int p1] (some (.int r)) M M' := by
  refine ct_of hW (by decide) (Nat.le_of_ble_eq_true rfl) (fun p e s m args below meth c C ls hl hw => ?_)
  have hx := C.1
  have hb := C.2.1
  replace hl : lv_has ls 2 [(0, .ref (P.2.2.1 0)), (1, .int p1)] := hl
  refine lv_aload_n hx hb dX11_out_0 rfl (lv_at hl 0 rfl) ?_
  refine lv_iconst (v := 0) hx hb dX11_out_1 (by decide) ?_
  refine wputI C hw fpX11_77 (rfl : _ = some (0, 11)) dX11_out_2 (fun M1 eM1 H locs hw => ?_)
  replace h := letv_at eM1 h
  refine lv_aload_n hx hb dX11_out_5 rfl (lv_at hl 0 rfl) ?_
  refine lv_iload_n hx hb dX11_out_6 rfl (lv_at hl 1 rfl) ?_
  refine lv_i2l hx hb dX11_out_7 rfl ?_
  obtain ⟨r2, e3, h⟩ := bnd_some h
  refine wcallV1 (As := [.long ((p1 : Int32).toInt64)]) (rest := []) C hw (c_X11_isStep hW  e3) vlX11_240 ⟨Nat.le_of_ble_eq_true rfl, Nat.le_of_ble_eq_true rfl⟩ (rfl : _ = some (0, 11)) rfl rfl rfl hl.1 (Nat.le_of_ble_eq_true rfl) dX11_out_8 ⟨Nat.zero_le _, Nat.zero_le _⟩ (fun H locs hw => ?_)
  refine lv_if_ne (tgt := 17) hx hb dX11_out_11 (by decide) (fun c4 => ?_) (fun c4 => ?_)
  · replace h := (if_neg c4).symm.trans h
    refine lv_aload_n hx hb dX11_out_17 rfl (lv_at hl 0 rfl) ?_
    obtain ⟨M7, e6, h⟩ := bnd_some h
    refine wcallV0 (As := []) (rest := []) C hw (c_X11_lays hW  e6) vlX11_296 ⟨Nat.le_of_ble_eq_true rfl, Nat.le_of_ble_eq_true rfl⟩ (rfl : _ = some (0, 11)) rfl rfl rfl hl.1 (Nat.le_of_ble_eq_true rfl) dX11_out_18 ⟨Nat.zero_le _, Nat.zero_le _⟩ (fun H locs hw => ?_)
    refine lv_aload_n hx hb dX11_out_21 rfl (lv_at hl 0 rfl) ?_
    refine lv_bipush (v := 10) hx hb dX11_out_22 (by decide) ?_
    refine lv_iload_n hx hb dX11_out_24 rfl (lv_at hl 1 rfl) ?_
    obtain ⟨r8, e9, h⟩ := bnd_some h
    refine wcallV1 (As := [.int 10, .int p1]) (rest := []) C hw (c_X11_insideOf hW  e9) vlX11_308 ⟨Nat.le_of_ble_eq_true rfl, Nat.le_of_ble_eq_true rfl⟩ (rfl : _ = some (0, 11)) rfl rfl rfl hl.1 (Nat.le_of_ble_eq_true rfl) dX11_out_25 ⟨Nat.zero_le _, Nat.zero_le _⟩ (fun H locs hw => ?_)
    exact wretI_W C hw h dX11_out_28
  · replace h := (if_pos c4).symm.trans h
    refine lv_bipush (v := (-2)) hx hb dX11_out_14 (by decide) ?_
    exact wretI_W C hw h dX11_out_16
set_option maxRecDepth 100000 in
set_option maxHeartbeats 4000000 in
theorem c_X11_leaves {l : Launch} {P : Wp} {E : State → Heap → Prop} (hW : Wok shR P E) {p1 : Int32} {M : Mem} {r : Int32} {M' : Mem} (h : f_X11_leaves p1 M = some (r, M')) : CT l shR P E yX11_leaves bX11_leaves 3 ((some .int)) 2 47 [.ref (P.2.2.1 0), .int p1] (some (.int r)) M M' := by
  refine ct_of hW (by decide) (Nat.le_of_ble_eq_true rfl) (fun p e s m args below meth c C ls hl hw => ?_)
  have hx := C.1
  have hb := C.2.1
  replace hl : lv_has ls 3 [(0, .ref (P.2.2.1 0)), (1, .int p1)] := hl
  have cut_23 : ∀ (n_23 : Nat) (v2_23 : Int32) (M_23 : Mem) (ls : Array Slot) (H : Heap) (locs : List Loc), lv_has ls 3 [(0, .ref (P.2.2.1 0)), (1, .int p1), (2, .int v2_23)] → Hw shR P M_23 s H locs → lq2 (L_X11_leaves_23 p1) n_23 v2_23 M_23 = some (r, M') → W p l e { frames := 2, cells := 0, slots := 0, locals := 47 } s m args below meth c H locs 0 0 (MQ below (CQ shR P E (some (.int r)) M') args s 0 0 (wA shR P)) (F0 m 23 ls []) := by
    intro n_23
    induction n_23 with
    | zero => intro v2_23 M_23 ls H locs hl hw h; cases h
    | succ n_23 ih_23 =>
      intro v2_23 M_23 ls H locs hl hw h
      replace h := lq2_succ h
      refine lv_iload_n hx hb dX11_leaves_23 rfl (lv_at hl 2 rfl) ?_
      refine lv_aload_n hx hb dX11_leaves_24 rfl (lv_at hl 0 rfl) ?_
      obtain ⟨r8, e9, h⟩ := bnd_some h
      refine wcallV1 (As := []) (rest := [.int v2_23]) C hw (c_X11_steps hW  e9) vlX11_234 ⟨Nat.le_of_ble_eq_true rfl, Nat.le_of_ble_eq_true rfl⟩ (rfl : _ = some (0, 11)) rfl rfl rfl hl.1 (Nat.le_of_ble_eq_true rfl) dX11_leaves_25 ⟨Nat.zero_le _, Nat.zero_le _⟩ (fun H locs hw => ?_)
      refine lv_icmp_gt (tgt := 50) hx hb dX11_leaves_28 (by decide) (fun c10 => ?_) (fun c10 => ?_)
      · replace h := (if_pos c10).symm.trans h
        refine lv_iconst (v := (-1)) hx hb dX11_leaves_50 (by decide) ?_
        exact wretI_W C hw h dX11_leaves_51
      · replace h := (if_neg c10).symm.trans h
        refine lv_aload_n hx hb dX11_leaves_31 rfl (lv_at hl 0 rfl) ?_
        refine lv_iload_n hx hb dX11_leaves_32 rfl (lv_at hl 1 rfl) ?_
        refine lv_iload_n hx hb dX11_leaves_33 rfl (lv_at hl 2 rfl) ?_
        obtain ⟨r11, e12, h⟩ := bnd_some h
        refine wcallV1 (As := [.int p1, .int v2_23]) (rest := []) C hw (c_X11_whereOf hW  e12) vlX11_280 ⟨Nat.le_of_ble_eq_true rfl, Nat.le_of_ble_eq_true rfl⟩ (rfl : _ = some (0, 11)) rfl rfl rfl hl.1 (Nat.le_of_ble_eq_true rfl) dX11_leaves_34 ⟨Nat.zero_le _, Nat.zero_le _⟩ (fun H locs hw => ?_)
        refine lv_bipush (v := 10) hx hb dX11_leaves_37 (by decide) ?_
        refine lv_icmp_ne (tgt := 44) hx hb dX11_leaves_39 (by decide) (fun c13 => ?_) (fun c13 => ?_)
        · replace h := (if_neg c13).symm.trans h
          refine lv_iinc (v := (v2_23 + 1)) (lv' := [(2, .int (v2_23 + 1)), (0, .ref (P.2.2.1 0)), (1, .int p1)]) (k := 2) hx hb dX11_leaves_44 hl rfl (congrArg (fun z => v2_23 + z) (by decide)) (by decide) rfl (fun ls hl => ?_)
          refine lv_goto (tgt := 23) hx hb dX11_leaves_47 (by decide) ?_
          exact ih_23 (v2_23 + 1) M_23 ls _ _ (lv_sub hl [1, 2, 0] rfl) hw h
        · replace h := (if_pos c13).symm.trans h
          refine lv_iload_n hx hb dX11_leaves_42 rfl (lv_at hl 2 rfl) ?_
          exact wretI_W C hw h dX11_leaves_43
  refine lv_aload_n hx hb dX11_leaves_0 rfl (lv_at hl 0 rfl) ?_
  refine lv_iconst (v := 0) hx hb dX11_leaves_1 (by decide) ?_
  refine wputI C hw fpX11_77 (rfl : _ = some (0, 11)) dX11_leaves_2 (fun M1 eM1 H locs hw => ?_)
  replace h := letv_at eM1 h
  refine lv_aload_n hx hb dX11_leaves_5 rfl (lv_at hl 0 rfl) ?_
  refine lv_iload_n hx hb dX11_leaves_6 rfl (lv_at hl 1 rfl) ?_
  refine lv_i2l hx hb dX11_leaves_7 rfl ?_
  obtain ⟨r2, e3, h⟩ := bnd_some h
  refine wcallV1 (As := [.long ((p1 : Int32).toInt64)]) (rest := []) C hw (c_X11_isPiece hW  e3) vlX11_237 ⟨Nat.le_of_ble_eq_true rfl, Nat.le_of_ble_eq_true rfl⟩ (rfl : _ = some (0, 11)) rfl rfl rfl hl.1 (Nat.le_of_ble_eq_true rfl) dX11_leaves_8 ⟨Nat.zero_le _, Nat.zero_le _⟩ (fun H locs hw => ?_)
  refine lv_if_ne (tgt := 17) hx hb dX11_leaves_11 (by decide) (fun c4 => ?_) (fun c4 => ?_)
  · replace h := (if_neg c4).symm.trans h
    refine lv_aload_n hx hb dX11_leaves_17 rfl (lv_at hl 0 rfl) ?_
    obtain ⟨M7, e6, h⟩ := bnd_some h
    refine wcallV0 (As := []) (rest := []) C hw (c_X11_lays hW  e6) vlX11_296 ⟨Nat.le_of_ble_eq_true rfl, Nat.le_of_ble_eq_true rfl⟩ (rfl : _ = some (0, 11)) rfl rfl rfl hl.1 (Nat.le_of_ble_eq_true rfl) dX11_leaves_18 ⟨Nat.zero_le _, Nat.zero_le _⟩ (fun H locs hw => ?_)
    refine lv_iconst (v := 0) hx hb dX11_leaves_21 (by decide) ?_
    refine lv_istore_n (lv' := [(2, .int 0), (0, .ref (P.2.2.1 0)), (1, .int p1)]) hx hb dX11_leaves_22 rfl hl (by decide) rfl (fun ls hl => ?_)
    exact cut_23 FU 0 M7 ls _ _ (lv_sub hl [1, 2, 0] rfl) hw h
  · replace h := (if_pos c4).symm.trans h
    refine lv_bipush (v := (-2)) hx hb dX11_leaves_14 (by decide) ?_
    exact wretI_W C hw h dX11_leaves_16
set_option maxRecDepth 100000 in
set_option maxHeartbeats 4000000 in
theorem c_X11_skin {l : Launch} {P : Wp} {E : State → Heap → Prop} (hW : Wok shR P E) {p1 : Int32} {p2 : Int32} {M : Mem} {r : Int32} {M' : Mem} (h : f_X11_skin p1 p2 M = some (r, M')) : CT l shR P E yX11_skin bX11_skin 3 ((some .int)) 6 141 [.ref (P.2.2.1 0), .int p1, .int p2] (some (.int r)) M M' := by
  refine ct_of hW (by decide) (Nat.le_of_ble_eq_true rfl) (fun p e s m args below meth c C ls hl hw => ?_)
  have hx := C.1
  have hb := C.2.1
  replace hl : lv_has ls 3 [(0, .ref (P.2.2.1 0)), (1, .int p1), (2, .int p2)] := hl
  refine lv_aload_n hx hb dX11_skin_0 rfl (lv_at hl 0 rfl) ?_
  refine lv_iconst (v := 0) hx hb dX11_skin_1 (by decide) ?_
  refine wputI C hw fpX11_77 (rfl : _ = some (0, 11)) dX11_skin_2 (fun M1 eM1 H locs hw => ?_)
  replace h := letv_at eM1 h
  refine lv_aload_n hx hb dX11_skin_5 rfl (lv_at hl 0 rfl) ?_
  refine lv_iload_n hx hb dX11_skin_6 rfl (lv_at hl 1 rfl) ?_
  refine lv_iload_n hx hb dX11_skin_7 rfl (lv_at hl 2 rfl) ?_
  obtain ⟨r2, e3, h⟩ := bnd_some h
  refine wcallV1 (As := [.int p1, .int p2]) (rest := []) C hw (c_X11_isThen hW  e3) vlX11_305 ⟨Nat.le_of_ble_eq_true rfl, Nat.le_of_ble_eq_true rfl⟩ (rfl : _ = some (0, 11)) rfl rfl rfl hl.1 (Nat.le_of_ble_eq_true rfl) dX11_skin_8 ⟨Nat.zero_le _, Nat.zero_le _⟩ (fun H locs hw => ?_)
  refine lv_if_ne (tgt := 17) hx hb dX11_skin_11 (by decide) (fun c4 => ?_) (fun c4 => ?_)
  · replace h := (if_neg c4).symm.trans h
    refine lv_aload_n hx hb dX11_skin_17 rfl (lv_at hl 0 rfl) ?_
    obtain ⟨M7, e6, h⟩ := bnd_some h
    refine wcallV0 (As := []) (rest := []) C hw (c_X11_laysNow hW  e6) vlX11_311 ⟨Nat.le_of_ble_eq_true rfl, Nat.le_of_ble_eq_true rfl⟩ (rfl : _ = some (0, 11)) rfl rfl rfl hl.1 (Nat.le_of_ble_eq_true rfl) dX11_skin_18 ⟨Nat.zero_le _, Nat.zero_le _⟩ (fun H locs hw => ?_)
    refine lv_aload_n hx hb dX11_skin_21 rfl (lv_at hl 0 rfl) ?_
    refine lv_iload_n hx hb dX11_skin_22 rfl (lv_at hl 1 rfl) ?_
    refine lv_iload_n hx hb dX11_skin_23 rfl (lv_at hl 2 rfl) ?_
    obtain ⟨r8, e9, h⟩ := bnd_some h
    refine wcallV1 (As := [.int p1, .int p2]) (rest := []) C hw (c_X11_skinOf hW  e9) vlX11_268 ⟨Nat.le_of_ble_eq_true rfl, Nat.le_of_ble_eq_true rfl⟩ (rfl : _ = some (0, 11)) rfl rfl rfl hl.1 (Nat.le_of_ble_eq_true rfl) dX11_skin_24 ⟨Nat.zero_le _, Nat.zero_le _⟩ (fun H locs hw => ?_)
    exact wretI_W C hw h dX11_skin_27
  · replace h := (if_pos c4).symm.trans h
    refine lv_bipush (v := (-2)) hx hb dX11_skin_14 (by decide) ?_
    exact wretI_W C hw h dX11_skin_16
set_option maxRecDepth 100000 in
set_option maxHeartbeats 4000000 in
theorem c_X11_core {l : Launch} {P : Wp} {E : State → Heap → Prop} (hW : Wok shR P E) {p1 : Int32} {p2 : Int32} {M : Mem} {r : Int32} {M' : Mem} (h : f_X11_core p1 p2 M = some (r, M')) : CT l shR P E yX11_core bX11_core 3 ((some .int)) 6 141 [.ref (P.2.2.1 0), .int p1, .int p2] (some (.int r)) M M' := by
  refine ct_of hW (by decide) (Nat.le_of_ble_eq_true rfl) (fun p e s m args below meth c C ls hl hw => ?_)
  have hx := C.1
  have hb := C.2.1
  replace hl : lv_has ls 3 [(0, .ref (P.2.2.1 0)), (1, .int p1), (2, .int p2)] := hl
  refine lv_aload_n hx hb dX11_core_0 rfl (lv_at hl 0 rfl) ?_
  refine lv_iconst (v := 0) hx hb dX11_core_1 (by decide) ?_
  refine wputI C hw fpX11_77 (rfl : _ = some (0, 11)) dX11_core_2 (fun M1 eM1 H locs hw => ?_)
  replace h := letv_at eM1 h
  refine lv_aload_n hx hb dX11_core_5 rfl (lv_at hl 0 rfl) ?_
  refine lv_iload_n hx hb dX11_core_6 rfl (lv_at hl 1 rfl) ?_
  refine lv_iload_n hx hb dX11_core_7 rfl (lv_at hl 2 rfl) ?_
  obtain ⟨r2, e3, h⟩ := bnd_some h
  refine wcallV1 (As := [.int p1, .int p2]) (rest := []) C hw (c_X11_isThen hW  e3) vlX11_305 ⟨Nat.le_of_ble_eq_true rfl, Nat.le_of_ble_eq_true rfl⟩ (rfl : _ = some (0, 11)) rfl rfl rfl hl.1 (Nat.le_of_ble_eq_true rfl) dX11_core_8 ⟨Nat.zero_le _, Nat.zero_le _⟩ (fun H locs hw => ?_)
  refine lv_if_ne (tgt := 17) hx hb dX11_core_11 (by decide) (fun c4 => ?_) (fun c4 => ?_)
  · replace h := (if_neg c4).symm.trans h
    refine lv_aload_n hx hb dX11_core_17 rfl (lv_at hl 0 rfl) ?_
    obtain ⟨M7, e6, h⟩ := bnd_some h
    refine wcallV0 (As := []) (rest := []) C hw (c_X11_laysNow hW  e6) vlX11_311 ⟨Nat.le_of_ble_eq_true rfl, Nat.le_of_ble_eq_true rfl⟩ (rfl : _ = some (0, 11)) rfl rfl rfl hl.1 (Nat.le_of_ble_eq_true rfl) dX11_core_18 ⟨Nat.zero_le _, Nat.zero_le _⟩ (fun H locs hw => ?_)
    refine lv_aload_n hx hb dX11_core_21 rfl (lv_at hl 0 rfl) ?_
    refine lv_iload_n hx hb dX11_core_22 rfl (lv_at hl 1 rfl) ?_
    refine lv_iload_n hx hb dX11_core_23 rfl (lv_at hl 2 rfl) ?_
    obtain ⟨r8, e9, h⟩ := bnd_some h
    refine wcallV1 (As := [.int p1, .int p2]) (rest := []) C hw (c_X11_coreOf hW  e9) vlX11_271 ⟨Nat.le_of_ble_eq_true rfl, Nat.le_of_ble_eq_true rfl⟩ (rfl : _ = some (0, 11)) rfl rfl rfl hl.1 (Nat.le_of_ble_eq_true rfl) dX11_core_24 ⟨Nat.zero_le _, Nat.zero_le _⟩ (fun H locs hw => ?_)
    exact wretI_W C hw h dX11_core_27
  · replace h := (if_pos c4).symm.trans h
    refine lv_bipush (v := (-2)) hx hb dX11_core_14 (by decide) ?_
    exact wretI_W C hw h dX11_core_16
set_option maxRecDepth 100000 in
set_option maxHeartbeats 4000000 in
theorem c_X11_strain {l : Launch} {P : Wp} {E : State → Heap → Prop} (hW : Wok shR P E) {p1 : Int32} {p2 : Int32} {M : Mem} {r : Int32} {M' : Mem} (h : f_X11_strain p1 p2 M = some (r, M')) : CT l shR P E yX11_strain bX11_strain 3 ((some .int)) 6 141 [.ref (P.2.2.1 0), .int p1, .int p2] (some (.int r)) M M' := by
  refine ct_of hW (by decide) (Nat.le_of_ble_eq_true rfl) (fun p e s m args below meth c C ls hl hw => ?_)
  have hx := C.1
  have hb := C.2.1
  replace hl : lv_has ls 3 [(0, .ref (P.2.2.1 0)), (1, .int p1), (2, .int p2)] := hl
  refine lv_aload_n hx hb dX11_strain_0 rfl (lv_at hl 0 rfl) ?_
  refine lv_iconst (v := 0) hx hb dX11_strain_1 (by decide) ?_
  refine wputI C hw fpX11_77 (rfl : _ = some (0, 11)) dX11_strain_2 (fun M1 eM1 H locs hw => ?_)
  replace h := letv_at eM1 h
  refine lv_aload_n hx hb dX11_strain_5 rfl (lv_at hl 0 rfl) ?_
  refine lv_iload_n hx hb dX11_strain_6 rfl (lv_at hl 1 rfl) ?_
  refine lv_iload_n hx hb dX11_strain_7 rfl (lv_at hl 2 rfl) ?_
  obtain ⟨r2, e3, h⟩ := bnd_some h
  refine wcallV1 (As := [.int p1, .int p2]) (rest := []) C hw (c_X11_isThen hW  e3) vlX11_305 ⟨Nat.le_of_ble_eq_true rfl, Nat.le_of_ble_eq_true rfl⟩ (rfl : _ = some (0, 11)) rfl rfl rfl hl.1 (Nat.le_of_ble_eq_true rfl) dX11_strain_8 ⟨Nat.zero_le _, Nat.zero_le _⟩ (fun H locs hw => ?_)
  refine lv_if_ne (tgt := 17) hx hb dX11_strain_11 (by decide) (fun c4 => ?_) (fun c4 => ?_)
  · replace h := (if_neg c4).symm.trans h
    refine lv_aload_n hx hb dX11_strain_17 rfl (lv_at hl 0 rfl) ?_
    obtain ⟨M7, e6, h⟩ := bnd_some h
    refine wcallV0 (As := []) (rest := []) C hw (c_X11_laysNow hW  e6) vlX11_311 ⟨Nat.le_of_ble_eq_true rfl, Nat.le_of_ble_eq_true rfl⟩ (rfl : _ = some (0, 11)) rfl rfl rfl hl.1 (Nat.le_of_ble_eq_true rfl) dX11_strain_18 ⟨Nat.zero_le _, Nat.zero_le _⟩ (fun H locs hw => ?_)
    refine lv_aload_n hx hb dX11_strain_21 rfl (lv_at hl 0 rfl) ?_
    refine lv_iload_n hx hb dX11_strain_22 rfl (lv_at hl 1 rfl) ?_
    refine lv_iload_n hx hb dX11_strain_23 rfl (lv_at hl 2 rfl) ?_
    obtain ⟨r8, e9, h⟩ := bnd_some h
    refine wcallV1 (As := [.int p1, .int p2]) (rest := []) C hw (c_X11_strainOf hW  e9) vlX11_290 ⟨Nat.le_of_ble_eq_true rfl, Nat.le_of_ble_eq_true rfl⟩ (rfl : _ = some (0, 11)) rfl rfl rfl hl.1 (Nat.le_of_ble_eq_true rfl) dX11_strain_24 ⟨Nat.zero_le _, Nat.zero_le _⟩ (fun H locs hw => ?_)
    exact wretI_W C hw h dX11_strain_27
  · replace h := (if_pos c4).symm.trans h
    refine lv_bipush (v := (-2)) hx hb dX11_strain_14 (by decide) ?_
    exact wretI_W C hw h dX11_strain_16
set_option maxRecDepth 100000 in
set_option maxHeartbeats 4000000 in
theorem c_X11_peakOf {l : Launch} {P : Wp} {E : State → Heap → Prop} (hW : Wok shR P E) {p1 : Int32} {M : Mem} {r : Int32} (h : f_X11_peakOf p1 M = some r) : CT l shR P E yX11_peakOf bX11_peakOf 4 ((some .int)) 2 44 [.ref (P.2.2.1 0), .int p1] (some (.int r)) M M := by
  refine ct_of hW (by decide) (Nat.le_of_ble_eq_true rfl) (fun p e s m args below meth c C ls hl hw => ?_)
  have hx := C.1
  have hb := C.2.1
  replace hl : lv_has ls 4 [(0, .ref (P.2.2.1 0)), (1, .int p1)] := hl
  have cut_4 : ∀ (n_4 : Nat) (v2_4 : Int32) (v3_4 : Int32) (ls : Array Slot) (H : Heap) (locs : List Loc), lv_has ls 4 [(0, .ref (P.2.2.1 0)), (1, .int p1), (2, .int v2_4), (3, .int v3_4)] → Hw shR P M s H locs → lq2 (L_X11_peakOf_4 p1 M) n_4 v2_4 v3_4 = some r → W p l e { frames := 2, cells := 0, slots := 0, locals := 44 } s m args below meth c H locs 0 0 (MQ below (CQ shR P E (some (.int r)) M) args s 0 0 (wA shR P)) (F0 m 4 ls []) := by
    intro n_4
    induction n_4 with
    | zero => intro v2_4 v3_4 ls H locs hl hw h; cases h
    | succ n_4 ih_4 =>
      intro v2_4 v3_4 ls H locs hl hw h
      replace h := lq2_succ h
      refine lv_iload_n hx hb dX11_peakOf_4 rfl (lv_at hl 3 rfl) ?_
      refine lv_aload_n hx hb dX11_peakOf_5 rfl (lv_at hl 0 rfl) ?_
      obtain ⟨r1, e2, h⟩ := bnd_some h
      refine wcallV1 (As := []) (rest := [.int v3_4]) C hw (c_X11_steps hW  e2) vlX11_234 ⟨Nat.le_of_ble_eq_true rfl, Nat.le_of_ble_eq_true rfl⟩ (rfl : _ = some (0, 11)) rfl rfl rfl hl.1 (Nat.le_of_ble_eq_true rfl) dX11_peakOf_6 ⟨Nat.zero_le _, Nat.zero_le _⟩ (fun H locs hw => ?_)
      refine lv_icmp_gt (tgt := 35) hx hb dX11_peakOf_9 (by decide) (fun c3 => ?_) (fun c3 => ?_)
      · replace h := (if_pos c3).symm.trans h
        refine lv_iload_n hx hb dX11_peakOf_35 rfl (lv_at hl 2 rfl) ?_
        exact wretI_R C hw h dX11_peakOf_36
      · replace h := (if_neg c3).symm.trans h
        refine lv_aload_n hx hb dX11_peakOf_12 rfl (lv_at hl 0 rfl) ?_
        refine lv_iload_n hx hb dX11_peakOf_13 rfl (lv_at hl 1 rfl) ?_
        refine lv_iload_n hx hb dX11_peakOf_14 rfl (lv_at hl 3 rfl) ?_
        obtain ⟨r4, e5, h⟩ := bnd_some h
        refine wcallV1 (As := [.int p1, .int v3_4]) (rest := []) C hw (c_X11_strainOf hW  e5) vlX11_290 ⟨Nat.le_of_ble_eq_true rfl, Nat.le_of_ble_eq_true rfl⟩ (rfl : _ = some (0, 11)) rfl rfl rfl hl.1 (Nat.le_of_ble_eq_true rfl) dX11_peakOf_15 ⟨Nat.zero_le _, Nat.zero_le _⟩ (fun H locs hw => ?_)
        refine lv_aload_n hx hb dX11_peakOf_18 rfl (lv_at hl 0 rfl) ?_
        refine lv_iload_n hx hb dX11_peakOf_19 rfl (lv_at hl 1 rfl) ?_
        refine lv_iload_n hx hb dX11_peakOf_20 rfl (lv_at hl 2 rfl) ?_
        obtain ⟨r6, e7, h⟩ := bnd_some h
        refine wcallV1 (As := [.int p1, .int v2_4]) (rest := [.int r4]) C hw (c_X11_strainOf hW  e7) vlX11_290 ⟨Nat.le_of_ble_eq_true rfl, Nat.le_of_ble_eq_true rfl⟩ (rfl : _ = some (0, 11)) rfl rfl rfl hl.1 (Nat.le_of_ble_eq_true rfl) dX11_peakOf_21 ⟨Nat.zero_le _, Nat.zero_le _⟩ (fun H locs hw => ?_)
        refine lv_icmp_le (tgt := 29) hx hb dX11_peakOf_24 (by decide) (fun c8 => ?_) (fun c8 => ?_)
        · replace h := (if_pos c8).symm.trans h
          refine lv_iinc (v := (v3_4 + 1)) (lv' := [(3, .int (v3_4 + 1)), (0, .ref (P.2.2.1 0)), (1, .int p1), (2, .int v2_4)]) (k := 3) hx hb dX11_peakOf_29 hl rfl (congrArg (fun z => v3_4 + z) (by decide)) (by decide) rfl (fun ls hl => ?_)
          refine lv_goto (tgt := 4) hx hb dX11_peakOf_32 (by decide) ?_
          exact ih_4 v2_4 (v3_4 + 1) ls _ _ (lv_sub hl [1, 2, 3, 0] rfl) hw h
        · replace h := (if_neg c8).symm.trans h
          refine lv_iload_n hx hb dX11_peakOf_27 rfl (lv_at hl 3 rfl) ?_
          refine lv_istore_n (lv' := [(2, .int v3_4), (0, .ref (P.2.2.1 0)), (1, .int p1), (3, .int v3_4)]) hx hb dX11_peakOf_28 rfl hl (by decide) rfl (fun ls hl => ?_)
          refine lv_iinc (v := (v3_4 + 1)) (lv' := [(3, .int (v3_4 + 1)), (2, .int v3_4), (0, .ref (P.2.2.1 0)), (1, .int p1)]) (k := 3) hx hb dX11_peakOf_29 hl rfl (congrArg (fun z => v3_4 + z) (by decide)) (by decide) rfl (fun ls hl => ?_)
          refine lv_goto (tgt := 4) hx hb dX11_peakOf_32 (by decide) ?_
          exact ih_4 v3_4 (v3_4 + 1) ls _ _ (lv_sub hl [2, 3, 1, 0] rfl) hw h
  refine lv_iconst (v := 0) hx hb dX11_peakOf_0 (by decide) ?_
  refine lv_istore_n (lv' := [(2, .int 0), (0, .ref (P.2.2.1 0)), (1, .int p1)]) hx hb dX11_peakOf_1 rfl hl (by decide) rfl (fun ls hl => ?_)
  refine lv_iconst (v := 1) hx hb dX11_peakOf_2 (by decide) ?_
  refine lv_istore_n (lv' := [(3, .int 1), (2, .int 0), (0, .ref (P.2.2.1 0)), (1, .int p1)]) hx hb dX11_peakOf_3 rfl hl (by decide) rfl (fun ls hl => ?_)
  exact cut_4 FU 0 1 ls _ _ (lv_sub hl [2, 3, 1, 0] rfl) hw h
set_option maxRecDepth 100000 in
set_option maxHeartbeats 4000000 in
theorem c_X11_peak {l : Launch} {P : Wp} {E : State → Heap → Prop} (hW : Wok shR P E) {p1 : Int32} {M : Mem} {r : Int32} {M' : Mem} (h : f_X11_peak p1 M = some (r, M')) : CT l shR P E yX11_peak bX11_peak 2 ((some .int)) 6 141 [.ref (P.2.2.1 0), .int p1] (some (.int r)) M M' := by
  refine ct_of hW (by decide) (Nat.le_of_ble_eq_true rfl) (fun p e s m args below meth c C ls hl hw => ?_)
  have hx := C.1
  have hb := C.2.1
  replace hl : lv_has ls 2 [(0, .ref (P.2.2.1 0)), (1, .int p1)] := hl
  refine lv_aload_n hx hb dX11_peak_0 rfl (lv_at hl 0 rfl) ?_
  refine lv_iconst (v := 0) hx hb dX11_peak_1 (by decide) ?_
  refine wputI C hw fpX11_77 (rfl : _ = some (0, 11)) dX11_peak_2 (fun M1 eM1 H locs hw => ?_)
  replace h := letv_at eM1 h
  refine lv_aload_n hx hb dX11_peak_5 rfl (lv_at hl 0 rfl) ?_
  refine lv_iload_n hx hb dX11_peak_6 rfl (lv_at hl 1 rfl) ?_
  refine lv_i2l hx hb dX11_peak_7 rfl ?_
  obtain ⟨r2, e3, h⟩ := bnd_some h
  refine wcallV1 (As := [.long ((p1 : Int32).toInt64)]) (rest := []) C hw (c_X11_isPiece hW  e3) vlX11_237 ⟨Nat.le_of_ble_eq_true rfl, Nat.le_of_ble_eq_true rfl⟩ (rfl : _ = some (0, 11)) rfl rfl rfl hl.1 (Nat.le_of_ble_eq_true rfl) dX11_peak_8 ⟨Nat.zero_le _, Nat.zero_le _⟩ (fun H locs hw => ?_)
  refine lv_if_ne (tgt := 17) hx hb dX11_peak_11 (by decide) (fun c4 => ?_) (fun c4 => ?_)
  · replace h := (if_neg c4).symm.trans h
    refine lv_aload_n hx hb dX11_peak_17 rfl (lv_at hl 0 rfl) ?_
    obtain ⟨M7, e6, h⟩ := bnd_some h
    refine wcallV0 (As := []) (rest := []) C hw (c_X11_laysNow hW  e6) vlX11_311 ⟨Nat.le_of_ble_eq_true rfl, Nat.le_of_ble_eq_true rfl⟩ (rfl : _ = some (0, 11)) rfl rfl rfl hl.1 (Nat.le_of_ble_eq_true rfl) dX11_peak_18 ⟨Nat.zero_le _, Nat.zero_le _⟩ (fun H locs hw => ?_)
    refine lv_aload_n hx hb dX11_peak_21 rfl (lv_at hl 0 rfl) ?_
    refine lv_iload_n hx hb dX11_peak_22 rfl (lv_at hl 1 rfl) ?_
    refine lv_aload_n hx hb dX11_peak_23 rfl (lv_at hl 0 rfl) ?_
    refine lv_iload_n hx hb dX11_peak_24 rfl (lv_at hl 1 rfl) ?_
    obtain ⟨r8, e9, h⟩ := bnd_some h
    refine wcallV1 (As := [.int p1]) (rest := [.int p1, .ref (P.2.2.1 0)]) C hw (c_X11_peakOf hW  e9) vlX11_314 ⟨Nat.le_of_ble_eq_true rfl, Nat.le_of_ble_eq_true rfl⟩ (rfl : _ = some (0, 11)) rfl rfl rfl hl.1 (Nat.le_of_ble_eq_true rfl) dX11_peak_25 ⟨Nat.zero_le _, Nat.zero_le _⟩ (fun H locs hw => ?_)
    obtain ⟨r10, e11, h⟩ := bnd_some h
    refine wcallV1 (As := [.int p1, .int r8]) (rest := []) C hw (c_X11_strainOf hW  e11) vlX11_290 ⟨Nat.le_of_ble_eq_true rfl, Nat.le_of_ble_eq_true rfl⟩ (rfl : _ = some (0, 11)) rfl rfl rfl hl.1 (Nat.le_of_ble_eq_true rfl) dX11_peak_28 ⟨Nat.zero_le _, Nat.zero_le _⟩ (fun H locs hw => ?_)
    exact wretI_W C hw h dX11_peak_31
  · replace h := (if_pos c4).symm.trans h
    refine lv_bipush (v := (-2)) hx hb dX11_peak_14 (by decide) ?_
    exact wretI_W C hw h dX11_peak_16
set_option maxRecDepth 100000 in
set_option maxHeartbeats 4000000 in
theorem c_X11_when {l : Launch} {P : Wp} {E : State → Heap → Prop} (hW : Wok shR P E) {p1 : Int32} {M : Mem} {r : Int32} {M' : Mem} (h : f_X11_when p1 M = some (r, M')) : CT l shR P E yX11_when bX11_when 2 ((some .int)) 6 141 [.ref (P.2.2.1 0), .int p1] (some (.int r)) M M' := by
  refine ct_of hW (by decide) (Nat.le_of_ble_eq_true rfl) (fun p e s m args below meth c C ls hl hw => ?_)
  have hx := C.1
  have hb := C.2.1
  replace hl : lv_has ls 2 [(0, .ref (P.2.2.1 0)), (1, .int p1)] := hl
  refine lv_aload_n hx hb dX11_when_0 rfl (lv_at hl 0 rfl) ?_
  refine lv_iconst (v := 0) hx hb dX11_when_1 (by decide) ?_
  refine wputI C hw fpX11_77 (rfl : _ = some (0, 11)) dX11_when_2 (fun M1 eM1 H locs hw => ?_)
  replace h := letv_at eM1 h
  refine lv_aload_n hx hb dX11_when_5 rfl (lv_at hl 0 rfl) ?_
  refine lv_iload_n hx hb dX11_when_6 rfl (lv_at hl 1 rfl) ?_
  refine lv_i2l hx hb dX11_when_7 rfl ?_
  obtain ⟨r2, e3, h⟩ := bnd_some h
  refine wcallV1 (As := [.long ((p1 : Int32).toInt64)]) (rest := []) C hw (c_X11_isPiece hW  e3) vlX11_237 ⟨Nat.le_of_ble_eq_true rfl, Nat.le_of_ble_eq_true rfl⟩ (rfl : _ = some (0, 11)) rfl rfl rfl hl.1 (Nat.le_of_ble_eq_true rfl) dX11_when_8 ⟨Nat.zero_le _, Nat.zero_le _⟩ (fun H locs hw => ?_)
  refine lv_if_ne (tgt := 17) hx hb dX11_when_11 (by decide) (fun c4 => ?_) (fun c4 => ?_)
  · replace h := (if_neg c4).symm.trans h
    refine lv_aload_n hx hb dX11_when_17 rfl (lv_at hl 0 rfl) ?_
    obtain ⟨M7, e6, h⟩ := bnd_some h
    refine wcallV0 (As := []) (rest := []) C hw (c_X11_laysNow hW  e6) vlX11_311 ⟨Nat.le_of_ble_eq_true rfl, Nat.le_of_ble_eq_true rfl⟩ (rfl : _ = some (0, 11)) rfl rfl rfl hl.1 (Nat.le_of_ble_eq_true rfl) dX11_when_18 ⟨Nat.zero_le _, Nat.zero_le _⟩ (fun H locs hw => ?_)
    refine lv_aload_n hx hb dX11_when_21 rfl (lv_at hl 0 rfl) ?_
    refine lv_iload_n hx hb dX11_when_22 rfl (lv_at hl 1 rfl) ?_
    obtain ⟨r8, e9, h⟩ := bnd_some h
    refine wcallV1 (As := [.int p1]) (rest := []) C hw (c_X11_peakOf hW  e9) vlX11_314 ⟨Nat.le_of_ble_eq_true rfl, Nat.le_of_ble_eq_true rfl⟩ (rfl : _ = some (0, 11)) rfl rfl rfl hl.1 (Nat.le_of_ble_eq_true rfl) dX11_when_23 ⟨Nat.zero_le _, Nat.zero_le _⟩ (fun H locs hw => ?_)
    exact wretI_W C hw h dX11_when_26
  · replace h := (if_pos c4).symm.trans h
    refine lv_bipush (v := (-2)) hx hb dX11_when_14 (by decide) ?_
    exact wretI_W C hw h dX11_when_16
set_option maxRecDepth 100000 in
set_option maxHeartbeats 4000000 in
theorem c_X11_frozen {l : Launch} {P : Wp} {E : State → Heap → Prop} (hW : Wok shR P E) {p1 : Int32} {M : Mem} {r : Int32} {M' : Mem} (h : f_X11_frozen p1 M = some (r, M')) : CT l shR P E yX11_frozen bX11_frozen 2 ((some .int)) 6 141 [.ref (P.2.2.1 0), .int p1] (some (.int r)) M M' := by
  refine ct_of hW (by decide) (Nat.le_of_ble_eq_true rfl) (fun p e s m args below meth c C ls hl hw => ?_)
  have hx := C.1
  have hb := C.2.1
  replace hl : lv_has ls 2 [(0, .ref (P.2.2.1 0)), (1, .int p1)] := hl
  refine lv_aload_n hx hb dX11_frozen_0 rfl (lv_at hl 0 rfl) ?_
  refine lv_iconst (v := 0) hx hb dX11_frozen_1 (by decide) ?_
  refine wputI C hw fpX11_77 (rfl : _ = some (0, 11)) dX11_frozen_2 (fun M1 eM1 H locs hw => ?_)
  replace h := letv_at eM1 h
  refine lv_aload_n hx hb dX11_frozen_5 rfl (lv_at hl 0 rfl) ?_
  refine lv_iload_n hx hb dX11_frozen_6 rfl (lv_at hl 1 rfl) ?_
  refine lv_i2l hx hb dX11_frozen_7 rfl ?_
  obtain ⟨r2, e3, h⟩ := bnd_some h
  refine wcallV1 (As := [.long ((p1 : Int32).toInt64)]) (rest := []) C hw (c_X11_isPiece hW  e3) vlX11_237 ⟨Nat.le_of_ble_eq_true rfl, Nat.le_of_ble_eq_true rfl⟩ (rfl : _ = some (0, 11)) rfl rfl rfl hl.1 (Nat.le_of_ble_eq_true rfl) dX11_frozen_8 ⟨Nat.zero_le _, Nat.zero_le _⟩ (fun H locs hw => ?_)
  refine lv_if_ne (tgt := 17) hx hb dX11_frozen_11 (by decide) (fun c4 => ?_) (fun c4 => ?_)
  · replace h := (if_neg c4).symm.trans h
    refine lv_aload_n hx hb dX11_frozen_17 rfl (lv_at hl 0 rfl) ?_
    obtain ⟨M7, e6, h⟩ := bnd_some h
    refine wcallV0 (As := []) (rest := []) C hw (c_X11_laysNow hW  e6) vlX11_311 ⟨Nat.le_of_ble_eq_true rfl, Nat.le_of_ble_eq_true rfl⟩ (rfl : _ = some (0, 11)) rfl rfl rfl hl.1 (Nat.le_of_ble_eq_true rfl) dX11_frozen_18 ⟨Nat.zero_le _, Nat.zero_le _⟩ (fun H locs hw => ?_)
    refine lv_aload_n hx hb dX11_frozen_21 rfl (lv_at hl 0 rfl) ?_
    refine wgetR (t := 17) C hw flX11_65 (rfl : _ = some (0, 11)) rfl dX11_frozen_22 ?_
    refine lv_iload_n hx hb dX11_frozen_25 rfl (lv_at hl 1 rfl) ?_
    obtain ⟨g8, h⟩ := grd h
    refine wald C hw (rfl : _ = some (1, 6)) g8 dX11_frozen_26 ?_
    exact wretI_W C hw h dX11_frozen_27
  · replace h := (if_pos c4).symm.trans h
    refine lv_bipush (v := (-2)) hx hb dX11_frozen_14 (by decide) ?_
    exact wretI_W C hw h dX11_frozen_16
set_option maxRecDepth 100000 in
set_option maxHeartbeats 4000000 in
theorem c_X11_sets {l : Launch} {P : Wp} {E : State → Heap → Prop} (hW : Wok shR P E) {p1 : Int32} {M : Mem} {r : Int32} {M' : Mem} (h : f_X11_sets p1 M = some (r, M')) : CT l shR P E yX11_sets bX11_sets 2 ((some .int)) 6 141 [.ref (P.2.2.1 0), .int p1] (some (.int r)) M M' := by
  refine ct_of hW (by decide) (Nat.le_of_ble_eq_true rfl) (fun p e s m args below meth c C ls hl hw => ?_)
  have hx := C.1
  have hb := C.2.1
  replace hl : lv_has ls 2 [(0, .ref (P.2.2.1 0)), (1, .int p1)] := hl
  refine lv_aload_n hx hb dX11_sets_0 rfl (lv_at hl 0 rfl) ?_
  refine lv_iconst (v := 0) hx hb dX11_sets_1 (by decide) ?_
  refine wputI C hw fpX11_77 (rfl : _ = some (0, 11)) dX11_sets_2 (fun M1 eM1 H locs hw => ?_)
  replace h := letv_at eM1 h
  refine lv_aload_n hx hb dX11_sets_5 rfl (lv_at hl 0 rfl) ?_
  refine lv_iload_n hx hb dX11_sets_6 rfl (lv_at hl 1 rfl) ?_
  refine lv_i2l hx hb dX11_sets_7 rfl ?_
  obtain ⟨r2, e3, h⟩ := bnd_some h
  refine wcallV1 (As := [.long ((p1 : Int32).toInt64)]) (rest := []) C hw (c_X11_isPiece hW  e3) vlX11_237 ⟨Nat.le_of_ble_eq_true rfl, Nat.le_of_ble_eq_true rfl⟩ (rfl : _ = some (0, 11)) rfl rfl rfl hl.1 (Nat.le_of_ble_eq_true rfl) dX11_sets_8 ⟨Nat.zero_le _, Nat.zero_le _⟩ (fun H locs hw => ?_)
  refine lv_if_ne (tgt := 17) hx hb dX11_sets_11 (by decide) (fun c4 => ?_) (fun c4 => ?_)
  · replace h := (if_neg c4).symm.trans h
    refine lv_aload_n hx hb dX11_sets_17 rfl (lv_at hl 0 rfl) ?_
    obtain ⟨M7, e6, h⟩ := bnd_some h
    refine wcallV0 (As := []) (rest := []) C hw (c_X11_laysNow hW  e6) vlX11_311 ⟨Nat.le_of_ble_eq_true rfl, Nat.le_of_ble_eq_true rfl⟩ (rfl : _ = some (0, 11)) rfl rfl rfl hl.1 (Nat.le_of_ble_eq_true rfl) dX11_sets_18 ⟨Nat.zero_le _, Nat.zero_le _⟩ (fun H locs hw => ?_)
    refine lv_aload_n hx hb dX11_sets_21 rfl (lv_at hl 0 rfl) ?_
    refine wgetR (t := 18) C hw flX11_68 (rfl : _ = some (0, 11)) rfl dX11_sets_22 ?_
    refine lv_iload_n hx hb dX11_sets_25 rfl (lv_at hl 1 rfl) ?_
    obtain ⟨g8, h⟩ := grd h
    refine wald C hw (rfl : _ = some (1, 6)) g8 dX11_sets_26 ?_
    exact wretI_W C hw h dX11_sets_27
  · replace h := (if_pos c4).symm.trans h
    refine lv_bipush (v := (-2)) hx hb dX11_sets_14 (by decide) ?_
    exact wretI_W C hw h dX11_sets_16
set_option maxRecDepth 100000 in
set_option maxHeartbeats 4000000 in
theorem c_X11_cracks {l : Launch} {P : Wp} {E : State → Heap → Prop} (hW : Wok shR P E) {p1 : Int32} {M : Mem} {r : Int32} {M' : Mem} (h : f_X11_cracks p1 M = some (r, M')) : CT l shR P E yX11_cracks bX11_cracks 2 ((some .int)) 6 141 [.ref (P.2.2.1 0), .int p1] (some (.int r)) M M' := by
  refine ct_of hW (by decide) (Nat.le_of_ble_eq_true rfl) (fun p e s m args below meth c C ls hl hw => ?_)
  have hx := C.1
  have hb := C.2.1
  replace hl : lv_has ls 2 [(0, .ref (P.2.2.1 0)), (1, .int p1)] := hl
  refine lv_aload_n hx hb dX11_cracks_0 rfl (lv_at hl 0 rfl) ?_
  refine lv_iconst (v := 0) hx hb dX11_cracks_1 (by decide) ?_
  refine wputI C hw fpX11_77 (rfl : _ = some (0, 11)) dX11_cracks_2 (fun M1 eM1 H locs hw => ?_)
  replace h := letv_at eM1 h
  refine lv_aload_n hx hb dX11_cracks_5 rfl (lv_at hl 0 rfl) ?_
  refine lv_iload_n hx hb dX11_cracks_6 rfl (lv_at hl 1 rfl) ?_
  refine lv_i2l hx hb dX11_cracks_7 rfl ?_
  obtain ⟨r2, e3, h⟩ := bnd_some h
  refine wcallV1 (As := [.long ((p1 : Int32).toInt64)]) (rest := []) C hw (c_X11_isPiece hW  e3) vlX11_237 ⟨Nat.le_of_ble_eq_true rfl, Nat.le_of_ble_eq_true rfl⟩ (rfl : _ = some (0, 11)) rfl rfl rfl hl.1 (Nat.le_of_ble_eq_true rfl) dX11_cracks_8 ⟨Nat.zero_le _, Nat.zero_le _⟩ (fun H locs hw => ?_)
  refine lv_if_ne (tgt := 17) hx hb dX11_cracks_11 (by decide) (fun c4 => ?_) (fun c4 => ?_)
  · replace h := (if_neg c4).symm.trans h
    refine lv_aload_n hx hb dX11_cracks_17 rfl (lv_at hl 0 rfl) ?_
    obtain ⟨M7, e6, h⟩ := bnd_some h
    refine wcallV0 (As := []) (rest := []) C hw (c_X11_laysNow hW  e6) vlX11_311 ⟨Nat.le_of_ble_eq_true rfl, Nat.le_of_ble_eq_true rfl⟩ (rfl : _ = some (0, 11)) rfl rfl rfl hl.1 (Nat.le_of_ble_eq_true rfl) dX11_cracks_18 ⟨Nat.zero_le _, Nat.zero_le _⟩ (fun H locs hw => ?_)
    refine lv_aload_n hx hb dX11_cracks_21 rfl (lv_at hl 0 rfl) ?_
    refine wgetR (t := 19) C hw flX11_71 (rfl : _ = some (0, 11)) rfl dX11_cracks_22 ?_
    refine lv_iload_n hx hb dX11_cracks_25 rfl (lv_at hl 1 rfl) ?_
    obtain ⟨g8, h⟩ := grd h
    refine wald C hw (rfl : _ = some (1, 6)) g8 dX11_cracks_26 ?_
    exact wretI_W C hw h dX11_cracks_27
  · replace h := (if_pos c4).symm.trans h
    refine lv_bipush (v := (-2)) hx hb dX11_cracks_14 (by decide) ?_
    exact wretI_W C hw h dX11_cracks_16
set_option maxRecDepth 100000 in
set_option maxHeartbeats 4000000 in
theorem c_X11_why {l : Launch} {P : Wp} {E : State → Heap → Prop} (hW : Wok shR P E) {p1 : Int32} {M : Mem} {r : Int32} {M' : Mem} (h : f_X11_why p1 M = some (r, M')) : CT l shR P E yX11_why bX11_why 2 ((some .int)) 6 141 [.ref (P.2.2.1 0), .int p1] (some (.int r)) M M' := by
  refine ct_of hW (by decide) (Nat.le_of_ble_eq_true rfl) (fun p e s m args below meth c C ls hl hw => ?_)
  have hx := C.1
  have hb := C.2.1
  replace hl : lv_has ls 2 [(0, .ref (P.2.2.1 0)), (1, .int p1)] := hl
  refine lv_aload_n hx hb dX11_why_0 rfl (lv_at hl 0 rfl) ?_
  refine lv_iconst (v := 0) hx hb dX11_why_1 (by decide) ?_
  refine wputI C hw fpX11_77 (rfl : _ = some (0, 11)) dX11_why_2 (fun M1 eM1 H locs hw => ?_)
  replace h := letv_at eM1 h
  refine lv_aload_n hx hb dX11_why_5 rfl (lv_at hl 0 rfl) ?_
  refine lv_iload_n hx hb dX11_why_6 rfl (lv_at hl 1 rfl) ?_
  refine lv_i2l hx hb dX11_why_7 rfl ?_
  obtain ⟨r2, e3, h⟩ := bnd_some h
  refine wcallV1 (As := [.long ((p1 : Int32).toInt64)]) (rest := []) C hw (c_X11_isPiece hW  e3) vlX11_237 ⟨Nat.le_of_ble_eq_true rfl, Nat.le_of_ble_eq_true rfl⟩ (rfl : _ = some (0, 11)) rfl rfl rfl hl.1 (Nat.le_of_ble_eq_true rfl) dX11_why_8 ⟨Nat.zero_le _, Nat.zero_le _⟩ (fun H locs hw => ?_)
  refine lv_if_ne (tgt := 17) hx hb dX11_why_11 (by decide) (fun c4 => ?_) (fun c4 => ?_)
  · replace h := (if_neg c4).symm.trans h
    refine lv_aload_n hx hb dX11_why_17 rfl (lv_at hl 0 rfl) ?_
    obtain ⟨M7, e6, h⟩ := bnd_some h
    refine wcallV0 (As := []) (rest := []) C hw (c_X11_laysNow hW  e6) vlX11_311 ⟨Nat.le_of_ble_eq_true rfl, Nat.le_of_ble_eq_true rfl⟩ (rfl : _ = some (0, 11)) rfl rfl rfl hl.1 (Nat.le_of_ble_eq_true rfl) dX11_why_18 ⟨Nat.zero_le _, Nat.zero_le _⟩ (fun H locs hw => ?_)
    refine lv_aload_n hx hb dX11_why_21 rfl (lv_at hl 0 rfl) ?_
    refine wgetR (t := 20) C hw flX11_74 (rfl : _ = some (0, 11)) rfl dX11_why_22 ?_
    refine lv_iload_n hx hb dX11_why_25 rfl (lv_at hl 1 rfl) ?_
    obtain ⟨g8, h⟩ := grd h
    refine wald C hw (rfl : _ = some (1, 6)) g8 dX11_why_26 ?_
    exact wretI_W C hw h dX11_why_27
  · replace h := (if_pos c4).symm.trans h
    refine lv_bipush (v := (-2)) hx hb dX11_why_14 (by decide) ?_
    exact wretI_W C hw h dX11_why_16
