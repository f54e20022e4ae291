/-! the constructors -/
theorem ac_int : Cond.arrayClass .int ∈ lw_tbl := List.mem_of_getElem? (i := 272) (by decide +kernel)
theorem ac_byte : Cond.arrayClass .byte ∈ lw_tbl := List.mem_of_getElem? (i := 152) (by decide +kernel)
theorem ac_boolean : Cond.arrayClass .boolean ∈ lw_tbl := List.mem_of_getElem? (i := 151) (by decide +kernel)
theorem ac_long : Cond.arrayClass .long ∈ lw_tbl := List.mem_of_getElem? (i := 447) (by decide +kernel)
theorem obj_i : Cond.instanceMethod objectInit ∈ lw_tbl := List.mem_of_getElem? (i := 130) (by decide +kernel)
theorem obj_c : Cond.code objectInit ⟨#[0xb1]⟩ 1 none ∈ lw_tbl := List.mem_of_getElem? (i := 131) (by decide +kernel)
theorem bk_X0 : ∀ q, vwCl[0]? = some q → ∀ ty0 : Nat → FieldType, (∀ k, k < q.2.2 → parseFieldDescriptor (q.2.1 k).2.2.1 = some (ty0 k)) → ∀ j, j < q.2.2 → defaultValue (ty0 j) = vp_V (blk (kds 0)) j := by
  intro q hq
  cases hq
  intro ty0 hty j hj
  have h1 := (hty j hj).symm.trans (tyX0_ok j hj)
  rw [Option.some.inj h1]
  have key : ∀ j, j < 6 → defaultValue (tyX0 j) = vp_V (blk (kds 0)) j := by decide +kernel
  exact key j hj
theorem bk_X1 : ∀ q, vwCl[1]? = some q → ∀ ty0 : Nat → FieldType, (∀ k, k < q.2.2 → parseFieldDescriptor (q.2.1 k).2.2.1 = some (ty0 k)) → ∀ j, j < q.2.2 → defaultValue (ty0 j) = vp_V (blk (kds 1)) j := by
  intro q hq
  cases hq
  intro ty0 hty j hj
  have h1 := (hty j hj).symm.trans (tyX1_ok j hj)
  rw [Option.some.inj h1]
  have key : ∀ j, j < 2 → defaultValue (tyX1 j) = vp_V (blk (kds 1)) j := by decide +kernel
  exact key j hj
theorem bk_X2 : ∀ q, vwCl[2]? = some q → ∀ ty0 : Nat → FieldType, (∀ k, k < q.2.2 → parseFieldDescriptor (q.2.1 k).2.2.1 = some (ty0 k)) → ∀ j, j < q.2.2 → defaultValue (ty0 j) = vp_V (blk (kds 2)) j := by
  intro q hq
  cases hq
  intro ty0 hty j hj
  have h1 := (hty j hj).symm.trans (tyX2_ok j hj)
  rw [Option.some.inj h1]
  have key : ∀ j, j < 10 → defaultValue (tyX2 j) = vp_V (blk (kds 2)) j := by decide +kernel
  exact key j hj
theorem bk_X3 : ∀ q, vwCl[3]? = some q → ∀ ty0 : Nat → FieldType, (∀ k, k < q.2.2 → parseFieldDescriptor (q.2.1 k).2.2.1 = some (ty0 k)) → ∀ j, j < q.2.2 → defaultValue (ty0 j) = vp_V (blk (kds 3)) j := by
  intro q hq
  cases hq
  intro ty0 hty j hj
  have h1 := (hty j hj).symm.trans (tyX3_ok j hj)
  rw [Option.some.inj h1]
  have key : ∀ j, j < 2 → defaultValue (tyX3 j) = vp_V (blk (kds 3)) j := by decide +kernel
  exact key j hj
theorem bk_X4 : ∀ q, vwCl[4]? = some q → ∀ ty0 : Nat → FieldType, (∀ k, k < q.2.2 → parseFieldDescriptor (q.2.1 k).2.2.1 = some (ty0 k)) → ∀ j, j < q.2.2 → defaultValue (ty0 j) = vp_V (blk (kds 4)) j := by
  intro q hq
  cases hq
  intro ty0 hty j hj
  have h1 := (hty j hj).symm.trans (tyX4_ok j hj)
  rw [Option.some.inj h1]
  have key : ∀ j, j < 3 → defaultValue (tyX4 j) = vp_V (blk (kds 4)) j := by decide +kernel
  exact key j hj
theorem bk_X5 : ∀ q, vwCl[5]? = some q → ∀ ty0 : Nat → FieldType, (∀ k, k < q.2.2 → parseFieldDescriptor (q.2.1 k).2.2.1 = some (ty0 k)) → ∀ j, j < q.2.2 → defaultValue (ty0 j) = vp_V (blk (kds 5)) j := by
  intro q hq
  cases hq
  intro ty0 hty j hj
  have h1 := (hty j hj).symm.trans (tyX5_ok j hj)
  rw [Option.some.inj h1]
  have key : ∀ j, j < 13 → defaultValue (tyX5 j) = vp_V (blk (kds 5)) j := by decide +kernel
  exact key j hj
theorem bk_X6 : ∀ q, vwCl[6]? = some q → ∀ ty0 : Nat → FieldType, (∀ k, k < q.2.2 → parseFieldDescriptor (q.2.1 k).2.2.1 = some (ty0 k)) → ∀ j, j < q.2.2 → defaultValue (ty0 j) = vp_V (blk (kds 6)) j := by
  intro q hq
  cases hq
  intro ty0 hty j hj
  have h1 := (hty j hj).symm.trans (tyX6_ok j hj)
  rw [Option.some.inj h1]
  have key : ∀ j, j < 6 → defaultValue (tyX6 j) = vp_V (blk (kds 6)) j := by decide +kernel
  exact key j hj
theorem bk_X7 : ∀ q, vwCl[7]? = some q → ∀ ty0 : Nat → FieldType, (∀ k, k < q.2.2 → parseFieldDescriptor (q.2.1 k).2.2.1 = some (ty0 k)) → ∀ j, j < q.2.2 → defaultValue (ty0 j) = vp_V (blk (kds 7)) j := by
  intro q hq
  cases hq
  intro ty0 hty j hj
  have h1 := (hty j hj).symm.trans (tyX7_ok j hj)
  rw [Option.some.inj h1]
  have key : ∀ j, j < 4 → defaultValue (tyX7 j) = vp_V (blk (kds 7)) j := by decide +kernel
  exact key j hj
theorem bk_X8 : ∀ q, vwCl[8]? = some q → ∀ ty0 : Nat → FieldType, (∀ k, k < q.2.2 → parseFieldDescriptor (q.2.1 k).2.2.1 = some (ty0 k)) → ∀ j, j < q.2.2 → defaultValue (ty0 j) = vp_V (blk (kds 8)) j := by
  intro q hq
  cases hq
  intro ty0 hty j hj
  have h1 := (hty j hj).symm.trans (tyX8_ok j hj)
  rw [Option.some.inj h1]
  have key : ∀ j, j < 2 → defaultValue (tyX8 j) = vp_V (blk (kds 8)) j := by decide +kernel
  exact key j hj
theorem bk_X9 : ∀ q, vwCl[9]? = some q → ∀ ty0 : Nat → FieldType, (∀ k, k < q.2.2 → parseFieldDescriptor (q.2.1 k).2.2.1 = some (ty0 k)) → ∀ j, j < q.2.2 → defaultValue (ty0 j) = vp_V (blk (kds 9)) j := by
  intro q hq
  cases hq
  intro ty0 hty j hj
  have h1 := (hty j hj).symm.trans (tyX9_ok j hj)
  rw [Option.some.inj h1]
  have key : ∀ j, j < 6 → defaultValue (tyX9 j) = vp_V (blk (kds 9)) j := by decide +kernel
  exact key j hj
theorem bk_X10 : ∀ q, vwCl[10]? = some q → ∀ ty0 : Nat → FieldType, (∀ k, k < q.2.2 → parseFieldDescriptor (q.2.1 k).2.2.1 = some (ty0 k)) → ∀ j, j < q.2.2 → defaultValue (ty0 j) = vp_V (blk (kds 10)) j := by
  intro q hq
  cases hq
  intro ty0 hty j hj
  have h1 := (hty j hj).symm.trans (tyX10_ok j hj)
  rw [Option.some.inj h1]
  have key : ∀ j, j < 11 → defaultValue (tyX10 j) = vp_V (blk (kds 10)) j := by decide +kernel
  exact key j hj
theorem bk_X11 : ∀ q, vwCl[11]? = some q → ∀ ty0 : Nat → FieldType, (∀ k, k < q.2.2 → parseFieldDescriptor (q.2.1 k).2.2.1 = some (ty0 k)) → ∀ j, j < q.2.2 → defaultValue (ty0 j) = vp_V (blk (kds 11)) j := by
  intro q hq
  cases hq
  intro ty0 hty j hj
  have h1 := (hty j hj).symm.trans (tyX11_ok j hj)
  rw [Option.some.inj h1]
  have key : ∀ j, j < 39 → defaultValue (tyX11 j) = vp_V (blk (kds 11)) j := by decide +kernel
  exact key j hj
theorem pre_more {n k : Nat} {pre cs : List va_E} (hn : pre.length = n) (hk : cs.length = k) : (pre ++ cs).length = n + k := by rw [List.length_append, hn, hk]
theorem pre_len {n k : Nat} {e : va_E} {pre cs : List va_E} (hn : pre.length = n) (hk : cs[k]? = some e) : n + k < (pre ++ cs).length := by
  have := (List.getElem?_eq_some_iff.mp hk).1
  rw [List.length_append, hn]; omega
theorem pre_lt {b : Nat} {pre cs : List va_E} {e : va_E} (h : pre[b]? = some e) (hb : b < pre.length) : (pre ++ cs)[b]? = some e := by rw [List.getElem?_append_left hb]; exact h
theorem pre_lt2 {b : Nat} {pre cs : List va_E} (hb : b < pre.length) : b < (pre ++ cs).length := by rw [List.length_append]; omega
theorem olX8 : Cond.methodLink "LehrBelt$Tape" 3 objectInit ∈ lw_tbl := List.mem_of_getElem? (i := 141) (by decide +kernel)
theorem plX8_9 : PL "LehrBelt$Tape" 9 8 0 (.array .byte) := ⟨(RX8, TX8, 2), rfl, inX8, by decide, List.mem_of_getElem? (i := 142) (by decide +kernel), ⟨tyX8, tyX8_ok⟩, nmX8, rfl, by decide +kernel⟩
theorem plX8_15 : PL "LehrBelt$Tape" 15 8 1 .int := ⟨(RX8, TX8, 2), rfl, inX8, by decide, List.mem_of_getElem? (i := 143) (by decide +kernel), ⟨tyX8, tyX8_ok⟩, nmX8, rfl, by decide +kernel⟩
theorem olX6 : Cond.methodLink "LehrBelt$Reader" 3 objectInit ∈ lw_tbl := List.mem_of_getElem? (i := 158) (by decide +kernel)
theorem plX6_9 : PL "LehrBelt$Reader" 9 6 0 (.object "LehrBelt$Tape") := ⟨(RX6, TX6, 6), rfl, inX6, by decide, List.mem_of_getElem? (i := 159) (by decide +kernel), ⟨tyX6, tyX6_ok⟩, nmX6, rfl, by decide +kernel⟩
theorem plX6_15 : PL "LehrBelt$Reader" 15 6 4 .int := ⟨(RX6, TX6, 6), rfl, inX6, by decide, List.mem_of_getElem? (i := 163) (by decide +kernel), ⟨tyX6, tyX6_ok⟩, nmX6, rfl, by decide +kernel⟩
theorem plX6_19 : PL "LehrBelt$Reader" 19 6 5 .int := ⟨(RX6, TX6, 6), rfl, inX6, by decide, List.mem_of_getElem? (i := 165) (by decide +kernel), ⟨tyX6, tyX6_ok⟩, nmX6, rfl, by decide +kernel⟩
theorem olX3 : Cond.methodLink "LehrBelt$Fraction" 1 objectInit ∈ lw_tbl := List.mem_of_getElem? (i := 377) (by decide +kernel)
theorem plX3_7 : PL "LehrBelt$Fraction" 7 3 0 .long := ⟨(RX3, TX3, 2), rfl, inX3, by decide, List.mem_of_getElem? (i := 378) (by decide +kernel), ⟨tyX3, tyX3_ok⟩, nmX3, rfl, by decide +kernel⟩
theorem plX3_13 : PL "LehrBelt$Fraction" 13 3 1 .long := ⟨(RX3, TX3, 2), rfl, inX3, by decide, List.mem_of_getElem? (i := 379) (by decide +kernel), ⟨tyX3, tyX3_ok⟩, nmX3, rfl, by decide +kernel⟩
theorem olX7 : Cond.methodLink "LehrBelt$Row" 3 objectInit ∈ lw_tbl := List.mem_of_getElem? (i := 430) (by decide +kernel)
theorem plX7_9 : PL "LehrBelt$Row" 9 7 0 .boolean := ⟨(RX7, TX7, 4), rfl, inX7, by decide, List.mem_of_getElem? (i := 431) (by decide +kernel), ⟨tyX7, tyX7_ok⟩, nmX7, rfl, by decide +kernel⟩
theorem plX7_15 : PL "LehrBelt$Row" 15 7 1 .int := ⟨(RX7, TX7, 4), rfl, inX7, by decide, List.mem_of_getElem? (i := 433) (by decide +kernel), ⟨tyX7, tyX7_ok⟩, nmX7, rfl, by decide +kernel⟩
theorem plX7_19 : PL "LehrBelt$Row" 19 7 2 .int := ⟨(RX7, TX7, 4), rfl, inX7, by decide, List.mem_of_getElem? (i := 435) (by decide +kernel), ⟨tyX7, tyX7_ok⟩, nmX7, rfl, by decide +kernel⟩
theorem plX7_22 : PL "LehrBelt$Row" 22 7 3 (.array .long) := ⟨(RX7, TX7, 4), rfl, inX7, by decide, List.mem_of_getElem? (i := 436) (by decide +kernel), ⟨tyX7, tyX7_ok⟩, nmX7, rfl, by decide +kernel⟩
theorem olX0 : Cond.methodLink "LehrBelt$Acts" 3 objectInit ∈ lw_tbl := List.mem_of_getElem? (i := 285) (by decide +kernel)
theorem plX0_9 : PL "LehrBelt$Acts" 9 0 2 (.array .int) := ⟨(RX0, TX0, 6), rfl, inX0, by decide, List.mem_of_getElem? (i := 291) (by decide +kernel), ⟨tyX0, tyX0_ok⟩, nmX0, rfl, by decide +kernel⟩
theorem plX0_15 : PL "LehrBelt$Acts" 15 0 3 (.array .int) := ⟨(RX0, TX0, 6), rfl, inX0, by decide, List.mem_of_getElem? (i := 292) (by decide +kernel), ⟨tyX0, tyX0_ok⟩, nmX0, rfl, by decide +kernel⟩
theorem plX0_18 : PL "LehrBelt$Acts" 18 0 4 (.array .int) := ⟨(RX0, TX0, 6), rfl, inX0, by decide, List.mem_of_getElem? (i := 293) (by decide +kernel), ⟨tyX0, tyX0_ok⟩, nmX0, rfl, by decide +kernel⟩
theorem plX0_21 : PL "LehrBelt$Acts" 21 0 5 (.array .int) := ⟨(RX0, TX0, 6), rfl, inX0, by decide, List.mem_of_getElem? (i := 294) (by decide +kernel), ⟨tyX0, tyX0_ok⟩, nmX0, rfl, by decide +kernel⟩
theorem olX5 : Cond.methodLink "LehrBelt$Plan" 3 objectInit ∈ lw_tbl := List.mem_of_getElem? (i := 185) (by decide +kernel)
theorem plX5_9 : PL "LehrBelt$Plan" 9 5 8 (.array .int) := ⟨(RX5, TX5, 13), rfl, inX5, by decide, List.mem_of_getElem? (i := 223) (by decide +kernel), ⟨tyX5, tyX5_ok⟩, nmX5, rfl, by decide +kernel⟩
theorem plX5_15 : PL "LehrBelt$Plan" 15 5 9 (.array .int) := ⟨(RX5, TX5, 13), rfl, inX5, by decide, List.mem_of_getElem? (i := 228) (by decide +kernel), ⟨tyX5, tyX5_ok⟩, nmX5, rfl, by decide +kernel⟩
theorem plX5_18 : PL "LehrBelt$Plan" 18 5 10 (.array .int) := ⟨(RX5, TX5, 13), rfl, inX5, by decide, List.mem_of_getElem? (i := 232) (by decide +kernel), ⟨tyX5, tyX5_ok⟩, nmX5, rfl, by decide +kernel⟩
theorem plX5_21 : PL "LehrBelt$Plan" 21 5 11 (.array .int) := ⟨(RX5, TX5, 13), rfl, inX5, by decide, List.mem_of_getElem? (i := 237) (by decide +kernel), ⟨tyX5, tyX5_ok⟩, nmX5, rfl, by decide +kernel⟩
theorem plX5_24 : PL "LehrBelt$Plan" 24 5 12 (.array .int) := ⟨(RX5, TX5, 13), rfl, inX5, by decide, List.mem_of_getElem? (i := 242) (by decide +kernel), ⟨tyX5, tyX5_ok⟩, nmX5, rfl, by decide +kernel⟩
theorem olX1 : Cond.methodLink "LehrBelt$Belt" 3 objectInit ∈ lw_tbl := List.mem_of_getElem? (i := 277) (by decide +kernel)
theorem nlX1_9 : NL "LehrBelt$Belt" 9 5 13 := ⟨(RX5, TX5, 13), rfl, rfl, inX5, ⟨tyX5, tyX5_ok⟩, List.mem_of_getElem? (i := 278) (by decide +kernel), List.mem_of_getElem? (i := 181) (by decide +kernel), List.mem_of_getElem? (i := 107) (by decide +kernel)⟩
theorem ilX1_11 : IL "LehrBelt$Belt" 11 yX5_init bX5_init 1 0 := ⟨List.mem_of_getElem? (i := 279) (by decide +kernel), List.mem_of_getElem? (i := 183) (by decide +kernel), List.mem_of_getElem? (i := 107) (by decide +kernel), List.mem_of_getElem? (i := 184) (by decide +kernel), rfl, by decide +kernel, by decide +kernel, by decide +kernel⟩
theorem plX1_12 : PL "LehrBelt$Belt" 12 1 0 (.object "LehrBelt$Plan") := ⟨(RX1, TX1, 2), rfl, inX1, by decide, List.mem_of_getElem? (i := 309) (by decide +kernel), ⟨tyX1, tyX1_ok⟩, nmX1, rfl, by decide +kernel⟩
theorem nlX1_18 : NL "LehrBelt$Belt" 18 0 6 := ⟨(RX0, TX0, 6), rfl, rfl, inX0, ⟨tyX0, tyX0_ok⟩, List.mem_of_getElem? (i := 280) (by decide +kernel), List.mem_of_getElem? (i := 281) (by decide +kernel), List.mem_of_getElem? (i := 109) (by decide +kernel)⟩
theorem ilX1_20 : IL "LehrBelt$Belt" 20 yX0_init bX0_init 1 0 := ⟨List.mem_of_getElem? (i := 282) (by decide +kernel), List.mem_of_getElem? (i := 283) (by decide +kernel), List.mem_of_getElem? (i := 109) (by decide +kernel), List.mem_of_getElem? (i := 284) (by decide +kernel), rfl, by decide +kernel, by decide +kernel, by decide +kernel⟩
theorem plX1_21 : PL "LehrBelt$Belt" 21 1 1 (.object "LehrBelt$Acts") := ⟨(RX1, TX1, 2), rfl, inX1, by decide, List.mem_of_getElem? (i := 314) (by decide +kernel), ⟨tyX1, tyX1_ok⟩, nmX1, rfl, by decide +kernel⟩
theorem olX2 : Cond.methodLink "LehrBelt$Course" 3 objectInit ∈ lw_tbl := List.mem_of_getElem? (i := 327) (by decide +kernel)
theorem plX2_9 : PL "LehrBelt$Course" 9 2 3 (.array .int) := ⟨(RX2, TX2, 10), rfl, inX2, by decide, List.mem_of_getElem? (i := 331) (by decide +kernel), ⟨tyX2, tyX2_ok⟩, nmX2, rfl, by decide +kernel⟩
theorem plX2_15 : PL "LehrBelt$Course" 15 2 4 (.array .int) := ⟨(RX2, TX2, 10), rfl, inX2, by decide, List.mem_of_getElem? (i := 332) (by decide +kernel), ⟨tyX2, tyX2_ok⟩, nmX2, rfl, by decide +kernel⟩
theorem plX2_18 : PL "LehrBelt$Course" 18 2 5 (.array .int) := ⟨(RX2, TX2, 10), rfl, inX2, by decide, List.mem_of_getElem? (i := 333) (by decide +kernel), ⟨tyX2, tyX2_ok⟩, nmX2, rfl, by decide +kernel⟩
theorem plX2_21 : PL "LehrBelt$Course" 21 2 6 (.array .int) := ⟨(RX2, TX2, 10), rfl, inX2, by decide, List.mem_of_getElem? (i := 334) (by decide +kernel), ⟨tyX2, tyX2_ok⟩, nmX2, rfl, by decide +kernel⟩
theorem plX2_24 : PL "LehrBelt$Course" 24 2 7 (.array .int) := ⟨(RX2, TX2, 10), rfl, inX2, by decide, List.mem_of_getElem? (i := 336) (by decide +kernel), ⟨tyX2, tyX2_ok⟩, nmX2, rfl, by decide +kernel⟩
theorem plX2_27 : PL "LehrBelt$Course" 27 2 8 (.array .int) := ⟨(RX2, TX2, 10), rfl, inX2, by decide, List.mem_of_getElem? (i := 338) (by decide +kernel), ⟨tyX2, tyX2_ok⟩, nmX2, rfl, by decide +kernel⟩
theorem plX2_30 : PL "LehrBelt$Course" 30 2 9 (.array .int) := ⟨(RX2, TX2, 10), rfl, inX2, by decide, List.mem_of_getElem? (i := 341) (by decide +kernel), ⟨tyX2, tyX2_ok⟩, nmX2, rfl, by decide +kernel⟩
theorem plX2_33 : PL "LehrBelt$Course" 33 2 0 (.object "LehrBelt$Belt") := ⟨(RX2, TX2, 10), rfl, inX2, by decide, List.mem_of_getElem? (i := 328) (by decide +kernel), ⟨tyX2, tyX2_ok⟩, nmX2, rfl, by decide +kernel⟩
theorem fiflX2_37 : FL "LehrBelt$Course" 37 1 0 2 := ⟨(RX1, TX1, 2), rfl, inX1, by decide, List.mem_of_getElem? (i := 311) (by decide +kernel), rfl⟩
theorem plX2_43 : PL "LehrBelt$Course" 43 2 1 (.object "LehrBelt$Plan") := ⟨(RX2, TX2, 10), rfl, inX2, by decide, List.mem_of_getElem? (i := 329) (by decide +kernel), ⟨tyX2, tyX2_ok⟩, nmX2, rfl, by decide +kernel⟩
theorem olX9 : Cond.methodLink "LehrBelt$Trials" 3 objectInit ∈ lw_tbl := List.mem_of_getElem? (i := 369) (by decide +kernel)
theorem nlX9_9 : NL "LehrBelt$Trials" 9 1 2 := ⟨(RX1, TX1, 2), rfl, rfl, inX1, ⟨tyX1, tyX1_ok⟩, List.mem_of_getElem? (i := 370) (by decide +kernel), List.mem_of_getElem? (i := 273) (by decide +kernel), List.mem_of_getElem? (i := 108) (by decide +kernel)⟩
theorem ilX9_11 : IL "LehrBelt$Trials" 11 yX1_init bX1_init 1 0 := ⟨List.mem_of_getElem? (i := 371) (by decide +kernel), List.mem_of_getElem? (i := 275) (by decide +kernel), List.mem_of_getElem? (i := 108) (by decide +kernel), List.mem_of_getElem? (i := 276) (by decide +kernel), rfl, by decide +kernel, by decide +kernel, by decide +kernel⟩
theorem plX9_12 : PL "LehrBelt$Trials" 12 9 1 (.object "LehrBelt$Belt") := ⟨(RX9, TX9, 6), rfl, inX9, by decide, List.mem_of_getElem? (i := 388) (by decide +kernel), ⟨tyX9, tyX9_ok⟩, nmX9, rfl, by decide +kernel⟩
theorem nlX9_18 : NL "LehrBelt$Trials" 18 3 2 := ⟨(RX3, TX3, 2), rfl, rfl, inX3, ⟨tyX3, tyX3_ok⟩, List.mem_of_getElem? (i := 372) (by decide +kernel), List.mem_of_getElem? (i := 373) (by decide +kernel), List.mem_of_getElem? (i := 112) (by decide +kernel)⟩
theorem ilX9_20 : IL "LehrBelt$Trials" 20 yX3_init bX3_init 1 0 := ⟨List.mem_of_getElem? (i := 374) (by decide +kernel), List.mem_of_getElem? (i := 375) (by decide +kernel), List.mem_of_getElem? (i := 112) (by decide +kernel), List.mem_of_getElem? (i := 376) (by decide +kernel), rfl, by decide +kernel, by decide +kernel, by decide +kernel⟩
theorem plX9_21 : PL "LehrBelt$Trials" 21 9 3 (.object "LehrBelt$Fraction") := ⟨(RX9, TX9, 6), rfl, inX9, by decide, List.mem_of_getElem? (i := 390) (by decide +kernel), ⟨tyX9, tyX9_ok⟩, nmX9, rfl, by decide +kernel⟩
theorem plX9_25 : PL "LehrBelt$Trials" 25 9 4 (.array .int) := ⟨(RX9, TX9, 6), rfl, inX9, by decide, List.mem_of_getElem? (i := 391) (by decide +kernel), ⟨tyX9, tyX9_ok⟩, nmX9, rfl, by decide +kernel⟩
theorem plX9_29 : PL "LehrBelt$Trials" 29 9 5 (.array .int) := ⟨(RX9, TX9, 6), rfl, inX9, by decide, List.mem_of_getElem? (i := 392) (by decide +kernel), ⟨tyX9, tyX9_ok⟩, nmX9, rfl, by decide +kernel⟩
theorem plX9_32 : PL "LehrBelt$Trials" 32 9 0 (.object "LehrBelt$Belt") := ⟨(RX9, TX9, 6), rfl, inX9, by decide, List.mem_of_getElem? (i := 387) (by decide +kernel), ⟨tyX9, tyX9_ok⟩, nmX9, rfl, by decide +kernel⟩
theorem nlX9_35 : NL "LehrBelt$Trials" 35 2 10 := ⟨(RX2, TX2, 10), rfl, rfl, inX2, ⟨tyX2, tyX2_ok⟩, List.mem_of_getElem? (i := 385) (by decide +kernel), List.mem_of_getElem? (i := 323) (by decide +kernel), List.mem_of_getElem? (i := 110) (by decide +kernel)⟩
theorem fiflX9_12 : FL "LehrBelt$Trials" 12 9 1 2 := ⟨(RX9, TX9, 6), rfl, inX9, by decide, List.mem_of_getElem? (i := 388) (by decide +kernel), rfl⟩
theorem ilX9_37 : IL "LehrBelt$Trials" 37 yX2_init bX2_init 2 1 := ⟨List.mem_of_getElem? (i := 386) (by decide +kernel), List.mem_of_getElem? (i := 325) (by decide +kernel), List.mem_of_getElem? (i := 110) (by decide +kernel), List.mem_of_getElem? (i := 326) (by decide +kernel), rfl, by decide +kernel, by decide +kernel, by decide +kernel⟩
theorem plX9_40 : PL "LehrBelt$Trials" 40 9 2 (.object "LehrBelt$Course") := ⟨(RX9, TX9, 6), rfl, inX9, by decide, List.mem_of_getElem? (i := 389) (by decide +kernel), ⟨tyX9, tyX9_ok⟩, nmX9, rfl, by decide +kernel⟩
theorem olX4 : Cond.methodLink "LehrBelt$Odds" 3 objectInit ∈ lw_tbl := List.mem_of_getElem? (i := 411) (by decide +kernel)
theorem nlX4_9 : NL "LehrBelt$Odds" 9 3 2 := ⟨(RX3, TX3, 2), rfl, rfl, inX3, ⟨tyX3, tyX3_ok⟩, List.mem_of_getElem? (i := 412) (by decide +kernel), List.mem_of_getElem? (i := 373) (by decide +kernel), List.mem_of_getElem? (i := 112) (by decide +kernel)⟩
theorem ilX4_11 : IL "LehrBelt$Odds" 11 yX3_init bX3_init 1 0 := ⟨List.mem_of_getElem? (i := 413) (by decide +kernel), List.mem_of_getElem? (i := 375) (by decide +kernel), List.mem_of_getElem? (i := 112) (by decide +kernel), List.mem_of_getElem? (i := 376) (by decide +kernel), rfl, by decide +kernel, by decide +kernel, by decide +kernel⟩
theorem plX4_12 : PL "LehrBelt$Odds" 12 4 2 (.object "LehrBelt$Fraction") := ⟨(RX4, TX4, 3), rfl, inX4, by decide, List.mem_of_getElem? (i := 418) (by decide +kernel), ⟨tyX4, tyX4_ok⟩, nmX4, rfl, by decide +kernel⟩
theorem fiflX4_18 : FL "LehrBelt$Odds" 18 1 0 2 := ⟨(RX1, TX1, 2), rfl, inX1, by decide, List.mem_of_getElem? (i := 310) (by decide +kernel), rfl⟩
theorem plX4_24 : PL "LehrBelt$Odds" 24 4 0 (.object "LehrBelt$Plan") := ⟨(RX4, TX4, 3), rfl, inX4, by decide, List.mem_of_getElem? (i := 416) (by decide +kernel), ⟨tyX4, tyX4_ok⟩, nmX4, rfl, by decide +kernel⟩
theorem nlX4_25 : NL "LehrBelt$Odds" 25 2 10 := ⟨(RX2, TX2, 10), rfl, rfl, inX2, ⟨tyX2, tyX2_ok⟩, List.mem_of_getElem? (i := 414) (by decide +kernel), List.mem_of_getElem? (i := 323) (by decide +kernel), List.mem_of_getElem? (i := 110) (by decide +kernel)⟩
theorem ilX4_27 : IL "LehrBelt$Odds" 27 yX2_init bX2_init 2 1 := ⟨List.mem_of_getElem? (i := 415) (by decide +kernel), List.mem_of_getElem? (i := 325) (by decide +kernel), List.mem_of_getElem? (i := 110) (by decide +kernel), List.mem_of_getElem? (i := 326) (by decide +kernel), rfl, by decide +kernel, by decide +kernel, by decide +kernel⟩
theorem plX4_30 : PL "LehrBelt$Odds" 30 4 1 (.object "LehrBelt$Course") := ⟨(RX4, TX4, 3), rfl, inX4, by decide, List.mem_of_getElem? (i := 417) (by decide +kernel), ⟨tyX4, tyX4_ok⟩, nmX4, rfl, by decide +kernel⟩
theorem olX10 : Cond.methodLink "LehrBelt" 3 objectInit ∈ lw_tbl := List.mem_of_getElem? (i := 129) (by decide +kernel)
theorem qlX10_9 : Cond.classLink "LehrBelt" 9 "LehrBelt$Belt" ∈ lw_tbl := List.mem_of_getElem? (i := 132) (by decide +kernel)
theorem plX10_11 : PL "LehrBelt" 11 10 7 (.array (.object "LehrBelt$Belt")) := ⟨(RX10, TX10, 11), rfl, inX10, by decide, List.mem_of_getElem? (i := 455) (by decide +kernel), ⟨tyX10, tyX10_ok⟩, nmX10, rfl, by decide +kernel⟩
theorem plX10_15 : PL "LehrBelt" 15 10 8 (.array .boolean) := ⟨(RX10, TX10, 11), rfl, inX10, by decide, List.mem_of_getElem? (i := 456) (by decide +kernel), ⟨tyX10, tyX10_ok⟩, nmX10, rfl, by decide +kernel⟩
theorem qlX10_19 : Cond.classLink "LehrBelt" 19 "LehrBelt$Row" ∈ lw_tbl := List.mem_of_getElem? (i := 134) (by decide +kernel)
theorem plX10_21 : PL "LehrBelt" 21 10 9 (.array (.object "LehrBelt$Row")) := ⟨(RX10, TX10, 11), rfl, inX10, by decide, List.mem_of_getElem? (i := 457) (by decide +kernel), ⟨tyX10, tyX10_ok⟩, nmX10, rfl, by decide +kernel⟩
theorem nlX10_25 : NL "LehrBelt" 25 8 2 := ⟨(RX8, TX8, 2), rfl, rfl, inX8, ⟨tyX8, tyX8_ok⟩, List.mem_of_getElem? (i := 136) (by decide +kernel), List.mem_of_getElem? (i := 137) (by decide +kernel), List.mem_of_getElem? (i := 105) (by decide +kernel)⟩
theorem ilX10_27 : IL "LehrBelt" 27 yX8_init bX8_init 1 0 := ⟨List.mem_of_getElem? (i := 138) (by decide +kernel), List.mem_of_getElem? (i := 139) (by decide +kernel), List.mem_of_getElem? (i := 105) (by decide +kernel), List.mem_of_getElem? (i := 140) (by decide +kernel), rfl, by decide +kernel, by decide +kernel, by decide +kernel⟩
theorem plX10_28 : PL "LehrBelt" 28 10 0 (.object "LehrBelt$Tape") := ⟨(RX10, TX10, 11), rfl, inX10, by decide, List.mem_of_getElem? (i := 448) (by decide +kernel), ⟨tyX10, tyX10_ok⟩, nmX10, rfl, by decide +kernel⟩
theorem nlX10_32 : NL "LehrBelt" 32 6 6 := ⟨(RX6, TX6, 6), rfl, rfl, inX6, ⟨tyX6, tyX6_ok⟩, List.mem_of_getElem? (i := 153) (by decide +kernel), List.mem_of_getElem? (i := 154) (by decide +kernel), List.mem_of_getElem? (i := 106) (by decide +kernel)⟩
theorem fiflX10_28 : FL "LehrBelt" 28 10 0 2 := ⟨(RX10, TX10, 11), rfl, inX10, by decide, List.mem_of_getElem? (i := 448) (by decide +kernel), rfl⟩
theorem ilX10_34 : IL "LehrBelt" 34 yX6_init bX6_init 2 1 := ⟨List.mem_of_getElem? (i := 155) (by decide +kernel), List.mem_of_getElem? (i := 156) (by decide +kernel), List.mem_of_getElem? (i := 106) (by decide +kernel), List.mem_of_getElem? (i := 157) (by decide +kernel), rfl, by decide +kernel, by decide +kernel, by decide +kernel⟩
theorem plX10_37 : PL "LehrBelt" 37 10 1 (.object "LehrBelt$Reader") := ⟨(RX10, TX10, 11), rfl, inX10, by decide, List.mem_of_getElem? (i := 449) (by decide +kernel), ⟨tyX10, tyX10_ok⟩, nmX10, rfl, by decide +kernel⟩
theorem nlX10_41 : NL "LehrBelt" 41 5 13 := ⟨(RX5, TX5, 13), rfl, rfl, inX5, ⟨tyX5, tyX5_ok⟩, List.mem_of_getElem? (i := 180) (by decide +kernel), List.mem_of_getElem? (i := 181) (by decide +kernel), List.mem_of_getElem? (i := 107) (by decide +kernel)⟩
theorem ilX10_43 : IL "LehrBelt" 43 yX5_init bX5_init 1 0 := ⟨List.mem_of_getElem? (i := 182) (by decide +kernel), List.mem_of_getElem? (i := 183) (by decide +kernel), List.mem_of_getElem? (i := 107) (by decide +kernel), List.mem_of_getElem? (i := 184) (by decide +kernel), rfl, by decide +kernel, by decide +kernel, by decide +kernel⟩
theorem plX10_44 : PL "LehrBelt" 44 10 2 (.object "LehrBelt$Plan") := ⟨(RX10, TX10, 11), rfl, inX10, by decide, List.mem_of_getElem? (i := 450) (by decide +kernel), ⟨tyX10, tyX10_ok⟩, nmX10, rfl, by decide +kernel⟩
theorem nlX10_9 : NL "LehrBelt" 9 1 2 := ⟨(RX1, TX1, 2), rfl, rfl, inX1, ⟨tyX1, tyX1_ok⟩, List.mem_of_getElem? (i := 132) (by decide +kernel), List.mem_of_getElem? (i := 273) (by decide +kernel), List.mem_of_getElem? (i := 108) (by decide +kernel)⟩
theorem ilX10_48 : IL "LehrBelt" 48 yX1_init bX1_init 1 0 := ⟨List.mem_of_getElem? (i := 274) (by decide +kernel), List.mem_of_getElem? (i := 275) (by decide +kernel), List.mem_of_getElem? (i := 108) (by decide +kernel), List.mem_of_getElem? (i := 276) (by decide +kernel), rfl, by decide +kernel, by decide +kernel, by decide +kernel⟩
theorem plX10_49 : PL "LehrBelt" 49 10 3 (.object "LehrBelt$Belt") := ⟨(RX10, TX10, 11), rfl, inX10, by decide, List.mem_of_getElem? (i := 451) (by decide +kernel), ⟨tyX10, tyX10_ok⟩, nmX10, rfl, by decide +kernel⟩
theorem nlX10_53 : NL "LehrBelt" 53 2 10 := ⟨(RX2, TX2, 10), rfl, rfl, inX2, ⟨tyX2, tyX2_ok⟩, List.mem_of_getElem? (i := 322) (by decide +kernel), List.mem_of_getElem? (i := 323) (by decide +kernel), List.mem_of_getElem? (i := 110) (by decide +kernel)⟩
theorem fiflX10_49 : FL "LehrBelt" 49 10 3 2 := ⟨(RX10, TX10, 11), rfl, inX10, by decide, List.mem_of_getElem? (i := 451) (by decide +kernel), rfl⟩
theorem ilX10_55 : IL "LehrBelt" 55 yX2_init bX2_init 2 1 := ⟨List.mem_of_getElem? (i := 324) (by decide +kernel), List.mem_of_getElem? (i := 325) (by decide +kernel), List.mem_of_getElem? (i := 110) (by decide +kernel), List.mem_of_getElem? (i := 326) (by decide +kernel), rfl, by decide +kernel, by decide +kernel, by decide +kernel⟩
theorem plX10_58 : PL "LehrBelt" 58 10 4 (.object "LehrBelt$Course") := ⟨(RX10, TX10, 11), rfl, inX10, by decide, List.mem_of_getElem? (i := 452) (by decide +kernel), ⟨tyX10, tyX10_ok⟩, nmX10, rfl, by decide +kernel⟩
theorem nlX10_62 : NL "LehrBelt" 62 9 6 := ⟨(RX9, TX9, 6), rfl, rfl, inX9, ⟨tyX9, tyX9_ok⟩, List.mem_of_getElem? (i := 364) (by decide +kernel), List.mem_of_getElem? (i := 365) (by decide +kernel), List.mem_of_getElem? (i := 111) (by decide +kernel)⟩
theorem ilX10_64 : IL "LehrBelt" 64 yX9_init bX9_init 2 1 := ⟨List.mem_of_getElem? (i := 366) (by decide +kernel), List.mem_of_getElem? (i := 367) (by decide +kernel), List.mem_of_getElem? (i := 111) (by decide +kernel), List.mem_of_getElem? (i := 368) (by decide +kernel), rfl, by decide +kernel, by decide +kernel, by decide +kernel⟩
theorem plX10_65 : PL "LehrBelt" 65 10 5 (.object "LehrBelt$Trials") := ⟨(RX10, TX10, 11), rfl, inX10, by decide, List.mem_of_getElem? (i := 453) (by decide +kernel), ⟨tyX10, tyX10_ok⟩, nmX10, rfl, by decide +kernel⟩
theorem nlX10_69 : NL "LehrBelt" 69 4 3 := ⟨(RX4, TX4, 3), rfl, rfl, inX4, ⟨tyX4, tyX4_ok⟩, List.mem_of_getElem? (i := 406) (by decide +kernel), List.mem_of_getElem? (i := 407) (by decide +kernel), List.mem_of_getElem? (i := 113) (by decide +kernel)⟩
theorem ilX10_71 : IL "LehrBelt" 71 yX4_init bX4_init 2 1 := ⟨List.mem_of_getElem? (i := 408) (by decide +kernel), List.mem_of_getElem? (i := 409) (by decide +kernel), List.mem_of_getElem? (i := 113) (by decide +kernel), List.mem_of_getElem? (i := 410) (by decide +kernel), rfl, by decide +kernel, by decide +kernel, by decide +kernel⟩
theorem plX10_72 : PL "LehrBelt" 72 10 6 (.object "LehrBelt$Odds") := ⟨(RX10, TX10, 11), rfl, inX10, by decide, List.mem_of_getElem? (i := 454) (by decide +kernel), ⟨tyX10, tyX10_ok⟩, nmX10, rfl, by decide +kernel⟩
theorem fiflX10_11 : FL "LehrBelt" 11 10 7 2 := ⟨(RX10, TX10, 11), rfl, inX10, by decide, List.mem_of_getElem? (i := 455) (by decide +kernel), rfl⟩
theorem fiflX10_21 : FL "LehrBelt" 21 10 9 2 := ⟨(RX10, TX10, 11), rfl, inX10, by decide, List.mem_of_getElem? (i := 457) (by decide +kernel), rfl⟩
theorem nlX10_19 : NL "LehrBelt" 19 7 4 := ⟨(RX7, TX7, 4), rfl, rfl, inX7, ⟨tyX7, tyX7_ok⟩, List.mem_of_getElem? (i := 134) (by decide +kernel), List.mem_of_getElem? (i := 426) (by decide +kernel), List.mem_of_getElem? (i := 114) (by decide +kernel)⟩
theorem ilX10_76 : IL "LehrBelt" 76 yX7_init bX7_init 1 0 := ⟨List.mem_of_getElem? (i := 427) (by decide +kernel), List.mem_of_getElem? (i := 428) (by decide +kernel), List.mem_of_getElem? (i := 114) (by decide +kernel), List.mem_of_getElem? (i := 429) (by decide +kernel), rfl, by decide +kernel, by decide +kernel, by decide +kernel⟩
theorem plX10_77 : PL "LehrBelt" 77 10 10 .boolean := ⟨(RX10, TX10, 11), rfl, inX10, by decide, List.mem_of_getElem? (i := 458) (by decide +kernel), ⟨tyX10, tyX10_ok⟩, nmX10, rfl, by decide +kernel⟩
theorem olX11 : Cond.methodLink "LehrBeltModel" 1 objectInit ∈ lw_tbl := List.mem_of_getElem? (i := 1484) (by decide +kernel)
theorem plX11_7 : PL "LehrBeltModel" 7 11 1 (.array .int) := ⟨(RX11, TX11, 39), rfl, inX11, by decide, List.mem_of_getElem? (i := 1486) (by decide +kernel), ⟨tyX11, tyX11_ok⟩, nmX11, rfl, by decide +kernel⟩
theorem plX11_13 : PL "LehrBeltModel" 13 11 2 (.array .int) := ⟨(RX11, TX11, 39), rfl, inX11, by decide, List.mem_of_getElem? (i := 1487) (by decide +kernel), ⟨tyX11, tyX11_ok⟩, nmX11, rfl, by decide +kernel⟩
theorem plX11_16 : PL "LehrBeltModel" 16 11 3 (.array .long) := ⟨(RX11, TX11, 39), rfl, inX11, by decide, List.mem_of_getElem? (i := 1488) (by decide +kernel), ⟨tyX11, tyX11_ok⟩, nmX11, rfl, by decide +kernel⟩
theorem plX11_20 : PL "LehrBeltModel" 20 11 4 (.array .long) := ⟨(RX11, TX11, 39), rfl, inX11, by decide, List.mem_of_getElem? (i := 1489) (by decide +kernel), ⟨tyX11, tyX11_ok⟩, nmX11, rfl, by decide +kernel⟩
theorem plX11_23 : PL "LehrBeltModel" 23 11 5 (.array .byte) := ⟨(RX11, TX11, 39), rfl, inX11, by decide, List.mem_of_getElem? (i := 1490) (by decide +kernel), ⟨tyX11, tyX11_ok⟩, nmX11, rfl, by decide +kernel⟩
theorem plX11_27 : PL "LehrBeltModel" 27 11 15 .int := ⟨(RX11, TX11, 39), rfl, inX11, by decide, List.mem_of_getElem? (i := 1500) (by decide +kernel), ⟨tyX11, tyX11_ok⟩, nmX11, rfl, by decide +kernel⟩
theorem plX11_31 : PL "LehrBeltModel" 31 11 16 (.array .int) := ⟨(RX11, TX11, 39), rfl, inX11, by decide, List.mem_of_getElem? (i := 1501) (by decide +kernel), ⟨tyX11, tyX11_ok⟩, nmX11, rfl, by decide +kernel⟩
theorem plX11_34 : PL "LehrBeltModel" 34 11 17 (.array .int) := ⟨(RX11, TX11, 39), rfl, inX11, by decide, List.mem_of_getElem? (i := 1502) (by decide +kernel), ⟨tyX11, tyX11_ok⟩, nmX11, rfl, by decide +kernel⟩
theorem plX11_37 : PL "LehrBeltModel" 37 11 18 (.array .int) := ⟨(RX11, TX11, 39), rfl, inX11, by decide, List.mem_of_getElem? (i := 1503) (by decide +kernel), ⟨tyX11, tyX11_ok⟩, nmX11, rfl, by decide +kernel⟩
theorem plX11_40 : PL "LehrBeltModel" 40 11 19 (.array .int) := ⟨(RX11, TX11, 39), rfl, inX11, by decide, List.mem_of_getElem? (i := 1504) (by decide +kernel), ⟨tyX11, tyX11_ok⟩, nmX11, rfl, by decide +kernel⟩
theorem plX11_43 : PL "LehrBeltModel" 43 11 20 (.array .int) := ⟨(RX11, TX11, 39), rfl, inX11, by decide, List.mem_of_getElem? (i := 1505) (by decide +kernel), ⟨tyX11, tyX11_ok⟩, nmX11, rfl, by decide +kernel⟩
theorem plX11_46 : PL "LehrBeltModel" 46 11 21 (.array .boolean) := ⟨(RX11, TX11, 39), rfl, inX11, by decide, List.mem_of_getElem? (i := 1506) (by decide +kernel), ⟨tyX11, tyX11_ok⟩, nmX11, rfl, by decide +kernel⟩
theorem plX11_50 : PL "LehrBeltModel" 50 11 27 (.array .int) := ⟨(RX11, TX11, 39), rfl, inX11, by decide, List.mem_of_getElem? (i := 1512) (by decide +kernel), ⟨tyX11, tyX11_ok⟩, nmX11, rfl, by decide +kernel⟩
theorem plX11_53 : PL "LehrBeltModel" 53 11 28 (.array .int) := ⟨(RX11, TX11, 39), rfl, inX11, by decide, List.mem_of_getElem? (i := 1513) (by decide +kernel), ⟨tyX11, tyX11_ok⟩, nmX11, rfl, by decide +kernel⟩
theorem plX11_56 : PL "LehrBeltModel" 56 11 29 (.array .int) := ⟨(RX11, TX11, 39), rfl, inX11, by decide, List.mem_of_getElem? (i := 1514) (by decide +kernel), ⟨tyX11, tyX11_ok⟩, nmX11, rfl, by decide +kernel⟩
theorem plX11_59 : PL "LehrBeltModel" 59 11 30 (.array .int) := ⟨(RX11, TX11, 39), rfl, inX11, by decide, List.mem_of_getElem? (i := 1515) (by decide +kernel), ⟨tyX11, tyX11_ok⟩, nmX11, rfl, by decide +kernel⟩
theorem plX11_62 : PL "LehrBeltModel" 62 11 31 (.array .int) := ⟨(RX11, TX11, 39), rfl, inX11, by decide, List.mem_of_getElem? (i := 1516) (by decide +kernel), ⟨tyX11, tyX11_ok⟩, nmX11, rfl, by decide +kernel⟩
theorem plX11_65 : PL "LehrBeltModel" 65 11 32 (.array .int) := ⟨(RX11, TX11, 39), rfl, inX11, by decide, List.mem_of_getElem? (i := 1517) (by decide +kernel), ⟨tyX11, tyX11_ok⟩, nmX11, rfl, by decide +kernel⟩
theorem plX11_68 : PL "LehrBeltModel" 68 11 33 (.array .int) := ⟨(RX11, TX11, 39), rfl, inX11, by decide, List.mem_of_getElem? (i := 1518) (by decide +kernel), ⟨tyX11, tyX11_ok⟩, nmX11, rfl, by decide +kernel⟩
theorem plX11_71 : PL "LehrBeltModel" 71 11 34 (.array .int) := ⟨(RX11, TX11, 39), rfl, inX11, by decide, List.mem_of_getElem? (i := 1519) (by decide +kernel), ⟨tyX11, tyX11_ok⟩, nmX11, rfl, by decide +kernel⟩
theorem plX11_74 : PL "LehrBeltModel" 74 11 35 (.array .int) := ⟨(RX11, TX11, 39), rfl, inX11, by decide, List.mem_of_getElem? (i := 1520) (by decide +kernel), ⟨tyX11, tyX11_ok⟩, nmX11, rfl, by decide +kernel⟩
theorem fiflX11_7 : FL "LehrBeltModel" 7 11 1 2 := ⟨(RX11, TX11, 39), rfl, inX11, by decide, List.mem_of_getElem? (i := 1486) (by decide +kernel), rfl⟩
def g8_0 (P : Wp) (base n : Nat) : List va_E := [.inr (8, [.null, .int 0])]
def g8_1 (P : Wp) (base n : Nat) : List va_E := [.inr (8, [.null, .int 0]), .inl (P.2.1 2, 600, .inl (fun _ => 0))]
def g8_2 (P : Wp) (base n : Nat) : List va_E := [.inr (8, [.ref (base + (n + 1)), .int 0]), .inl (P.2.1 2, 600, .inl (fun _ => 0))]
def fin_X8 (P : Wp) (base n : Nat) : List va_E := (g8_2 P base n)
set_option maxRecDepth 100000 in
set_option maxHeartbeats 8000000 in
theorem ci_X8 {l : Launch} {P : Wp} {base n : Nat} {pre : List va_E} (hn : pre.length = n) : CI l P yX8_init bX8_init 1 1 20 1 600 [.ref (base + n)] base n (.inr (8, blk (kds 8))) (fin_X8 P base n) pre (fun _ => True) := by
  refine ci_of (by decide) rfl (Nat.le_of_ble_eq_true rfl) (fun p e s m args below meth c C ls hl hw => ?_)
  have hx := C.1
  have hb := C.2.1
  replace hl : lv_has ls 1 [(0, .ref (base + (n + 0)))] := hl
  replace hw : Hn P base (pre ++ (g8_0 P base n)) s s.heap [] := hw
  refine lv_aload_n hx hb dX8_init_0 rfl (lv_at hl 0 rfl) ?_
  refine nobj C olX8 obj_i obj_c hl.1 (Nat.le_of_ble_eq_true rfl) (Nat.le_of_ble_eq_true rfl) dX8_init_1 ?_
  refine lv_aload_n hx hb dX8_init_4 rfl (lv_at hl 0 rfl) ?_
  refine lv_sipush (v := 600) hx hb dX8_init_5 (by decide) ?_
  refine nnewa (pre := pre) (cs := (g8_0 P base n)) (t0 := 1) (atype := .byte) (ty := .byte) (N := 600) (a0 := (600, .inl (fun _ => 0))) C hw hn rfl rfl ac_byte rfl (by intro q h; cases h) (fun _ => rfl) (by decide) (by decide) (Nat.le_of_ble_eq_true rfl) (Nat.le_of_ble_eq_true rfl) (Nat.le_of_ble_eq_true rfl) dX8_init_8 (fun H hw => ?_)
  replace hw : Hn P base (pre ++ (g8_1 P base n)) s _ _ := hw
  refine nput (pre := pre) (cs := (g8_1 P base n)) (j := 0) (N := 2) C hw hn plX8_9 rfl rfl (by decide) (by rfl) (by rfl) dX8_init_10 (fun H locs hw => ?_)
  replace hw : Hn P base (pre ++ (g8_2 P base n)) s _ _ := hw
  refine lv_aload_n hx hb dX8_init_13 rfl (lv_at hl 0 rfl) ?_
  refine lv_iconst (v := 0) hx hb dX8_init_14 (by decide) ?_
  refine nput (pre := pre) (cs := (g8_2 P base n)) (j := 0) (N := 2) C hw hn plX8_15 rfl rfl (by decide) (by rfl) (by rfl) dX8_init_15 (fun H locs hw => ?_)
  replace hw : Hn P base (pre ++ (g8_2 P base n)) s _ _ := hw
  exact nvret C hw rfl dX8_init_18
def g6_0 (P : Wp) (base n : Nat) (t : Nat) : List va_E := [.inr (6, [.null, .int 0, .int 0, .int 0, .int 0, .int 0])]
def g6_1 (P : Wp) (base n : Nat) (t : Nat) : List va_E := [.inr (6, [.ref t, .int 0, .int 0, .int 0, .int 0, .int 0])]
def g6_2 (P : Wp) (base n : Nat) (t : Nat) : List va_E := [.inr (6, [.ref t, .int 0, .int 0, .int 0, .int 0, .int (-1)])]
def fin_X6 (P : Wp) (base n : Nat) (t : Nat) : List va_E := (g6_2 P base n t)
set_option maxRecDepth 100000 in
set_option maxHeartbeats 8000000 in
theorem ci_X6 {l : Launch} {P : Wp} {base n : Nat} {t : Nat} {pre : List va_E} (hn : pre.length = n) : CI l P yX6_init bX6_init 2 1 20 0 0 [.ref (base + n), .ref t] base n (.inr (6, blk (kds 6))) (fin_X6 P base n t) pre (fun _ => True) := by
  refine ci_of (by decide) rfl (Nat.le_of_ble_eq_true rfl) (fun p e s m args below meth c C ls hl hw => ?_)
  have hx := C.1
  have hb := C.2.1
  replace hl : lv_has ls 2 [(0, .ref (base + (n + 0))), (1, .ref t)] := hl
  replace hw : Hn P base (pre ++ (g6_0 P base n t)) s s.heap [] := hw
  refine lv_aload_n hx hb dX6_init_0 rfl (lv_at hl 0 rfl) ?_
  refine nobj C olX6 obj_i obj_c hl.1 (Nat.le_of_ble_eq_true rfl) (Nat.le_of_ble_eq_true rfl) dX6_init_1 ?_
  refine lv_aload_n hx hb dX6_init_4 rfl (lv_at hl 0 rfl) ?_
  refine lv_aload_n hx hb dX6_init_5 rfl (lv_at hl 1 rfl) ?_
  refine nput (pre := pre) (cs := (g6_0 P base n t)) (j := 0) (N := 6) C hw hn plX6_9 rfl rfl (by decide) (by rfl) (by rfl) dX6_init_6 (fun H locs hw => ?_)
  replace hw : Hn P base (pre ++ (g6_1 P base n t)) s _ _ := hw
  refine lv_aload_n hx hb dX6_init_9 rfl (lv_at hl 0 rfl) ?_
  refine lv_iconst (v := 0) hx hb dX6_init_10 (by decide) ?_
  refine nput (pre := pre) (cs := (g6_1 P base n t)) (j := 0) (N := 6) C hw hn plX6_15 rfl rfl (by decide) (by rfl) (by rfl) dX6_init_11 (fun H locs hw => ?_)
  replace hw : Hn P base (pre ++ (g6_1 P base n t)) s _ _ := hw
  refine lv_aload_n hx hb dX6_init_14 rfl (lv_at hl 0 rfl) ?_
  refine lv_iconst (v := (-1)) hx hb dX6_init_15 (by decide) ?_
  refine nput (pre := pre) (cs := (g6_1 P base n t)) (j := 0) (N := 6) C hw hn plX6_19 rfl rfl (by decide) (by rfl) (by rfl) dX6_init_16 (fun H locs hw => ?_)
  replace hw : Hn P base (pre ++ (g6_2 P base n t)) s _ _ := hw
  exact nvret C hw rfl dX6_init_19
def g3_0 (P : Wp) (base n : Nat) : List va_E := [.inr (3, [.long 0, .long 0])]
def g3_1 (P : Wp) (base n : Nat) : List va_E := [.inr (3, [.long 0, .long 1])]
def fin_X3 (P : Wp) (base n : Nat) : List va_E := (g3_1 P base n)
set_option maxRecDepth 100000 in
set_option maxHeartbeats 8000000 in
theorem ci_X3 {l : Launch} {P : Wp} {base n : Nat} {pre : List va_E} (hn : pre.length = n) : CI l P yX3_init bX3_init 1 1 20 0 0 [.ref (base + n)] base n (.inr (3, blk (kds 3))) (fin_X3 P base n) pre (fun _ => True) := by
  refine ci_of (by decide) rfl (Nat.le_of_ble_eq_true rfl) (fun p e s m args below meth c C ls hl hw => ?_)
  have hx := C.1
  have hb := C.2.1
  replace hl : lv_has ls 1 [(0, .ref (base + (n + 0)))] := hl
  replace hw : Hn P base (pre ++ (g3_0 P base n)) s s.heap [] := hw
  refine lv_aload_n hx hb dX3_init_0 rfl (lv_at hl 0 rfl) ?_
  refine nobj C olX3 obj_i obj_c hl.1 (Nat.le_of_ble_eq_true rfl) (Nat.le_of_ble_eq_true rfl) dX3_init_1 ?_
  refine lv_aload_n hx hb dX3_init_4 rfl (lv_at hl 0 rfl) ?_
  refine lv_lconst (v := 0) hx hb dX3_init_5 (by decide) ?_
  refine nput (pre := pre) (cs := (g3_0 P base n)) (j := 0) (N := 2) C hw hn plX3_7 rfl rfl (by decide) (by rfl) (by rfl) dX3_init_6 (fun H locs hw => ?_)
  replace hw : Hn P base (pre ++ (g3_0 P base n)) s _ _ := hw
  refine lv_aload_n hx hb dX3_init_9 rfl (lv_at hl 0 rfl) ?_
  refine lv_lconst (v := 1) hx hb dX3_init_10 (by decide) ?_
  refine nput (pre := pre) (cs := (g3_0 P base n)) (j := 0) (N := 2) C hw hn plX3_13 rfl rfl (by decide) (by rfl) (by rfl) dX3_init_11 (fun H locs hw => ?_)
  replace hw : Hn P base (pre ++ (g3_1 P base n)) s _ _ := hw
  exact nvret C hw rfl dX3_init_14
def g7_0 (P : Wp) (base n : Nat) : List va_E := [.inr (7, [.int 0, .int 0, .int 0, .null])]
def g7_1 (P : Wp) (base n : Nat) : List va_E := [.inr (7, [.int 0, .int 0, .int 0, .null]), .inl (P.2.1 4, 60, .inr (.inl (fun _ => 0)))]
def g7_2 (P : Wp) (base n : Nat) : List va_E := [.inr (7, [.int 0, .int 0, .int 0, .ref (base + (n + 1))]), .inl (P.2.1 4, 60, .inr (.inl (fun _ => 0)))]
def fin_X7 (P : Wp) (base n : Nat) : List va_E := (g7_2 P base n)
set_option maxRecDepth 100000 in
set_option maxHeartbeats 8000000 in
theorem ci_X7 {l : Launch} {P : Wp} {base n : Nat} {pre : List va_E} (hn : pre.length = n) : CI l P yX7_init bX7_init 1 1 20 1 60 [.ref (base + n)] base n (.inr (7, blk (kds 7))) (fin_X7 P base n) pre (fun _ => True) := by
  refine ci_of (by decide) rfl (Nat.le_of_ble_eq_true rfl) (fun p e s m args below meth c C ls hl hw => ?_)
  have hx := C.1
  have hb := C.2.1
  replace hl : lv_has ls 1 [(0, .ref (base + (n + 0)))] := hl
  replace hw : Hn P base (pre ++ (g7_0 P base n)) s s.heap [] := hw
  refine lv_aload_n hx hb dX7_init_0 rfl (lv_at hl 0 rfl) ?_
  refine nobj C olX7 obj_i obj_c hl.1 (Nat.le_of_ble_eq_true rfl) (Nat.le_of_ble_eq_true rfl) dX7_init_1 ?_
  refine lv_aload_n hx hb dX7_init_4 rfl (lv_at hl 0 rfl) ?_
  refine lv_iconst (v := 0) hx hb dX7_init_5 (by decide) ?_
  refine nput (pre := pre) (cs := (g7_0 P base n)) (j := 0) (N := 4) C hw hn plX7_9 rfl rfl (by decide) (by rfl) (by rfl) dX7_init_6 (fun H locs hw => ?_)
  replace hw : Hn P base (pre ++ (g7_0 P base n)) s _ _ := hw
  refine lv_aload_n hx hb dX7_init_9 rfl (lv_at hl 0 rfl) ?_
  refine lv_iconst (v := 0) hx hb dX7_init_10 (by decide) ?_
  refine nput (pre := pre) (cs := (g7_0 P base n)) (j := 0) (N := 4) C hw hn plX7_15 rfl rfl (by decide) (by rfl) (by rfl) dX7_init_11 (fun H locs hw => ?_)
  replace hw : Hn P base (pre ++ (g7_0 P base n)) s _ _ := hw
  refine lv_aload_n hx hb dX7_init_14 rfl (lv_at hl 0 rfl) ?_
  refine lv_iconst (v := 0) hx hb dX7_init_15 (by decide) ?_
  refine nput (pre := pre) (cs := (g7_0 P base n)) (j := 0) (N := 4) C hw hn plX7_19 rfl rfl (by decide) (by rfl) (by rfl) dX7_init_16 (fun H locs hw => ?_)
  replace hw : Hn P base (pre ++ (g7_0 P base n)) s _ _ := hw
  refine lv_aload_n hx hb dX7_init_19 rfl (lv_at hl 0 rfl) ?_
  refine lv_bipush (v := 60) hx hb dX7_init_20 (by decide) ?_
  refine nnewa (pre := pre) (cs := (g7_0 P base n)) (t0 := 3) (atype := .long) (ty := .long) (N := 60) (a0 := (60, .inr (.inl (fun _ => 0)))) C hw hn rfl rfl ac_long rfl (by intro q h; cases h) (fun _ => rfl) (by decide) (by decide) (Nat.le_of_ble_eq_true rfl) (Nat.le_of_ble_eq_true rfl) (Nat.le_of_ble_eq_true rfl) dX7_init_22 (fun H hw => ?_)
  replace hw : Hn P base (pre ++ (g7_1 P base n)) s _ _ := hw
  refine nput (pre := pre) (cs := (g7_1 P base n)) (j := 0) (N := 4) C hw hn plX7_22 rfl rfl (by decide) (by rfl) (by rfl) dX7_init_24 (fun H locs hw => ?_)
  replace hw : Hn P base (pre ++ (g7_2 P base n)) s _ _ := hw
  exact nvret C hw rfl dX7_init_27
def g0_0 (P : Wp) (base n : Nat) : List va_E := [.inr (0, [.int 0, .int 0, .null, .null, .null, .null])]
def g0_1 (P : Wp) (base n : Nat) : List va_E := [.inr (0, [.int 0, .int 0, .null, .null, .null, .null]), .inl (P.2.1 1, 30, .inl (fun _ => 0))]
def g0_2 (P : Wp) (base n : Nat) : List va_E := [.inr (0, [.int 0, .int 0, .ref (base + (n + 1)), .null, .null, .null]), .inl (P.2.1 1, 30, .inl (fun _ => 0))]
def g0_3 (P : Wp) (base n : Nat) : List va_E := [.inr (0, [.int 0, .int 0, .ref (base + (n + 1)), .null, .null, .null]), .inl (P.2.1 1, 30, .inl (fun _ => 0)), .inl (P.2.1 1, 30, .inl (fun _ => 0))]
def g0_4 (P : Wp) (base n : Nat) : List va_E := [.inr (0, [.int 0, .int 0, .ref (base + (n + 1)), .ref (base + (n + 2)), .null, .null]), .inl (P.2.1 1, 30, .inl (fun _ => 0)), .inl (P.2.1 1, 30, .inl (fun _ => 0))]
def g0_5 (P : Wp) (base n : Nat) : List va_E := [.inr (0, [.int 0, .int 0, .ref (base + (n + 1)), .ref (base + (n + 2)), .null, .null]), .inl (P.2.1 1, 30, .inl (fun _ => 0)), .inl (P.2.1 1, 30, .inl (fun _ => 0)), .inl (P.2.1 1, 30, .inl (fun _ => 0))]
def g0_6 (P : Wp) (base n : Nat) : List va_E := [.inr (0, [.int 0, .int 0, .ref (base + (n + 1)), .ref (base + (n + 2)), .ref (base + (n + 3)), .null]), .inl (P.2.1 1, 30, .inl (fun _ => 0)), .inl (P.2.1 1, 30, .inl (fun _ => 0)), .inl (P.2.1 1, 30, .inl (fun _ => 0))]
def g0_7 (P : Wp) (base n : Nat) : List va_E := [.inr (0, [.int 0, .int 0, .ref (base + (n + 1)), .ref (base + (n + 2)), .ref (base + (n + 3)), .null]), .inl (P.2.1 1, 30, .inl (fun _ => 0)), .inl (P.2.1 1, 30, .inl (fun _ => 0)), .inl (P.2.1 1, 30, .inl (fun _ => 0)), .inl (P.2.1 1, 105, .inl (fun _ => 0))]
def g0_8 (P : Wp) (base n : Nat) : List va_E := [.inr (0, [.int 0, .int 0, .ref (base + (n + 1)), .ref (base + (n + 2)), .ref (base + (n + 3)), .ref (base + (n + 4))]), .inl (P.2.1 1, 30, .inl (fun _ => 0)), .inl (P.2.1 1, 30, .inl (fun _ => 0)), .inl (P.2.1 1, 30, .inl (fun _ => 0)), .inl (P.2.1 1, 105, .inl (fun _ => 0))]
def fin_X0 (P : Wp) (base n : Nat) : List va_E := (g0_8 P base n)
set_option maxRecDepth 100000 in
set_option maxHeartbeats 8000000 in
theorem ci_X0 {l : Launch} {P : Wp} {base n : Nat} {pre : List va_E} (hn : pre.length = n) : CI l P yX0_init bX0_init 1 1 20 4 195 [.ref (base + n)] base n (.inr (0, blk (kds 0))) (fin_X0 P base n) pre (fun _ => True) := by
  refine ci_of (by decide) rfl (Nat.le_of_ble_eq_true rfl) (fun p e s m args below meth c C ls hl hw => ?_)
  have hx := C.1
  have hb := C.2.1
  replace hl : lv_has ls 1 [(0, .ref (base + (n + 0)))] := hl
  replace hw : Hn P base (pre ++ (g0_0 P base n)) s s.heap [] := hw
  refine lv_aload_n hx hb dX0_init_0 rfl (lv_at hl 0 rfl) ?_
  refine nobj C olX0 obj_i obj_c hl.1 (Nat.le_of_ble_eq_true rfl) (Nat.le_of_ble_eq_true rfl) dX0_init_1 ?_
  refine lv_aload_n hx hb dX0_init_4 rfl (lv_at hl 0 rfl) ?_
  refine lv_bipush (v := 30) hx hb dX0_init_5 (by decide) ?_
  refine nnewa (pre := pre) (cs := (g0_0 P base n)) (t0 := 0) (atype := .int) (ty := .int) (N := 30) (a0 := (30, .inl (fun _ => 0))) C hw hn rfl rfl ac_int rfl (by intro q h; cases h) (fun _ => rfl) (by decide) (by decide) (Nat.le_of_ble_eq_true rfl) (Nat.le_of_ble_eq_true rfl) (Nat.le_of_ble_eq_true rfl) dX0_init_7 (fun H hw => ?_)
  replace hw : Hn P base (pre ++ (g0_1 P base n)) s _ _ := hw
  refine nput (pre := pre) (cs := (g0_1 P base n)) (j := 0) (N := 6) C hw hn plX0_9 rfl rfl (by decide) (by rfl) (by rfl) dX0_init_9 (fun H locs hw => ?_)
  replace hw : Hn P base (pre ++ (g0_2 P base n)) s _ _ := hw
  refine lv_aload_n hx hb dX0_init_12 rfl (lv_at hl 0 rfl) ?_
  refine lv_bipush (v := 30) hx hb dX0_init_13 (by decide) ?_
  refine nnewa (pre := pre) (cs := (g0_2 P base n)) (t0 := 0) (atype := .int) (ty := .int) (N := 30) (a0 := (30, .inl (fun _ => 0))) C hw hn rfl rfl ac_int rfl (by intro q h; cases h) (fun _ => rfl) (by decide) (by decide) (Nat.le_of_ble_eq_true rfl) (Nat.le_of_ble_eq_true rfl) (Nat.le_of_ble_eq_true rfl) dX0_init_15 (fun H hw => ?_)
  replace hw : Hn P base (pre ++ (g0_3 P base n)) s _ _ := hw
  refine nput (pre := pre) (cs := (g0_3 P base n)) (j := 0) (N := 6) C hw hn plX0_15 rfl rfl (by decide) (by rfl) (by rfl) dX0_init_17 (fun H locs hw => ?_)
  replace hw : Hn P base (pre ++ (g0_4 P base n)) s _ _ := hw
  refine lv_aload_n hx hb dX0_init_20 rfl (lv_at hl 0 rfl) ?_
  refine lv_bipush (v := 30) hx hb dX0_init_21 (by decide) ?_
  refine nnewa (pre := pre) (cs := (g0_4 P base n)) (t0 := 0) (atype := .int) (ty := .int) (N := 30) (a0 := (30, .inl (fun _ => 0))) C hw hn rfl rfl ac_int rfl (by intro q h; cases h) (fun _ => rfl) (by decide) (by decide) (Nat.le_of_ble_eq_true rfl) (Nat.le_of_ble_eq_true rfl) (Nat.le_of_ble_eq_true rfl) dX0_init_23 (fun H hw => ?_)
  replace hw : Hn P base (pre ++ (g0_5 P base n)) s _ _ := hw
  refine nput (pre := pre) (cs := (g0_5 P base n)) (j := 0) (N := 6) C hw hn plX0_18 rfl rfl (by decide) (by rfl) (by rfl) dX0_init_25 (fun H locs hw => ?_)
  replace hw : Hn P base (pre ++ (g0_6 P base n)) s _ _ := hw
  refine lv_aload_n hx hb dX0_init_28 rfl (lv_at hl 0 rfl) ?_
  refine lv_bipush (v := 105) hx hb dX0_init_29 (by decide) ?_
  refine nnewa (pre := pre) (cs := (g0_6 P base n)) (t0 := 0) (atype := .int) (ty := .int) (N := 105) (a0 := (105, .inl (fun _ => 0))) C hw hn rfl rfl ac_int rfl (by intro q h; cases h) (fun _ => rfl) (by decide) (by decide) (Nat.le_of_ble_eq_true rfl) (Nat.le_of_ble_eq_true rfl) (Nat.le_of_ble_eq_true rfl) dX0_init_31 (fun H hw => ?_)
  replace hw : Hn P base (pre ++ (g0_7 P base n)) s _ _ := hw
  refine nput (pre := pre) (cs := (g0_7 P base n)) (j := 0) (N := 6) C hw hn plX0_21 rfl rfl (by decide) (by rfl) (by rfl) dX0_init_33 (fun H locs hw => ?_)
  replace hw : Hn P base (pre ++ (g0_8 P base n)) s _ _ := hw
  exact nvret C hw rfl dX0_init_36
def g5_0 (P : Wp) (base n : Nat) : List va_E := [.inr (5, [.int 0, .int 0, .int 0, .int 0, .int 0, .int 0, .int 0, .int 0, .null, .null, .null, .null, .null])]
def g5_1 (P : Wp) (base n : Nat) : List va_E := [.inr (5, [.int 0, .int 0, .int 0, .int 0, .int 0, .int 0, .int 0, .int 0, .null, .null, .null, .null, .null]), .inl (P.2.1 1, 7, .inl (fun _ => 0))]
def g5_2 (P : Wp) (base n : Nat) : List va_E := [.inr (5, [.int 0, .int 0, .int 0, .int 0, .int 0, .int 0, .int 0, .int 0, .ref (base + (n + 1)), .null, .null, .null, .null]), .inl (P.2.1 1, 7, .inl (fun _ => 0))]
def g5_3 (P : Wp) (base n : Nat) : List va_E := [.inr (5, [.int 0, .int 0, .int 0, .int 0, .int 0, .int 0, .int 0, .int 0, .ref (base + (n + 1)), .null, .null, .null, .null]), .inl (P.2.1 1, 7, .inl (fun _ => 0)), .inl (P.2.1 1, 6, .inl (fun _ => 0))]
def g5_4 (P : Wp) (base n : Nat) : List va_E := [.inr (5, [.int 0, .int 0, .int 0, .int 0, .int 0, .int 0, .int 0, .int 0, .ref (base + (n + 1)), .ref (base + (n + 2)), .null, .null, .null]), .inl (P.2.1 1, 7, .inl (fun _ => 0)), .inl (P.2.1 1, 6, .inl (fun _ => 0))]
def g5_5 (P : Wp) (base n : Nat) : List va_E := [.inr (5, [.int 0, .int 0, .int 0, .int 0, .int 0, .int 0, .int 0, .int 0, .ref (base + (n + 1)), .ref (base + (n + 2)), .null, .null, .null]), .inl (P.2.1 1, 7, .inl (fun _ => 0)), .inl (P.2.1 1, 6, .inl (fun _ => 0)), .inl (P.2.1 1, 6, .inl (fun _ => 0))]
def g5_6 (P : Wp) (base n : Nat) : List va_E := [.inr (5, [.int 0, .int 0, .int 0, .int 0, .int 0, .int 0, .int 0, .int 0, .ref (base + (n + 1)), .ref (base + (n + 2)), .ref (base + (n + 3)), .null, .null]), .inl (P.2.1 1, 7, .inl (fun _ => 0)), .inl (P.2.1 1, 6, .inl (fun _ => 0)), .inl (P.2.1 1, 6, .inl (fun _ => 0))]
def g5_7 (P : Wp) (base n : Nat) : List va_E := [.inr (5, [.int 0, .int 0, .int 0, .int 0, .int 0, .int 0, .int 0, .int 0, .ref (base + (n + 1)), .ref (base + (n + 2)), .ref (base + (n + 3)), .null, .null]), .inl (P.2.1 1, 7, .inl (fun _ => 0)), .inl (P.2.1 1, 6, .inl (fun _ => 0)), .inl (P.2.1 1, 6, .inl (fun _ => 0)), .inl (P.2.1 1, 6, .inl (fun _ => 0))]
def g5_8 (P : Wp) (base n : Nat) : List va_E := [.inr (5, [.int 0, .int 0, .int 0, .int 0, .int 0, .int 0, .int 0, .int 0, .ref (base + (n + 1)), .ref (base + (n + 2)), .ref (base + (n + 3)), .ref (base + (n + 4)), .null]), .inl (P.2.1 1, 7, .inl (fun _ => 0)), .inl (P.2.1 1, 6, .inl (fun _ => 0)), .inl (P.2.1 1, 6, .inl (fun _ => 0)), .inl (P.2.1 1, 6, .inl (fun _ => 0))]
def g5_9 (P : Wp) (base n : Nat) : List va_E := [.inr (5, [.int 0, .int 0, .int 0, .int 0, .int 0, .int 0, .int 0, .int 0, .ref (base + (n + 1)), .ref (base + (n + 2)), .ref (base + (n + 3)), .ref (base + (n + 4)), .null]), .inl (P.2.1 1, 7, .inl (fun _ => 0)), .inl (P.2.1 1, 6, .inl (fun _ => 0)), .inl (P.2.1 1, 6, .inl (fun _ => 0)), .inl (P.2.1 1, 6, .inl (fun _ => 0)), .inl (P.2.1 1, 6, .inl (fun _ => 0))]
def g5_10 (P : Wp) (base n : Nat) : List va_E := [.inr (5, [.int 0, .int 0, .int 0, .int 0, .int 0, .int 0, .int 0, .int 0, .ref (base + (n + 1)), .ref (base + (n + 2)), .ref (base + (n + 3)), .ref (base + (n + 4)), .ref (base + (n + 5))]), .inl (P.2.1 1, 7, .inl (fun _ => 0)), .inl (P.2.1 1, 6, .inl (fun _ => 0)), .inl (P.2.1 1, 6, .inl (fun _ => 0)), .inl (P.2.1 1, 6, .inl (fun _ => 0)), .inl (P.2.1 1, 6, .inl (fun _ => 0))]
def fin_X5 (P : Wp) (base n : Nat) : List va_E := (g5_10 P base n)
set_option maxRecDepth 100000 in
set_option maxHeartbeats 8000000 in
theorem ci_X5 {l : Launch} {P : Wp} {base n : Nat} {pre : List va_E} (hn : pre.length = n) : CI l P yX5_init bX5_init 1 1 20 5 31 [.ref (base + n)] base n (.inr (5, blk (kds 5))) (fin_X5 P base n) pre (fun _ => True) := by
  refine ci_of (by decide) rfl (Nat.le_of_ble_eq_true rfl) (fun p e s m args below meth c C ls hl hw => ?_)
  have hx := C.1
  have hb := C.2.1
  replace hl : lv_has ls 1 [(0, .ref (base + (n + 0)))] := hl
  replace hw : Hn P base (pre ++ (g5_0 P base n)) s s.heap [] := hw
  refine lv_aload_n hx hb dX5_init_0 rfl (lv_at hl 0 rfl) ?_
  refine nobj C olX5 obj_i obj_c hl.1 (Nat.le_of_ble_eq_true rfl) (Nat.le_of_ble_eq_true rfl) dX5_init_1 ?_
  refine lv_aload_n hx hb dX5_init_4 rfl (lv_at hl 0 rfl) ?_
  refine lv_bipush (v := 7) hx hb dX5_init_5 (by decide) ?_
  refine nnewa (pre := pre) (cs := (g5_0 P base n)) (t0 := 0) (atype := .int) (ty := .int) (N := 7) (a0 := (7, .inl (fun _ => 0))) C hw hn rfl rfl ac_int rfl (by intro q h; cases h) (fun _ => rfl) (by decide) (by decide) (Nat.le_of_ble_eq_true rfl) (Nat.le_of_ble_eq_true rfl) (Nat.le_of_ble_eq_true rfl) dX5_init_7 (fun H hw => ?_)
  replace hw : Hn P base (pre ++ (g5_1 P base n)) s _ _ := hw
  refine nput (pre := pre) (cs := (g5_1 P base n)) (j := 0) (N := 13) C hw hn plX5_9 rfl rfl (by decide) (by rfl) (by rfl) dX5_init_9 (fun H locs hw => ?_)
  replace hw : Hn P base (pre ++ (g5_2 P base n)) s _ _ := hw
  refine lv_aload_n hx hb dX5_init_12 rfl (lv_at hl 0 rfl) ?_
  refine lv_bipush (v := 6) hx hb dX5_init_13 (by decide) ?_
  refine nnewa (pre := pre) (cs := (g5_2 P base n)) (t0 := 0) (atype := .int) (ty := .int) (N := 6) (a0 := (6, .inl (fun _ => 0))) C hw hn rfl rfl ac_int rfl (by intro q h; cases h) (fun _ => rfl) (by decide) (by decide) (Nat.le_of_ble_eq_true rfl) (Nat.le_of_ble_eq_true rfl) (Nat.le_of_ble_eq_true rfl) dX5_init_15 (fun H hw => ?_)
  replace hw : Hn P base (pre ++ (g5_3 P base n)) s _ _ := hw
  refine nput (pre := pre) (cs := (g5_3 P base n)) (j := 0) (N := 13) C hw hn plX5_15 rfl rfl (by decide) (by rfl) (by rfl) dX5_init_17 (fun H locs hw => ?_)
  replace hw : Hn P base (pre ++ (g5_4 P base n)) s _ _ := hw
  refine lv_aload_n hx hb dX5_init_20 rfl (lv_at hl 0 rfl) ?_
  refine lv_bipush (v := 6) hx hb dX5_init_21 (by decide) ?_
  refine nnewa (pre := pre) (cs := (g5_4 P base n)) (t0 := 0) (atype := .int) (ty := .int) (N := 6) (a0 := (6, .inl (fun _ => 0))) C hw hn rfl rfl ac_int rfl (by intro q h; cases h) (fun _ => rfl) (by decide) (by decide) (Nat.le_of_ble_eq_true rfl) (Nat.le_of_ble_eq_true rfl) (Nat.le_of_ble_eq_true rfl) dX5_init_23 (fun H hw => ?_)
  replace hw : Hn P base (pre ++ (g5_5 P base n)) s _ _ := hw
  refine nput (pre := pre) (cs := (g5_5 P base n)) (j := 0) (N := 13) C hw hn plX5_18 rfl rfl (by decide) (by rfl) (by rfl) dX5_init_25 (fun H locs hw => ?_)
  replace hw : Hn P base (pre ++ (g5_6 P base n)) s _ _ := hw
  refine lv_aload_n hx hb dX5_init_28 rfl (lv_at hl 0 rfl) ?_
  refine lv_bipush (v := 6) hx hb dX5_init_29 (by decide) ?_
  refine nnewa (pre := pre) (cs := (g5_6 P base n)) (t0 := 0) (atype := .int) (ty := .int) (N := 6) (a0 := (6, .inl (fun _ => 0))) C hw hn rfl rfl ac_int rfl (by intro q h; cases h) (fun _ => rfl) (by decide) (by decide) (Nat.le_of_ble_eq_true rfl) (Nat.le_of_ble_eq_true rfl) (Nat.le_of_ble_eq_true rfl) dX5_init_31 (fun H hw => ?_)
  replace hw : Hn P base (pre ++ (g5_7 P base n)) s _ _ := hw
  refine nput (pre := pre) (cs := (g5_7 P base n)) (j := 0) (N := 13) C hw hn plX5_21 rfl rfl (by decide) (by rfl) (by rfl) dX5_init_33 (fun H locs hw => ?_)
  replace hw : Hn P base (pre ++ (g5_8 P base n)) s _ _ := hw
  refine lv_aload_n hx hb dX5_init_36 rfl (lv_at hl 0 rfl) ?_
  refine lv_bipush (v := 6) hx hb dX5_init_37 (by decide) ?_
  refine nnewa (pre := pre) (cs := (g5_8 P base n)) (t0 := 0) (atype := .int) (ty := .int) (N := 6) (a0 := (6, .inl (fun _ => 0))) C hw hn rfl rfl ac_int rfl (by intro q h; cases h) (fun _ => rfl) (by decide) (by decide) (Nat.le_of_ble_eq_true rfl) (Nat.le_of_ble_eq_true rfl) (Nat.le_of_ble_eq_true rfl) dX5_init_39 (fun H hw => ?_)
  replace hw : Hn P base (pre ++ (g5_9 P base n)) s _ _ := hw
  refine nput (pre := pre) (cs := (g5_9 P base n)) (j := 0) (N := 13) C hw hn plX5_24 rfl rfl (by decide) (by rfl) (by rfl) dX5_init_41 (fun H locs hw => ?_)
  replace hw : Hn P base (pre ++ (g5_10 P base n)) s _ _ := hw
  exact nvret C hw rfl dX5_init_44
