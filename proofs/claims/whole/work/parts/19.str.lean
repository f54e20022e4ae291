/-! the texts: String.length and charAt on the constants, walked by hand -/
theorem fsJ0_38 : Cond.fieldLink "java/lang/String" 38 "java/lang/String" "COMPACT_STRINGS" "Z" ∈ lw_tbl := List.mem_of_getElem? (i := 553) (by decide +kernel)
theorem fsJ0_9 : Cond.fieldLink "java/lang/String" 9 "java/lang/String" "value" "[B" ∈ lw_tbl := List.mem_of_getElem? (i := 2287) (by decide +kernel)
theorem fsJ0_15 : Cond.fieldLink "java/lang/String" 15 "java/lang/String" "coder" "B" ∈ lw_tbl := List.mem_of_getElem? (i := 2288) (by decide +kernel)
theorem fsJ0_1053 : Cond.fieldLink "java/lang/String" 1053 "jdk/internal/util/Preconditions" "SIOOBE_FORMATTER" "Ljava/util/function/BiFunction;" ∈ lw_tbl := List.mem_of_getElem? (i := 569) (by decide +kernel)
theorem vlJ0_335 : VL "java/lang/String" 335 yJ0_coder_7d493 bJ0_coder_7d493 1 ((some .byte)) 0 := ⟨List.mem_of_getElem? (i := 549) (by decide +kernel), List.mem_of_getElem? (i := 550) (by decide +kernel), List.mem_of_getElem? (i := 551) (by decide +kernel), List.mem_of_getElem? (i := 116) (by decide +kernel), List.mem_of_getElem? (i := 552) (by decide +kernel), by decide +kernel, by decide +kernel, by decide +kernel⟩
theorem vlJ0_492 : VL "java/lang/String" 492 yJ0_isLatin1_aae02 bJ0_isLatin1_aae02 1 ((some .boolean)) 0 := ⟨List.mem_of_getElem? (i := 559) (by decide +kernel), List.mem_of_getElem? (i := 560) (by decide +kernel), List.mem_of_getElem? (i := 561) (by decide +kernel), List.mem_of_getElem? (i := 116) (by decide +kernel), List.mem_of_getElem? (i := 562) (by decide +kernel), by decide +kernel, by decide +kernel, by decide +kernel⟩
theorem slJ0_495 : SL "java/lang/String" 495 yJ1_charAt_3b067 bJ1_charAt_3b067 2 ((some .char)) 2 := ⟨List.mem_of_getElem? (i := 563) (by decide +kernel), List.mem_of_getElem? (i := 564) (by decide +kernel), List.mem_of_getElem? (i := 117) (by decide +kernel), List.mem_of_getElem? (i := 565) (by decide +kernel), by decide +kernel, by decide +kernel, by decide +kernel⟩
theorem slJ1_9 : SL "java/lang/StringLatin1" 9 yJ0_checkIndex_df160 bJ0_checkIndex_df160 2 (none) 2 := ⟨List.mem_of_getElem? (i := 566) (by decide +kernel), List.mem_of_getElem? (i := 567) (by decide +kernel), List.mem_of_getElem? (i := 116) (by decide +kernel), List.mem_of_getElem? (i := 568) (by decide +kernel), by decide +kernel, by decide +kernel, by decide +kernel⟩
theorem slJ0_1059 : SL "java/lang/String" 1059 yJ3_checkIndex_8e157 bJ3_checkIndex_8e157 3 ((some .int)) 3 := ⟨List.mem_of_getElem? (i := 571) (by decide +kernel), List.mem_of_getElem? (i := 572) (by decide +kernel), List.mem_of_getElem? (i := 118) (by decide +kernel), List.mem_of_getElem? (i := 573) (by decide +kernel), by decide +kernel, by decide +kernel, by decide +kernel⟩
theorem Cx.str {p : Program} {s : State} {m : MethodId} {args : Array Value} {meth : Method} {c : Code} {P : Wp} {E : State → Heap → Prop} {y : MethodName} {cc : ByteArray} {mL : Nat} {ret : Option FieldType} (C : Cx p s m args meth c shC P E y cc mL ret) : ∃ adV : Nat → Nat, vk_S 12 lenW bytW P.2.2.2 adV (wA shC P) s s.heap ∧ va_Z "java/lang/String" "COMPACT_STRINGS" "Z" (.int 1) (wA shC P) s s.heap ∧ va_Zq "jdk/internal/util/Preconditions" "SIOOBE_FORMATTER" "Ljava/util/function/BiFunction;" (wA shC P) s s.heap := by
  obtain ⟨hx, hb, hml, hown, hts, hr, hlk, hW, hK, hE⟩ := C
  obtain ⟨adV, hA⟩ := hW.2.2 rfl
  exact ⟨adV, (hA s s.heap hE).1, (hA s s.heap hE).2.2⟩
section ROWS3
variable {p : Program} {l : Launch} {e : Env} {R : Room} {s : State} {m : MethodId} {args : Array Value} {below : List Frame} {meth : Method} {c : Code} {H : Heap} {locs : List Loc} {cells slots : Nat} {Q : State → Prop} {P : Wp} {E : State → Heap → Prop} {y : MethodName} {cc : ByteArray} {mL : Nat} {ret : Option FieldType} {M : Mem} {pc : Nat} {ls : Array Slot} {rest : List Value} {index n w : Nat}
variable {y2 : MethodName} {cc2 : ByteArray} {mL2 fr2 lo2 : Nat} {ret2 : Option FieldType} {M' : Mem} {As : List Value} {st0 : List Value}
/-- a call on a text -/
theorem wcallW1 {v : Value} (C : Cx p s m args meth c shC P E y cc mL ret) (h : Hw shC P M s H locs) (hi : w < 12) (hM : CT l shC P E y2 cc2 mL2 ret2 fr2 lo2 (.ref (P.2.2.2 w) :: As) (some v) M M') (hL : VL y.cls index y2 cc2 mL2 ret2 n) (hR : fr2 + 1 ≤ R.frames ∧ 8 + (mL2 + 11) + lo2 ≤ R.locals) (hn : As.length = n) (hst : st0 = As.reverse ++ .ref (P.2.2.2 w) :: rest) (hls : ls.size = mL) (hroom : (rest.map fun v => v.category).sum ≤ 8) (hdg : decode cc pc = .ok (.invokevirtual index, 3)) (hf : cells ≤ R.cells ∧ slots ≤ R.slots)
    (kk : ∀ (H1 : Heap) (locs1 : List Loc), Hw shC P M' s H1 locs1 → W p l e R s m args below meth c H1 locs1 cells slots Q (F0 m (pc + 3) ls (v :: rest))) (hy2 : y2.cls = "java/lang/String" := by rfl) : W p l e R s m args below meth c H locs cells slots Q (F0 m pc ls st0) := by
  obtain ⟨h1, h2, h3, h4, h5, hd⟩ := hL
  have hts : ∀ w ∈ gtbl, w.before args s = true := fun w hw => C.2.2.2.2.1 w (List.mem_cons_of_mem _ hw)
  obtain ⟨adV, hV, -⟩ := C.str
  refine wcall_of (va_runV (As := As) (Ts := gtbl) ⟨C.1, C.2.1, C.2.2.1, C.2.2.2.1, hts⟩ hM ⟨wcallB C h1 h4 h5 hd hR, hts _ (gm h2 rfl), hts _ (gm h3 rfl)⟩ ⟨Wd_blind C.2.2.2.2.2.2.2.1.2.1, by rw [hy2]; exact vk_recv hV hi h.2, C.pre h _⟩ rfl hn hls hst (lv_room hroom) hdg hf) h kk
end ROWS3
theorem c_J0_coder_7d493 {l : Launch} {P : Wp} {E : State → Heap → Prop} (hW : Wok shC P E) {w : Nat} {M : Mem} (hi : w < 12) : CT l shC P E yJ0_coder_7d493 bJ0_coder_7d493 1 (some .byte) 0 0 [.ref (P.2.2.2 w)] (some (.int 0)) M M := by
  refine ct_of hW (by decide) (Nat.le_of_ble_eq_true rfl) (fun p e s m args below meth c C ls hl hw => ?_)
  have hx := C.1
  have hb := C.2.1
  obtain ⟨adV, hV, hZ, hq⟩ := C.str
  replace hl : lv_has ls 1 [(0, .ref (P.2.2.2 w))] := hl
  refine va_gets (ref := "java/lang/String") hx hb hZ hw.2 C.2.2.2.1 (C.2.2.2.2.1 _ (List.mem_cons_of_mem _ (gm fsJ0_38 rfl))) (fun _ h9 => h9) dJ0_coder_7d493_0 ?_
  refine lv_if_eq (tgt := 13) hx hb dJ0_coder_7d493_3 (by decide) (fun c1 => absurd c1 (by decide)) (fun c1 => ?_)
  refine lv_aload_n hx hb dJ0_coder_7d493_6 rfl (lv_at hl 0 rfl) ?_
  refine vk_getf (ref := "java/lang/String") hx hb ((hV.1 w hi).2.1) hw.2 C.2.2.2.1 (C.2.2.2.2.1 _ (List.mem_cons_of_mem _ (gm fsJ0_15 rfl))) (fun _ h9 => h9) dJ0_coder_7d493_7 ?_
  refine lv_goto (tgt := 14) hx hb dJ0_coder_7d493_10 (by decide) ?_
  exact W.zret hx hb C.2.2.2.2.2.1 rfl (CQ.of C hw) hw.2.2.2 dJ0_coder_7d493_14 C.2.2.2.2.2.2.1
theorem c_J0_isLatin1_aae02 {l : Launch} {P : Wp} {E : State → Heap → Prop} (hW : Wok shC P E) {w : Nat} {M : Mem} (hi : w < 12) : CT l shC P E yJ0_isLatin1_aae02 bJ0_isLatin1_aae02 1 (some .boolean) 0 0 [.ref (P.2.2.2 w)] (some (.int 1)) M M := by
  refine ct_of hW (by decide) (Nat.le_of_ble_eq_true rfl) (fun p e s m args below meth c C ls hl hw => ?_)
  have hx := C.1
  have hb := C.2.1
  obtain ⟨adV, hV, hZ, hq⟩ := C.str
  replace hl : lv_has ls 1 [(0, .ref (P.2.2.2 w))] := hl
  refine va_gets (ref := "java/lang/String") hx hb hZ hw.2 C.2.2.2.1 (C.2.2.2.2.1 _ (List.mem_cons_of_mem _ (gm fsJ0_38 rfl))) (fun _ h9 => h9) dJ0_isLatin1_aae02_0 ?_
  refine lv_if_eq (tgt := 17) hx hb dJ0_isLatin1_aae02_3 (by decide) (fun c1 => absurd c1 (by decide)) (fun c1 => ?_)
  refine lv_aload_n hx hb dJ0_isLatin1_aae02_6 rfl (lv_at hl 0 rfl) ?_
  refine vk_getf (ref := "java/lang/String") hx hb ((hV.1 w hi).2.1) hw.2 C.2.2.2.1 (C.2.2.2.2.1 _ (List.mem_cons_of_mem _ (gm fsJ0_15 rfl))) (fun _ h9 => h9) dJ0_isLatin1_aae02_7 ?_
  refine lv_if_ne (tgt := 17) hx hb dJ0_isLatin1_aae02_10 (by decide) (fun c1 => absurd rfl c1) (fun c1 => ?_)
  refine lv_iconst (v := 1) hx hb dJ0_isLatin1_aae02_13 (by decide) ?_
  refine lv_goto (tgt := 18) hx hb dJ0_isLatin1_aae02_14 (by decide) ?_
  exact W.zret hx hb C.2.2.2.2.2.1 rfl (CQ.of C hw) hw.2.2.2 dJ0_isLatin1_aae02_18 C.2.2.2.2.2.2.1
theorem len_all : ∀ w, w < 12 → (Int32.ofNat (lenW.getD w 0)) >>> ((0 : Int32) &&& 31) = Int32.ofNat (lenW.getD w 0) := by decide +kernel
theorem c_J0_length_8abf5 {l : Launch} {P : Wp} {E : State → Heap → Prop} (hW : Wok shC P E) {w : Nat} {M : Mem} {r : Int32} (hi : w < 12) (h : f_J0_length_8abf5 w = r) : CT l shC P E yJ0_length_8abf5 bJ0_length_8abf5 1 (some .int) 1 20 [.ref (P.2.2.2 w)] (some (.int r)) M M := by
  refine ct_of hW (by decide) (Nat.le_of_ble_eq_true rfl) (fun p e s m args below meth c C ls hl hw => ?_)
  have hx := C.1
  have hb := C.2.1
  obtain ⟨adV, hV, hZ, hq⟩ := C.str
  replace hl : lv_has ls 1 [(0, .ref (P.2.2.2 w))] := hl
  refine lv_aload_n hx hb dJ0_length_8abf5_0 rfl (lv_at hl 0 rfl) ?_
  refine vk_getf (ref := "java/lang/String") hx hb ((hV.1 w hi).2.2.1) hw.2 C.2.2.2.1 (C.2.2.2.2.1 _ (List.mem_cons_of_mem _ (gm fsJ0_9 rfl))) (fun _ h9 => h9) dJ0_length_8abf5_1 ?_
  refine va_tlen hx hb ((hV.1 w hi).2.2.2) hw.2 rfl dJ0_length_8abf5_4 ?_
  refine lv_aload_n hx hb dJ0_length_8abf5_5 rfl (lv_at hl 0 rfl) ?_
  refine wcallW1 (As := []) (rest := [.int (Int32.ofNat (lenW.getD w 0))]) C hw hi (c_J0_coder_7d493 hW hi) vlJ0_335 ⟨Nat.le_of_ble_eq_true rfl, Nat.le_of_ble_eq_true rfl⟩ rfl rfl hl.1 (Nat.le_of_ble_eq_true rfl) dJ0_length_8abf5_6 ⟨Nat.zero_le _, Nat.zero_le _⟩ (fun H locs hw => ?_)
  refine lv_ishr hx hb dJ0_length_8abf5_9 ?_
  exact wretI_T C hw ((len_all w hi).trans h) dJ0_length_8abf5_10
theorem c_J3_null {l : Launch} {P : Wp} {E : State → Heap → Prop} (hW : Wok shC P E) {i n : Int32} {M : Mem} (h1 : ¬ i < 0) (h2 : i < n) : CT l shC P E yJ3_checkIndex_8e157 bJ3_checkIndex_8e157 3 (some .int) 0 0 [.int i, .int n, .null] (some (.int i)) M M := by
  refine ct_of hW (by decide) (Nat.le_of_ble_eq_true rfl) (fun p e s m args below meth c C ls hl hw => ?_)
  have hx := C.1
  have hb := C.2.1
  replace hl : lv_has ls 3 [(0, .int i), (1, .int n), (2, .null)] := hl
  refine lv_iload_n hx hb dJ3_checkIndex_8e157_0 rfl (lv_at hl 0 rfl) ?_
  refine lv_if_lt (tgt := 9) hx hb dJ3_checkIndex_8e157_1 (by decide) (fun c1 => absurd c1 h1) (fun c1 => ?_)
  refine lv_iload_n hx hb dJ3_checkIndex_8e157_4 rfl (lv_at hl 0 rfl) ?_
  refine lv_iload_n hx hb dJ3_checkIndex_8e157_5 rfl (lv_at hl 1 rfl) ?_
  refine lv_icmp_lt (tgt := 16) hx hb dJ3_checkIndex_8e157_6 (by decide) (fun c1 => ?_) (fun c1 => absurd h2 c1)
  refine lv_iload_n hx hb dJ3_checkIndex_8e157_16 rfl (lv_at hl 0 rfl) ?_
  exact wretI C hw dJ3_checkIndex_8e157_17
theorem c_J3_ref {l : Launch} {P : Wp} {E : State → Heap → Prop} (hW : Wok shC P E) {i n : Int32} {t : Nat} {M : Mem} (h1 : ¬ i < 0) (h2 : i < n) : CT l shC P E yJ3_checkIndex_8e157 bJ3_checkIndex_8e157 3 (some .int) 0 0 [.int i, .int n, .ref t] (some (.int i)) M M := by
  refine ct_of hW (by decide) (Nat.le_of_ble_eq_true rfl) (fun p e s m args below meth c C ls hl hw => ?_)
  have hx := C.1
  have hb := C.2.1
  replace hl : lv_has ls 3 [(0, .int i), (1, .int n), (2, .ref t)] := hl
  refine lv_iload_n hx hb dJ3_checkIndex_8e157_0 rfl (lv_at hl 0 rfl) ?_
  refine lv_if_lt (tgt := 9) hx hb dJ3_checkIndex_8e157_1 (by decide) (fun c1 => absurd c1 h1) (fun c1 => ?_)
  refine lv_iload_n hx hb dJ3_checkIndex_8e157_4 rfl (lv_at hl 0 rfl) ?_
  refine lv_iload_n hx hb dJ3_checkIndex_8e157_5 rfl (lv_at hl 1 rfl) ?_
  refine lv_icmp_lt (tgt := 16) hx hb dJ3_checkIndex_8e157_6 (by decide) (fun c1 => ?_) (fun c1 => absurd h2 c1)
  refine lv_iload_n hx hb dJ3_checkIndex_8e157_16 rfl (lv_at hl 0 rfl) ?_
  exact wretI C hw dJ3_checkIndex_8e157_17
theorem c_J0_checkIndex_df160 {l : Launch} {P : Wp} {E : State → Heap → Prop} (hW : Wok shC P E) {i n : Int32} {M : Mem} (h1 : ¬ i < 0) (h2 : i < n) : CT l shC P E yJ0_checkIndex_df160 bJ0_checkIndex_df160 2 none 1 22 [.int i, .int n] none M M := by
  refine ct_of hW (by decide) (Nat.le_of_ble_eq_true rfl) (fun p e s m args below meth c C ls hl hw => ?_)
  have hx := C.1
  have hb := C.2.1
  obtain ⟨adV, hV, hZ, hq⟩ := C.str
  replace hl : lv_has ls 2 [(0, .int i), (1, .int n)] := hl
  refine lv_iload_n hx hb dJ0_checkIndex_df160_0 rfl (lv_at hl 0 rfl) ?_
  refine lv_iload_n hx hb dJ0_checkIndex_df160_1 rfl (lv_at hl 1 rfl) ?_
  rcases hq with hZ2 | ⟨t, hZ2⟩
  · refine va_gets (ref := "jdk/internal/util/Preconditions") hx hb hZ2 hw.2 C.2.2.2.1 (C.2.2.2.2.1 _ (List.mem_cons_of_mem _ (gm fsJ0_1053 rfl))) (fun _ h9 => h9) dJ0_checkIndex_df160_2 ?_
    refine wcallS1 (As := [.int i, .int n, .null]) (rest := []) C hw (c_J3_null hW h1 h2) slJ0_1059 ⟨Nat.le_of_ble_eq_true rfl, Nat.le_of_ble_eq_true rfl⟩ rfl rfl hl.1 (Nat.le_of_ble_eq_true rfl) dJ0_checkIndex_df160_5 ⟨Nat.zero_le _, Nat.zero_le _⟩ (fun H locs hw => ?_)
    refine lv_pop hx hb dJ0_checkIndex_df160_8 rfl ?_
    exact wretV C hw dJ0_checkIndex_df160_9
  · refine va_gets (ref := "jdk/internal/util/Preconditions") hx hb hZ2 hw.2 C.2.2.2.1 (C.2.2.2.2.1 _ (List.mem_cons_of_mem _ (gm fsJ0_1053 rfl))) (fun _ h9 => h9) dJ0_checkIndex_df160_2 ?_
    refine wcallS1 (As := [.int i, .int n, .ref t]) (rest := []) C hw (c_J3_ref hW h1 h2) slJ0_1059 ⟨Nat.le_of_ble_eq_true rfl, Nat.le_of_ble_eq_true rfl⟩ rfl rfl hl.1 (Nat.le_of_ble_eq_true rfl) dJ0_checkIndex_df160_5 ⟨Nat.zero_le _, Nat.zero_le _⟩ (fun H locs hw => ?_)
    refine lv_pop hx hb dJ0_checkIndex_df160_8 rfl ?_
    exact wretV C hw dJ0_checkIndex_df160_9
theorem chr_all : ∀ w, w < 12 → ∀ j, j < lenW.getD w 0 → ((((bytW.getD w []).getD j 0) &&& 255).toUInt32 % 65536).toInt32 = (bytW.getD w []).getD j 0 ∧ narrow .char (.int ((bytW.getD w []).getD j 0)) = .int ((bytW.getD w []).getD j 0) ∧ lenW.getD w 0 < 100 := by decide +kernel
theorem lt_len {i : Int32} {n : Nat} (hn : n < 100) (h : oob i n = false) : ¬ i < 0 ∧ i < Int32.ofNat n ∧ ix i < n := by
  have h1 := of_decide_eq_false h
  have h0 : ¬ i < 0 := fun q => h1 (Or.inl q)
  have h2 : ix i < n := Nat.not_le.mp fun q => h1 (Or.inr q)
  refine ⟨h0, ?_, h2⟩
  rw [Int32.lt_iff_toInt_lt] at h0 ⊢
  have e0 : (0 : Int32).toInt = 0 := by decide
  have e1 : (Int32.ofNat n).toInt = n := by
    rw [Int32.toInt_ofNat_of_lt (by omega)]
  have e2 : (ix i : Int) = i.toInt := by
    show ((i.toInt).toNat : Int) = i.toInt
    omega
  rw [e1]
  omega
theorem c_J1_charAt {l : Launch} {P : Wp} {E : State → Heap → Prop} (hW : Wok shC P E) {w v : Nat} {i r : Int32} {M : Mem} (hi : w < 12) (h : f_J0_charAt_5068e w i = some r) (hE : ∀ s H, E s H → ∃ adV, vk_S 12 lenW bytW P.2.2.2 adV (wA shC P) s H ∧ v = adV w) : CT l shC P E yJ1_charAt_3b067 bJ1_charAt_3b067 2 (some .char) 2 43 [.ref v, .int i] (some (.int r)) M M := by
  refine ct_of hW (by decide) (Nat.le_of_ble_eq_true rfl) (fun p e s m args below meth c C ls hl hw => ?_)
  have hx := C.1
  have hb := C.2.1
  obtain ⟨adV, hV, rfl⟩ := hE s s.heap C.2.2.2.2.2.2.2.2.2
  obtain ⟨g1, h⟩ := grd h
  cases h
  replace hl : lv_has ls 2 [(0, .ref (adV w)), (1, .int i)] := hl
  have hlen : lenW.getD w 0 < 100 := by
    have : ∀ w, w < 12 → lenW.getD w 0 < 100 := by decide +kernel
    exact this w hi
  obtain ⟨k1, k2, k3⟩ := lt_len hlen g1
  refine lv_iload_n hx hb dJ1_charAt_3b067_0 rfl (lv_at hl 1 rfl) ?_
  refine lv_aload_n hx hb dJ1_charAt_3b067_1 rfl (lv_at hl 0 rfl) ?_
  refine va_tlen hx hb ((hV.1 w hi).2.2.2) hw.2 rfl dJ1_charAt_3b067_2 ?_
  refine wcallS0 (As := [.int i, .int (Int32.ofNat (lenW.getD w 0))]) (rest := []) C hw (c_J0_checkIndex_df160 hW k1 k2) slJ1_9 ⟨Nat.le_of_ble_eq_true rfl, Nat.le_of_ble_eq_true rfl⟩ rfl rfl hl.1 (Nat.le_of_ble_eq_true rfl) dJ1_charAt_3b067_3 ⟨Nat.zero_le _, Nat.zero_le _⟩ (fun H locs hw => ?_)
  refine lv_aload_n hx hb dJ1_charAt_3b067_6 rfl (lv_at hl 0 rfl) ?_
  refine lv_iload_n hx hb dJ1_charAt_3b067_7 rfl (lv_at hl 1 rfl) ?_
  refine va_tb hx hb ((hV.1 w hi).2.2.2) hw.2 (oob_in g1) rfl dJ1_charAt_3b067_8 ?_
  refine lv_sipush (v := 255) hx hb dJ1_charAt_3b067_9 (by decide) ?_
  refine lv_iand hx hb dJ1_charAt_3b067_12 ?_
  obtain ⟨q1, q2, -⟩ := chr_all w hi (ix i) k3
  refine lv_i2c hx hb dJ1_charAt_3b067_13 q1 ?_
  exact W.zret hx hb C.2.2.2.2.2.1 q2 (CQ.of C hw) hw.2.2.2 dJ1_charAt_3b067_14 C.2.2.2.2.2.2.1
theorem c_J0_charAt_5068e {l : Launch} {P : Wp} {E : State → Heap → Prop} (hW : Wok shC P E) {w : Nat} {i r : Int32} {M : Mem} (hi : w < 12) (h : f_J0_charAt_5068e w i = some r) : CT l shC P E yJ0_charAt_5068e bJ0_charAt_5068e 2 (some .char) 3 64 [.ref (P.2.2.2 w), .int i] (some (.int r)) M M := by
  obtain ⟨adV, hA⟩ := hW.2.2 rfl
  refine ct_of hW (by decide) (Nat.le_of_ble_eq_true rfl) (fun p e s m args below meth c C ls hl hw => ?_)
  have hx := C.1
  have hb := C.2.1
  have hV := (hA s s.heap C.2.2.2.2.2.2.2.2.2).1
  replace hl : lv_has ls 2 [(0, .ref (P.2.2.2 w)), (1, .int i)] := hl
  have hq2 : narrow .char (.int r) = .int r := by
    obtain ⟨g1, h2⟩ := grd h
    cases h2
    have hlen : lenW.getD w 0 < 100 := by
      have : ∀ w, w < 12 → lenW.getD w 0 < 100 := by decide +kernel
      exact this w hi
    exact (chr_all w hi (ix i) (lt_len hlen g1).2.2).2.1
  refine lv_aload_n hx hb dJ0_charAt_5068e_0 rfl (lv_at hl 0 rfl) ?_
  refine wcallW1 (As := []) (rest := []) C hw hi (c_J0_isLatin1_aae02 hW hi) vlJ0_492 ⟨Nat.le_of_ble_eq_true rfl, Nat.le_of_ble_eq_true rfl⟩ rfl rfl hl.1 (Nat.le_of_ble_eq_true rfl) dJ0_charAt_5068e_1 ⟨Nat.zero_le _, Nat.zero_le _⟩ (fun H locs hw => ?_)
  refine lv_if_eq (tgt := 16) hx hb dJ0_charAt_5068e_4 (by decide) (fun c1 => absurd c1 (by decide)) (fun c1 => ?_)
  refine lv_aload_n hx hb dJ0_charAt_5068e_7 rfl (lv_at hl 0 rfl) ?_
  refine vk_getf (ref := "java/lang/String") hx hb ((hV.1 w hi).2.2.1) hw.2 C.2.2.2.1 (C.2.2.2.2.1 _ (List.mem_cons_of_mem _ (gm fsJ0_9 rfl))) (fun _ h9 => h9) dJ0_charAt_5068e_8 ?_
  refine lv_iload_n hx hb dJ0_charAt_5068e_11 rfl (lv_at hl 1 rfl) ?_
  refine wcallS1 (As := [.ref (adV w), .int i]) (rest := []) C hw (c_J1_charAt hW hi h (fun s H hE => ⟨adV, (hA s H hE).1, rfl⟩)) slJ0_495 ⟨Nat.le_of_ble_eq_true rfl, Nat.le_of_ble_eq_true rfl⟩ rfl rfl hl.1 (Nat.le_of_ble_eq_true rfl) dJ0_charAt_5068e_12 ⟨Nat.zero_le _, Nat.zero_le _⟩ (fun H locs hw => ?_)
  exact W.zret hx hb C.2.2.2.2.2.1 hq2 (CQ.of C hw) hw.2.2.2 dJ0_charAt_5068e_15 C.2.2.2.2.2.2.1

theorem flX10_21r : FL "LehrBelt" 21 10 9 2 := ⟨(RX10, TX10, 11), rfl, inX10, by decide, List.mem_of_getElem? (i := 457) (by decide +kernel), rfl⟩
theorem optc_none {β : Type} {o : Option Nat} {a z : β} {b : Nat → β} (e : o = none) (h : optc o a b = z) : a = z := by
  subst e
  exact h
theorem optc_some {β : Type} {o : Option Nat} {k : Nat} {a z : β} {b : Nat → β} (e : o = some k) (h : optc o a b = z) : b k = z := by
  subst e
  exact h
/-- a slot's row, or none -/
theorem rowOf_ho {p1 : Int32} {M : Mem} {k : Nat} (h : f_X10_rowOf p1 M = some k) : shC.1[k]? = some (0, 7) := by
  unfold f_X10_rowOf at h
  split at h
  · cases h
  · split at h
    · cases h
    · obtain ⟨g, h⟩ := grd h
      cases h
      exact rows_ho g
theorem oob4 {p1 : Int32} (h1 : ¬ p1 < 0) (h2 : ¬ (4 : Int32) ≤ p1) : oob p1 4 = false := by
  have : ¬ (p1 < 0 ∨ 4 ≤ p1.toNatClampNeg) := by
    rintro (q | q)
    · exact h1 q
    · apply h2
      rw [Int32.le_iff_toInt_le]
      have e4 : (4 : Int32).toInt = 4 := by decide
      have e2 : (p1.toNatClampNeg : Int) = ((p1.toInt).toNat : Int) := rfl
      omega
  exact decide_eq_false this
theorem c_X10_rowOf {l : Launch} {P : Wp} {E : State → Heap → Prop} (hW : Wok shC P E) {p1 : Int32} {M : Mem} {r : Option Nat} (h : f_X10_rowOf p1 M = r) : CT l shC P E yX10_rowOf bX10_rowOf 2 (some (.object "LehrBelt$Row")) 0 0 [.ref (P.2.2.1 0), .int p1] (some (va_rf (r.map P.2.2.1))) M M := by
  refine ct_of hW (by decide) (Nat.le_of_ble_eq_true rfl) (fun p e s m args below meth c C ls hl hw => ?_)
  have hx := C.1
  have hb := C.2.1
  replace hl : lv_has ls 2 [(0, .ref (P.2.2.1 0)), (1, .int p1)] := hl
  refine lv_iload_n hx hb dX10_rowOf_0 rfl (lv_at hl 1 rfl) ?_
  refine lv_if_lt (tgt := 18) hx hb dX10_rowOf_1 (by decide) (fun c1 => ?_) (fun c1 => ?_)
  · replace h := (if_pos c1).symm.trans h
    subst h
    refine lv_null hx hb dX10_rowOf_18 ?_
    exact wretA C hw rfl (Or.inl ⟨_, rfl⟩) (Or.inl rfl) dX10_rowOf_19
  · replace h := (if_neg c1).symm.trans h
    refine lv_iload_n hx hb dX10_rowOf_4 rfl (lv_at hl 1 rfl) ?_
    refine lv_iconst (v := 4) hx hb dX10_rowOf_5 (by decide) ?_
    refine lv_icmp_ge (tgt := 18) hx hb dX10_rowOf_6 (by decide) (fun c2 => ?_) (fun c2 => ?_)
    · replace h := (if_pos c2).symm.trans h
      subst h
      refine lv_null hx hb dX10_rowOf_18 ?_
      exact wretA C hw rfl (Or.inl ⟨_, rfl⟩) (Or.inl rfl) dX10_rowOf_19
    · replace h := (if_neg c2).symm.trans h
      have g := oob4 c1 c2
      rw [if_neg (by rw [g]; decide)] at h
      subst h
      refine lv_aload_n hx hb dX10_rowOf_9 rfl (lv_at hl 0 rfl) ?_
      refine wgetR (t := 3) C hw flX10_21r (rfl : _ = some (0, 10)) rfl dX10_rowOf_10 ?_
      refine lv_iload_n hx hb dX10_rowOf_13 rfl (lv_at hl 1 rfl) ?_
      refine wqald6 C hw (rfl : _ = some (6, 4)) g dX10_rowOf_14 ?_
      refine lv_goto (tgt := 19) hx hb dX10_rowOf_15 (by decide) ?_
      exact wretA C hw rfl (Or.inl ⟨_, rfl⟩) (Or.inr ⟨_, rfl⟩) dX10_rowOf_19

