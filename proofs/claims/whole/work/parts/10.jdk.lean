theorem kcJ6_265 : Cond.constant "java/lang/Integer" 265 1431655765 ∈ lw_tbl := List.mem_of_getElem? (i := 878) (by decide +kernel)
theorem kcJ6_266 : Cond.constant "java/lang/Integer" 266 858993459 ∈ lw_tbl := List.mem_of_getElem? (i := 879) (by decide +kernel)
theorem kcJ6_267 : Cond.constant "java/lang/Integer" 267 252645135 ∈ lw_tbl := List.mem_of_getElem? (i := 880) (by decide +kernel)
set_option maxRecDepth 100000 in
set_option maxHeartbeats 4000000 in
theorem c_J6_bitCount_0f7a4 {l : Launch} {X : Wx} {P : Wp} {E : State → Heap → Prop} (hW : Wok X P E) {p0 : Int32} {M : Mem} {r : Int32} (h : f_J6_bitCount_0f7a4 p0 = r) : CT l X P E yJ6_bitCount_0f7a4 bJ6_bitCount_0f7a4 1 ((some .int)) 0 0 [.int p0] (some (.int r)) M M := by
  refine ct_of hW (by decide) (Nat.le_of_ble_eq_true rfl) (fun p e s m args below meth c C ls hl hw => ?_)
  have hx := C.1
  have hb := C.2.1
  replace hl : lv_has ls 1 [(0, .int p0)] := hl
  refine lv_iload_n hx hb dJ6_bitCount_0f7a4_0 rfl (lv_at hl 0 rfl) ?_
  refine lv_iload_n hx hb dJ6_bitCount_0f7a4_1 rfl (lv_at hl 0 rfl) ?_
  refine lv_iconst (v := 1) hx hb dJ6_bitCount_0f7a4_2 (by decide) ?_
  refine lv_iushr hx hb dJ6_bitCount_0f7a4_3 rfl ?_
  refine lv_ldcw hx hb C.2.2.2.1 (C.2.2.2.2.1 _ (List.mem_cons_of_mem _ (gm kcJ6_265 rfl))) dJ6_bitCount_0f7a4_4 ?_
  refine lv_iand hx hb dJ6_bitCount_0f7a4_7 ?_
  refine lv_isub hx hb dJ6_bitCount_0f7a4_8 ?_
  refine lv_topi (fun x1 ex1 => ?_)
  replace h := letv_at ex1 h
  refine lv_istore_n (lv' := [(0, .int x1)]) hx hb dJ6_bitCount_0f7a4_9 rfl hl (by decide) rfl (fun ls hl => ?_)
  refine lv_iload_n hx hb dJ6_bitCount_0f7a4_10 rfl (lv_at hl 0 rfl) ?_
  refine lv_ldcw hx hb C.2.2.2.1 (C.2.2.2.2.1 _ (List.mem_cons_of_mem _ (gm kcJ6_266 rfl))) dJ6_bitCount_0f7a4_11 ?_
  refine lv_iand hx hb dJ6_bitCount_0f7a4_14 ?_
  refine lv_iload_n hx hb dJ6_bitCount_0f7a4_15 rfl (lv_at hl 0 rfl) ?_
  refine lv_iconst (v := 2) hx hb dJ6_bitCount_0f7a4_16 (by decide) ?_
  refine lv_iushr hx hb dJ6_bitCount_0f7a4_17 rfl ?_
  refine lv_ldcw hx hb C.2.2.2.1 (C.2.2.2.2.1 _ (List.mem_cons_of_mem _ (gm kcJ6_266 rfl))) dJ6_bitCount_0f7a4_18 ?_
  refine lv_iand hx hb dJ6_bitCount_0f7a4_21 ?_
  refine lv_iadd hx hb dJ6_bitCount_0f7a4_22 ?_
  refine lv_topi (fun x2 ex2 => ?_)
  replace h := letv_at ex2 h
  refine lv_istore_n (lv' := [(0, .int x2)]) hx hb dJ6_bitCount_0f7a4_23 rfl hl (by decide) rfl (fun ls hl => ?_)
  refine lv_iload_n hx hb dJ6_bitCount_0f7a4_24 rfl (lv_at hl 0 rfl) ?_
  refine lv_iload_n hx hb dJ6_bitCount_0f7a4_25 rfl (lv_at hl 0 rfl) ?_
  refine lv_iconst (v := 4) hx hb dJ6_bitCount_0f7a4_26 (by decide) ?_
  refine lv_iushr hx hb dJ6_bitCount_0f7a4_27 rfl ?_
  refine lv_iadd hx hb dJ6_bitCount_0f7a4_28 ?_
  refine lv_ldcw hx hb C.2.2.2.1 (C.2.2.2.2.1 _ (List.mem_cons_of_mem _ (gm kcJ6_267 rfl))) dJ6_bitCount_0f7a4_29 ?_
  refine lv_iand hx hb dJ6_bitCount_0f7a4_32 ?_
  refine lv_topi (fun x3 ex3 => ?_)
  replace h := letv_at ex3 h
  refine lv_istore_n (lv' := [(0, .int x3)]) hx hb dJ6_bitCount_0f7a4_33 rfl hl (by decide) rfl (fun ls hl => ?_)
  refine lv_iload_n hx hb dJ6_bitCount_0f7a4_34 rfl (lv_at hl 0 rfl) ?_
  refine lv_iload_n hx hb dJ6_bitCount_0f7a4_35 rfl (lv_at hl 0 rfl) ?_
  refine lv_bipush (v := 8) hx hb dJ6_bitCount_0f7a4_36 (by decide) ?_
  refine lv_iushr hx hb dJ6_bitCount_0f7a4_38 rfl ?_
  refine lv_iadd hx hb dJ6_bitCount_0f7a4_39 ?_
  refine lv_topi (fun x4 ex4 => ?_)
  replace h := letv_at ex4 h
  refine lv_istore_n (lv' := [(0, .int x4)]) hx hb dJ6_bitCount_0f7a4_40 rfl hl (by decide) rfl (fun ls hl => ?_)
  refine lv_iload_n hx hb dJ6_bitCount_0f7a4_41 rfl (lv_at hl 0 rfl) ?_
  refine lv_iload_n hx hb dJ6_bitCount_0f7a4_42 rfl (lv_at hl 0 rfl) ?_
  refine lv_bipush (v := 16) hx hb dJ6_bitCount_0f7a4_43 (by decide) ?_
  refine lv_iushr hx hb dJ6_bitCount_0f7a4_45 rfl ?_
  refine lv_iadd hx hb dJ6_bitCount_0f7a4_46 ?_
  refine lv_topi (fun x5 ex5 => ?_)
  replace h := letv_at ex5 h
  refine lv_istore_n (lv' := [(0, .int x5)]) hx hb dJ6_bitCount_0f7a4_47 rfl hl (by decide) rfl (fun ls hl => ?_)
  refine lv_iload_n hx hb dJ6_bitCount_0f7a4_48 rfl (lv_at hl 0 rfl) ?_
  refine lv_bipush (v := 63) hx hb dJ6_bitCount_0f7a4_49 (by decide) ?_
  refine lv_iand hx hb dJ6_bitCount_0f7a4_51 ?_
  exact wretI_T C hw h dJ6_bitCount_0f7a4_52
set_option maxRecDepth 100000 in
set_option maxHeartbeats 4000000 in
theorem c_J7_fill_d0a16 {l : Launch} {X : Wx} {P : Wp} {E : State → Heap → Prop} (hW : Wok X P E) {p0 : Nat} {p1 : Int64} {M : Mem} {M' : Mem} {np0 : Nat} (hp0 : X.1[p0]? = some (4, np0)) (h : f_J7_fill_d0a16 p0 p1 np0 M = some M') : CT l X P E yJ7_fill_d0a16 bJ7_fill_d0a16 5 (none) 0 0 [.ref (P.2.2.1 p0), .long p1] none M M' := by
  refine ct_of hW (by decide) (Nat.le_of_ble_eq_true rfl) (fun p e s m args below meth c C ls hl hw => ?_)
  have hx := C.1
  have hb := C.2.1
  replace hl : lv_has ls 5 [(0, .ref (P.2.2.1 p0)), (1, .long p1)] := hl
  have cut_6 : ∀ (v4_6 : Int32) (n_6 : Nat) (v3_6 : Int32) (M_6 : Mem) (ls : Array Slot) (H : Heap) (locs : List Loc), lv_has ls 5 [(0, .ref (P.2.2.1 p0)), (1, .long p1), (3, .int v3_6), (4, .int v4_6)] → Hw X P M_6 s H locs → lq2 (L_J7_fill_d0a16_6 p0 p1 np0 v4_6) n_6 v3_6 M_6 = some M' → W p l e { frames := 0, cells := 0, slots := 0, locals := 0 } s m args below meth c H locs 0 0 (MQ below (CQ X P E none M') args s 0 0 (wA X P)) (F0 m 6 ls []) := by
    intro v4_6 n_6
    induction n_6 with
    | zero => intro v3_6 M_6 ls H locs hl hw h; cases h
    | succ n_6 ih_6 =>
      intro v3_6 M_6 ls H locs hl hw h
      replace h := lq2_succ h
      refine lv_iload_n hx hb dJ7_fill_d0a16_6 rfl (lv_at hl 2 rfl) ?_
      refine lv_iload hx hb dJ7_fill_d0a16_7 (lv_at hl 3 rfl) ?_
      refine lv_icmp_ge (tgt := 22) hx hb dJ7_fill_d0a16_9 (by decide) (fun c2 => ?_) (fun c2 => ?_)
      · replace h := (if_pos c2).symm.trans h
        exact wretV_W C hw h dJ7_fill_d0a16_22
      · replace h := (if_neg c2).symm.trans h
        refine lv_aload_n hx hb dJ7_fill_d0a16_12 rfl (lv_at hl 0 rfl) ?_
        refine lv_iload_n hx hb dJ7_fill_d0a16_13 rfl (lv_at hl 2 rfl) ?_
        refine lv_lload_n hx hb dJ7_fill_d0a16_14 rfl (lv_at hl 1 rfl) ?_
        obtain ⟨g4, h⟩ := grd h
        refine wlast C hw hp0 g4 dJ7_fill_d0a16_15 (fun M3 eM3 H locs hw => ?_)
        replace h := letv_at eM3 h
        refine lv_iinc (v := (v3_6 + 1)) (lv' := [(3, .int (v3_6 + 1)), (0, .ref (P.2.2.1 p0)), (1, .long p1), (4, .int v4_6)]) (k := 2) hx hb dJ7_fill_d0a16_16 hl rfl (congrArg (fun z => v3_6 + z) (by decide)) (by decide) rfl (fun ls hl => ?_)
        refine lv_goto (tgt := 6) hx hb dJ7_fill_d0a16_19 (by decide) ?_
        exact ih_6 (v3_6 + 1) M3 ls _ _ (lv_sub hl [1, 2, 0, 3] rfl) hw h
  refine lv_iconst (v := 0) hx hb dJ7_fill_d0a16_0 (by decide) ?_
  refine lv_istore_n (lv' := [(3, .int 0), (0, .ref (P.2.2.1 p0)), (1, .long p1)]) hx hb dJ7_fill_d0a16_1 rfl hl (by decide) rfl (fun ls hl => ?_)
  refine lv_aload_n hx hb dJ7_fill_d0a16_2 rfl (lv_at hl 1 rfl) ?_
  refine walen C hw hp0 (by decide) (by rfl) dJ7_fill_d0a16_3 ?_
  refine lv_topi (fun x1 ex1 => ?_)
  replace h := letv_at ex1 h
  refine lv_istore (lv' := [(4, .int x1), (3, .int 0), (0, .ref (P.2.2.1 p0)), (1, .long p1)]) hx hb dJ7_fill_d0a16_4 hl (by decide) rfl (fun ls hl => ?_)
  exact cut_6 x1 FU 0 M ls _ _ (lv_sub hl [2, 3, 1, 0] rfl) hw h
set_option maxRecDepth 100000 in
set_option maxHeartbeats 4000000 in
theorem c_J7_fill_53178 {l : Launch} {X : Wx} {P : Wp} {E : State → Heap → Prop} (hW : Wok X P E) {p0 : Nat} {p1 : Int32} {M : Mem} {M' : Mem} {np0 : Nat} (hp0 : X.1[p0]? = some (1, np0)) (h : f_J7_fill_53178 p0 p1 np0 M = some M') : CT l X P E yJ7_fill_53178 bJ7_fill_53178 4 (none) 0 0 [.ref (P.2.2.1 p0), .int p1] none M M' := by
  refine ct_of hW (by decide) (Nat.le_of_ble_eq_true rfl) (fun p e s m args below meth c C ls hl hw => ?_)
  have hx := C.1
  have hb := C.2.1
  replace hl : lv_has ls 4 [(0, .ref (P.2.2.1 p0)), (1, .int p1)] := hl
  have cut_5 : ∀ (v3_5 : Int32) (n_5 : Nat) (v2_5 : Int32) (M_5 : Mem) (ls : Array Slot) (H : Heap) (locs : List Loc), lv_has ls 4 [(0, .ref (P.2.2.1 p0)), (1, .int p1), (2, .int v2_5), (3, .int v3_5)] → Hw X P M_5 s H locs → lq2 (L_J7_fill_53178_5 p0 p1 np0 v3_5) n_5 v2_5 M_5 = some M' → W p l e { frames := 0, cells := 0, slots := 0, locals := 0 } s m args below meth c H locs 0 0 (MQ below (CQ X P E none M') args s 0 0 (wA X P)) (F0 m 5 ls []) := by
    intro v3_5 n_5
    induction n_5 with
    | zero => intro v2_5 M_5 ls H locs hl hw h; cases h
    | succ n_5 ih_5 =>
      intro v2_5 M_5 ls H locs hl hw h
      replace h := lq2_succ h
      refine lv_iload_n hx hb dJ7_fill_53178_5 rfl (lv_at hl 2 rfl) ?_
      refine lv_iload_n hx hb dJ7_fill_53178_6 rfl (lv_at hl 3 rfl) ?_
      refine lv_icmp_ge (tgt := 20) hx hb dJ7_fill_53178_7 (by decide) (fun c2 => ?_) (fun c2 => ?_)
      · replace h := (if_pos c2).symm.trans h
        exact wretV_W C hw h dJ7_fill_53178_20
      · replace h := (if_neg c2).symm.trans h
        refine lv_aload_n hx hb dJ7_fill_53178_10 rfl (lv_at hl 0 rfl) ?_
        refine lv_iload_n hx hb dJ7_fill_53178_11 rfl (lv_at hl 2 rfl) ?_
        refine lv_iload_n hx hb dJ7_fill_53178_12 rfl (lv_at hl 1 rfl) ?_
        obtain ⟨g4, h⟩ := grd h
        refine wast C hw hp0 g4 dJ7_fill_53178_13 (fun M3 eM3 H locs hw => ?_)
        replace h := letv_at eM3 h
        refine lv_iinc (v := (v2_5 + 1)) (lv' := [(2, .int (v2_5 + 1)), (0, .ref (P.2.2.1 p0)), (1, .int p1), (3, .int v3_5)]) (k := 2) hx hb dJ7_fill_53178_14 hl rfl (congrArg (fun z => v2_5 + z) (by decide)) (by decide) rfl (fun ls hl => ?_)
        refine lv_goto (tgt := 5) hx hb dJ7_fill_53178_17 (by decide) ?_
        exact ih_5 (v2_5 + 1) M3 ls _ _ (lv_sub hl [1, 2, 0, 3] rfl) hw h
  refine lv_iconst (v := 0) hx hb dJ7_fill_53178_0 (by decide) ?_
  refine lv_istore_n (lv' := [(2, .int 0), (0, .ref (P.2.2.1 p0)), (1, .int p1)]) hx hb dJ7_fill_53178_1 rfl hl (by decide) rfl (fun ls hl => ?_)
  refine lv_aload_n hx hb dJ7_fill_53178_2 rfl (lv_at hl 1 rfl) ?_
  refine walen C hw hp0 (by decide) (by rfl) dJ7_fill_53178_3 ?_
  refine lv_topi (fun x1 ex1 => ?_)
  replace h := letv_at ex1 h
  refine lv_istore_n (lv' := [(3, .int x1), (2, .int 0), (0, .ref (P.2.2.1 p0)), (1, .int p1)]) hx hb dJ7_fill_53178_4 rfl hl (by decide) rfl (fun ls hl => ?_)
  exact cut_5 x1 FU 0 M ls _ _ (lv_sub hl [2, 3, 1, 0] rfl) hw h
/-! Math: the kit's rows -/
def ML (own : String) (index : Nat) (y : MethodName) (b : ByteArray) (n : Nat) (ret : Option FieldType) : Prop := Cond.methodLink own index y ∈ lw_tbl ∧ Cond.static y ∈ lw_tbl ∧ Cond.initialized "java/lang/Math" ∈ lw_tbl ∧ Cond.code y b n ret ∈ lw_tbl
section ROWS2
variable {p : Program} {l : Launch} {e : Env} {R : Room} {s : State} {m : MethodId} {args : Array Value} {below : List Frame} {meth : Method} {c : Code} {H : Heap} {locs : List Loc} {cells slots : Nat} {Q : State → Prop} {X : Wx} {P : Wp} {E : State → Heap → Prop} {y : MethodName} {cc : ByteArray} {mL : Nat} {ret : Option FieldType} {pc : Nat} {ls : Array Slot} {rest : List Value} {index : Nat}
theorem wmax (C : Cx p s m args meth c X P E y cc mL ret) (hL : ML y.cls index Lib.Math.max.name Lib.Math.max.code 2 (some .int)) (hls : ls.size = mL) (hframes : 1 ≤ R.frames) (hlocals : (rest.map fun v => v.category).sum + 13 ≤ R.locals) (hc : cells ≤ R.cells) (hs : slots ≤ R.slots) {x z : Int32} (hdg : decode cc pc = .ok (.invokestatic index, 3))
    (kk : W p l e R s m args below meth c H locs cells slots Q (F0 m (pc + 3) ls (.int (f_max x z) :: rest))) : W p l e R s m args below meth c H locs cells slots Q (F0 m pc ls (.int z :: .int x :: rest)) := by
  obtain ⟨hx, hb, hml, hown, hts, hr, hlk, hW, hK, hE⟩ := C
  have ht : ∀ w ∈ gtbl, w.before args s = true := fun w hw => hts w (List.mem_cons_of_mem _ hw)
  obtain ⟨g1, g2, g3, g4⟩ := hL
  exact va_mmax hx hb (hml.trans hls.symm) hown (ht _ (gm g1 rfl)) (ht _ (gm g2 rfl)) (ht _ (gm g3 rfl)) (ht _ (gm g4 rfl)) hframes hlocals hc hs hdg kk
theorem wmin (C : Cx p s m args meth c X P E y cc mL ret) (hL : ML y.cls index Lib.Math.min.name Lib.Math.min.code 2 (some .int)) (hls : ls.size = mL) (hframes : 1 ≤ R.frames) (hlocals : (rest.map fun v => v.category).sum + 13 ≤ R.locals) (hc : cells ≤ R.cells) (hs : slots ≤ R.slots) {x z : Int32} (hdg : decode cc pc = .ok (.invokestatic index, 3))
    (kk : W p l e R s m args below meth c H locs cells slots Q (F0 m (pc + 3) ls (.int (f_min x z) :: rest))) : W p l e R s m args below meth c H locs cells slots Q (F0 m pc ls (.int z :: .int x :: rest)) := by
  obtain ⟨hx, hb, hml, hown, hts, hr, hlk, hW, hK, hE⟩ := C
  have ht : ∀ w ∈ gtbl, w.before args s = true := fun w hw => hts w (List.mem_cons_of_mem _ hw)
  obtain ⟨g1, g2, g3, g4⟩ := hL
  exact va_mmin hx hb (hml.trans hls.symm) hown (ht _ (gm g1 rfl)) (ht _ (gm g2 rfl)) (ht _ (gm g3 rfl)) (ht _ (gm g4 rfl)) hframes hlocals hc hs hdg kk
theorem wabs (C : Cx p s m args meth c X P E y cc mL ret) (hL : ML y.cls index Lib.Math.abs.name Lib.Math.abs.code 1 (some .int)) (hls : ls.size = mL) (hframes : 1 ≤ R.frames) (hlocals : (rest.map fun v => v.category).sum + 13 ≤ R.locals) (hc : cells ≤ R.cells) (hs : slots ≤ R.slots) {x : Int32} (hdg : decode cc pc = .ok (.invokestatic index, 3))
    (kk : W p l e R s m args below meth c H locs cells slots Q (F0 m (pc + 3) ls (.int (f_abs x) :: rest))) : W p l e R s m args below meth c H locs cells slots Q (F0 m pc ls (.int x :: rest)) := by
  obtain ⟨hx, hb, hml, hown, hts, hr, hlk, hW, hK, hE⟩ := C
  have ht : ∀ w ∈ gtbl, w.before args s = true := fun w hw => hts w (List.mem_cons_of_mem _ hw)
  obtain ⟨g1, g2, g3, g4⟩ := hL
  exact va_mabs hx hb (hml.trans hls.symm) hown (ht _ (gm g1 rfl)) (ht _ (gm g2 rfl)) (ht _ (gm g3 rfl)) (ht _ (gm g4 rfl)) hframes hlocals hc hs hdg kk
theorem wabsL (C : Cx p s m args meth c X P E y cc mL ret) (hL : ML y.cls index Lib.MathLoose.abs_long.x Lib.MathLoose.abs_long.code 2 (some .long)) (hls : ls.size = mL) (hframes : 1 ≤ R.frames) (hlocals : (rest.map fun v => v.category).sum + 13 ≤ R.locals) (hc : cells ≤ R.cells) (hs : slots ≤ R.slots) {x : Int64} (hdg : decode cc pc = .ok (.invokestatic index, 3))
    (kk : W p l e R s m args below meth c H locs cells slots Q (F0 m (pc + 3) ls (.long (f_absL x) :: rest))) : W p l e R s m args below meth c H locs cells slots Q (F0 m pc ls (.long x :: rest)) := by
  obtain ⟨hx, hb, hml, hown, hts, hr, hlk, hW, hK, hE⟩ := C
  have ht : ∀ w ∈ gtbl, w.before args s = true := fun w hw => hts w (List.mem_cons_of_mem _ hw)
  obtain ⟨g1, g2, g3, g4⟩ := hL
  exact va_mabs_long hx hb (hml.trans hls.symm) hown (ht _ (gm g1 rfl)) (ht _ (gm g2 rfl)) (ht _ (gm g3 rfl)) (ht _ (gm g4 rfl)) hframes hlocals hc hs hdg kk
end ROWS2
