set_option maxRecDepth 100000 in
set_option maxHeartbeats 4000000 in
theorem lawc_0 {p : Program} {l : Launch} {e : Env} {s : State} {m : MethodId} {below : List Frame} {meth : Method} {c : Code} {b L : Nat} {xs : Nat → Int32} {D : va_G} {cA : Nat → ClassId} {adC adR adK : Nat → Nat} {EC : State → Heap → Prop} {Rel : Mem → Mem → Prop} (X : LwX p s m meth c b L xs D cA adC adR adK EC) (ho : Op_0 Rel) {Mc Mr : Mem} {H : Heap} {locs : List Loc} {ls : Array Slot} {i : Int32} (hrel : Rel Mc Mr) (hw : LwS D cA adC adR adK s Mc Mr H locs) (hl : lv_has ls 4 [(0, .ref b), (1, .ref (adC 0)), (2, .ref (adR 0)), (3, .int i)]) (hi : ∀ k : Nat, k < 6 → vp_in (i + Int32.ofNat k) L) (kk : ∀ Mc' Mr', Rel Mc' Mr' → ∀ (H1 : Heap) (locs1 : List Loc), LwS D cA adC adR adK s Mc' Mr' H1 locs1 → W p l e room_1 s m #[Value.ref b] below meth c H1 locs1 600000 7302250 (lw_Z below #[Value.ref b] s) (F0 m 2654 ls [])) : W p l e room_1 s m #[Value.ref b] below meth c H locs 600000 7302250 (lw_Z below #[Value.ref b] s) (F0 m 388 ls []) := by
  obtain ⟨hx, hb, hml, hown, hts, hX, hbl, hbA, hK, hWC, hWR, hE, hAC, hAR, hdis⟩ := id X
  obtain ⟨r, Mc', Mr', e1, e2, hrel2⟩ := ho Mc Mr (xs (ix (i + 1))) (xs (ix (i + 2))) (xs (ix (i + 3))) (xs (ix (i + 4))) (xs (ix (i + 5))) hrel
  refine lv_aload_n hx hb dL_law_388 rfl (lv_at hl 1 rfl) ?_
  refine lv_aload_n hx hb dL_law_389 rfl (lv_at hl 0 rfl) ?_
  refine lv_iload_n hx hb dL_law_390 rfl (lv_at hl 3 rfl) ?_
  refine lv_iconst (v := 1) hx hb dL_law_391 (by decide) ?_
  refine lv_iadd hx hb dL_law_392 ?_
  refine va_sld hx hb hX hbl hbA hw.2.2 (hi 1 (by decide)) dL_law_393 ?_
  refine lv_aload_n hx hb dL_law_394 rfl (lv_at hl 0 rfl) ?_
  refine lv_iload_n hx hb dL_law_395 rfl (lv_at hl 3 rfl) ?_
  refine lv_iconst (v := 2) hx hb dL_law_396 (by decide) ?_
  refine lv_iadd hx hb dL_law_397 ?_
  refine va_sld hx hb hX hbl hbA hw.2.2 (hi 2 (by decide)) dL_law_398 ?_
  refine lv_aload_n hx hb dL_law_399 rfl (lv_at hl 0 rfl) ?_
  refine lv_iload_n hx hb dL_law_400 rfl (lv_at hl 3 rfl) ?_
  refine lv_iconst (v := 3) hx hb dL_law_401 (by decide) ?_
  refine lv_iadd hx hb dL_law_402 ?_
  refine va_sld hx hb hX hbl hbA hw.2.2 (hi 3 (by decide)) dL_law_403 ?_
  refine lv_aload_n hx hb dL_law_404 rfl (lv_at hl 0 rfl) ?_
  refine lv_iload_n hx hb dL_law_405 rfl (lv_at hl 3 rfl) ?_
  refine lv_iconst (v := 4) hx hb dL_law_406 (by decide) ?_
  refine lv_iadd hx hb dL_law_407 ?_
  refine va_sld hx hb hX hbl hbA hw.2.2 (hi 4 (by decide)) dL_law_408 ?_
  refine lv_aload_n hx hb dL_law_409 rfl (lv_at hl 0 rfl) ?_
  refine lv_iload_n hx hb dL_law_410 rfl (lv_at hl 3 rfl) ?_
  refine lv_iconst (v := 5) hx hb dL_law_411 (by decide) ?_
  refine lv_iadd hx hb dL_law_412 ?_
  refine va_sld hx hb hX hbl hbA hw.2.2 (hi 5 (by decide)) dL_law_413 ?_
  refine wlawC (As := [.int (xs (ix (i + 1))), .int (xs (ix (i + 2))), .int (xs (ix (i + 3))), .int (xs (ix (i + 4))), .int (xs (ix (i + 5)))]) (rest := []) X hw (c_X10_feed hWC e1) vlL_13 ⟨Nat.le_of_ble_eq_true rfl, Nat.le_of_ble_eq_true rfl⟩ rfl rfl rfl hl.1 (Nat.le_of_ble_eq_true rfl) dL_law_414 ⟨Nat.le_of_ble_eq_true rfl, Nat.le_of_ble_eq_true rfl⟩ (fun H locs hw => ?_)
  refine lv_aload_n hx hb dL_law_417 rfl (lv_at hl 2 rfl) ?_
  refine lv_aload_n hx hb dL_law_418 rfl (lv_at hl 0 rfl) ?_
  refine lv_iload_n hx hb dL_law_419 rfl (lv_at hl 3 rfl) ?_
  refine lv_iconst (v := 1) hx hb dL_law_420 (by decide) ?_
  refine lv_iadd hx hb dL_law_421 ?_
  refine va_sld hx hb hX hbl hbA hw.2.2 (hi 1 (by decide)) dL_law_422 ?_
  refine lv_aload_n hx hb dL_law_423 rfl (lv_at hl 0 rfl) ?_
  refine lv_iload_n hx hb dL_law_424 rfl (lv_at hl 3 rfl) ?_
  refine lv_iconst (v := 2) hx hb dL_law_425 (by decide) ?_
  refine lv_iadd hx hb dL_law_426 ?_
  refine va_sld hx hb hX hbl hbA hw.2.2 (hi 2 (by decide)) dL_law_427 ?_
  refine lv_aload_n hx hb dL_law_428 rfl (lv_at hl 0 rfl) ?_
  refine lv_iload_n hx hb dL_law_429 rfl (lv_at hl 3 rfl) ?_
  refine lv_iconst (v := 3) hx hb dL_law_430 (by decide) ?_
  refine lv_iadd hx hb dL_law_431 ?_
  refine va_sld hx hb hX hbl hbA hw.2.2 (hi 3 (by decide)) dL_law_432 ?_
  refine lv_aload_n hx hb dL_law_433 rfl (lv_at hl 0 rfl) ?_
  refine lv_iload_n hx hb dL_law_434 rfl (lv_at hl 3 rfl) ?_
  refine lv_iconst (v := 4) hx hb dL_law_435 (by decide) ?_
  refine lv_iadd hx hb dL_law_436 ?_
  refine va_sld hx hb hX hbl hbA hw.2.2 (hi 4 (by decide)) dL_law_437 ?_
  refine lv_aload_n hx hb dL_law_438 rfl (lv_at hl 0 rfl) ?_
  refine lv_iload_n hx hb dL_law_439 rfl (lv_at hl 3 rfl) ?_
  refine lv_iconst (v := 5) hx hb dL_law_440 (by decide) ?_
  refine lv_iadd hx hb dL_law_441 ?_
  refine va_sld hx hb hX hbl hbA hw.2.2 (hi 5 (by decide)) dL_law_442 ?_
  refine wlawR (As := [.int (xs (ix (i + 1))), .int (xs (ix (i + 2))), .int (xs (ix (i + 3))), .int (xs (ix (i + 4))), .int (xs (ix (i + 5)))]) (rest := [.int r]) X hw (c_X11_feed hWR e2) vlL_17 ⟨Nat.le_of_ble_eq_true rfl, Nat.le_of_ble_eq_true rfl⟩ rfl rfl rfl hl.1 (Nat.le_of_ble_eq_true rfl) dL_law_443 ⟨Nat.le_of_ble_eq_true rfl, Nat.le_of_ble_eq_true rfl⟩ (fun H locs hw => ?_)
  refine lv_icmp_eq (tgt := 2654) hx hb dL_law_446 (by decide) (fun _ => ?_) (fun c1 => absurd rfl c1)
  exact kk Mc' Mr' hrel2 H locs hw
set_option maxRecDepth 100000 in
set_option maxHeartbeats 4000000 in
theorem lawc_1 {p : Program} {l : Launch} {e : Env} {s : State} {m : MethodId} {below : List Frame} {meth : Method} {c : Code} {b L : Nat} {xs : Nat → Int32} {D : va_G} {cA : Nat → ClassId} {adC adR adK : Nat → Nat} {EC : State → Heap → Prop} {Rel : Mem → Mem → Prop} (X : LwX p s m meth c b L xs D cA adC adR adK EC) (ho : Op_1 Rel) {Mc Mr : Mem} {H : Heap} {locs : List Loc} {ls : Array Slot} {i : Int32} (hrel : Rel Mc Mr) (hw : LwS D cA adC adR adK s Mc Mr H locs) (hl : lv_has ls 4 [(0, .ref b), (1, .ref (adC 0)), (2, .ref (adR 0)), (3, .int i)]) (hi : ∀ k : Nat, k < 6 → vp_in (i + Int32.ofNat k) L) (kk : ∀ Mc' Mr', Rel Mc' Mr' → ∀ (H1 : Heap) (locs1 : List Loc), LwS D cA adC adR adK s Mc' Mr' H1 locs1 → W p l e room_1 s m #[Value.ref b] below meth c H1 locs1 600000 7302250 (lw_Z below #[Value.ref b] s) (F0 m 2654 ls [])) : W p l e room_1 s m #[Value.ref b] below meth c H locs 600000 7302250 (lw_Z below #[Value.ref b] s) (F0 m 451 ls []) := by
  obtain ⟨hx, hb, hml, hown, hts, hX, hbl, hbA, hK, hWC, hWR, hE, hAC, hAR, hdis⟩ := id X
  obtain ⟨r, Mc', Mr', e1, e2, hrel2⟩ := ho Mc Mr (xs (ix (i + 1))) hrel
  refine lv_aload_n hx hb dL_law_451 rfl (lv_at hl 1 rfl) ?_
  refine lv_aload_n hx hb dL_law_452 rfl (lv_at hl 0 rfl) ?_
  refine lv_iload_n hx hb dL_law_453 rfl (lv_at hl 3 rfl) ?_
  refine lv_iconst (v := 1) hx hb dL_law_454 (by decide) ?_
  refine lv_iadd hx hb dL_law_455 ?_
  refine va_sld hx hb hX hbl hbA hw.2.2 (hi 1 (by decide)) dL_law_456 ?_
  refine wlawC (As := [.int (xs (ix (i + 1)))]) (rest := []) X hw (c_X10_end hWC e1) vlL_18 ⟨Nat.le_of_ble_eq_true rfl, Nat.le_of_ble_eq_true rfl⟩ rfl rfl rfl hl.1 (Nat.le_of_ble_eq_true rfl) dL_law_457 ⟨Nat.le_of_ble_eq_true rfl, Nat.le_of_ble_eq_true rfl⟩ (fun H locs hw => ?_)
  refine lv_aload_n hx hb dL_law_460 rfl (lv_at hl 2 rfl) ?_
  refine lv_aload_n hx hb dL_law_461 rfl (lv_at hl 0 rfl) ?_
  refine lv_iload_n hx hb dL_law_462 rfl (lv_at hl 3 rfl) ?_
  refine lv_iconst (v := 1) hx hb dL_law_463 (by decide) ?_
  refine lv_iadd hx hb dL_law_464 ?_
  refine va_sld hx hb hX hbl hbA hw.2.2 (hi 1 (by decide)) dL_law_465 ?_
  refine wlawR (As := [.int (xs (ix (i + 1)))]) (rest := [.int r]) X hw (c_X11_end hWR e2) vlL_22 ⟨Nat.le_of_ble_eq_true rfl, Nat.le_of_ble_eq_true rfl⟩ rfl rfl rfl hl.1 (Nat.le_of_ble_eq_true rfl) dL_law_466 ⟨Nat.le_of_ble_eq_true rfl, Nat.le_of_ble_eq_true rfl⟩ (fun H locs hw => ?_)
  refine lv_icmp_eq (tgt := 2654) hx hb dL_law_469 (by decide) (fun _ => ?_) (fun c1 => absurd rfl c1)
  exact kk Mc' Mr' hrel2 H locs hw
set_option maxRecDepth 100000 in
set_option maxHeartbeats 4000000 in
theorem lawc_2 {p : Program} {l : Launch} {e : Env} {s : State} {m : MethodId} {below : List Frame} {meth : Method} {c : Code} {b L : Nat} {xs : Nat → Int32} {D : va_G} {cA : Nat → ClassId} {adC adR adK : Nat → Nat} {EC : State → Heap → Prop} {Rel : Mem → Mem → Prop} (X : LwX p s m meth c b L xs D cA adC adR adK EC) (ho : Op_2 Rel) {Mc Mr : Mem} {H : Heap} {locs : List Loc} {ls : Array Slot} {i : Int32} (hrel : Rel Mc Mr) (hw : LwS D cA adC adR adK s Mc Mr H locs) (hl : lv_has ls 4 [(0, .ref b), (1, .ref (adC 0)), (2, .ref (adR 0)), (3, .int i)]) (hi : ∀ k : Nat, k < 6 → vp_in (i + Int32.ofNat k) L) (kk : ∀ Mc' Mr', Rel Mc' Mr' → ∀ (H1 : Heap) (locs1 : List Loc), LwS D cA adC adR adK s Mc' Mr' H1 locs1 → W p l e room_1 s m #[Value.ref b] below meth c H1 locs1 600000 7302250 (lw_Z below #[Value.ref b] s) (F0 m 2654 ls [])) : W p l e room_1 s m #[Value.ref b] below meth c H locs 600000 7302250 (lw_Z below #[Value.ref b] s) (F0 m 474 ls []) := by
  obtain ⟨hx, hb, hml, hown, hts, hX, hbl, hbA, hK, hWC, hWR, hE, hAC, hAR, hdis⟩ := id X
  obtain ⟨r, Mc', Mr', e1, e2, hrel2⟩ := ho Mc Mr  hrel
  refine lv_aload_n hx hb dL_law_474 rfl (lv_at hl 1 rfl) ?_
  refine wlawC (As := []) (rest := []) X hw (c_X10_lehr hWC e1) vlL_23 ⟨Nat.le_of_ble_eq_true rfl, Nat.le_of_ble_eq_true rfl⟩ rfl rfl rfl hl.1 (Nat.le_of_ble_eq_true rfl) dL_law_475 ⟨Nat.le_of_ble_eq_true rfl, Nat.le_of_ble_eq_true rfl⟩ (fun H locs hw => ?_)
  refine lv_aload_n hx hb dL_law_478 rfl (lv_at hl 2 rfl) ?_
  refine wlawR (As := []) (rest := [.int r]) X hw (c_X11_lehr hWR e2) vlL_27 ⟨Nat.le_of_ble_eq_true rfl, Nat.le_of_ble_eq_true rfl⟩ rfl rfl rfl hl.1 (Nat.le_of_ble_eq_true rfl) dL_law_479 ⟨Nat.le_of_ble_eq_true rfl, Nat.le_of_ble_eq_true rfl⟩ (fun H locs hw => ?_)
  refine lv_icmp_eq (tgt := 2654) hx hb dL_law_482 (by decide) (fun _ => ?_) (fun c1 => absurd rfl c1)
  exact kk Mc' Mr' hrel2 H locs hw
set_option maxRecDepth 100000 in
set_option maxHeartbeats 4000000 in
theorem lawc_3 {p : Program} {l : Launch} {e : Env} {s : State} {m : MethodId} {below : List Frame} {meth : Method} {c : Code} {b L : Nat} {xs : Nat → Int32} {D : va_G} {cA : Nat → ClassId} {adC adR adK : Nat → Nat} {EC : State → Heap → Prop} {Rel : Mem → Mem → Prop} (X : LwX p s m meth c b L xs D cA adC adR adK EC) (ho : Op_3 Rel) {Mc Mr : Mem} {H : Heap} {locs : List Loc} {ls : Array Slot} {i : Int32} (hrel : Rel Mc Mr) (hw : LwS D cA adC adR adK s Mc Mr H locs) (hl : lv_has ls 4 [(0, .ref b), (1, .ref (adC 0)), (2, .ref (adR 0)), (3, .int i)]) (hi : ∀ k : Nat, k < 6 → vp_in (i + Int32.ofNat k) L) (kk : ∀ Mc' Mr', Rel Mc' Mr' → ∀ (H1 : Heap) (locs1 : List Loc), LwS D cA adC adR adK s Mc' Mr' H1 locs1 → W p l e room_1 s m #[Value.ref b] below meth c H1 locs1 600000 7302250 (lw_Z below #[Value.ref b] s) (F0 m 2654 ls [])) : W p l e room_1 s m #[Value.ref b] below meth c H locs 600000 7302250 (lw_Z below #[Value.ref b] s) (F0 m 487 ls []) := by
  obtain ⟨hx, hb, hml, hown, hts, hX, hbl, hbA, hK, hWC, hWR, hE, hAC, hAR, hdis⟩ := id X
  obtain ⟨r, Mr', e1, e2, hrel2⟩ := ho Mc Mr (xs (ix (i + 1))) hrel
  refine lv_aload_n hx hb dL_law_487 rfl (lv_at hl 1 rfl) ?_
  refine lv_aload_n hx hb dL_law_488 rfl (lv_at hl 0 rfl) ?_
  refine lv_iload_n hx hb dL_law_489 rfl (lv_at hl 3 rfl) ?_
  refine lv_iconst (v := 1) hx hb dL_law_490 (by decide) ?_
  refine lv_iadd hx hb dL_law_491 ?_
  refine va_sld hx hb hX hbl hbA hw.2.2 (hi 1 (by decide)) dL_law_492 ?_
  refine wlawC (As := [.int (xs (ix (i + 1)))]) (rest := []) X hw (c_X10_fault hWC e1) vlL_28 ⟨Nat.le_of_ble_eq_true rfl, Nat.le_of_ble_eq_true rfl⟩ rfl rfl rfl hl.1 (Nat.le_of_ble_eq_true rfl) dL_law_493 ⟨Nat.le_of_ble_eq_true rfl, Nat.le_of_ble_eq_true rfl⟩ (fun H locs hw => ?_)
  refine lv_aload_n hx hb dL_law_496 rfl (lv_at hl 2 rfl) ?_
  refine lv_aload_n hx hb dL_law_497 rfl (lv_at hl 0 rfl) ?_
  refine lv_iload_n hx hb dL_law_498 rfl (lv_at hl 3 rfl) ?_
  refine lv_iconst (v := 1) hx hb dL_law_499 (by decide) ?_
  refine lv_iadd hx hb dL_law_500 ?_
  refine va_sld hx hb hX hbl hbA hw.2.2 (hi 1 (by decide)) dL_law_501 ?_
  refine wlawR (As := [.int (xs (ix (i + 1)))]) (rest := [.int r]) X hw (c_X11_fault hWR e2) vlL_31 ⟨Nat.le_of_ble_eq_true rfl, Nat.le_of_ble_eq_true rfl⟩ rfl rfl rfl hl.1 (Nat.le_of_ble_eq_true rfl) dL_law_502 ⟨Nat.le_of_ble_eq_true rfl, Nat.le_of_ble_eq_true rfl⟩ (fun H locs hw => ?_)
  refine lv_icmp_eq (tgt := 2654) hx hb dL_law_505 (by decide) (fun _ => ?_) (fun c1 => absurd rfl c1)
  exact kk Mc Mr' hrel2 H locs hw
set_option maxRecDepth 100000 in
set_option maxHeartbeats 4000000 in
theorem lawc_4 {p : Program} {l : Launch} {e : Env} {s : State} {m : MethodId} {below : List Frame} {meth : Method} {c : Code} {b L : Nat} {xs : Nat → Int32} {D : va_G} {cA : Nat → ClassId} {adC adR adK : Nat → Nat} {EC : State → Heap → Prop} {Rel : Mem → Mem → Prop} (X : LwX p s m meth c b L xs D cA adC adR adK EC) (ho : Op_4 Rel) {Mc Mr : Mem} {H : Heap} {locs : List Loc} {ls : Array Slot} {i : Int32} (hrel : Rel Mc Mr) (hw : LwS D cA adC adR adK s Mc Mr H locs) (hl : lv_has ls 4 [(0, .ref b), (1, .ref (adC 0)), (2, .ref (adR 0)), (3, .int i)]) (hi : ∀ k : Nat, k < 6 → vp_in (i + Int32.ofNat k) L) (kk : ∀ Mc' Mr', Rel Mc' Mr' → ∀ (H1 : Heap) (locs1 : List Loc), LwS D cA adC adR adK s Mc' Mr' H1 locs1 → W p l e room_1 s m #[Value.ref b] below meth c H1 locs1 600000 7302250 (lw_Z below #[Value.ref b] s) (F0 m 2654 ls [])) : W p l e room_1 s m #[Value.ref b] below meth c H locs 600000 7302250 (lw_Z below #[Value.ref b] s) (F0 m 510 ls []) := by
  obtain ⟨hx, hb, hml, hown, hts, hX, hbl, hbA, hK, hWC, hWR, hE, hAC, hAR, hdis⟩ := id X
  obtain ⟨r, Mr', e1, e2, hrel2⟩ := ho Mc Mr (xs (ix (i + 1))) hrel
  refine lv_aload_n hx hb dL_law_510 rfl (lv_at hl 1 rfl) ?_
  refine lv_aload_n hx hb dL_law_511 rfl (lv_at hl 0 rfl) ?_
  refine lv_iload_n hx hb dL_law_512 rfl (lv_at hl 3 rfl) ?_
  refine lv_iconst (v := 1) hx hb dL_law_513 (by decide) ?_
  refine lv_iadd hx hb dL_law_514 ?_
  refine va_sld hx hb hX hbl hbA hw.2.2 (hi 1 (by decide)) dL_law_515 ?_
  refine wlawC (As := [.int (xs (ix (i + 1)))]) (rest := []) X hw (c_X10_zone hWC e1) vlL_32 ⟨Nat.le_of_ble_eq_true rfl, Nat.le_of_ble_eq_true rfl⟩ rfl rfl rfl hl.1 (Nat.le_of_ble_eq_true rfl) dL_law_516 ⟨Nat.le_of_ble_eq_true rfl, Nat.le_of_ble_eq_true rfl⟩ (fun H locs hw => ?_)
  refine lv_aload_n hx hb dL_law_519 rfl (lv_at hl 2 rfl) ?_
  refine lv_aload_n hx hb dL_law_520 rfl (lv_at hl 0 rfl) ?_
  refine lv_iload_n hx hb dL_law_521 rfl (lv_at hl 3 rfl) ?_
  refine lv_iconst (v := 1) hx hb dL_law_522 (by decide) ?_
  refine lv_iadd hx hb dL_law_523 ?_
  refine va_sld hx hb hX hbl hbA hw.2.2 (hi 1 (by decide)) dL_law_524 ?_
  refine wlawR (As := [.int (xs (ix (i + 1)))]) (rest := [.int r]) X hw (c_X11_zone hWR e2) vlL_35 ⟨Nat.le_of_ble_eq_true rfl, Nat.le_of_ble_eq_true rfl⟩ rfl rfl rfl hl.1 (Nat.le_of_ble_eq_true rfl) dL_law_525 ⟨Nat.le_of_ble_eq_true rfl, Nat.le_of_ble_eq_true rfl⟩ (fun H locs hw => ?_)
  refine lv_icmp_eq (tgt := 2654) hx hb dL_law_528 (by decide) (fun _ => ?_) (fun c1 => absurd rfl c1)
  exact kk Mc Mr' hrel2 H locs hw
set_option maxRecDepth 100000 in
set_option maxHeartbeats 4000000 in
theorem lawc_5 {p : Program} {l : Launch} {e : Env} {s : State} {m : MethodId} {below : List Frame} {meth : Method} {c : Code} {b L : Nat} {xs : Nat → Int32} {D : va_G} {cA : Nat → ClassId} {adC adR adK : Nat → Nat} {EC : State → Heap → Prop} {Rel : Mem → Mem → Prop} (X : LwX p s m meth c b L xs D cA adC adR adK EC) (ho : Op_5 Rel) {Mc Mr : Mem} {H : Heap} {locs : List Loc} {ls : Array Slot} {i : Int32} (hrel : Rel Mc Mr) (hw : LwS D cA adC adR adK s Mc Mr H locs) (hl : lv_has ls 4 [(0, .ref b), (1, .ref (adC 0)), (2, .ref (adR 0)), (3, .int i)]) (hi : ∀ k : Nat, k < 6 → vp_in (i + Int32.ofNat k) L) (kk : ∀ Mc' Mr', Rel Mc' Mr' → ∀ (H1 : Heap) (locs1 : List Loc), LwS D cA adC adR adK s Mc' Mr' H1 locs1 → W p l e room_1 s m #[Value.ref b] below meth c H1 locs1 600000 7302250 (lw_Z below #[Value.ref b] s) (F0 m 2654 ls [])) : W p l e room_1 s m #[Value.ref b] below meth c H locs 600000 7302250 (lw_Z below #[Value.ref b] s) (F0 m 533 ls []) := by
  obtain ⟨hx, hb, hml, hown, hts, hX, hbl, hbA, hK, hWC, hWR, hE, hAC, hAR, hdis⟩ := id X
  obtain ⟨r, Mr', e1, e2, hrel2⟩ := ho Mc Mr (xs (ix (i + 1))) (xs (ix (i + 2))) hrel
  refine lv_aload_n hx hb dL_law_533 rfl (lv_at hl 1 rfl) ?_
  refine lv_aload_n hx hb dL_law_534 rfl (lv_at hl 0 rfl) ?_
  refine lv_iload_n hx hb dL_law_535 rfl (lv_at hl 3 rfl) ?_
  refine lv_iconst (v := 1) hx hb dL_law_536 (by decide) ?_
  refine lv_iadd hx hb dL_law_537 ?_
  refine va_sld hx hb hX hbl hbA hw.2.2 (hi 1 (by decide)) dL_law_538 ?_
  refine lv_aload_n hx hb dL_law_539 rfl (lv_at hl 0 rfl) ?_
  refine lv_iload_n hx hb dL_law_540 rfl (lv_at hl 3 rfl) ?_
  refine lv_iconst (v := 2) hx hb dL_law_541 (by decide) ?_
  refine lv_iadd hx hb dL_law_542 ?_
  refine va_sld hx hb hX hbl hbA hw.2.2 (hi 2 (by decide)) dL_law_543 ?_
  refine wlawC (As := [.int (xs (ix (i + 1))), .int (xs (ix (i + 2)))]) (rest := []) X hw (c_X10_piece hWC e1) vlL_36 ⟨Nat.le_of_ble_eq_true rfl, Nat.le_of_ble_eq_true rfl⟩ rfl rfl rfl hl.1 (Nat.le_of_ble_eq_true rfl) dL_law_544 ⟨Nat.le_of_ble_eq_true rfl, Nat.le_of_ble_eq_true rfl⟩ (fun H locs hw => ?_)
  refine lv_aload_n hx hb dL_law_547 rfl (lv_at hl 2 rfl) ?_
  refine lv_aload_n hx hb dL_law_548 rfl (lv_at hl 0 rfl) ?_
  refine lv_iload_n hx hb dL_law_549 rfl (lv_at hl 3 rfl) ?_
  refine lv_iconst (v := 1) hx hb dL_law_550 (by decide) ?_
  refine lv_iadd hx hb dL_law_551 ?_
  refine va_sld hx hb hX hbl hbA hw.2.2 (hi 1 (by decide)) dL_law_552 ?_
  refine lv_aload_n hx hb dL_law_553 rfl (lv_at hl 0 rfl) ?_
  refine lv_iload_n hx hb dL_law_554 rfl (lv_at hl 3 rfl) ?_
  refine lv_iconst (v := 2) hx hb dL_law_555 (by decide) ?_
  refine lv_iadd hx hb dL_law_556 ?_
  refine va_sld hx hb hX hbl hbA hw.2.2 (hi 2 (by decide)) dL_law_557 ?_
  refine wlawR (As := [.int (xs (ix (i + 1))), .int (xs (ix (i + 2)))]) (rest := [.int r]) X hw (c_X11_piece hWR e2) vlL_40 ⟨Nat.le_of_ble_eq_true rfl, Nat.le_of_ble_eq_true rfl⟩ rfl rfl rfl hl.1 (Nat.le_of_ble_eq_true rfl) dL_law_558 ⟨Nat.le_of_ble_eq_true rfl, Nat.le_of_ble_eq_true rfl⟩ (fun H locs hw => ?_)
  refine lv_icmp_eq (tgt := 2654) hx hb dL_law_561 (by decide) (fun _ => ?_) (fun c1 => absurd rfl c1)
  exact kk Mc Mr' hrel2 H locs hw
set_option maxRecDepth 100000 in
set_option maxHeartbeats 4000000 in
theorem lawc_6 {p : Program} {l : Launch} {e : Env} {s : State} {m : MethodId} {below : List Frame} {meth : Method} {c : Code} {b L : Nat} {xs : Nat → Int32} {D : va_G} {cA : Nat → ClassId} {adC adR adK : Nat → Nat} {EC : State → Heap → Prop} {Rel : Mem → Mem → Prop} (X : LwX p s m meth c b L xs D cA adC adR adK EC) (ho : Op_6 Rel) {Mc Mr : Mem} {H : Heap} {locs : List Loc} {ls : Array Slot} {i : Int32} (hrel : Rel Mc Mr) (hw : LwS D cA adC adR adK s Mc Mr H locs) (hl : lv_has ls 4 [(0, .ref b), (1, .ref (adC 0)), (2, .ref (adR 0)), (3, .int i)]) (hi : ∀ k : Nat, k < 6 → vp_in (i + Int32.ofNat k) L) (kk : ∀ Mc' Mr', Rel Mc' Mr' → ∀ (H1 : Heap) (locs1 : List Loc), LwS D cA adC adR adK s Mc' Mr' H1 locs1 → W p l e room_1 s m #[Value.ref b] below meth c H1 locs1 600000 7302250 (lw_Z below #[Value.ref b] s) (F0 m 2654 ls [])) : W p l e room_1 s m #[Value.ref b] below meth c H locs 600000 7302250 (lw_Z below #[Value.ref b] s) (F0 m 566 ls []) := by
  obtain ⟨hx, hb, hml, hown, hts, hX, hbl, hbA, hK, hWC, hWR, hE, hAC, hAR, hdis⟩ := id X
  obtain ⟨r, Mr', e1, e2, hrel2⟩ := ho Mc Mr (xs (ix (i + 1))) (xs (ix (i + 2))) hrel
  refine lv_aload_n hx hb dL_law_566 rfl (lv_at hl 1 rfl) ?_
  refine lv_aload_n hx hb dL_law_567 rfl (lv_at hl 0 rfl) ?_
  refine lv_iload_n hx hb dL_law_568 rfl (lv_at hl 3 rfl) ?_
  refine lv_iconst (v := 1) hx hb dL_law_569 (by decide) ?_
  refine lv_iadd hx hb dL_law_570 ?_
  refine va_sld hx hb hX hbl hbA hw.2.2 (hi 1 (by decide)) dL_law_571 ?_
  refine lv_aload_n hx hb dL_law_572 rfl (lv_at hl 0 rfl) ?_
  refine lv_iload_n hx hb dL_law_573 rfl (lv_at hl 3 rfl) ?_
  refine lv_iconst (v := 2) hx hb dL_law_574 (by decide) ?_
  refine lv_iadd hx hb dL_law_575 ?_
  refine va_sld hx hb hX hbl hbA hw.2.2 (hi 2 (by decide)) dL_law_576 ?_
  refine wlawC (As := [.int (xs (ix (i + 1))), .int (xs (ix (i + 2)))]) (rest := []) X hw (c_X10_air hWC e1) vlL_41 ⟨Nat.le_of_ble_eq_true rfl, Nat.le_of_ble_eq_true rfl⟩ rfl rfl rfl hl.1 (Nat.le_of_ble_eq_true rfl) dL_law_577 ⟨Nat.le_of_ble_eq_true rfl, Nat.le_of_ble_eq_true rfl⟩ (fun H locs hw => ?_)
  refine lv_aload_n hx hb dL_law_580 rfl (lv_at hl 2 rfl) ?_
  refine lv_aload_n hx hb dL_law_581 rfl (lv_at hl 0 rfl) ?_
  refine lv_iload_n hx hb dL_law_582 rfl (lv_at hl 3 rfl) ?_
  refine lv_iconst (v := 1) hx hb dL_law_583 (by decide) ?_
  refine lv_iadd hx hb dL_law_584 ?_
  refine va_sld hx hb hX hbl hbA hw.2.2 (hi 1 (by decide)) dL_law_585 ?_
  refine lv_aload_n hx hb dL_law_586 rfl (lv_at hl 0 rfl) ?_
  refine lv_iload_n hx hb dL_law_587 rfl (lv_at hl 3 rfl) ?_
  refine lv_iconst (v := 2) hx hb dL_law_588 (by decide) ?_
  refine lv_iadd hx hb dL_law_589 ?_
  refine va_sld hx hb hX hbl hbA hw.2.2 (hi 2 (by decide)) dL_law_590 ?_
  refine wlawR (As := [.int (xs (ix (i + 1))), .int (xs (ix (i + 2)))]) (rest := [.int r]) X hw (c_X11_air hWR e2) vlL_44 ⟨Nat.le_of_ble_eq_true rfl, Nat.le_of_ble_eq_true rfl⟩ rfl rfl rfl hl.1 (Nat.le_of_ble_eq_true rfl) dL_law_591 ⟨Nat.le_of_ble_eq_true rfl, Nat.le_of_ble_eq_true rfl⟩ (fun H locs hw => ?_)
  refine lv_icmp_eq (tgt := 2654) hx hb dL_law_594 (by decide) (fun _ => ?_) (fun c1 => absurd rfl c1)
  exact kk Mc Mr' hrel2 H locs hw
set_option maxRecDepth 100000 in
set_option maxHeartbeats 4000000 in
theorem lawc_7 {p : Program} {l : Launch} {e : Env} {s : State} {m : MethodId} {below : List Frame} {meth : Method} {c : Code} {b L : Nat} {xs : Nat → Int32} {D : va_G} {cA : Nat → ClassId} {adC adR adK : Nat → Nat} {EC : State → Heap → Prop} {Rel : Mem → Mem → Prop} (X : LwX p s m meth c b L xs D cA adC adR adK EC) (ho : Op_7 Rel) {Mc Mr : Mem} {H : Heap} {locs : List Loc} {ls : Array Slot} {i : Int32} (hrel : Rel Mc Mr) (hw : LwS D cA adC adR adK s Mc Mr H locs) (hl : lv_has ls 4 [(0, .ref b), (1, .ref (adC 0)), (2, .ref (adR 0)), (3, .int i)]) (hi : ∀ k : Nat, k < 6 → vp_in (i + Int32.ofNat k) L) (kk : ∀ Mc' Mr', Rel Mc' Mr' → ∀ (H1 : Heap) (locs1 : List Loc), LwS D cA adC adR adK s Mc' Mr' H1 locs1 → W p l e room_1 s m #[Value.ref b] below meth c H1 locs1 600000 7302250 (lw_Z below #[Value.ref b] s) (F0 m 2654 ls [])) : W p l e room_1 s m #[Value.ref b] below meth c H locs 600000 7302250 (lw_Z below #[Value.ref b] s) (F0 m 599 ls []) := by
  obtain ⟨hx, hb, hml, hown, hts, hX, hbl, hbA, hK, hWC, hWR, hE, hAC, hAR, hdis⟩ := id X
  obtain ⟨r, Mr', e1, e2, hrel2⟩ := ho Mc Mr (xs (ix (i + 1))) (xs (ix (i + 2))) hrel
  refine lv_aload_n hx hb dL_law_599 rfl (lv_at hl 1 rfl) ?_
  refine lv_aload_n hx hb dL_law_600 rfl (lv_at hl 0 rfl) ?_
  refine lv_iload_n hx hb dL_law_601 rfl (lv_at hl 3 rfl) ?_
  refine lv_iconst (v := 1) hx hb dL_law_602 (by decide) ?_
  refine lv_iadd hx hb dL_law_603 ?_
  refine va_sld hx hb hX hbl hbA hw.2.2 (hi 1 (by decide)) dL_law_604 ?_
  refine lv_aload_n hx hb dL_law_605 rfl (lv_at hl 0 rfl) ?_
  refine lv_iload_n hx hb dL_law_606 rfl (lv_at hl 3 rfl) ?_
  refine lv_iconst (v := 2) hx hb dL_law_607 (by decide) ?_
  refine lv_iadd hx hb dL_law_608 ?_
  refine va_sld hx hb hX hbl hbA hw.2.2 (hi 2 (by decide)) dL_law_609 ?_
  refine wlawC (As := [.int (xs (ix (i + 1))), .int (xs (ix (i + 2)))]) (rest := []) X hw (c_X10_where hWC e1) vlL_45 ⟨Nat.le_of_ble_eq_true rfl, Nat.le_of_ble_eq_true rfl⟩ rfl rfl rfl hl.1 (Nat.le_of_ble_eq_true rfl) dL_law_610 ⟨Nat.le_of_ble_eq_true rfl, Nat.le_of_ble_eq_true rfl⟩ (fun H locs hw => ?_)
  refine lv_aload_n hx hb dL_law_613 rfl (lv_at hl 2 rfl) ?_
  refine lv_aload_n hx hb dL_law_614 rfl (lv_at hl 0 rfl) ?_
  refine lv_iload_n hx hb dL_law_615 rfl (lv_at hl 3 rfl) ?_
  refine lv_iconst (v := 1) hx hb dL_law_616 (by decide) ?_
  refine lv_iadd hx hb dL_law_617 ?_
  refine va_sld hx hb hX hbl hbA hw.2.2 (hi 1 (by decide)) dL_law_618 ?_
  refine lv_aload_n hx hb dL_law_619 rfl (lv_at hl 0 rfl) ?_
  refine lv_iload_n hx hb dL_law_620 rfl (lv_at hl 3 rfl) ?_
  refine lv_iconst (v := 2) hx hb dL_law_621 (by decide) ?_
  refine lv_iadd hx hb dL_law_622 ?_
  refine va_sld hx hb hX hbl hbA hw.2.2 (hi 2 (by decide)) dL_law_623 ?_
  refine wlawR (As := [.int (xs (ix (i + 1))), .int (xs (ix (i + 2)))]) (rest := [.int r]) X hw (c_X11_where hWR e2) vlL_48 ⟨Nat.le_of_ble_eq_true rfl, Nat.le_of_ble_eq_true rfl⟩ rfl rfl rfl hl.1 (Nat.le_of_ble_eq_true rfl) dL_law_624 ⟨Nat.le_of_ble_eq_true rfl, Nat.le_of_ble_eq_true rfl⟩ (fun H locs hw => ?_)
  refine lv_icmp_eq (tgt := 2654) hx hb dL_law_627 (by decide) (fun _ => ?_) (fun c1 => absurd rfl c1)
  exact kk Mc Mr' hrel2 H locs hw
set_option maxRecDepth 100000 in
set_option maxHeartbeats 4000000 in
theorem lawc_8 {p : Program} {l : Launch} {e : Env} {s : State} {m : MethodId} {below : List Frame} {meth : Method} {c : Code} {b L : Nat} {xs : Nat → Int32} {D : va_G} {cA : Nat → ClassId} {adC adR adK : Nat → Nat} {EC : State → Heap → Prop} {Rel : Mem → Mem → Prop} (X : LwX p s m meth c b L xs D cA adC adR adK EC) (ho : Op_8 Rel) {Mc Mr : Mem} {H : Heap} {locs : List Loc} {ls : Array Slot} {i : Int32} (hrel : Rel Mc Mr) (hw : LwS D cA adC adR adK s Mc Mr H locs) (hl : lv_has ls 4 [(0, .ref b), (1, .ref (adC 0)), (2, .ref (adR 0)), (3, .int i)]) (hi : ∀ k : Nat, k < 6 → vp_in (i + Int32.ofNat k) L) (kk : ∀ Mc' Mr', Rel Mc' Mr' → ∀ (H1 : Heap) (locs1 : List Loc), LwS D cA adC adR adK s Mc' Mr' H1 locs1 → W p l e room_1 s m #[Value.ref b] below meth c H1 locs1 600000 7302250 (lw_Z below #[Value.ref b] s) (F0 m 2654 ls [])) : W p l e room_1 s m #[Value.ref b] below meth c H locs 600000 7302250 (lw_Z below #[Value.ref b] s) (F0 m 632 ls []) := by
  obtain ⟨hx, hb, hml, hown, hts, hX, hbl, hbA, hK, hWC, hWR, hE, hAC, hAR, hdis⟩ := id X
  obtain ⟨r, Mr', e1, e2, hrel2⟩ := ho Mc Mr (xs (ix (i + 1))) (xs (ix (i + 2))) hrel
  refine lv_aload_n hx hb dL_law_632 rfl (lv_at hl 1 rfl) ?_
  refine lv_aload_n hx hb dL_law_633 rfl (lv_at hl 0 rfl) ?_
  refine lv_iload_n hx hb dL_law_634 rfl (lv_at hl 3 rfl) ?_
  refine lv_iconst (v := 1) hx hb dL_law_635 (by decide) ?_
  refine lv_iadd hx hb dL_law_636 ?_
  refine va_sld hx hb hX hbl hbA hw.2.2 (hi 1 (by decide)) dL_law_637 ?_
  refine lv_aload_n hx hb dL_law_638 rfl (lv_at hl 0 rfl) ?_
  refine lv_iload_n hx hb dL_law_639 rfl (lv_at hl 3 rfl) ?_
  refine lv_iconst (v := 2) hx hb dL_law_640 (by decide) ?_
  refine lv_iadd hx hb dL_law_641 ?_
  refine va_sld hx hb hX hbl hbA hw.2.2 (hi 2 (by decide)) dL_law_642 ?_
  refine wlawC (As := [.int (xs (ix (i + 1))), .int (xs (ix (i + 2)))]) (rest := []) X hw (c_X10_inside hWC e1) vlL_49 ⟨Nat.le_of_ble_eq_true rfl, Nat.le_of_ble_eq_true rfl⟩ rfl rfl rfl hl.1 (Nat.le_of_ble_eq_true rfl) dL_law_643 ⟨Nat.le_of_ble_eq_true rfl, Nat.le_of_ble_eq_true rfl⟩ (fun H locs hw => ?_)
  refine lv_aload_n hx hb dL_law_646 rfl (lv_at hl 2 rfl) ?_
  refine lv_aload_n hx hb dL_law_647 rfl (lv_at hl 0 rfl) ?_
  refine lv_iload_n hx hb dL_law_648 rfl (lv_at hl 3 rfl) ?_
  refine lv_iconst (v := 1) hx hb dL_law_649 (by decide) ?_
  refine lv_iadd hx hb dL_law_650 ?_
  refine va_sld hx hb hX hbl hbA hw.2.2 (hi 1 (by decide)) dL_law_651 ?_
  refine lv_aload_n hx hb dL_law_652 rfl (lv_at hl 0 rfl) ?_
  refine lv_iload_n hx hb dL_law_653 rfl (lv_at hl 3 rfl) ?_
  refine lv_iconst (v := 2) hx hb dL_law_654 (by decide) ?_
  refine lv_iadd hx hb dL_law_655 ?_
  refine va_sld hx hb hX hbl hbA hw.2.2 (hi 2 (by decide)) dL_law_656 ?_
  refine wlawR (As := [.int (xs (ix (i + 1))), .int (xs (ix (i + 2)))]) (rest := [.int r]) X hw (c_X11_inside hWR e2) vlL_52 ⟨Nat.le_of_ble_eq_true rfl, Nat.le_of_ble_eq_true rfl⟩ rfl rfl rfl hl.1 (Nat.le_of_ble_eq_true rfl) dL_law_657 ⟨Nat.le_of_ble_eq_true rfl, Nat.le_of_ble_eq_true rfl⟩ (fun H locs hw => ?_)
  refine lv_icmp_eq (tgt := 2654) hx hb dL_law_660 (by decide) (fun _ => ?_) (fun c1 => absurd rfl c1)
  exact kk Mc Mr' hrel2 H locs hw
set_option maxRecDepth 100000 in
set_option maxHeartbeats 4000000 in
theorem lawc_9 {p : Program} {l : Launch} {e : Env} {s : State} {m : MethodId} {below : List Frame} {meth : Method} {c : Code} {b L : Nat} {xs : Nat → Int32} {D : va_G} {cA : Nat → ClassId} {adC adR adK : Nat → Nat} {EC : State → Heap → Prop} {Rel : Mem → Mem → Prop} (X : LwX p s m meth c b L xs D cA adC adR adK EC) (ho : Op_9 Rel) {Mc Mr : Mem} {H : Heap} {locs : List Loc} {ls : Array Slot} {i : Int32} (hrel : Rel Mc Mr) (hw : LwS D cA adC adR adK s Mc Mr H locs) (hl : lv_has ls 4 [(0, .ref b), (1, .ref (adC 0)), (2, .ref (adR 0)), (3, .int i)]) (hi : ∀ k : Nat, k < 6 → vp_in (i + Int32.ofNat k) L) (kk : ∀ Mc' Mr', Rel Mc' Mr' → ∀ (H1 : Heap) (locs1 : List Loc), LwS D cA adC adR adK s Mc' Mr' H1 locs1 → W p l e room_1 s m #[Value.ref b] below meth c H1 locs1 600000 7302250 (lw_Z below #[Value.ref b] s) (F0 m 2654 ls [])) : W p l e room_1 s m #[Value.ref b] below meth c H locs 600000 7302250 (lw_Z below #[Value.ref b] s) (F0 m 665 ls []) := by
  obtain ⟨hx, hb, hml, hown, hts, hX, hbl, hbA, hK, hWC, hWR, hE, hAC, hAR, hdis⟩ := id X
  obtain ⟨r, Mr', e1, e2, hrel2⟩ := ho Mc Mr (xs (ix (i + 1))) hrel
  refine lv_aload_n hx hb dL_law_665 rfl (lv_at hl 1 rfl) ?_
  refine lv_aload_n hx hb dL_law_666 rfl (lv_at hl 0 rfl) ?_
  refine lv_iload_n hx hb dL_law_667 rfl (lv_at hl 3 rfl) ?_
  refine lv_iconst (v := 1) hx hb dL_law_668 (by decide) ?_
  refine lv_iadd hx hb dL_law_669 ?_
  refine va_sld hx hb hX hbl hbA hw.2.2 (hi 1 (by decide)) dL_law_670 ?_
  refine wlawC (As := [.int (xs (ix (i + 1)))]) (rest := []) X hw (c_X10_out hWC e1) vlL_53 ⟨Nat.le_of_ble_eq_true rfl, Nat.le_of_ble_eq_true rfl⟩ rfl rfl rfl hl.1 (Nat.le_of_ble_eq_true rfl) dL_law_671 ⟨Nat.le_of_ble_eq_true rfl, Nat.le_of_ble_eq_true rfl⟩ (fun H locs hw => ?_)
  refine lv_aload_n hx hb dL_law_674 rfl (lv_at hl 2 rfl) ?_
  refine lv_aload_n hx hb dL_law_675 rfl (lv_at hl 0 rfl) ?_
  refine lv_iload_n hx hb dL_law_676 rfl (lv_at hl 3 rfl) ?_
  refine lv_iconst (v := 1) hx hb dL_law_677 (by decide) ?_
  refine lv_iadd hx hb dL_law_678 ?_
  refine va_sld hx hb hX hbl hbA hw.2.2 (hi 1 (by decide)) dL_law_679 ?_
  refine wlawR (As := [.int (xs (ix (i + 1)))]) (rest := [.int r]) X hw (c_X11_out hWR e2) vlL_56 ⟨Nat.le_of_ble_eq_true rfl, Nat.le_of_ble_eq_true rfl⟩ rfl rfl rfl hl.1 (Nat.le_of_ble_eq_true rfl) dL_law_680 ⟨Nat.le_of_ble_eq_true rfl, Nat.le_of_ble_eq_true rfl⟩ (fun H locs hw => ?_)
  refine lv_icmp_eq (tgt := 2654) hx hb dL_law_683 (by decide) (fun _ => ?_) (fun c1 => absurd rfl c1)
  exact kk Mc Mr' hrel2 H locs hw
set_option maxRecDepth 100000 in
set_option maxHeartbeats 4000000 in
theorem lawc_10 {p : Program} {l : Launch} {e : Env} {s : State} {m : MethodId} {below : List Frame} {meth : Method} {c : Code} {b L : Nat} {xs : Nat → Int32} {D : va_G} {cA : Nat → ClassId} {adC adR adK : Nat → Nat} {EC : State → Heap → Prop} {Rel : Mem → Mem → Prop} (X : LwX p s m meth c b L xs D cA adC adR adK EC) (ho : Op_10 Rel) {Mc Mr : Mem} {H : Heap} {locs : List Loc} {ls : Array Slot} {i : Int32} (hrel : Rel Mc Mr) (hw : LwS D cA adC adR adK s Mc Mr H locs) (hl : lv_has ls 4 [(0, .ref b), (1, .ref (adC 0)), (2, .ref (adR 0)), (3, .int i)]) (hi : ∀ k : Nat, k < 6 → vp_in (i + Int32.ofNat k) L) (kk : ∀ Mc' Mr', Rel Mc' Mr' → ∀ (H1 : Heap) (locs1 : List Loc), LwS D cA adC adR adK s Mc' Mr' H1 locs1 → W p l e room_1 s m #[Value.ref b] below meth c H1 locs1 600000 7302250 (lw_Z below #[Value.ref b] s) (F0 m 2654 ls [])) : W p l e room_1 s m #[Value.ref b] below meth c H locs 600000 7302250 (lw_Z below #[Value.ref b] s) (F0 m 688 ls []) := by
  obtain ⟨hx, hb, hml, hown, hts, hX, hbl, hbA, hK, hWC, hWR, hE, hAC, hAR, hdis⟩ := id X
  obtain ⟨r, Mr', e1, e2, hrel2⟩ := ho Mc Mr (xs (ix (i + 1))) hrel
  refine lv_aload_n hx hb dL_law_688 rfl (lv_at hl 1 rfl) ?_
  refine lv_aload_n hx hb dL_law_689 rfl (lv_at hl 0 rfl) ?_
  refine lv_iload_n hx hb dL_law_690 rfl (lv_at hl 3 rfl) ?_
  refine lv_iconst (v := 1) hx hb dL_law_691 (by decide) ?_
  refine lv_iadd hx hb dL_law_692 ?_
  refine va_sld hx hb hX hbl hbA hw.2.2 (hi 1 (by decide)) dL_law_693 ?_
  refine wlawC (As := [.int (xs (ix (i + 1)))]) (rest := []) X hw (c_X10_leaves hWC e1) vlL_57 ⟨Nat.le_of_ble_eq_true rfl, Nat.le_of_ble_eq_true rfl⟩ rfl rfl rfl hl.1 (Nat.le_of_ble_eq_true rfl) dL_law_694 ⟨Nat.le_of_ble_eq_true rfl, Nat.le_of_ble_eq_true rfl⟩ (fun H locs hw => ?_)
  refine lv_aload_n hx hb dL_law_697 rfl (lv_at hl 2 rfl) ?_
  refine lv_aload_n hx hb dL_law_698 rfl (lv_at hl 0 rfl) ?_
  refine lv_iload_n hx hb dL_law_699 rfl (lv_at hl 3 rfl) ?_
  refine lv_iconst (v := 1) hx hb dL_law_700 (by decide) ?_
  refine lv_iadd hx hb dL_law_701 ?_
  refine va_sld hx hb hX hbl hbA hw.2.2 (hi 1 (by decide)) dL_law_702 ?_
  refine wlawR (As := [.int (xs (ix (i + 1)))]) (rest := [.int r]) X hw (c_X11_leaves hWR e2) vlL_60 ⟨Nat.le_of_ble_eq_true rfl, Nat.le_of_ble_eq_true rfl⟩ rfl rfl rfl hl.1 (Nat.le_of_ble_eq_true rfl) dL_law_703 ⟨Nat.le_of_ble_eq_true rfl, Nat.le_of_ble_eq_true rfl⟩ (fun H locs hw => ?_)
  refine lv_icmp_eq (tgt := 2654) hx hb dL_law_706 (by decide) (fun _ => ?_) (fun c1 => absurd rfl c1)
  exact kk Mc Mr' hrel2 H locs hw
set_option maxRecDepth 100000 in
set_option maxHeartbeats 4000000 in
theorem lawc_11 {p : Program} {l : Launch} {e : Env} {s : State} {m : MethodId} {below : List Frame} {meth : Method} {c : Code} {b L : Nat} {xs : Nat → Int32} {D : va_G} {cA : Nat → ClassId} {adC adR adK : Nat → Nat} {EC : State → Heap → Prop} {Rel : Mem → Mem → Prop} (X : LwX p s m meth c b L xs D cA adC adR adK EC) (ho : Op_11 Rel) {Mc Mr : Mem} {H : Heap} {locs : List Loc} {ls : Array Slot} {i : Int32} (hrel : Rel Mc Mr) (hw : LwS D cA adC adR adK s Mc Mr H locs) (hl : lv_has ls 4 [(0, .ref b), (1, .ref (adC 0)), (2, .ref (adR 0)), (3, .int i)]) (hi : ∀ k : Nat, k < 6 → vp_in (i + Int32.ofNat k) L) (kk : ∀ Mc' Mr', Rel Mc' Mr' → ∀ (H1 : Heap) (locs1 : List Loc), LwS D cA adC adR adK s Mc' Mr' H1 locs1 → W p l e room_1 s m #[Value.ref b] below meth c H1 locs1 600000 7302250 (lw_Z below #[Value.ref b] s) (F0 m 2654 ls [])) : W p l e room_1 s m #[Value.ref b] below meth c H locs 600000 7302250 (lw_Z below #[Value.ref b] s) (F0 m 711 ls []) := by
  obtain ⟨hx, hb, hml, hown, hts, hX, hbl, hbA, hK, hWC, hWR, hE, hAC, hAR, hdis⟩ := id X
  obtain ⟨r, Mc', Mr', e1, e2, hrel2⟩ := ho Mc Mr (xs (ix (i + 1))) (xs (ix (i + 2))) hrel
  refine lv_aload_n hx hb dL_law_711 rfl (lv_at hl 1 rfl) ?_
  refine lv_aload_n hx hb dL_law_712 rfl (lv_at hl 0 rfl) ?_
  refine lv_iload_n hx hb dL_law_713 rfl (lv_at hl 3 rfl) ?_
  refine lv_iconst (v := 1) hx hb dL_law_714 (by decide) ?_
  refine lv_iadd hx hb dL_law_715 ?_
  refine va_sld hx hb hX hbl hbA hw.2.2 (hi 1 (by decide)) dL_law_716 ?_
  refine lv_aload_n hx hb dL_law_717 rfl (lv_at hl 0 rfl) ?_
  refine lv_iload_n hx hb dL_law_718 rfl (lv_at hl 3 rfl) ?_
  refine lv_iconst (v := 2) hx hb dL_law_719 (by decide) ?_
  refine lv_iadd hx hb dL_law_720 ?_
  refine va_sld hx hb hX hbl hbA hw.2.2 (hi 2 (by decide)) dL_law_721 ?_
  refine wlawC (As := [.int (xs (ix (i + 1))), .int (xs (ix (i + 2)))]) (rest := []) X hw (c_X10_skin hWC e1) vlL_61 ⟨Nat.le_of_ble_eq_true rfl, Nat.le_of_ble_eq_true rfl⟩ rfl rfl rfl hl.1 (Nat.le_of_ble_eq_true rfl) dL_law_722 ⟨Nat.le_of_ble_eq_true rfl, Nat.le_of_ble_eq_true rfl⟩ (fun H locs hw => ?_)
  refine lv_aload_n hx hb dL_law_725 rfl (lv_at hl 2 rfl) ?_
  refine lv_aload_n hx hb dL_law_726 rfl (lv_at hl 0 rfl) ?_
  refine lv_iload_n hx hb dL_law_727 rfl (lv_at hl 3 rfl) ?_
  refine lv_iconst (v := 1) hx hb dL_law_728 (by decide) ?_
  refine lv_iadd hx hb dL_law_729 ?_
  refine va_sld hx hb hX hbl hbA hw.2.2 (hi 1 (by decide)) dL_law_730 ?_
  refine lv_aload_n hx hb dL_law_731 rfl (lv_at hl 0 rfl) ?_
  refine lv_iload_n hx hb dL_law_732 rfl (lv_at hl 3 rfl) ?_
  refine lv_iconst (v := 2) hx hb dL_law_733 (by decide) ?_
  refine lv_iadd hx hb dL_law_734 ?_
  refine va_sld hx hb hX hbl hbA hw.2.2 (hi 2 (by decide)) dL_law_735 ?_
  refine wlawR (As := [.int (xs (ix (i + 1))), .int (xs (ix (i + 2)))]) (rest := [.int r]) X hw (c_X11_skin hWR e2) vlL_64 ⟨Nat.le_of_ble_eq_true rfl, Nat.le_of_ble_eq_true rfl⟩ rfl rfl rfl hl.1 (Nat.le_of_ble_eq_true rfl) dL_law_736 ⟨Nat.le_of_ble_eq_true rfl, Nat.le_of_ble_eq_true rfl⟩ (fun H locs hw => ?_)
  refine lv_icmp_eq (tgt := 2654) hx hb dL_law_739 (by decide) (fun _ => ?_) (fun c1 => absurd rfl c1)
  exact kk Mc' Mr' hrel2 H locs hw
set_option maxRecDepth 100000 in
set_option maxHeartbeats 4000000 in
theorem lawc_12 {p : Program} {l : Launch} {e : Env} {s : State} {m : MethodId} {below : List Frame} {meth : Method} {c : Code} {b L : Nat} {xs : Nat → Int32} {D : va_G} {cA : Nat → ClassId} {adC adR adK : Nat → Nat} {EC : State → Heap → Prop} {Rel : Mem → Mem → Prop} (X : LwX p s m meth c b L xs D cA adC adR adK EC) (ho : Op_12 Rel) {Mc Mr : Mem} {H : Heap} {locs : List Loc} {ls : Array Slot} {i : Int32} (hrel : Rel Mc Mr) (hw : LwS D cA adC adR adK s Mc Mr H locs) (hl : lv_has ls 4 [(0, .ref b), (1, .ref (adC 0)), (2, .ref (adR 0)), (3, .int i)]) (hi : ∀ k : Nat, k < 6 → vp_in (i + Int32.ofNat k) L) (kk : ∀ Mc' Mr', Rel Mc' Mr' → ∀ (H1 : Heap) (locs1 : List Loc), LwS D cA adC adR adK s Mc' Mr' H1 locs1 → W p l e room_1 s m #[Value.ref b] below meth c H1 locs1 600000 7302250 (lw_Z below #[Value.ref b] s) (F0 m 2654 ls [])) : W p l e room_1 s m #[Value.ref b] below meth c H locs 600000 7302250 (lw_Z below #[Value.ref b] s) (F0 m 744 ls []) := by
  obtain ⟨hx, hb, hml, hown, hts, hX, hbl, hbA, hK, hWC, hWR, hE, hAC, hAR, hdis⟩ := id X
  obtain ⟨r, Mc', Mr', e1, e2, hrel2⟩ := ho Mc Mr (xs (ix (i + 1))) (xs (ix (i + 2))) hrel
  refine lv_aload_n hx hb dL_law_744 rfl (lv_at hl 1 rfl) ?_
  refine lv_aload_n hx hb dL_law_745 rfl (lv_at hl 0 rfl) ?_
  refine lv_iload_n hx hb dL_law_746 rfl (lv_at hl 3 rfl) ?_
  refine lv_iconst (v := 1) hx hb dL_law_747 (by decide) ?_
  refine lv_iadd hx hb dL_law_748 ?_
  refine va_sld hx hb hX hbl hbA hw.2.2 (hi 1 (by decide)) dL_law_749 ?_
  refine lv_aload_n hx hb dL_law_750 rfl (lv_at hl 0 rfl) ?_
  refine lv_iload_n hx hb dL_law_751 rfl (lv_at hl 3 rfl) ?_
  refine lv_iconst (v := 2) hx hb dL_law_752 (by decide) ?_
  refine lv_iadd hx hb dL_law_753 ?_
  refine va_sld hx hb hX hbl hbA hw.2.2 (hi 2 (by decide)) dL_law_754 ?_
  refine wlawC (As := [.int (xs (ix (i + 1))), .int (xs (ix (i + 2)))]) (rest := []) X hw (c_X10_core hWC e1) vlL_65 ⟨Nat.le_of_ble_eq_true rfl, Nat.le_of_ble_eq_true rfl⟩ rfl rfl rfl hl.1 (Nat.le_of_ble_eq_true rfl) dL_law_755 ⟨Nat.le_of_ble_eq_true rfl, Nat.le_of_ble_eq_true rfl⟩ (fun H locs hw => ?_)
  refine lv_aload_n hx hb dL_law_758 rfl (lv_at hl 2 rfl) ?_
  refine lv_aload_n hx hb dL_law_759 rfl (lv_at hl 0 rfl) ?_
  refine lv_iload_n hx hb dL_law_760 rfl (lv_at hl 3 rfl) ?_
  refine lv_iconst (v := 1) hx hb dL_law_761 (by decide) ?_
  refine lv_iadd hx hb dL_law_762 ?_
  refine va_sld hx hb hX hbl hbA hw.2.2 (hi 1 (by decide)) dL_law_763 ?_
  refine lv_aload_n hx hb dL_law_764 rfl (lv_at hl 0 rfl) ?_
  refine lv_iload_n hx hb dL_law_765 rfl (lv_at hl 3 rfl) ?_
  refine lv_iconst (v := 2) hx hb dL_law_766 (by decide) ?_
  refine lv_iadd hx hb dL_law_767 ?_
  refine va_sld hx hb hX hbl hbA hw.2.2 (hi 2 (by decide)) dL_law_768 ?_
  refine wlawR (As := [.int (xs (ix (i + 1))), .int (xs (ix (i + 2)))]) (rest := [.int r]) X hw (c_X11_core hWR e2) vlL_68 ⟨Nat.le_of_ble_eq_true rfl, Nat.le_of_ble_eq_true rfl⟩ rfl rfl rfl hl.1 (Nat.le_of_ble_eq_true rfl) dL_law_769 ⟨Nat.le_of_ble_eq_true rfl, Nat.le_of_ble_eq_true rfl⟩ (fun H locs hw => ?_)
  refine lv_icmp_eq (tgt := 2654) hx hb dL_law_772 (by decide) (fun _ => ?_) (fun c1 => absurd rfl c1)
  exact kk Mc' Mr' hrel2 H locs hw
set_option maxRecDepth 100000 in
set_option maxHeartbeats 4000000 in
theorem lawc_13 {p : Program} {l : Launch} {e : Env} {s : State} {m : MethodId} {below : List Frame} {meth : Method} {c : Code} {b L : Nat} {xs : Nat → Int32} {D : va_G} {cA : Nat → ClassId} {adC adR adK : Nat → Nat} {EC : State → Heap → Prop} {Rel : Mem → Mem → Prop} (X : LwX p s m meth c b L xs D cA adC adR adK EC) (ho : Op_13 Rel) {Mc Mr : Mem} {H : Heap} {locs : List Loc} {ls : Array Slot} {i : Int32} (hrel : Rel Mc Mr) (hw : LwS D cA adC adR adK s Mc Mr H locs) (hl : lv_has ls 4 [(0, .ref b), (1, .ref (adC 0)), (2, .ref (adR 0)), (3, .int i)]) (hi : ∀ k : Nat, k < 6 → vp_in (i + Int32.ofNat k) L) (kk : ∀ Mc' Mr', Rel Mc' Mr' → ∀ (H1 : Heap) (locs1 : List Loc), LwS D cA adC adR adK s Mc' Mr' H1 locs1 → W p l e room_1 s m #[Value.ref b] below meth c H1 locs1 600000 7302250 (lw_Z below #[Value.ref b] s) (F0 m 2654 ls [])) : W p l e room_1 s m #[Value.ref b] below meth c H locs 600000 7302250 (lw_Z below #[Value.ref b] s) (F0 m 777 ls []) := by
  obtain ⟨hx, hb, hml, hown, hts, hX, hbl, hbA, hK, hWC, hWR, hE, hAC, hAR, hdis⟩ := id X
  obtain ⟨r, Mc', Mr', e1, e2, hrel2⟩ := ho Mc Mr (xs (ix (i + 1))) (xs (ix (i + 2))) hrel
  refine lv_aload_n hx hb dL_law_777 rfl (lv_at hl 1 rfl) ?_
  refine lv_aload_n hx hb dL_law_778 rfl (lv_at hl 0 rfl) ?_
  refine lv_iload_n hx hb dL_law_779 rfl (lv_at hl 3 rfl) ?_
  refine lv_iconst (v := 1) hx hb dL_law_780 (by decide) ?_
  refine lv_iadd hx hb dL_law_781 ?_
  refine va_sld hx hb hX hbl hbA hw.2.2 (hi 1 (by decide)) dL_law_782 ?_
  refine lv_aload_n hx hb dL_law_783 rfl (lv_at hl 0 rfl) ?_
  refine lv_iload_n hx hb dL_law_784 rfl (lv_at hl 3 rfl) ?_
  refine lv_iconst (v := 2) hx hb dL_law_785 (by decide) ?_
  refine lv_iadd hx hb dL_law_786 ?_
  refine va_sld hx hb hX hbl hbA hw.2.2 (hi 2 (by decide)) dL_law_787 ?_
  refine wlawC (As := [.int (xs (ix (i + 1))), .int (xs (ix (i + 2)))]) (rest := []) X hw (c_X10_strain hWC e1) vlL_69 ⟨Nat.le_of_ble_eq_true rfl, Nat.le_of_ble_eq_true rfl⟩ rfl rfl rfl hl.1 (Nat.le_of_ble_eq_true rfl) dL_law_788 ⟨Nat.le_of_ble_eq_true rfl, Nat.le_of_ble_eq_true rfl⟩ (fun H locs hw => ?_)
  refine lv_aload_n hx hb dL_law_791 rfl (lv_at hl 2 rfl) ?_
  refine lv_aload_n hx hb dL_law_792 rfl (lv_at hl 0 rfl) ?_
  refine lv_iload_n hx hb dL_law_793 rfl (lv_at hl 3 rfl) ?_
  refine lv_iconst (v := 1) hx hb dL_law_794 (by decide) ?_
  refine lv_iadd hx hb dL_law_795 ?_
  refine va_sld hx hb hX hbl hbA hw.2.2 (hi 1 (by decide)) dL_law_796 ?_
  refine lv_aload_n hx hb dL_law_797 rfl (lv_at hl 0 rfl) ?_
  refine lv_iload_n hx hb dL_law_798 rfl (lv_at hl 3 rfl) ?_
  refine lv_iconst (v := 2) hx hb dL_law_799 (by decide) ?_
  refine lv_iadd hx hb dL_law_800 ?_
  refine va_sld hx hb hX hbl hbA hw.2.2 (hi 2 (by decide)) dL_law_801 ?_
  refine wlawR (As := [.int (xs (ix (i + 1))), .int (xs (ix (i + 2)))]) (rest := [.int r]) X hw (c_X11_strain hWR e2) vlL_72 ⟨Nat.le_of_ble_eq_true rfl, Nat.le_of_ble_eq_true rfl⟩ rfl rfl rfl hl.1 (Nat.le_of_ble_eq_true rfl) dL_law_802 ⟨Nat.le_of_ble_eq_true rfl, Nat.le_of_ble_eq_true rfl⟩ (fun H locs hw => ?_)
  refine lv_icmp_eq (tgt := 2654) hx hb dL_law_805 (by decide) (fun _ => ?_) (fun c1 => absurd rfl c1)
  exact kk Mc' Mr' hrel2 H locs hw
set_option maxRecDepth 100000 in
set_option maxHeartbeats 4000000 in
theorem lawc_14 {p : Program} {l : Launch} {e : Env} {s : State} {m : MethodId} {below : List Frame} {meth : Method} {c : Code} {b L : Nat} {xs : Nat → Int32} {D : va_G} {cA : Nat → ClassId} {adC adR adK : Nat → Nat} {EC : State → Heap → Prop} {Rel : Mem → Mem → Prop} (X : LwX p s m meth c b L xs D cA adC adR adK EC) (ho : Op_14 Rel) {Mc Mr : Mem} {H : Heap} {locs : List Loc} {ls : Array Slot} {i : Int32} (hrel : Rel Mc Mr) (hw : LwS D cA adC adR adK s Mc Mr H locs) (hl : lv_has ls 4 [(0, .ref b), (1, .ref (adC 0)), (2, .ref (adR 0)), (3, .int i)]) (hi : ∀ k : Nat, k < 6 → vp_in (i + Int32.ofNat k) L) (kk : ∀ Mc' Mr', Rel Mc' Mr' → ∀ (H1 : Heap) (locs1 : List Loc), LwS D cA adC adR adK s Mc' Mr' H1 locs1 → W p l e room_1 s m #[Value.ref b] below meth c H1 locs1 600000 7302250 (lw_Z below #[Value.ref b] s) (F0 m 2654 ls [])) : W p l e room_1 s m #[Value.ref b] below meth c H locs 600000 7302250 (lw_Z below #[Value.ref b] s) (F0 m 810 ls []) := by
  obtain ⟨hx, hb, hml, hown, hts, hX, hbl, hbA, hK, hWC, hWR, hE, hAC, hAR, hdis⟩ := id X
  obtain ⟨r, Mc', Mr', e1, e2, hrel2⟩ := ho Mc Mr (xs (ix (i + 1))) hrel
  refine lv_aload_n hx hb dL_law_810 rfl (lv_at hl 1 rfl) ?_
  refine lv_aload_n hx hb dL_law_811 rfl (lv_at hl 0 rfl) ?_
  refine lv_iload_n hx hb dL_law_812 rfl (lv_at hl 3 rfl) ?_
  refine lv_iconst (v := 1) hx hb dL_law_813 (by decide) ?_
  refine lv_iadd hx hb dL_law_814 ?_
  refine va_sld hx hb hX hbl hbA hw.2.2 (hi 1 (by decide)) dL_law_815 ?_
  refine wlawC (As := [.int (xs (ix (i + 1)))]) (rest := []) X hw (c_X10_peak hWC e1) vlL_73 ⟨Nat.le_of_ble_eq_true rfl, Nat.le_of_ble_eq_true rfl⟩ rfl rfl rfl hl.1 (Nat.le_of_ble_eq_true rfl) dL_law_816 ⟨Nat.le_of_ble_eq_true rfl, Nat.le_of_ble_eq_true rfl⟩ (fun H locs hw => ?_)
  refine lv_aload_n hx hb dL_law_819 rfl (lv_at hl 2 rfl) ?_
  refine lv_aload_n hx hb dL_law_820 rfl (lv_at hl 0 rfl) ?_
  refine lv_iload_n hx hb dL_law_821 rfl (lv_at hl 3 rfl) ?_
  refine lv_iconst (v := 1) hx hb dL_law_822 (by decide) ?_
  refine lv_iadd hx hb dL_law_823 ?_
  refine va_sld hx hb hX hbl hbA hw.2.2 (hi 1 (by decide)) dL_law_824 ?_
  refine wlawR (As := [.int (xs (ix (i + 1)))]) (rest := [.int r]) X hw (c_X11_peak hWR e2) vlL_76 ⟨Nat.le_of_ble_eq_true rfl, Nat.le_of_ble_eq_true rfl⟩ rfl rfl rfl hl.1 (Nat.le_of_ble_eq_true rfl) dL_law_825 ⟨Nat.le_of_ble_eq_true rfl, Nat.le_of_ble_eq_true rfl⟩ (fun H locs hw => ?_)
  refine lv_icmp_eq (tgt := 2654) hx hb dL_law_828 (by decide) (fun _ => ?_) (fun c1 => absurd rfl c1)
  exact kk Mc' Mr' hrel2 H locs hw
set_option maxRecDepth 100000 in
set_option maxHeartbeats 4000000 in
theorem lawc_15 {p : Program} {l : Launch} {e : Env} {s : State} {m : MethodId} {below : List Frame} {meth : Method} {c : Code} {b L : Nat} {xs : Nat → Int32} {D : va_G} {cA : Nat → ClassId} {adC adR adK : Nat → Nat} {EC : State → Heap → Prop} {Rel : Mem → Mem → Prop} (X : LwX p s m meth c b L xs D cA adC adR adK EC) (ho : Op_15 Rel) {Mc Mr : Mem} {H : Heap} {locs : List Loc} {ls : Array Slot} {i : Int32} (hrel : Rel Mc Mr) (hw : LwS D cA adC adR adK s Mc Mr H locs) (hl : lv_has ls 4 [(0, .ref b), (1, .ref (adC 0)), (2, .ref (adR 0)), (3, .int i)]) (hi : ∀ k : Nat, k < 6 → vp_in (i + Int32.ofNat k) L) (kk : ∀ Mc' Mr', Rel Mc' Mr' → ∀ (H1 : Heap) (locs1 : List Loc), LwS D cA adC adR adK s Mc' Mr' H1 locs1 → W p l e room_1 s m #[Value.ref b] below meth c H1 locs1 600000 7302250 (lw_Z below #[Value.ref b] s) (F0 m 2654 ls [])) : W p l e room_1 s m #[Value.ref b] below meth c H locs 600000 7302250 (lw_Z below #[Value.ref b] s) (F0 m 833 ls []) := by
  obtain ⟨hx, hb, hml, hown, hts, hX, hbl, hbA, hK, hWC, hWR, hE, hAC, hAR, hdis⟩ := id X
  obtain ⟨r, Mc', Mr', e1, e2, hrel2⟩ := ho Mc Mr (xs (ix (i + 1))) hrel
  refine lv_aload_n hx hb dL_law_833 rfl (lv_at hl 1 rfl) ?_
  refine lv_aload_n hx hb dL_law_834 rfl (lv_at hl 0 rfl) ?_
  refine lv_iload_n hx hb dL_law_835 rfl (lv_at hl 3 rfl) ?_
  refine lv_iconst (v := 1) hx hb dL_law_836 (by decide) ?_
  refine lv_iadd hx hb dL_law_837 ?_
  refine va_sld hx hb hX hbl hbA hw.2.2 (hi 1 (by decide)) dL_law_838 ?_
  refine wlawC (As := [.int (xs (ix (i + 1)))]) (rest := []) X hw (c_X10_when hWC e1) vlL_77 ⟨Nat.le_of_ble_eq_true rfl, Nat.le_of_ble_eq_true rfl⟩ rfl rfl rfl hl.1 (Nat.le_of_ble_eq_true rfl) dL_law_839 ⟨Nat.le_of_ble_eq_true rfl, Nat.le_of_ble_eq_true rfl⟩ (fun H locs hw => ?_)
  refine lv_aload_n hx hb dL_law_842 rfl (lv_at hl 2 rfl) ?_
  refine lv_aload_n hx hb dL_law_843 rfl (lv_at hl 0 rfl) ?_
  refine lv_iload_n hx hb dL_law_844 rfl (lv_at hl 3 rfl) ?_
  refine lv_iconst (v := 1) hx hb dL_law_845 (by decide) ?_
  refine lv_iadd hx hb dL_law_846 ?_
  refine va_sld hx hb hX hbl hbA hw.2.2 (hi 1 (by decide)) dL_law_847 ?_
  refine wlawR (As := [.int (xs (ix (i + 1)))]) (rest := [.int r]) X hw (c_X11_when hWR e2) vlL_80 ⟨Nat.le_of_ble_eq_true rfl, Nat.le_of_ble_eq_true rfl⟩ rfl rfl rfl hl.1 (Nat.le_of_ble_eq_true rfl) dL_law_848 ⟨Nat.le_of_ble_eq_true rfl, Nat.le_of_ble_eq_true rfl⟩ (fun H locs hw => ?_)
  refine lv_icmp_eq (tgt := 2654) hx hb dL_law_851 (by decide) (fun _ => ?_) (fun c1 => absurd rfl c1)
  exact kk Mc' Mr' hrel2 H locs hw
set_option maxRecDepth 100000 in
set_option maxHeartbeats 4000000 in
theorem lawc_16 {p : Program} {l : Launch} {e : Env} {s : State} {m : MethodId} {below : List Frame} {meth : Method} {c : Code} {b L : Nat} {xs : Nat → Int32} {D : va_G} {cA : Nat → ClassId} {adC adR adK : Nat → Nat} {EC : State → Heap → Prop} {Rel : Mem → Mem → Prop} (X : LwX p s m meth c b L xs D cA adC adR adK EC) (ho : Op_16 Rel) {Mc Mr : Mem} {H : Heap} {locs : List Loc} {ls : Array Slot} {i : Int32} (hrel : Rel Mc Mr) (hw : LwS D cA adC adR adK s Mc Mr H locs) (hl : lv_has ls 4 [(0, .ref b), (1, .ref (adC 0)), (2, .ref (adR 0)), (3, .int i)]) (hi : ∀ k : Nat, k < 6 → vp_in (i + Int32.ofNat k) L) (kk : ∀ Mc' Mr', Rel Mc' Mr' → ∀ (H1 : Heap) (locs1 : List Loc), LwS D cA adC adR adK s Mc' Mr' H1 locs1 → W p l e room_1 s m #[Value.ref b] below meth c H1 locs1 600000 7302250 (lw_Z below #[Value.ref b] s) (F0 m 2654 ls [])) : W p l e room_1 s m #[Value.ref b] below meth c H locs 600000 7302250 (lw_Z below #[Value.ref b] s) (F0 m 856 ls []) := by
  obtain ⟨hx, hb, hml, hown, hts, hX, hbl, hbA, hK, hWC, hWR, hE, hAC, hAR, hdis⟩ := id X
  obtain ⟨r, Mc', Mr', e1, e2, hrel2⟩ := ho Mc Mr (xs (ix (i + 1))) hrel
  refine lv_aload_n hx hb dL_law_856 rfl (lv_at hl 1 rfl) ?_
  refine lv_aload_n hx hb dL_law_857 rfl (lv_at hl 0 rfl) ?_
  refine lv_iload_n hx hb dL_law_858 rfl (lv_at hl 3 rfl) ?_
  refine lv_iconst (v := 1) hx hb dL_law_859 (by decide) ?_
  refine lv_iadd hx hb dL_law_860 ?_
  refine va_sld hx hb hX hbl hbA hw.2.2 (hi 1 (by decide)) dL_law_861 ?_
  refine wlawC (As := [.int (xs (ix (i + 1)))]) (rest := []) X hw (c_X10_frozen hWC e1) vlL_81 ⟨Nat.le_of_ble_eq_true rfl, Nat.le_of_ble_eq_true rfl⟩ rfl rfl rfl hl.1 (Nat.le_of_ble_eq_true rfl) dL_law_862 ⟨Nat.le_of_ble_eq_true rfl, Nat.le_of_ble_eq_true rfl⟩ (fun H locs hw => ?_)
  refine lv_aload_n hx hb dL_law_865 rfl (lv_at hl 2 rfl) ?_
  refine lv_aload_n hx hb dL_law_866 rfl (lv_at hl 0 rfl) ?_
  refine lv_iload_n hx hb dL_law_867 rfl (lv_at hl 3 rfl) ?_
  refine lv_iconst (v := 1) hx hb dL_law_868 (by decide) ?_
  refine lv_iadd hx hb dL_law_869 ?_
  refine va_sld hx hb hX hbl hbA hw.2.2 (hi 1 (by decide)) dL_law_870 ?_
  refine wlawR (As := [.int (xs (ix (i + 1)))]) (rest := [.int r]) X hw (c_X11_frozen hWR e2) vlL_84 ⟨Nat.le_of_ble_eq_true rfl, Nat.le_of_ble_eq_true rfl⟩ rfl rfl rfl hl.1 (Nat.le_of_ble_eq_true rfl) dL_law_871 ⟨Nat.le_of_ble_eq_true rfl, Nat.le_of_ble_eq_true rfl⟩ (fun H locs hw => ?_)
  refine lv_icmp_eq (tgt := 2654) hx hb dL_law_874 (by decide) (fun _ => ?_) (fun c1 => absurd rfl c1)
  exact kk Mc' Mr' hrel2 H locs hw
set_option maxRecDepth 100000 in
set_option maxHeartbeats 4000000 in
theorem lawc_17 {p : Program} {l : Launch} {e : Env} {s : State} {m : MethodId} {below : List Frame} {meth : Method} {c : Code} {b L : Nat} {xs : Nat → Int32} {D : va_G} {cA : Nat → ClassId} {adC adR adK : Nat → Nat} {EC : State → Heap → Prop} {Rel : Mem → Mem → Prop} (X : LwX p s m meth c b L xs D cA adC adR adK EC) (ho : Op_17 Rel) {Mc Mr : Mem} {H : Heap} {locs : List Loc} {ls : Array Slot} {i : Int32} (hrel : Rel Mc Mr) (hw : LwS D cA adC adR adK s Mc Mr H locs) (hl : lv_has ls 4 [(0, .ref b), (1, .ref (adC 0)), (2, .ref (adR 0)), (3, .int i)]) (hi : ∀ k : Nat, k < 6 → vp_in (i + Int32.ofNat k) L) (kk : ∀ Mc' Mr', Rel Mc' Mr' → ∀ (H1 : Heap) (locs1 : List Loc), LwS D cA adC adR adK s Mc' Mr' H1 locs1 → W p l e room_1 s m #[Value.ref b] below meth c H1 locs1 600000 7302250 (lw_Z below #[Value.ref b] s) (F0 m 2654 ls [])) : W p l e room_1 s m #[Value.ref b] below meth c H locs 600000 7302250 (lw_Z below #[Value.ref b] s) (F0 m 879 ls []) := by
  obtain ⟨hx, hb, hml, hown, hts, hX, hbl, hbA, hK, hWC, hWR, hE, hAC, hAR, hdis⟩ := id X
  obtain ⟨r, Mc', Mr', e1, e2, hrel2⟩ := ho Mc Mr (xs (ix (i + 1))) hrel
  refine lv_aload_n hx hb dL_law_879 rfl (lv_at hl 1 rfl) ?_
  refine lv_aload_n hx hb dL_law_880 rfl (lv_at hl 0 rfl) ?_
  refine lv_iload_n hx hb dL_law_881 rfl (lv_at hl 3 rfl) ?_
  refine lv_iconst (v := 1) hx hb dL_law_882 (by decide) ?_
  refine lv_iadd hx hb dL_law_883 ?_
  refine va_sld hx hb hX hbl hbA hw.2.2 (hi 1 (by decide)) dL_law_884 ?_
  refine wlawC (As := [.int (xs (ix (i + 1)))]) (rest := []) X hw (c_X10_sets hWC e1) vlL_85 ⟨Nat.le_of_ble_eq_true rfl, Nat.le_of_ble_eq_true rfl⟩ rfl rfl rfl hl.1 (Nat.le_of_ble_eq_true rfl) dL_law_885 ⟨Nat.le_of_ble_eq_true rfl, Nat.le_of_ble_eq_true rfl⟩ (fun H locs hw => ?_)
  refine lv_aload_n hx hb dL_law_888 rfl (lv_at hl 2 rfl) ?_
  refine lv_aload_n hx hb dL_law_889 rfl (lv_at hl 0 rfl) ?_
  refine lv_iload_n hx hb dL_law_890 rfl (lv_at hl 3 rfl) ?_
  refine lv_iconst (v := 1) hx hb dL_law_891 (by decide) ?_
  refine lv_iadd hx hb dL_law_892 ?_
  refine va_sld hx hb hX hbl hbA hw.2.2 (hi 1 (by decide)) dL_law_893 ?_
  refine wlawR (As := [.int (xs (ix (i + 1)))]) (rest := [.int r]) X hw (c_X11_sets hWR e2) vlL_88 ⟨Nat.le_of_ble_eq_true rfl, Nat.le_of_ble_eq_true rfl⟩ rfl rfl rfl hl.1 (Nat.le_of_ble_eq_true rfl) dL_law_894 ⟨Nat.le_of_ble_eq_true rfl, Nat.le_of_ble_eq_true rfl⟩ (fun H locs hw => ?_)
  refine lv_icmp_eq (tgt := 2654) hx hb dL_law_897 (by decide) (fun _ => ?_) (fun c1 => absurd rfl c1)
  exact kk Mc' Mr' hrel2 H locs hw
set_option maxRecDepth 100000 in
set_option maxHeartbeats 4000000 in
theorem lawc_18 {p : Program} {l : Launch} {e : Env} {s : State} {m : MethodId} {below : List Frame} {meth : Method} {c : Code} {b L : Nat} {xs : Nat → Int32} {D : va_G} {cA : Nat → ClassId} {adC adR adK : Nat → Nat} {EC : State → Heap → Prop} {Rel : Mem → Mem → Prop} (X : LwX p s m meth c b L xs D cA adC adR adK EC) (ho : Op_18 Rel) {Mc Mr : Mem} {H : Heap} {locs : List Loc} {ls : Array Slot} {i : Int32} (hrel : Rel Mc Mr) (hw : LwS D cA adC adR adK s Mc Mr H locs) (hl : lv_has ls 4 [(0, .ref b), (1, .ref (adC 0)), (2, .ref (adR 0)), (3, .int i)]) (hi : ∀ k : Nat, k < 6 → vp_in (i + Int32.ofNat k) L) (kk : ∀ Mc' Mr', Rel Mc' Mr' → ∀ (H1 : Heap) (locs1 : List Loc), LwS D cA adC adR adK s Mc' Mr' H1 locs1 → W p l e room_1 s m #[Value.ref b] below meth c H1 locs1 600000 7302250 (lw_Z below #[Value.ref b] s) (F0 m 2654 ls [])) : W p l e room_1 s m #[Value.ref b] below meth c H locs 600000 7302250 (lw_Z below #[Value.ref b] s) (F0 m 902 ls []) := by
  obtain ⟨hx, hb, hml, hown, hts, hX, hbl, hbA, hK, hWC, hWR, hE, hAC, hAR, hdis⟩ := id X
  obtain ⟨r, Mc', Mr', e1, e2, hrel2⟩ := ho Mc Mr (xs (ix (i + 1))) hrel
  refine lv_aload_n hx hb dL_law_902 rfl (lv_at hl 1 rfl) ?_
  refine lv_aload_n hx hb dL_law_903 rfl (lv_at hl 0 rfl) ?_
  refine lv_iload_n hx hb dL_law_904 rfl (lv_at hl 3 rfl) ?_
  refine lv_iconst (v := 1) hx hb dL_law_905 (by decide) ?_
  refine lv_iadd hx hb dL_law_906 ?_
  refine va_sld hx hb hX hbl hbA hw.2.2 (hi 1 (by decide)) dL_law_907 ?_
  refine wlawC (As := [.int (xs (ix (i + 1)))]) (rest := []) X hw (c_X10_cracks hWC e1) vlL_89 ⟨Nat.le_of_ble_eq_true rfl, Nat.le_of_ble_eq_true rfl⟩ rfl rfl rfl hl.1 (Nat.le_of_ble_eq_true rfl) dL_law_908 ⟨Nat.le_of_ble_eq_true rfl, Nat.le_of_ble_eq_true rfl⟩ (fun H locs hw => ?_)
  refine lv_aload_n hx hb dL_law_911 rfl (lv_at hl 2 rfl) ?_
  refine lv_aload_n hx hb dL_law_912 rfl (lv_at hl 0 rfl) ?_
  refine lv_iload_n hx hb dL_law_913 rfl (lv_at hl 3 rfl) ?_
  refine lv_iconst (v := 1) hx hb dL_law_914 (by decide) ?_
  refine lv_iadd hx hb dL_law_915 ?_
  refine va_sld hx hb hX hbl hbA hw.2.2 (hi 1 (by decide)) dL_law_916 ?_
  refine wlawR (As := [.int (xs (ix (i + 1)))]) (rest := [.int r]) X hw (c_X11_cracks hWR e2) vlL_92 ⟨Nat.le_of_ble_eq_true rfl, Nat.le_of_ble_eq_true rfl⟩ rfl rfl rfl hl.1 (Nat.le_of_ble_eq_true rfl) dL_law_917 ⟨Nat.le_of_ble_eq_true rfl, Nat.le_of_ble_eq_true rfl⟩ (fun H locs hw => ?_)
  refine lv_icmp_eq (tgt := 2654) hx hb dL_law_920 (by decide) (fun _ => ?_) (fun c1 => absurd rfl c1)
  exact kk Mc' Mr' hrel2 H locs hw
set_option maxRecDepth 100000 in
set_option maxHeartbeats 4000000 in
theorem lawc_19 {p : Program} {l : Launch} {e : Env} {s : State} {m : MethodId} {below : List Frame} {meth : Method} {c : Code} {b L : Nat} {xs : Nat → Int32} {D : va_G} {cA : Nat → ClassId} {adC adR adK : Nat → Nat} {EC : State → Heap → Prop} {Rel : Mem → Mem → Prop} (X : LwX p s m meth c b L xs D cA adC adR adK EC) (ho : Op_19 Rel) {Mc Mr : Mem} {H : Heap} {locs : List Loc} {ls : Array Slot} {i : Int32} (hrel : Rel Mc Mr) (hw : LwS D cA adC adR adK s Mc Mr H locs) (hl : lv_has ls 4 [(0, .ref b), (1, .ref (adC 0)), (2, .ref (adR 0)), (3, .int i)]) (hi : ∀ k : Nat, k < 6 → vp_in (i + Int32.ofNat k) L) (kk : ∀ Mc' Mr', Rel Mc' Mr' → ∀ (H1 : Heap) (locs1 : List Loc), LwS D cA adC adR adK s Mc' Mr' H1 locs1 → W p l e room_1 s m #[Value.ref b] below meth c H1 locs1 600000 7302250 (lw_Z below #[Value.ref b] s) (F0 m 2654 ls [])) : W p l e room_1 s m #[Value.ref b] below meth c H locs 600000 7302250 (lw_Z below #[Value.ref b] s) (F0 m 925 ls []) := by
  obtain ⟨hx, hb, hml, hown, hts, hX, hbl, hbA, hK, hWC, hWR, hE, hAC, hAR, hdis⟩ := id X
  obtain ⟨r, Mc', Mr', e1, e2, hrel2⟩ := ho Mc Mr (xs (ix (i + 1))) hrel
  refine lv_aload_n hx hb dL_law_925 rfl (lv_at hl 1 rfl) ?_
  refine lv_aload_n hx hb dL_law_926 rfl (lv_at hl 0 rfl) ?_
  refine lv_iload_n hx hb dL_law_927 rfl (lv_at hl 3 rfl) ?_
  refine lv_iconst (v := 1) hx hb dL_law_928 (by decide) ?_
  refine lv_iadd hx hb dL_law_929 ?_
  refine va_sld hx hb hX hbl hbA hw.2.2 (hi 1 (by decide)) dL_law_930 ?_
  refine wlawC (As := [.int (xs (ix (i + 1)))]) (rest := []) X hw (c_X10_why hWC e1) vlL_93 ⟨Nat.le_of_ble_eq_true rfl, Nat.le_of_ble_eq_true rfl⟩ rfl rfl rfl hl.1 (Nat.le_of_ble_eq_true rfl) dL_law_931 ⟨Nat.le_of_ble_eq_true rfl, Nat.le_of_ble_eq_true rfl⟩ (fun H locs hw => ?_)
  refine lv_aload_n hx hb dL_law_934 rfl (lv_at hl 2 rfl) ?_
  refine lv_aload_n hx hb dL_law_935 rfl (lv_at hl 0 rfl) ?_
  refine lv_iload_n hx hb dL_law_936 rfl (lv_at hl 3 rfl) ?_
  refine lv_iconst (v := 1) hx hb dL_law_937 (by decide) ?_
  refine lv_iadd hx hb dL_law_938 ?_
  refine va_sld hx hb hX hbl hbA hw.2.2 (hi 1 (by decide)) dL_law_939 ?_
  refine wlawR (As := [.int (xs (ix (i + 1)))]) (rest := [.int r]) X hw (c_X11_why hWR e2) vlL_96 ⟨Nat.le_of_ble_eq_true rfl, Nat.le_of_ble_eq_true rfl⟩ rfl rfl rfl hl.1 (Nat.le_of_ble_eq_true rfl) dL_law_940 ⟨Nat.le_of_ble_eq_true rfl, Nat.le_of_ble_eq_true rfl⟩ (fun H locs hw => ?_)
  refine lv_icmp_eq (tgt := 2654) hx hb dL_law_943 (by decide) (fun _ => ?_) (fun c1 => absurd rfl c1)
  exact kk Mc' Mr' hrel2 H locs hw
set_option maxRecDepth 100000 in
set_option maxHeartbeats 4000000 in
theorem lawc_20 {p : Program} {l : Launch} {e : Env} {s : State} {m : MethodId} {below : List Frame} {meth : Method} {c : Code} {b L : Nat} {xs : Nat → Int32} {D : va_G} {cA : Nat → ClassId} {adC adR adK : Nat → Nat} {EC : State → Heap → Prop} {Rel : Mem → Mem → Prop} (X : LwX p s m meth c b L xs D cA adC adR adK EC) (ho : Op_20 Rel) {Mc Mr : Mem} {H : Heap} {locs : List Loc} {ls : Array Slot} {i : Int32} (hrel : Rel Mc Mr) (hw : LwS D cA adC adR adK s Mc Mr H locs) (hl : lv_has ls 4 [(0, .ref b), (1, .ref (adC 0)), (2, .ref (adR 0)), (3, .int i)]) (hi : ∀ k : Nat, k < 6 → vp_in (i + Int32.ofNat k) L) (kk : ∀ Mc' Mr', Rel Mc' Mr' → ∀ (H1 : Heap) (locs1 : List Loc), LwS D cA adC adR adK s Mc' Mr' H1 locs1 → W p l e room_1 s m #[Value.ref b] below meth c H1 locs1 600000 7302250 (lw_Z below #[Value.ref b] s) (F0 m 2654 ls [])) : W p l e room_1 s m #[Value.ref b] below meth c H locs 600000 7302250 (lw_Z below #[Value.ref b] s) (F0 m 948 ls []) := by
  obtain ⟨hx, hb, hml, hown, hts, hX, hbl, hbA, hK, hWC, hWR, hE, hAC, hAR, hdis⟩ := id X
  obtain ⟨r, Mc', Mr', e1, e2, hrel2⟩ := ho Mc Mr (xs (ix (i + 1))) hrel
  refine lv_aload_n hx hb dL_law_948 rfl (lv_at hl 1 rfl) ?_
  refine lv_aload_n hx hb dL_law_949 rfl (lv_at hl 0 rfl) ?_
  refine lv_iload_n hx hb dL_law_950 rfl (lv_at hl 3 rfl) ?_
  refine lv_iconst (v := 1) hx hb dL_law_951 (by decide) ?_
  refine lv_iadd hx hb dL_law_952 ?_
  refine va_sld hx hb hX hbl hbA hw.2.2 (hi 1 (by decide)) dL_law_953 ?_
  refine wlawC (As := [.int (xs (ix (i + 1)))]) (rest := []) X hw (c_X10_whole hWC e1) vlL_97 ⟨Nat.le_of_ble_eq_true rfl, Nat.le_of_ble_eq_true rfl⟩ rfl rfl rfl hl.1 (Nat.le_of_ble_eq_true rfl) dL_law_954 ⟨Nat.le_of_ble_eq_true rfl, Nat.le_of_ble_eq_true rfl⟩ (fun H locs hw => ?_)
  refine lv_aload_n hx hb dL_law_957 rfl (lv_at hl 2 rfl) ?_
  refine lv_aload_n hx hb dL_law_958 rfl (lv_at hl 0 rfl) ?_
  refine lv_iload_n hx hb dL_law_959 rfl (lv_at hl 3 rfl) ?_
  refine lv_iconst (v := 1) hx hb dL_law_960 (by decide) ?_
  refine lv_iadd hx hb dL_law_961 ?_
  refine va_sld hx hb hX hbl hbA hw.2.2 (hi 1 (by decide)) dL_law_962 ?_
  refine wlawR (As := [.int (xs (ix (i + 1)))]) (rest := [.int r]) X hw (c_X11_whole hWR e2) vlL_100 ⟨Nat.le_of_ble_eq_true rfl, Nat.le_of_ble_eq_true rfl⟩ rfl rfl rfl hl.1 (Nat.le_of_ble_eq_true rfl) dL_law_963 ⟨Nat.le_of_ble_eq_true rfl, Nat.le_of_ble_eq_true rfl⟩ (fun H locs hw => ?_)
  refine lv_icmp_eq (tgt := 2654) hx hb dL_law_966 (by decide) (fun _ => ?_) (fun c1 => absurd rfl c1)
  exact kk Mc' Mr' hrel2 H locs hw
set_option maxRecDepth 100000 in
set_option maxHeartbeats 4000000 in
theorem lawc_21 {p : Program} {l : Launch} {e : Env} {s : State} {m : MethodId} {below : List Frame} {meth : Method} {c : Code} {b L : Nat} {xs : Nat → Int32} {D : va_G} {cA : Nat → ClassId} {adC adR adK : Nat → Nat} {EC : State → Heap → Prop} {Rel : Mem → Mem → Prop} (X : LwX p s m meth c b L xs D cA adC adR adK EC) (ho : Op_21 Rel) {Mc Mr : Mem} {H : Heap} {locs : List Loc} {ls : Array Slot} {i : Int32} (hrel : Rel Mc Mr) (hw : LwS D cA adC adR adK s Mc Mr H locs) (hl : lv_has ls 4 [(0, .ref b), (1, .ref (adC 0)), (2, .ref (adR 0)), (3, .int i)]) (hi : ∀ k : Nat, k < 6 → vp_in (i + Int32.ofNat k) L) (kk : ∀ Mc' Mr', Rel Mc' Mr' → ∀ (H1 : Heap) (locs1 : List Loc), LwS D cA adC adR adK s Mc' Mr' H1 locs1 → W p l e room_1 s m #[Value.ref b] below meth c H1 locs1 600000 7302250 (lw_Z below #[Value.ref b] s) (F0 m 2654 ls [])) : W p l e room_1 s m #[Value.ref b] below meth c H locs 600000 7302250 (lw_Z below #[Value.ref b] s) (F0 m 971 ls []) := by
  obtain ⟨hx, hb, hml, hown, hts, hX, hbl, hbA, hK, hWC, hWR, hE, hAC, hAR, hdis⟩ := id X
  obtain ⟨r, Mc', Mr', e1, e2, hrel2⟩ := ho Mc Mr  hrel
  refine lv_aload_n hx hb dL_law_971 rfl (lv_at hl 1 rfl) ?_
  refine wlawC (As := []) (rest := []) X hw (c_X10_sound hWC e1) vlL_101 ⟨Nat.le_of_ble_eq_true rfl, Nat.le_of_ble_eq_true rfl⟩ rfl rfl rfl hl.1 (Nat.le_of_ble_eq_true rfl) dL_law_972 ⟨Nat.le_of_ble_eq_true rfl, Nat.le_of_ble_eq_true rfl⟩ (fun H locs hw => ?_)
  refine lv_aload_n hx hb dL_law_975 rfl (lv_at hl 2 rfl) ?_
  refine wlawR (As := []) (rest := [.int r]) X hw (c_X11_sound hWR e2) vlL_104 ⟨Nat.le_of_ble_eq_true rfl, Nat.le_of_ble_eq_true rfl⟩ rfl rfl rfl hl.1 (Nat.le_of_ble_eq_true rfl) dL_law_976 ⟨Nat.le_of_ble_eq_true rfl, Nat.le_of_ble_eq_true rfl⟩ (fun H locs hw => ?_)
  refine lv_icmp_eq (tgt := 2654) hx hb dL_law_979 (by decide) (fun _ => ?_) (fun c1 => absurd rfl c1)
  exact kk Mc' Mr' hrel2 H locs hw
set_option maxRecDepth 100000 in
set_option maxHeartbeats 4000000 in
theorem lawc_22 {p : Program} {l : Launch} {e : Env} {s : State} {m : MethodId} {below : List Frame} {meth : Method} {c : Code} {b L : Nat} {xs : Nat → Int32} {D : va_G} {cA : Nat → ClassId} {adC adR adK : Nat → Nat} {EC : State → Heap → Prop} {Rel : Mem → Mem → Prop} (X : LwX p s m meth c b L xs D cA adC adR adK EC) (ho : Op_22 Rel) {Mc Mr : Mem} {H : Heap} {locs : List Loc} {ls : Array Slot} {i : Int32} (hrel : Rel Mc Mr) (hw : LwS D cA adC adR adK s Mc Mr H locs) (hl : lv_has ls 4 [(0, .ref b), (1, .ref (adC 0)), (2, .ref (adR 0)), (3, .int i)]) (hi : ∀ k : Nat, k < 6 → vp_in (i + Int32.ofNat k) L) (kk : ∀ Mc' Mr', Rel Mc' Mr' → ∀ (H1 : Heap) (locs1 : List Loc), LwS D cA adC adR adK s Mc' Mr' H1 locs1 → W p l e room_1 s m #[Value.ref b] below meth c H1 locs1 600000 7302250 (lw_Z below #[Value.ref b] s) (F0 m 2654 ls [])) : W p l e room_1 s m #[Value.ref b] below meth c H locs 600000 7302250 (lw_Z below #[Value.ref b] s) (F0 m 984 ls []) := by
  obtain ⟨hx, hb, hml, hown, hts, hX, hbl, hbA, hK, hWC, hWR, hE, hAC, hAR, hdis⟩ := id X
  obtain ⟨r, Mc', Mr', e1, e2, hrel2⟩ := ho Mc Mr  hrel
  refine lv_aload_n hx hb dL_law_984 rfl (lv_at hl 1 rfl) ?_
  refine wlawC (As := []) (rest := []) X hw (c_X10_good hWC e1) vlL_105 ⟨Nat.le_of_ble_eq_true rfl, Nat.le_of_ble_eq_true rfl⟩ rfl rfl rfl hl.1 (Nat.le_of_ble_eq_true rfl) dL_law_985 ⟨Nat.le_of_ble_eq_true rfl, Nat.le_of_ble_eq_true rfl⟩ (fun H locs hw => ?_)
  refine lv_aload_n hx hb dL_law_988 rfl (lv_at hl 2 rfl) ?_
  refine wlawR (As := []) (rest := [.int r]) X hw (c_X11_good hWR e2) vlL_108 ⟨Nat.le_of_ble_eq_true rfl, Nat.le_of_ble_eq_true rfl⟩ rfl rfl rfl hl.1 (Nat.le_of_ble_eq_true rfl) dL_law_989 ⟨Nat.le_of_ble_eq_true rfl, Nat.le_of_ble_eq_true rfl⟩ (fun H locs hw => ?_)
  refine lv_icmp_eq (tgt := 2654) hx hb dL_law_992 (by decide) (fun _ => ?_) (fun c1 => absurd rfl c1)
  exact kk Mc' Mr' hrel2 H locs hw
set_option maxRecDepth 100000 in
set_option maxHeartbeats 4000000 in
theorem lawc_23 {p : Program} {l : Launch} {e : Env} {s : State} {m : MethodId} {below : List Frame} {meth : Method} {c : Code} {b L : Nat} {xs : Nat → Int32} {D : va_G} {cA : Nat → ClassId} {adC adR adK : Nat → Nat} {EC : State → Heap → Prop} {Rel : Mem → Mem → Prop} (X : LwX p s m meth c b L xs D cA adC adR adK EC) (ho : Op_23 Rel) {Mc Mr : Mem} {H : Heap} {locs : List Loc} {ls : Array Slot} {i : Int32} (hrel : Rel Mc Mr) (hw : LwS D cA adC adR adK s Mc Mr H locs) (hl : lv_has ls 4 [(0, .ref b), (1, .ref (adC 0)), (2, .ref (adR 0)), (3, .int i)]) (hi : ∀ k : Nat, k < 6 → vp_in (i + Int32.ofNat k) L) (kk : ∀ Mc' Mr', Rel Mc' Mr' → ∀ (H1 : Heap) (locs1 : List Loc), LwS D cA adC adR adK s Mc' Mr' H1 locs1 → W p l e room_1 s m #[Value.ref b] below meth c H1 locs1 600000 7302250 (lw_Z below #[Value.ref b] s) (F0 m 2654 ls [])) : W p l e room_1 s m #[Value.ref b] below meth c H locs 600000 7302250 (lw_Z below #[Value.ref b] s) (F0 m 997 ls []) := by
  obtain ⟨hx, hb, hml, hown, hts, hX, hbl, hbA, hK, hWC, hWR, hE, hAC, hAR, hdis⟩ := id X
  obtain ⟨r, Mc', Mr', e1, e2, hrel2⟩ := ho Mc Mr (xs (ix (i + 1))) hrel
  refine lv_aload_n hx hb dL_law_997 rfl (lv_at hl 1 rfl) ?_
  refine lv_aload_n hx hb dL_law_998 rfl (lv_at hl 0 rfl) ?_
  refine lv_iload_n hx hb dL_law_999 rfl (lv_at hl 3 rfl) ?_
  refine lv_iconst (v := 1) hx hb dL_law_1000 (by decide) ?_
  refine lv_iadd hx hb dL_law_1001 ?_
  refine va_sld hx hb hX hbl hbA hw.2.2 (hi 1 (by decide)) dL_law_1002 ?_
  refine wlawC (As := [.int (xs (ix (i + 1)))]) (rest := []) X hw (c_X10_tight hWC e1) vlL_109 ⟨Nat.le_of_ble_eq_true rfl, Nat.le_of_ble_eq_true rfl⟩ rfl rfl rfl hl.1 (Nat.le_of_ble_eq_true rfl) dL_law_1003 ⟨Nat.le_of_ble_eq_true rfl, Nat.le_of_ble_eq_true rfl⟩ (fun H locs hw => ?_)
  refine lv_aload_n hx hb dL_law_1006 rfl (lv_at hl 2 rfl) ?_
  refine lv_aload_n hx hb dL_law_1007 rfl (lv_at hl 0 rfl) ?_
  refine lv_iload_n hx hb dL_law_1008 rfl (lv_at hl 3 rfl) ?_
  refine lv_iconst (v := 1) hx hb dL_law_1009 (by decide) ?_
  refine lv_iadd hx hb dL_law_1010 ?_
  refine va_sld hx hb hX hbl hbA hw.2.2 (hi 1 (by decide)) dL_law_1011 ?_
  refine wlawR (As := [.int (xs (ix (i + 1)))]) (rest := [.int r]) X hw (c_X11_tight hWR e2) vlL_112 ⟨Nat.le_of_ble_eq_true rfl, Nat.le_of_ble_eq_true rfl⟩ rfl rfl rfl hl.1 (Nat.le_of_ble_eq_true rfl) dL_law_1012 ⟨Nat.le_of_ble_eq_true rfl, Nat.le_of_ble_eq_true rfl⟩ (fun H locs hw => ?_)
  refine lv_icmp_eq (tgt := 2654) hx hb dL_law_1015 (by decide) (fun _ => ?_) (fun c1 => absurd rfl c1)
  exact kk Mc' Mr' hrel2 H locs hw
set_option maxRecDepth 100000 in
set_option maxHeartbeats 4000000 in
theorem lawc_24 {p : Program} {l : Launch} {e : Env} {s : State} {m : MethodId} {below : List Frame} {meth : Method} {c : Code} {b L : Nat} {xs : Nat → Int32} {D : va_G} {cA : Nat → ClassId} {adC adR adK : Nat → Nat} {EC : State → Heap → Prop} {Rel : Mem → Mem → Prop} (X : LwX p s m meth c b L xs D cA adC adR adK EC) (ho : Op_24 Rel) {Mc Mr : Mem} {H : Heap} {locs : List Loc} {ls : Array Slot} {i : Int32} (hrel : Rel Mc Mr) (hw : LwS D cA adC adR adK s Mc Mr H locs) (hl : lv_has ls 4 [(0, .ref b), (1, .ref (adC 0)), (2, .ref (adR 0)), (3, .int i)]) (hi : ∀ k : Nat, k < 6 → vp_in (i + Int32.ofNat k) L) (kk : ∀ Mc' Mr', Rel Mc' Mr' → ∀ (H1 : Heap) (locs1 : List Loc), LwS D cA adC adR adK s Mc' Mr' H1 locs1 → W p l e room_1 s m #[Value.ref b] below meth c H1 locs1 600000 7302250 (lw_Z below #[Value.ref b] s) (F0 m 2654 ls [])) : W p l e room_1 s m #[Value.ref b] below meth c H locs 600000 7302250 (lw_Z below #[Value.ref b] s) (F0 m 1020 ls []) := by
  obtain ⟨hx, hb, hml, hown, hts, hX, hbl, hbA, hK, hWC, hWR, hE, hAC, hAR, hdis⟩ := id X
  obtain ⟨r, Mc', Mr', e1, e2, hrel2⟩ := ho Mc Mr (xs (ix (i + 1))) hrel
  refine lv_aload_n hx hb dL_law_1020 rfl (lv_at hl 1 rfl) ?_
  refine lv_aload_n hx hb dL_law_1021 rfl (lv_at hl 0 rfl) ?_
  refine lv_iload_n hx hb dL_law_1022 rfl (lv_at hl 3 rfl) ?_
  refine lv_iconst (v := 1) hx hb dL_law_1023 (by decide) ?_
  refine lv_iadd hx hb dL_law_1024 ?_
  refine va_sld hx hb hX hbl hbA hw.2.2 (hi 1 (by decide)) dL_law_1025 ?_
  refine wlawC (As := [.int (xs (ix (i + 1)))]) (rest := []) X hw (c_X10_hottest hWC e1) vlL_113 ⟨Nat.le_of_ble_eq_true rfl, Nat.le_of_ble_eq_true rfl⟩ rfl rfl rfl hl.1 (Nat.le_of_ble_eq_true rfl) dL_law_1026 ⟨Nat.le_of_ble_eq_true rfl, Nat.le_of_ble_eq_true rfl⟩ (fun H locs hw => ?_)
  refine lv_aload_n hx hb dL_law_1029 rfl (lv_at hl 2 rfl) ?_
  refine lv_aload_n hx hb dL_law_1030 rfl (lv_at hl 0 rfl) ?_
  refine lv_iload_n hx hb dL_law_1031 rfl (lv_at hl 3 rfl) ?_
  refine lv_iconst (v := 1) hx hb dL_law_1032 (by decide) ?_
  refine lv_iadd hx hb dL_law_1033 ?_
  refine va_sld hx hb hX hbl hbA hw.2.2 (hi 1 (by decide)) dL_law_1034 ?_
  refine wlawR (As := [.int (xs (ix (i + 1)))]) (rest := [.int r]) X hw (c_X11_hottest hWR e2) vlL_116 ⟨Nat.le_of_ble_eq_true rfl, Nat.le_of_ble_eq_true rfl⟩ rfl rfl rfl hl.1 (Nat.le_of_ble_eq_true rfl) dL_law_1035 ⟨Nat.le_of_ble_eq_true rfl, Nat.le_of_ble_eq_true rfl⟩ (fun H locs hw => ?_)
  refine lv_icmp_eq (tgt := 2654) hx hb dL_law_1038 (by decide) (fun _ => ?_) (fun c1 => absurd rfl c1)
  exact kk Mc' Mr' hrel2 H locs hw
set_option maxRecDepth 100000 in
set_option maxHeartbeats 4000000 in
theorem lawc_25 {p : Program} {l : Launch} {e : Env} {s : State} {m : MethodId} {below : List Frame} {meth : Method} {c : Code} {b L : Nat} {xs : Nat → Int32} {D : va_G} {cA : Nat → ClassId} {adC adR adK : Nat → Nat} {EC : State → Heap → Prop} {Rel : Mem → Mem → Prop} (X : LwX p s m meth c b L xs D cA adC adR adK EC) (ho : Op_25 Rel) {Mc Mr : Mem} {H : Heap} {locs : List Loc} {ls : Array Slot} {i : Int32} (hrel : Rel Mc Mr) (hw : LwS D cA adC adR adK s Mc Mr H locs) (hl : lv_has ls 4 [(0, .ref b), (1, .ref (adC 0)), (2, .ref (adR 0)), (3, .int i)]) (hi : ∀ k : Nat, k < 6 → vp_in (i + Int32.ofNat k) L) (kk : ∀ Mc' Mr', Rel Mc' Mr' → ∀ (H1 : Heap) (locs1 : List Loc), LwS D cA adC adR adK s Mc' Mr' H1 locs1 → W p l e room_1 s m #[Value.ref b] below meth c H1 locs1 600000 7302250 (lw_Z below #[Value.ref b] s) (F0 m 2654 ls [])) : W p l e room_1 s m #[Value.ref b] below meth c H locs 600000 7302250 (lw_Z below #[Value.ref b] s) (F0 m 1043 ls []) := by
  obtain ⟨hx, hb, hml, hown, hts, hX, hbl, hbA, hK, hWC, hWR, hE, hAC, hAR, hdis⟩ := id X
  obtain ⟨r, Mc', Mr', e1, e2, hrel2⟩ := ho Mc Mr (xs (ix (i + 1))) hrel
  refine lv_aload_n hx hb dL_law_1043 rfl (lv_at hl 1 rfl) ?_
  refine lv_aload_n hx hb dL_law_1044 rfl (lv_at hl 0 rfl) ?_
  refine lv_iload_n hx hb dL_law_1045 rfl (lv_at hl 3 rfl) ?_
  refine lv_iconst (v := 1) hx hb dL_law_1046 (by decide) ?_
  refine lv_iadd hx hb dL_law_1047 ?_
  refine va_sld hx hb hX hbl hbA hw.2.2 (hi 1 (by decide)) dL_law_1048 ?_
  refine wlawC (As := [.int (xs (ix (i + 1)))]) (rest := []) X hw (c_X10_glow hWC e1) vlL_117 ⟨Nat.le_of_ble_eq_true rfl, Nat.le_of_ble_eq_true rfl⟩ rfl rfl rfl hl.1 (Nat.le_of_ble_eq_true rfl) dL_law_1049 ⟨Nat.le_of_ble_eq_true rfl, Nat.le_of_ble_eq_true rfl⟩ (fun H locs hw => ?_)
  refine lv_aload_n hx hb dL_law_1052 rfl (lv_at hl 2 rfl) ?_
  refine lv_aload_n hx hb dL_law_1053 rfl (lv_at hl 0 rfl) ?_
  refine lv_iload_n hx hb dL_law_1054 rfl (lv_at hl 3 rfl) ?_
  refine lv_iconst (v := 1) hx hb dL_law_1055 (by decide) ?_
  refine lv_iadd hx hb dL_law_1056 ?_
  refine va_sld hx hb hX hbl hbA hw.2.2 (hi 1 (by decide)) dL_law_1057 ?_
  refine wlawR (As := [.int (xs (ix (i + 1)))]) (rest := [.int r]) X hw (c_X11_glow hWR e2) vlL_120 ⟨Nat.le_of_ble_eq_true rfl, Nat.le_of_ble_eq_true rfl⟩ rfl rfl rfl hl.1 (Nat.le_of_ble_eq_true rfl) dL_law_1058 ⟨Nat.le_of_ble_eq_true rfl, Nat.le_of_ble_eq_true rfl⟩ (fun H locs hw => ?_)
  refine lv_icmp_eq (tgt := 2654) hx hb dL_law_1061 (by decide) (fun _ => ?_) (fun c1 => absurd rfl c1)
  exact kk Mc' Mr' hrel2 H locs hw
set_option maxRecDepth 100000 in
set_option maxHeartbeats 4000000 in
theorem lawc_26 {p : Program} {l : Launch} {e : Env} {s : State} {m : MethodId} {below : List Frame} {meth : Method} {c : Code} {b L : Nat} {xs : Nat → Int32} {D : va_G} {cA : Nat → ClassId} {adC adR adK : Nat → Nat} {EC : State → Heap → Prop} {Rel : Mem → Mem → Prop} (X : LwX p s m meth c b L xs D cA adC adR adK EC) (ho : Op_26 Rel) {Mc Mr : Mem} {H : Heap} {locs : List Loc} {ls : Array Slot} {i : Int32} (hrel : Rel Mc Mr) (hw : LwS D cA adC adR adK s Mc Mr H locs) (hl : lv_has ls 4 [(0, .ref b), (1, .ref (adC 0)), (2, .ref (adR 0)), (3, .int i)]) (hi : ∀ k : Nat, k < 6 → vp_in (i + Int32.ofNat k) L) (kk : ∀ Mc' Mr', Rel Mc' Mr' → ∀ (H1 : Heap) (locs1 : List Loc), LwS D cA adC adR adK s Mc' Mr' H1 locs1 → W p l e room_1 s m #[Value.ref b] below meth c H1 locs1 600000 7302250 (lw_Z below #[Value.ref b] s) (F0 m 2654 ls [])) : W p l e room_1 s m #[Value.ref b] below meth c H locs 600000 7302250 (lw_Z below #[Value.ref b] s) (F0 m 1066 ls []) := by
  obtain ⟨hx, hb, hml, hown, hts, hX, hbl, hbA, hK, hWC, hWR, hE, hAC, hAR, hdis⟩ := id X
  obtain ⟨r, Mc', Mr', e1, e2, hrel2⟩ := ho Mc Mr  hrel
  refine lv_aload_n hx hb dL_law_1066 rfl (lv_at hl 1 rfl) ?_
  refine wlawC (As := []) (rest := []) X hw (c_X10_worst hWC e1) vlL_121 ⟨Nat.le_of_ble_eq_true rfl, Nat.le_of_ble_eq_true rfl⟩ rfl rfl rfl hl.1 (Nat.le_of_ble_eq_true rfl) dL_law_1067 ⟨Nat.le_of_ble_eq_true rfl, Nat.le_of_ble_eq_true rfl⟩ (fun H locs hw => ?_)
  refine lv_aload_n hx hb dL_law_1070 rfl (lv_at hl 2 rfl) ?_
  refine wlawR (As := []) (rest := [.int r]) X hw (c_X11_worst hWR e2) vlL_124 ⟨Nat.le_of_ble_eq_true rfl, Nat.le_of_ble_eq_true rfl⟩ rfl rfl rfl hl.1 (Nat.le_of_ble_eq_true rfl) dL_law_1071 ⟨Nat.le_of_ble_eq_true rfl, Nat.le_of_ble_eq_true rfl⟩ (fun H locs hw => ?_)
  refine lv_icmp_eq (tgt := 2654) hx hb dL_law_1074 (by decide) (fun _ => ?_) (fun c1 => absurd rfl c1)
  exact kk Mc' Mr' hrel2 H locs hw
set_option maxRecDepth 100000 in
set_option maxHeartbeats 4000000 in
theorem lawc_27 {p : Program} {l : Launch} {e : Env} {s : State} {m : MethodId} {below : List Frame} {meth : Method} {c : Code} {b L : Nat} {xs : Nat → Int32} {D : va_G} {cA : Nat → ClassId} {adC adR adK : Nat → Nat} {EC : State → Heap → Prop} {Rel : Mem → Mem → Prop} (X : LwX p s m meth c b L xs D cA adC adR adK EC) (ho : Op_27 Rel) {Mc Mr : Mem} {H : Heap} {locs : List Loc} {ls : Array Slot} {i : Int32} (hrel : Rel Mc Mr) (hw : LwS D cA adC adR adK s Mc Mr H locs) (hl : lv_has ls 4 [(0, .ref b), (1, .ref (adC 0)), (2, .ref (adR 0)), (3, .int i)]) (hi : ∀ k : Nat, k < 6 → vp_in (i + Int32.ofNat k) L) (kk : ∀ Mc' Mr', Rel Mc' Mr' → ∀ (H1 : Heap) (locs1 : List Loc), LwS D cA adC adR adK s Mc' Mr' H1 locs1 → W p l e room_1 s m #[Value.ref b] below meth c H1 locs1 600000 7302250 (lw_Z below #[Value.ref b] s) (F0 m 2654 ls [])) : W p l e room_1 s m #[Value.ref b] below meth c H locs 600000 7302250 (lw_Z below #[Value.ref b] s) (F0 m 1079 ls []) := by
  obtain ⟨hx, hb, hml, hown, hts, hX, hbl, hbA, hK, hWC, hWR, hE, hAC, hAR, hdis⟩ := id X
  obtain ⟨r, Mc', Mr', e1, e2, hrel2⟩ := ho Mc Mr  hrel
  refine lv_aload_n hx hb dL_law_1079 rfl (lv_at hl 1 rfl) ?_
  refine wlawC (As := []) (rest := []) X hw (c_X10_sore hWC e1) vlL_125 ⟨Nat.le_of_ble_eq_true rfl, Nat.le_of_ble_eq_true rfl⟩ rfl rfl rfl hl.1 (Nat.le_of_ble_eq_true rfl) dL_law_1080 ⟨Nat.le_of_ble_eq_true rfl, Nat.le_of_ble_eq_true rfl⟩ (fun H locs hw => ?_)
  refine lv_aload_n hx hb dL_law_1083 rfl (lv_at hl 2 rfl) ?_
  refine wlawR (As := []) (rest := [.int r]) X hw (c_X11_sore hWR e2) vlL_128 ⟨Nat.le_of_ble_eq_true rfl, Nat.le_of_ble_eq_true rfl⟩ rfl rfl rfl hl.1 (Nat.le_of_ble_eq_true rfl) dL_law_1084 ⟨Nat.le_of_ble_eq_true rfl, Nat.le_of_ble_eq_true rfl⟩ (fun H locs hw => ?_)
  refine lv_icmp_eq (tgt := 2654) hx hb dL_law_1087 (by decide) (fun _ => ?_) (fun c1 => absurd rfl c1)
  exact kk Mc' Mr' hrel2 H locs hw
set_option maxRecDepth 100000 in
set_option maxHeartbeats 4000000 in
theorem lawc_28 {p : Program} {l : Launch} {e : Env} {s : State} {m : MethodId} {below : List Frame} {meth : Method} {c : Code} {b L : Nat} {xs : Nat → Int32} {D : va_G} {cA : Nat → ClassId} {adC adR adK : Nat → Nat} {EC : State → Heap → Prop} {Rel : Mem → Mem → Prop} (X : LwX p s m meth c b L xs D cA adC adR adK EC) (ho : Op_28 Rel) {Mc Mr : Mem} {H : Heap} {locs : List Loc} {ls : Array Slot} {i : Int32} (hrel : Rel Mc Mr) (hw : LwS D cA adC adR adK s Mc Mr H locs) (hl : lv_has ls 4 [(0, .ref b), (1, .ref (adC 0)), (2, .ref (adR 0)), (3, .int i)]) (hi : ∀ k : Nat, k < 6 → vp_in (i + Int32.ofNat k) L) (kk : ∀ Mc' Mr', Rel Mc' Mr' → ∀ (H1 : Heap) (locs1 : List Loc), LwS D cA adC adR adK s Mc' Mr' H1 locs1 → W p l e room_1 s m #[Value.ref b] below meth c H1 locs1 600000 7302250 (lw_Z below #[Value.ref b] s) (F0 m 2654 ls [])) : W p l e room_1 s m #[Value.ref b] below meth c H locs 600000 7302250 (lw_Z below #[Value.ref b] s) (F0 m 1092 ls []) := by
  obtain ⟨hx, hb, hml, hown, hts, hX, hbl, hbA, hK, hWC, hWR, hE, hAC, hAR, hdis⟩ := id X
  obtain ⟨r, Mc', Mr', e1, e2, hrel2⟩ := ho Mc Mr (xs (ix (i + 1))) hrel
  refine lv_aload_n hx hb dL_law_1092 rfl (lv_at hl 1 rfl) ?_
  refine lv_aload_n hx hb dL_law_1093 rfl (lv_at hl 0 rfl) ?_
  refine lv_iload_n hx hb dL_law_1094 rfl (lv_at hl 3 rfl) ?_
  refine lv_iconst (v := 1) hx hb dL_law_1095 (by decide) ?_
  refine lv_iadd hx hb dL_law_1096 ?_
  refine va_sld hx hb hX hbl hbA hw.2.2 (hi 1 (by decide)) dL_law_1097 ?_
  refine wlawC (As := [.int (xs (ix (i + 1)))]) (rest := []) X hw (c_X10_tense hWC e1) vlL_129 ⟨Nat.le_of_ble_eq_true rfl, Nat.le_of_ble_eq_true rfl⟩ rfl rfl rfl hl.1 (Nat.le_of_ble_eq_true rfl) dL_law_1098 ⟨Nat.le_of_ble_eq_true rfl, Nat.le_of_ble_eq_true rfl⟩ (fun H locs hw => ?_)
  refine lv_aload_n hx hb dL_law_1101 rfl (lv_at hl 2 rfl) ?_
  refine lv_aload_n hx hb dL_law_1102 rfl (lv_at hl 0 rfl) ?_
  refine lv_iload_n hx hb dL_law_1103 rfl (lv_at hl 3 rfl) ?_
  refine lv_iconst (v := 1) hx hb dL_law_1104 (by decide) ?_
  refine lv_iadd hx hb dL_law_1105 ?_
  refine va_sld hx hb hX hbl hbA hw.2.2 (hi 1 (by decide)) dL_law_1106 ?_
  refine wlawR (As := [.int (xs (ix (i + 1)))]) (rest := [.int r]) X hw (c_X11_tense hWR e2) vlL_132 ⟨Nat.le_of_ble_eq_true rfl, Nat.le_of_ble_eq_true rfl⟩ rfl rfl rfl hl.1 (Nat.le_of_ble_eq_true rfl) dL_law_1107 ⟨Nat.le_of_ble_eq_true rfl, Nat.le_of_ble_eq_true rfl⟩ (fun H locs hw => ?_)
  refine lv_icmp_eq (tgt := 2654) hx hb dL_law_1110 (by decide) (fun _ => ?_) (fun c1 => absurd rfl c1)
  exact kk Mc' Mr' hrel2 H locs hw
set_option maxRecDepth 100000 in
set_option maxHeartbeats 4000000 in
theorem lawc_29 {p : Program} {l : Launch} {e : Env} {s : State} {m : MethodId} {below : List Frame} {meth : Method} {c : Code} {b L : Nat} {xs : Nat → Int32} {D : va_G} {cA : Nat → ClassId} {adC adR adK : Nat → Nat} {EC : State → Heap → Prop} {Rel : Mem → Mem → Prop} (X : LwX p s m meth c b L xs D cA adC adR adK EC) (ho : Op_29 Rel) {Mc Mr : Mem} {H : Heap} {locs : List Loc} {ls : Array Slot} {i : Int32} (hrel : Rel Mc Mr) (hw : LwS D cA adC adR adK s Mc Mr H locs) (hl : lv_has ls 4 [(0, .ref b), (1, .ref (adC 0)), (2, .ref (adR 0)), (3, .int i)]) (hi : ∀ k : Nat, k < 6 → vp_in (i + Int32.ofNat k) L) (kk : ∀ Mc' Mr', Rel Mc' Mr' → ∀ (H1 : Heap) (locs1 : List Loc), LwS D cA adC adR adK s Mc' Mr' H1 locs1 → W p l e room_1 s m #[Value.ref b] below meth c H1 locs1 600000 7302250 (lw_Z below #[Value.ref b] s) (F0 m 2654 ls [])) : W p l e room_1 s m #[Value.ref b] below meth c H locs 600000 7302250 (lw_Z below #[Value.ref b] s) (F0 m 1115 ls []) := by
  obtain ⟨hx, hb, hml, hown, hts, hX, hbl, hbA, hK, hWC, hWR, hE, hAC, hAR, hdis⟩ := id X
  obtain ⟨r, Mc', Mr', e1, e2, hrel2⟩ := ho Mc Mr (xs (ix (i + 1))) hrel
  refine lv_aload_n hx hb dL_law_1115 rfl (lv_at hl 1 rfl) ?_
  refine lv_aload_n hx hb dL_law_1116 rfl (lv_at hl 0 rfl) ?_
  refine lv_iload_n hx hb dL_law_1117 rfl (lv_at hl 3 rfl) ?_
  refine lv_iconst (v := 1) hx hb dL_law_1118 (by decide) ?_
  refine lv_iadd hx hb dL_law_1119 ?_
  refine va_sld hx hb hX hbl hbA hw.2.2 (hi 1 (by decide)) dL_law_1120 ?_
  refine wlawC (As := [.int (xs (ix (i + 1)))]) (rest := []) X hw (c_X10_warms hWC e1) vlL_133 ⟨Nat.le_of_ble_eq_true rfl, Nat.le_of_ble_eq_true rfl⟩ rfl rfl rfl hl.1 (Nat.le_of_ble_eq_true rfl) dL_law_1121 ⟨Nat.le_of_ble_eq_true rfl, Nat.le_of_ble_eq_true rfl⟩ (fun H locs hw => ?_)
  refine lv_aload_n hx hb dL_law_1124 rfl (lv_at hl 2 rfl) ?_
  refine lv_aload_n hx hb dL_law_1125 rfl (lv_at hl 0 rfl) ?_
  refine lv_iload_n hx hb dL_law_1126 rfl (lv_at hl 3 rfl) ?_
  refine lv_iconst (v := 1) hx hb dL_law_1127 (by decide) ?_
  refine lv_iadd hx hb dL_law_1128 ?_
  refine va_sld hx hb hX hbl hbA hw.2.2 (hi 1 (by decide)) dL_law_1129 ?_
  refine wlawR (As := [.int (xs (ix (i + 1)))]) (rest := [.int r]) X hw (c_X11_warms hWR e2) vlL_136 ⟨Nat.le_of_ble_eq_true rfl, Nat.le_of_ble_eq_true rfl⟩ rfl rfl rfl hl.1 (Nat.le_of_ble_eq_true rfl) dL_law_1130 ⟨Nat.le_of_ble_eq_true rfl, Nat.le_of_ble_eq_true rfl⟩ (fun H locs hw => ?_)
  refine lv_icmp_eq (tgt := 2654) hx hb dL_law_1133 (by decide) (fun _ => ?_) (fun c1 => absurd rfl c1)
  exact kk Mc' Mr' hrel2 H locs hw
set_option maxRecDepth 100000 in
set_option maxHeartbeats 4000000 in
theorem lawc_30 {p : Program} {l : Launch} {e : Env} {s : State} {m : MethodId} {below : List Frame} {meth : Method} {c : Code} {b L : Nat} {xs : Nat → Int32} {D : va_G} {cA : Nat → ClassId} {adC adR adK : Nat → Nat} {EC : State → Heap → Prop} {Rel : Mem → Mem → Prop} (X : LwX p s m meth c b L xs D cA adC adR adK EC) (ho : Op_30 Rel) {Mc Mr : Mem} {H : Heap} {locs : List Loc} {ls : Array Slot} {i : Int32} (hrel : Rel Mc Mr) (hw : LwS D cA adC adR adK s Mc Mr H locs) (hl : lv_has ls 4 [(0, .ref b), (1, .ref (adC 0)), (2, .ref (adR 0)), (3, .int i)]) (hi : ∀ k : Nat, k < 6 → vp_in (i + Int32.ofNat k) L) (kk : ∀ Mc' Mr', Rel Mc' Mr' → ∀ (H1 : Heap) (locs1 : List Loc), LwS D cA adC adR adK s Mc' Mr' H1 locs1 → W p l e room_1 s m #[Value.ref b] below meth c H1 locs1 600000 7302250 (lw_Z below #[Value.ref b] s) (F0 m 2654 ls [])) : W p l e room_1 s m #[Value.ref b] below meth c H locs 600000 7302250 (lw_Z below #[Value.ref b] s) (F0 m 1138 ls []) := by
  obtain ⟨hx, hb, hml, hown, hts, hX, hbl, hbA, hK, hWC, hWR, hE, hAC, hAR, hdis⟩ := id X
  obtain ⟨r, Mc', Mr', e1, e2, hrel2⟩ := ho Mc Mr (xs (ix (i + 1))) (xs (ix (i + 2))) hrel
  refine lv_aload_n hx hb dL_law_1138 rfl (lv_at hl 1 rfl) ?_
  refine lv_aload_n hx hb dL_law_1139 rfl (lv_at hl 0 rfl) ?_
  refine lv_iload_n hx hb dL_law_1140 rfl (lv_at hl 3 rfl) ?_
  refine lv_iconst (v := 1) hx hb dL_law_1141 (by decide) ?_
  refine lv_iadd hx hb dL_law_1142 ?_
  refine va_sld hx hb hX hbl hbA hw.2.2 (hi 1 (by decide)) dL_law_1143 ?_
  refine lv_aload_n hx hb dL_law_1144 rfl (lv_at hl 0 rfl) ?_
  refine lv_iload_n hx hb dL_law_1145 rfl (lv_at hl 3 rfl) ?_
  refine lv_iconst (v := 2) hx hb dL_law_1146 (by decide) ?_
  refine lv_iadd hx hb dL_law_1147 ?_
  refine va_sld hx hb hX hbl hbA hw.2.2 (hi 2 (by decide)) dL_law_1148 ?_
  refine wlawC (As := [.int (xs (ix (i + 1))), .int (xs (ix (i + 2)))]) (rest := []) X hw (c_X10_cool hWC e1) vlL_137 ⟨Nat.le_of_ble_eq_true rfl, Nat.le_of_ble_eq_true rfl⟩ rfl rfl rfl hl.1 (Nat.le_of_ble_eq_true rfl) dL_law_1149 ⟨Nat.le_of_ble_eq_true rfl, Nat.le_of_ble_eq_true rfl⟩ (fun H locs hw => ?_)
  refine lv_aload_n hx hb dL_law_1152 rfl (lv_at hl 2 rfl) ?_
  refine lv_aload_n hx hb dL_law_1153 rfl (lv_at hl 0 rfl) ?_
  refine lv_iload_n hx hb dL_law_1154 rfl (lv_at hl 3 rfl) ?_
  refine lv_iconst (v := 1) hx hb dL_law_1155 (by decide) ?_
  refine lv_iadd hx hb dL_law_1156 ?_
  refine va_sld hx hb hX hbl hbA hw.2.2 (hi 1 (by decide)) dL_law_1157 ?_
  refine lv_aload_n hx hb dL_law_1158 rfl (lv_at hl 0 rfl) ?_
  refine lv_iload_n hx hb dL_law_1159 rfl (lv_at hl 3 rfl) ?_
  refine lv_iconst (v := 2) hx hb dL_law_1160 (by decide) ?_
  refine lv_iadd hx hb dL_law_1161 ?_
  refine va_sld hx hb hX hbl hbA hw.2.2 (hi 2 (by decide)) dL_law_1162 ?_
  refine wlawR (As := [.int (xs (ix (i + 1))), .int (xs (ix (i + 2)))]) (rest := [.int r]) X hw (c_X11_cool hWR e2) vlL_140 ⟨Nat.le_of_ble_eq_true rfl, Nat.le_of_ble_eq_true rfl⟩ rfl rfl rfl hl.1 (Nat.le_of_ble_eq_true rfl) dL_law_1163 ⟨Nat.le_of_ble_eq_true rfl, Nat.le_of_ble_eq_true rfl⟩ (fun H locs hw => ?_)
  refine lv_icmp_eq (tgt := 2654) hx hb dL_law_1166 (by decide) (fun _ => ?_) (fun c1 => absurd rfl c1)
  exact kk Mc' Mr' hrel2 H locs hw
set_option maxRecDepth 100000 in
set_option maxHeartbeats 4000000 in
theorem lawc_31 {p : Program} {l : Launch} {e : Env} {s : State} {m : MethodId} {below : List Frame} {meth : Method} {c : Code} {b L : Nat} {xs : Nat → Int32} {D : va_G} {cA : Nat → ClassId} {adC adR adK : Nat → Nat} {EC : State → Heap → Prop} {Rel : Mem → Mem → Prop} (X : LwX p s m meth c b L xs D cA adC adR adK EC) (ho : Op_31 Rel) {Mc Mr : Mem} {H : Heap} {locs : List Loc} {ls : Array Slot} {i : Int32} (hrel : Rel Mc Mr) (hw : LwS D cA adC adR adK s Mc Mr H locs) (hl : lv_has ls 4 [(0, .ref b), (1, .ref (adC 0)), (2, .ref (adR 0)), (3, .int i)]) (hi : ∀ k : Nat, k < 6 → vp_in (i + Int32.ofNat k) L) (kk : ∀ Mc' Mr', Rel Mc' Mr' → ∀ (H1 : Heap) (locs1 : List Loc), LwS D cA adC adR adK s Mc' Mr' H1 locs1 → W p l e room_1 s m #[Value.ref b] below meth c H1 locs1 600000 7302250 (lw_Z below #[Value.ref b] s) (F0 m 2654 ls [])) : W p l e room_1 s m #[Value.ref b] below meth c H locs 600000 7302250 (lw_Z below #[Value.ref b] s) (F0 m 1171 ls []) := by
  obtain ⟨hx, hb, hml, hown, hts, hX, hbl, hbA, hK, hWC, hWR, hE, hAC, hAR, hdis⟩ := id X
  obtain ⟨r, Mc', Mr', e1, e2, hrel2⟩ := ho Mc Mr (xs (ix (i + 1))) hrel
  refine lv_aload_n hx hb dL_law_1171 rfl (lv_at hl 1 rfl) ?_
  refine lv_aload_n hx hb dL_law_1172 rfl (lv_at hl 0 rfl) ?_
  refine lv_iload_n hx hb dL_law_1173 rfl (lv_at hl 3 rfl) ?_
  refine lv_iconst (v := 1) hx hb dL_law_1174 (by decide) ?_
  refine lv_iadd hx hb dL_law_1175 ?_
  refine va_sld hx hb hX hbl hbA hw.2.2 (hi 1 (by decide)) dL_law_1176 ?_
  refine wlawC (As := [.int (xs (ix (i + 1)))]) (rest := []) X hw (c_X10_still hWC e1) vlL_141 ⟨Nat.le_of_ble_eq_true rfl, Nat.le_of_ble_eq_true rfl⟩ rfl rfl rfl hl.1 (Nat.le_of_ble_eq_true rfl) dL_law_1177 ⟨Nat.le_of_ble_eq_true rfl, Nat.le_of_ble_eq_true rfl⟩ (fun H locs hw => ?_)
  refine lv_aload_n hx hb dL_law_1180 rfl (lv_at hl 2 rfl) ?_
  refine lv_aload_n hx hb dL_law_1181 rfl (lv_at hl 0 rfl) ?_
  refine lv_iload_n hx hb dL_law_1182 rfl (lv_at hl 3 rfl) ?_
  refine lv_iconst (v := 1) hx hb dL_law_1183 (by decide) ?_
  refine lv_iadd hx hb dL_law_1184 ?_
  refine va_sld hx hb hX hbl hbA hw.2.2 (hi 1 (by decide)) dL_law_1185 ?_
  refine wlawR (As := [.int (xs (ix (i + 1)))]) (rest := [.int r]) X hw (c_X11_still hWR e2) vlL_144 ⟨Nat.le_of_ble_eq_true rfl, Nat.le_of_ble_eq_true rfl⟩ rfl rfl rfl hl.1 (Nat.le_of_ble_eq_true rfl) dL_law_1186 ⟨Nat.le_of_ble_eq_true rfl, Nat.le_of_ble_eq_true rfl⟩ (fun H locs hw => ?_)
  refine lv_icmp_eq (tgt := 2654) hx hb dL_law_1189 (by decide) (fun _ => ?_) (fun c1 => absurd rfl c1)
  exact kk Mc' Mr' hrel2 H locs hw
set_option maxRecDepth 100000 in
set_option maxHeartbeats 4000000 in
theorem lawc_32 {p : Program} {l : Launch} {e : Env} {s : State} {m : MethodId} {below : List Frame} {meth : Method} {c : Code} {b L : Nat} {xs : Nat → Int32} {D : va_G} {cA : Nat → ClassId} {adC adR adK : Nat → Nat} {EC : State → Heap → Prop} {Rel : Mem → Mem → Prop} (X : LwX p s m meth c b L xs D cA adC adR adK EC) (ho : Op_32 Rel) {Mc Mr : Mem} {H : Heap} {locs : List Loc} {ls : Array Slot} {i : Int32} (hrel : Rel Mc Mr) (hw : LwS D cA adC adR adK s Mc Mr H locs) (hl : lv_has ls 4 [(0, .ref b), (1, .ref (adC 0)), (2, .ref (adR 0)), (3, .int i)]) (hi : ∀ k : Nat, k < 6 → vp_in (i + Int32.ofNat k) L) (kk : ∀ Mc' Mr', Rel Mc' Mr' → ∀ (H1 : Heap) (locs1 : List Loc), LwS D cA adC adR adK s Mc' Mr' H1 locs1 → W p l e room_1 s m #[Value.ref b] below meth c H1 locs1 600000 7302250 (lw_Z below #[Value.ref b] s) (F0 m 2654 ls [])) : W p l e room_1 s m #[Value.ref b] below meth c H locs 600000 7302250 (lw_Z below #[Value.ref b] s) (F0 m 1194 ls []) := by
  obtain ⟨hx, hb, hml, hown, hts, hX, hbl, hbA, hK, hWC, hWR, hE, hAC, hAR, hdis⟩ := id X
  obtain ⟨r, Mr', e1, e2, hrel2⟩ := ho Mc Mr (xs (ix (i + 1))) hrel
  refine lv_aload_n hx hb dL_law_1194 rfl (lv_at hl 1 rfl) ?_
  refine lv_aload_n hx hb dL_law_1195 rfl (lv_at hl 0 rfl) ?_
  refine lv_iload_n hx hb dL_law_1196 rfl (lv_at hl 3 rfl) ?_
  refine lv_iconst (v := 1) hx hb dL_law_1197 (by decide) ?_
  refine lv_iadd hx hb dL_law_1198 ?_
  refine va_sld hx hb hX hbl hbA hw.2.2 (hi 1 (by decide)) dL_law_1199 ?_
  refine wlawC (As := [.int (xs (ix (i + 1)))]) (rest := []) X hw (c_X10_pairs hWC e1) vlL_145 ⟨Nat.le_of_ble_eq_true rfl, Nat.le_of_ble_eq_true rfl⟩ rfl rfl rfl hl.1 (Nat.le_of_ble_eq_true rfl) dL_law_1200 ⟨Nat.le_of_ble_eq_true rfl, Nat.le_of_ble_eq_true rfl⟩ (fun H locs hw => ?_)
  refine lv_aload_n hx hb dL_law_1203 rfl (lv_at hl 2 rfl) ?_
  refine lv_aload_n hx hb dL_law_1204 rfl (lv_at hl 0 rfl) ?_
  refine lv_iload_n hx hb dL_law_1205 rfl (lv_at hl 3 rfl) ?_
  refine lv_iconst (v := 1) hx hb dL_law_1206 (by decide) ?_
  refine lv_iadd hx hb dL_law_1207 ?_
  refine va_sld hx hb hX hbl hbA hw.2.2 (hi 1 (by decide)) dL_law_1208 ?_
  refine wlawR (As := [.int (xs (ix (i + 1)))]) (rest := [.int r]) X hw (c_X11_pairs hWR e2) vlL_148 ⟨Nat.le_of_ble_eq_true rfl, Nat.le_of_ble_eq_true rfl⟩ rfl rfl rfl hl.1 (Nat.le_of_ble_eq_true rfl) dL_law_1209 ⟨Nat.le_of_ble_eq_true rfl, Nat.le_of_ble_eq_true rfl⟩ (fun H locs hw => ?_)
  refine lv_icmp_eq (tgt := 2654) hx hb dL_law_1212 (by decide) (fun _ => ?_) (fun c1 => absurd rfl c1)
  exact kk Mc Mr' hrel2 H locs hw
set_option maxRecDepth 100000 in
set_option maxHeartbeats 4000000 in
theorem lawc_33 {p : Program} {l : Launch} {e : Env} {s : State} {m : MethodId} {below : List Frame} {meth : Method} {c : Code} {b L : Nat} {xs : Nat → Int32} {D : va_G} {cA : Nat → ClassId} {adC adR adK : Nat → Nat} {EC : State → Heap → Prop} {Rel : Mem → Mem → Prop} (X : LwX p s m meth c b L xs D cA adC adR adK EC) (ho : Op_33 Rel) {Mc Mr : Mem} {H : Heap} {locs : List Loc} {ls : Array Slot} {i : Int32} (hrel : Rel Mc Mr) (hw : LwS D cA adC adR adK s Mc Mr H locs) (hl : lv_has ls 4 [(0, .ref b), (1, .ref (adC 0)), (2, .ref (adR 0)), (3, .int i)]) (hi : ∀ k : Nat, k < 6 → vp_in (i + Int32.ofNat k) L) (kk : ∀ Mc' Mr', Rel Mc' Mr' → ∀ (H1 : Heap) (locs1 : List Loc), LwS D cA adC adR adK s Mc' Mr' H1 locs1 → W p l e room_1 s m #[Value.ref b] below meth c H1 locs1 600000 7302250 (lw_Z below #[Value.ref b] s) (F0 m 2654 ls [])) : W p l e room_1 s m #[Value.ref b] below meth c H locs 600000 7302250 (lw_Z below #[Value.ref b] s) (F0 m 1217 ls []) := by
  obtain ⟨hx, hb, hml, hown, hts, hX, hbl, hbA, hK, hWC, hWR, hE, hAC, hAR, hdis⟩ := id X
  obtain ⟨r, Mr', e1, e2, hrel2⟩ := ho Mc Mr  hrel
  refine lv_aload_n hx hb dL_law_1217 rfl (lv_at hl 1 rfl) ?_
  refine wlawC (As := []) (rest := []) X hw (c_X10_crowd hWC e1) vlL_149 ⟨Nat.le_of_ble_eq_true rfl, Nat.le_of_ble_eq_true rfl⟩ rfl rfl rfl hl.1 (Nat.le_of_ble_eq_true rfl) dL_law_1218 ⟨Nat.le_of_ble_eq_true rfl, Nat.le_of_ble_eq_true rfl⟩ (fun H locs hw => ?_)
  refine lv_aload_n hx hb dL_law_1221 rfl (lv_at hl 2 rfl) ?_
  refine wlawR (As := []) (rest := [.int r]) X hw (c_X11_crowd hWR e2) vlL_152 ⟨Nat.le_of_ble_eq_true rfl, Nat.le_of_ble_eq_true rfl⟩ rfl rfl rfl hl.1 (Nat.le_of_ble_eq_true rfl) dL_law_1222 ⟨Nat.le_of_ble_eq_true rfl, Nat.le_of_ble_eq_true rfl⟩ (fun H locs hw => ?_)
  refine lv_icmp_eq (tgt := 2654) hx hb dL_law_1225 (by decide) (fun _ => ?_) (fun c1 => absurd rfl c1)
  exact kk Mc Mr' hrel2 H locs hw
set_option maxRecDepth 100000 in
set_option maxHeartbeats 4000000 in
theorem lawc_34 {p : Program} {l : Launch} {e : Env} {s : State} {m : MethodId} {below : List Frame} {meth : Method} {c : Code} {b L : Nat} {xs : Nat → Int32} {D : va_G} {cA : Nat → ClassId} {adC adR adK : Nat → Nat} {EC : State → Heap → Prop} {Rel : Mem → Mem → Prop} (X : LwX p s m meth c b L xs D cA adC adR adK EC) (ho : Op_34 Rel) {Mc Mr : Mem} {H : Heap} {locs : List Loc} {ls : Array Slot} {i : Int32} (hrel : Rel Mc Mr) (hw : LwS D cA adC adR adK s Mc Mr H locs) (hl : lv_has ls 4 [(0, .ref b), (1, .ref (adC 0)), (2, .ref (adR 0)), (3, .int i)]) (hi : ∀ k : Nat, k < 6 → vp_in (i + Int32.ofNat k) L) (kk : ∀ Mc' Mr', Rel Mc' Mr' → ∀ (H1 : Heap) (locs1 : List Loc), LwS D cA adC adR adK s Mc' Mr' H1 locs1 → W p l e room_1 s m #[Value.ref b] below meth c H1 locs1 600000 7302250 (lw_Z below #[Value.ref b] s) (F0 m 2654 ls [])) : W p l e room_1 s m #[Value.ref b] below meth c H locs 600000 7302250 (lw_Z below #[Value.ref b] s) (F0 m 1230 ls []) := by
  obtain ⟨hx, hb, hml, hown, hts, hX, hbl, hbA, hK, hWC, hWR, hE, hAC, hAR, hdis⟩ := id X
  obtain ⟨r, Mr', e1, e2, hrel2⟩ := ho Mc Mr (xs (ix (i + 1))) hrel
  refine lv_aload_n hx hb dL_law_1230 rfl (lv_at hl 1 rfl) ?_
  refine lv_aload_n hx hb dL_law_1231 rfl (lv_at hl 0 rfl) ?_
  refine lv_iload_n hx hb dL_law_1232 rfl (lv_at hl 3 rfl) ?_
  refine lv_iconst (v := 1) hx hb dL_law_1233 (by decide) ?_
  refine lv_iadd hx hb dL_law_1234 ?_
  refine va_sld hx hb hX hbl hbA hw.2.2 (hi 1 (by decide)) dL_law_1235 ?_
  refine wlawC (As := [.int (xs (ix (i + 1)))]) (rest := []) X hw (c_X10_oven hWC e1) vlL_153 ⟨Nat.le_of_ble_eq_true rfl, Nat.le_of_ble_eq_true rfl⟩ rfl rfl rfl hl.1 (Nat.le_of_ble_eq_true rfl) dL_law_1236 ⟨Nat.le_of_ble_eq_true rfl, Nat.le_of_ble_eq_true rfl⟩ (fun H locs hw => ?_)
  refine lv_aload_n hx hb dL_law_1239 rfl (lv_at hl 2 rfl) ?_
  refine lv_aload_n hx hb dL_law_1240 rfl (lv_at hl 0 rfl) ?_
  refine lv_iload_n hx hb dL_law_1241 rfl (lv_at hl 3 rfl) ?_
  refine lv_iconst (v := 1) hx hb dL_law_1242 (by decide) ?_
  refine lv_iadd hx hb dL_law_1243 ?_
  refine va_sld hx hb hX hbl hbA hw.2.2 (hi 1 (by decide)) dL_law_1244 ?_
  refine wlawR (As := [.int (xs (ix (i + 1)))]) (rest := [.int r]) X hw (c_X11_oven hWR e2) vlL_156 ⟨Nat.le_of_ble_eq_true rfl, Nat.le_of_ble_eq_true rfl⟩ rfl rfl rfl hl.1 (Nat.le_of_ble_eq_true rfl) dL_law_1245 ⟨Nat.le_of_ble_eq_true rfl, Nat.le_of_ble_eq_true rfl⟩ (fun H locs hw => ?_)
  refine lv_icmp_eq (tgt := 2654) hx hb dL_law_1248 (by decide) (fun _ => ?_) (fun c1 => absurd rfl c1)
  exact kk Mc Mr' hrel2 H locs hw
set_option maxRecDepth 100000 in
set_option maxHeartbeats 4000000 in
theorem lawc_35 {p : Program} {l : Launch} {e : Env} {s : State} {m : MethodId} {below : List Frame} {meth : Method} {c : Code} {b L : Nat} {xs : Nat → Int32} {D : va_G} {cA : Nat → ClassId} {adC adR adK : Nat → Nat} {EC : State → Heap → Prop} {Rel : Mem → Mem → Prop} (X : LwX p s m meth c b L xs D cA adC adR adK EC) (ho : Op_35 Rel) {Mc Mr : Mem} {H : Heap} {locs : List Loc} {ls : Array Slot} {i : Int32} (hrel : Rel Mc Mr) (hw : LwS D cA adC adR adK s Mc Mr H locs) (hl : lv_has ls 4 [(0, .ref b), (1, .ref (adC 0)), (2, .ref (adR 0)), (3, .int i)]) (hi : ∀ k : Nat, k < 6 → vp_in (i + Int32.ofNat k) L) (kk : ∀ Mc' Mr', Rel Mc' Mr' → ∀ (H1 : Heap) (locs1 : List Loc), LwS D cA adC adR adK s Mc' Mr' H1 locs1 → W p l e room_1 s m #[Value.ref b] below meth c H1 locs1 600000 7302250 (lw_Z below #[Value.ref b] s) (F0 m 2654 ls [])) : W p l e room_1 s m #[Value.ref b] below meth c H locs 600000 7302250 (lw_Z below #[Value.ref b] s) (F0 m 1253 ls []) := by
  obtain ⟨hx, hb, hml, hown, hts, hX, hbl, hbA, hK, hWC, hWR, hE, hAC, hAR, hdis⟩ := id X
  obtain ⟨r, Mr', e1, e2, hrel2⟩ := ho Mc Mr (xs (ix (i + 1))) (xs (ix (i + 2))) hrel
  refine lv_aload_n hx hb dL_law_1253 rfl (lv_at hl 1 rfl) ?_
  refine lv_aload_n hx hb dL_law_1254 rfl (lv_at hl 0 rfl) ?_
  refine lv_iload_n hx hb dL_law_1255 rfl (lv_at hl 3 rfl) ?_
  refine lv_iconst (v := 1) hx hb dL_law_1256 (by decide) ?_
  refine lv_iadd hx hb dL_law_1257 ?_
  refine va_sld hx hb hX hbl hbA hw.2.2 (hi 1 (by decide)) dL_law_1258 ?_
  refine lv_aload_n hx hb dL_law_1259 rfl (lv_at hl 0 rfl) ?_
  refine lv_iload_n hx hb dL_law_1260 rfl (lv_at hl 3 rfl) ?_
  refine lv_iconst (v := 2) hx hb dL_law_1261 (by decide) ?_
  refine lv_iadd hx hb dL_law_1262 ?_
  refine va_sld hx hb hX hbl hbA hw.2.2 (hi 2 (by decide)) dL_law_1263 ?_
  refine wlawC (As := [.int (xs (ix (i + 1))), .int (xs (ix (i + 2)))]) (rest := []) X hw (c_X10_fall hWC e1) vlL_157 ⟨Nat.le_of_ble_eq_true rfl, Nat.le_of_ble_eq_true rfl⟩ rfl rfl rfl hl.1 (Nat.le_of_ble_eq_true rfl) dL_law_1264 ⟨Nat.le_of_ble_eq_true rfl, Nat.le_of_ble_eq_true rfl⟩ (fun H locs hw => ?_)
  refine lv_aload_n hx hb dL_law_1267 rfl (lv_at hl 2 rfl) ?_
  refine lv_aload_n hx hb dL_law_1268 rfl (lv_at hl 0 rfl) ?_
  refine lv_iload_n hx hb dL_law_1269 rfl (lv_at hl 3 rfl) ?_
  refine lv_iconst (v := 1) hx hb dL_law_1270 (by decide) ?_
  refine lv_iadd hx hb dL_law_1271 ?_
  refine va_sld hx hb hX hbl hbA hw.2.2 (hi 1 (by decide)) dL_law_1272 ?_
  refine lv_aload_n hx hb dL_law_1273 rfl (lv_at hl 0 rfl) ?_
  refine lv_iload_n hx hb dL_law_1274 rfl (lv_at hl 3 rfl) ?_
  refine lv_iconst (v := 2) hx hb dL_law_1275 (by decide) ?_
  refine lv_iadd hx hb dL_law_1276 ?_
  refine va_sld hx hb hX hbl hbA hw.2.2 (hi 2 (by decide)) dL_law_1277 ?_
  refine wlawR (As := [.int (xs (ix (i + 1))), .int (xs (ix (i + 2)))]) (rest := [.int r]) X hw (c_X11_fall hWR e2) vlL_160 ⟨Nat.le_of_ble_eq_true rfl, Nat.le_of_ble_eq_true rfl⟩ rfl rfl rfl hl.1 (Nat.le_of_ble_eq_true rfl) dL_law_1278 ⟨Nat.le_of_ble_eq_true rfl, Nat.le_of_ble_eq_true rfl⟩ (fun H locs hw => ?_)
  refine lv_icmp_eq (tgt := 2654) hx hb dL_law_1281 (by decide) (fun _ => ?_) (fun c1 => absurd rfl c1)
  exact kk Mc Mr' hrel2 H locs hw
set_option maxRecDepth 100000 in
set_option maxHeartbeats 4000000 in
theorem lawc_36 {p : Program} {l : Launch} {e : Env} {s : State} {m : MethodId} {below : List Frame} {meth : Method} {c : Code} {b L : Nat} {xs : Nat → Int32} {D : va_G} {cA : Nat → ClassId} {adC adR adK : Nat → Nat} {EC : State → Heap → Prop} {Rel : Mem → Mem → Prop} (X : LwX p s m meth c b L xs D cA adC adR adK EC) (ho : Op_36 Rel) {Mc Mr : Mem} {H : Heap} {locs : List Loc} {ls : Array Slot} {i : Int32} (hrel : Rel Mc Mr) (hw : LwS D cA adC adR adK s Mc Mr H locs) (hl : lv_has ls 4 [(0, .ref b), (1, .ref (adC 0)), (2, .ref (adR 0)), (3, .int i)]) (hi : ∀ k : Nat, k < 6 → vp_in (i + Int32.ofNat k) L) (kk : ∀ Mc' Mr', Rel Mc' Mr' → ∀ (H1 : Heap) (locs1 : List Loc), LwS D cA adC adR adK s Mc' Mr' H1 locs1 → W p l e room_1 s m #[Value.ref b] below meth c H1 locs1 600000 7302250 (lw_Z below #[Value.ref b] s) (F0 m 2654 ls [])) : W p l e room_1 s m #[Value.ref b] below meth c H locs 600000 7302250 (lw_Z below #[Value.ref b] s) (F0 m 1286 ls []) := by
  obtain ⟨hx, hb, hml, hown, hts, hX, hbl, hbA, hK, hWC, hWR, hE, hAC, hAR, hdis⟩ := id X
  obtain ⟨r, Mr', e1, e2, hrel2⟩ := ho Mc Mr (xs (ix (i + 1))) hrel
  refine lv_aload_n hx hb dL_law_1286 rfl (lv_at hl 1 rfl) ?_
  refine lv_aload_n hx hb dL_law_1287 rfl (lv_at hl 0 rfl) ?_
  refine lv_iload_n hx hb dL_law_1288 rfl (lv_at hl 3 rfl) ?_
  refine lv_iconst (v := 1) hx hb dL_law_1289 (by decide) ?_
  refine lv_iadd hx hb dL_law_1290 ?_
  refine va_sld hx hb hX hbl hbA hw.2.2 (hi 1 (by decide)) dL_law_1291 ?_
  refine wlawC (As := [.int (xs (ix (i + 1)))]) (rest := []) X hw (c_X10_cliff hWC e1) vlL_161 ⟨Nat.le_of_ble_eq_true rfl, Nat.le_of_ble_eq_true rfl⟩ rfl rfl rfl hl.1 (Nat.le_of_ble_eq_true rfl) dL_law_1292 ⟨Nat.le_of_ble_eq_true rfl, Nat.le_of_ble_eq_true rfl⟩ (fun H locs hw => ?_)
  refine lv_aload_n hx hb dL_law_1295 rfl (lv_at hl 2 rfl) ?_
  refine lv_aload_n hx hb dL_law_1296 rfl (lv_at hl 0 rfl) ?_
  refine lv_iload_n hx hb dL_law_1297 rfl (lv_at hl 3 rfl) ?_
  refine lv_iconst (v := 1) hx hb dL_law_1298 (by decide) ?_
  refine lv_iadd hx hb dL_law_1299 ?_
  refine va_sld hx hb hX hbl hbA hw.2.2 (hi 1 (by decide)) dL_law_1300 ?_
  refine wlawR (As := [.int (xs (ix (i + 1)))]) (rest := [.int r]) X hw (c_X11_cliff hWR e2) vlL_164 ⟨Nat.le_of_ble_eq_true rfl, Nat.le_of_ble_eq_true rfl⟩ rfl rfl rfl hl.1 (Nat.le_of_ble_eq_true rfl) dL_law_1301 ⟨Nat.le_of_ble_eq_true rfl, Nat.le_of_ble_eq_true rfl⟩ (fun H locs hw => ?_)
  refine lv_icmp_eq (tgt := 2654) hx hb dL_law_1304 (by decide) (fun _ => ?_) (fun c1 => absurd rfl c1)
  exact kk Mc Mr' hrel2 H locs hw
set_option maxRecDepth 100000 in
set_option maxHeartbeats 4000000 in
theorem lawc_37 {p : Program} {l : Launch} {e : Env} {s : State} {m : MethodId} {below : List Frame} {meth : Method} {c : Code} {b L : Nat} {xs : Nat → Int32} {D : va_G} {cA : Nat → ClassId} {adC adR adK : Nat → Nat} {EC : State → Heap → Prop} {Rel : Mem → Mem → Prop} (X : LwX p s m meth c b L xs D cA adC adR adK EC) (ho : Op_37 Rel) {Mc Mr : Mem} {H : Heap} {locs : List Loc} {ls : Array Slot} {i : Int32} (hrel : Rel Mc Mr) (hw : LwS D cA adC adR adK s Mc Mr H locs) (hl : lv_has ls 4 [(0, .ref b), (1, .ref (adC 0)), (2, .ref (adR 0)), (3, .int i)]) (hi : ∀ k : Nat, k < 6 → vp_in (i + Int32.ofNat k) L) (kk : ∀ Mc' Mr', Rel Mc' Mr' → ∀ (H1 : Heap) (locs1 : List Loc), LwS D cA adC adR adK s Mc' Mr' H1 locs1 → W p l e room_1 s m #[Value.ref b] below meth c H1 locs1 600000 7302250 (lw_Z below #[Value.ref b] s) (F0 m 2654 ls [])) : W p l e room_1 s m #[Value.ref b] below meth c H locs 600000 7302250 (lw_Z below #[Value.ref b] s) (F0 m 1309 ls []) := by
  obtain ⟨hx, hb, hml, hown, hts, hX, hbl, hbA, hK, hWC, hWR, hE, hAC, hAR, hdis⟩ := id X
  obtain ⟨r, Mc', Mr', e1, e2, hrel2⟩ := ho Mc Mr (xs (ix (i + 1))) hrel
  refine lv_aload_n hx hb dL_law_1309 rfl (lv_at hl 1 rfl) ?_
  refine lv_aload_n hx hb dL_law_1310 rfl (lv_at hl 0 rfl) ?_
  refine lv_iload_n hx hb dL_law_1311 rfl (lv_at hl 3 rfl) ?_
  refine lv_iconst (v := 1) hx hb dL_law_1312 (by decide) ?_
  refine lv_iadd hx hb dL_law_1313 ?_
  refine va_sld hx hb hX hbl hbA hw.2.2 (hi 1 (by decide)) dL_law_1314 ?_
  refine wlawC (As := [.int (xs (ix (i + 1)))]) (rest := []) X hw (c_X10_least hWC e1) vlL_165 ⟨Nat.le_of_ble_eq_true rfl, Nat.le_of_ble_eq_true rfl⟩ rfl rfl rfl hl.1 (Nat.le_of_ble_eq_true rfl) dL_law_1315 ⟨Nat.le_of_ble_eq_true rfl, Nat.le_of_ble_eq_true rfl⟩ (fun H locs hw => ?_)
  refine lv_aload_n hx hb dL_law_1318 rfl (lv_at hl 2 rfl) ?_
  refine lv_aload_n hx hb dL_law_1319 rfl (lv_at hl 0 rfl) ?_
  refine lv_iload_n hx hb dL_law_1320 rfl (lv_at hl 3 rfl) ?_
  refine lv_iconst (v := 1) hx hb dL_law_1321 (by decide) ?_
  refine lv_iadd hx hb dL_law_1322 ?_
  refine va_sld hx hb hX hbl hbA hw.2.2 (hi 1 (by decide)) dL_law_1323 ?_
  refine wlawR (As := [.int (xs (ix (i + 1)))]) (rest := [.int r]) X hw (c_X11_least hWR e2) vlL_168 ⟨Nat.le_of_ble_eq_true rfl, Nat.le_of_ble_eq_true rfl⟩ rfl rfl rfl hl.1 (Nat.le_of_ble_eq_true rfl) dL_law_1324 ⟨Nat.le_of_ble_eq_true rfl, Nat.le_of_ble_eq_true rfl⟩ (fun H locs hw => ?_)
  refine lv_icmp_eq (tgt := 2654) hx hb dL_law_1327 (by decide) (fun _ => ?_) (fun c1 => absurd rfl c1)
  exact kk Mc' Mr' hrel2 H locs hw
set_option maxRecDepth 100000 in
set_option maxHeartbeats 4000000 in
theorem lawc_38 {p : Program} {l : Launch} {e : Env} {s : State} {m : MethodId} {below : List Frame} {meth : Method} {c : Code} {b L : Nat} {xs : Nat → Int32} {D : va_G} {cA : Nat → ClassId} {adC adR adK : Nat → Nat} {EC : State → Heap → Prop} {Rel : Mem → Mem → Prop} (X : LwX p s m meth c b L xs D cA adC adR adK EC) (ho : Op_38 Rel) {Mc Mr : Mem} {H : Heap} {locs : List Loc} {ls : Array Slot} {i : Int32} (hrel : Rel Mc Mr) (hw : LwS D cA adC adR adK s Mc Mr H locs) (hl : lv_has ls 4 [(0, .ref b), (1, .ref (adC 0)), (2, .ref (adR 0)), (3, .int i)]) (hi : ∀ k : Nat, k < 6 → vp_in (i + Int32.ofNat k) L) (kk : ∀ Mc' Mr', Rel Mc' Mr' → ∀ (H1 : Heap) (locs1 : List Loc), LwS D cA adC adR adK s Mc' Mr' H1 locs1 → W p l e room_1 s m #[Value.ref b] below meth c H1 locs1 600000 7302250 (lw_Z below #[Value.ref b] s) (F0 m 2654 ls [])) : W p l e room_1 s m #[Value.ref b] below meth c H locs 600000 7302250 (lw_Z below #[Value.ref b] s) (F0 m 1332 ls []) := by
  obtain ⟨hx, hb, hml, hown, hts, hX, hbl, hbA, hK, hWC, hWR, hE, hAC, hAR, hdis⟩ := id X
  obtain ⟨r, Mc', Mr', e1, e2, hrel2⟩ := ho Mc Mr (xs (ix (i + 1))) hrel
  refine lv_aload_n hx hb dL_law_1332 rfl (lv_at hl 1 rfl) ?_
  refine lv_aload_n hx hb dL_law_1333 rfl (lv_at hl 0 rfl) ?_
  refine lv_iload_n hx hb dL_law_1334 rfl (lv_at hl 3 rfl) ?_
  refine lv_iconst (v := 1) hx hb dL_law_1335 (by decide) ?_
  refine lv_iadd hx hb dL_law_1336 ?_
  refine va_sld hx hb hX hbl hbA hw.2.2 (hi 1 (by decide)) dL_law_1337 ?_
  refine wlawC (As := [.int (xs (ix (i + 1)))]) (rest := []) X hw (c_X10_chill hWC e1) vlL_169 ⟨Nat.le_of_ble_eq_true rfl, Nat.le_of_ble_eq_true rfl⟩ rfl rfl rfl hl.1 (Nat.le_of_ble_eq_true rfl) dL_law_1338 ⟨Nat.le_of_ble_eq_true rfl, Nat.le_of_ble_eq_true rfl⟩ (fun H locs hw => ?_)
  refine lv_aload_n hx hb dL_law_1341 rfl (lv_at hl 2 rfl) ?_
  refine lv_aload_n hx hb dL_law_1342 rfl (lv_at hl 0 rfl) ?_
  refine lv_iload_n hx hb dL_law_1343 rfl (lv_at hl 3 rfl) ?_
  refine lv_iconst (v := 1) hx hb dL_law_1344 (by decide) ?_
  refine lv_iadd hx hb dL_law_1345 ?_
  refine va_sld hx hb hX hbl hbA hw.2.2 (hi 1 (by decide)) dL_law_1346 ?_
  refine wlawR (As := [.int (xs (ix (i + 1)))]) (rest := [.int r]) X hw (c_X11_chill hWR e2) vlL_172 ⟨Nat.le_of_ble_eq_true rfl, Nat.le_of_ble_eq_true rfl⟩ rfl rfl rfl hl.1 (Nat.le_of_ble_eq_true rfl) dL_law_1347 ⟨Nat.le_of_ble_eq_true rfl, Nat.le_of_ble_eq_true rfl⟩ (fun H locs hw => ?_)
  refine lv_icmp_eq (tgt := 2654) hx hb dL_law_1350 (by decide) (fun _ => ?_) (fun c1 => absurd rfl c1)
  exact kk Mc' Mr' hrel2 H locs hw
set_option maxRecDepth 100000 in
set_option maxHeartbeats 4000000 in
theorem lawc_39 {p : Program} {l : Launch} {e : Env} {s : State} {m : MethodId} {below : List Frame} {meth : Method} {c : Code} {b L : Nat} {xs : Nat → Int32} {D : va_G} {cA : Nat → ClassId} {adC adR adK : Nat → Nat} {EC : State → Heap → Prop} {Rel : Mem → Mem → Prop} (X : LwX p s m meth c b L xs D cA adC adR adK EC) (ho : Op_39 Rel) {Mc Mr : Mem} {H : Heap} {locs : List Loc} {ls : Array Slot} {i : Int32} (hrel : Rel Mc Mr) (hw : LwS D cA adC adR adK s Mc Mr H locs) (hl : lv_has ls 4 [(0, .ref b), (1, .ref (adC 0)), (2, .ref (adR 0)), (3, .int i)]) (hi : ∀ k : Nat, k < 6 → vp_in (i + Int32.ofNat k) L) (kk : ∀ Mc' Mr', Rel Mc' Mr' → ∀ (H1 : Heap) (locs1 : List Loc), LwS D cA adC adR adK s Mc' Mr' H1 locs1 → W p l e room_1 s m #[Value.ref b] below meth c H1 locs1 600000 7302250 (lw_Z below #[Value.ref b] s) (F0 m 2654 ls [])) : W p l e room_1 s m #[Value.ref b] below meth c H locs 600000 7302250 (lw_Z below #[Value.ref b] s) (F0 m 1355 ls []) := by
  obtain ⟨hx, hb, hml, hown, hts, hX, hbl, hbA, hK, hWC, hWR, hE, hAC, hAR, hdis⟩ := id X
  obtain ⟨r, Mc', Mr', e1, e2, hrel2⟩ := ho Mc Mr (xs (ix (i + 1))) (xs (ix (i + 2))) hrel
  refine lv_aload_n hx hb dL_law_1355 rfl (lv_at hl 1 rfl) ?_
  refine lv_aload_n hx hb dL_law_1356 rfl (lv_at hl 0 rfl) ?_
  refine lv_iload_n hx hb dL_law_1357 rfl (lv_at hl 3 rfl) ?_
  refine lv_iconst (v := 1) hx hb dL_law_1358 (by decide) ?_
  refine lv_iadd hx hb dL_law_1359 ?_
  refine va_sld hx hb hX hbl hbA hw.2.2 (hi 1 (by decide)) dL_law_1360 ?_
  refine lv_aload_n hx hb dL_law_1361 rfl (lv_at hl 0 rfl) ?_
  refine lv_iload_n hx hb dL_law_1362 rfl (lv_at hl 3 rfl) ?_
  refine lv_iconst (v := 2) hx hb dL_law_1363 (by decide) ?_
  refine lv_iadd hx hb dL_law_1364 ?_
  refine va_sld hx hb hX hbl hbA hw.2.2 (hi 2 (by decide)) dL_law_1365 ?_
  refine wlawC (As := [.int (xs (ix (i + 1))), .int (xs (ix (i + 2)))]) (rest := []) X hw (c_X10_drop hWC e1) vlL_173 ⟨Nat.le_of_ble_eq_true rfl, Nat.le_of_ble_eq_true rfl⟩ rfl rfl rfl hl.1 (Nat.le_of_ble_eq_true rfl) dL_law_1366 ⟨Nat.le_of_ble_eq_true rfl, Nat.le_of_ble_eq_true rfl⟩ (fun H locs hw => ?_)
  refine lv_aload_n hx hb dL_law_1369 rfl (lv_at hl 2 rfl) ?_
  refine lv_aload_n hx hb dL_law_1370 rfl (lv_at hl 0 rfl) ?_
  refine lv_iload_n hx hb dL_law_1371 rfl (lv_at hl 3 rfl) ?_
  refine lv_iconst (v := 1) hx hb dL_law_1372 (by decide) ?_
  refine lv_iadd hx hb dL_law_1373 ?_
  refine va_sld hx hb hX hbl hbA hw.2.2 (hi 1 (by decide)) dL_law_1374 ?_
  refine lv_aload_n hx hb dL_law_1375 rfl (lv_at hl 0 rfl) ?_
  refine lv_iload_n hx hb dL_law_1376 rfl (lv_at hl 3 rfl) ?_
  refine lv_iconst (v := 2) hx hb dL_law_1377 (by decide) ?_
  refine lv_iadd hx hb dL_law_1378 ?_
  refine va_sld hx hb hX hbl hbA hw.2.2 (hi 2 (by decide)) dL_law_1379 ?_
  refine wlawR (As := [.int (xs (ix (i + 1))), .int (xs (ix (i + 2)))]) (rest := [.int r]) X hw (c_X11_drop hWR e2) vlL_176 ⟨Nat.le_of_ble_eq_true rfl, Nat.le_of_ble_eq_true rfl⟩ rfl rfl rfl hl.1 (Nat.le_of_ble_eq_true rfl) dL_law_1380 ⟨Nat.le_of_ble_eq_true rfl, Nat.le_of_ble_eq_true rfl⟩ (fun H locs hw => ?_)
  refine lv_icmp_eq (tgt := 2654) hx hb dL_law_1383 (by decide) (fun _ => ?_) (fun c1 => absurd rfl c1)
  exact kk Mc' Mr' hrel2 H locs hw
set_option maxRecDepth 100000 in
set_option maxHeartbeats 4000000 in
theorem lawc_40 {p : Program} {l : Launch} {e : Env} {s : State} {m : MethodId} {below : List Frame} {meth : Method} {c : Code} {b L : Nat} {xs : Nat → Int32} {D : va_G} {cA : Nat → ClassId} {adC adR adK : Nat → Nat} {EC : State → Heap → Prop} {Rel : Mem → Mem → Prop} (X : LwX p s m meth c b L xs D cA adC adR adK EC) (ho : Op_40 Rel) {Mc Mr : Mem} {H : Heap} {locs : List Loc} {ls : Array Slot} {i : Int32} (hrel : Rel Mc Mr) (hw : LwS D cA adC adR adK s Mc Mr H locs) (hl : lv_has ls 4 [(0, .ref b), (1, .ref (adC 0)), (2, .ref (adR 0)), (3, .int i)]) (hi : ∀ k : Nat, k < 6 → vp_in (i + Int32.ofNat k) L) (kk : ∀ Mc' Mr', Rel Mc' Mr' → ∀ (H1 : Heap) (locs1 : List Loc), LwS D cA adC adR adK s Mc' Mr' H1 locs1 → W p l e room_1 s m #[Value.ref b] below meth c H1 locs1 600000 7302250 (lw_Z below #[Value.ref b] s) (F0 m 2654 ls [])) : W p l e room_1 s m #[Value.ref b] below meth c H locs 600000 7302250 (lw_Z below #[Value.ref b] s) (F0 m 1388 ls []) := by
  obtain ⟨hx, hb, hml, hown, hts, hX, hbl, hbA, hK, hWC, hWR, hE, hAC, hAR, hdis⟩ := id X
  obtain ⟨r, Mc', Mr', e1, e2, hrel2⟩ := ho Mc Mr (xs (ix (i + 1))) hrel
  refine lv_aload_n hx hb dL_law_1388 rfl (lv_at hl 1 rfl) ?_
  refine lv_aload_n hx hb dL_law_1389 rfl (lv_at hl 0 rfl) ?_
  refine lv_iload_n hx hb dL_law_1390 rfl (lv_at hl 3 rfl) ?_
  refine lv_iconst (v := 1) hx hb dL_law_1391 (by decide) ?_
  refine lv_iadd hx hb dL_law_1392 ?_
  refine va_sld hx hb hX hbl hbA hw.2.2 (hi 1 (by decide)) dL_law_1393 ?_
  refine wlawC (As := [.int (xs (ix (i + 1)))]) (rest := []) X hw (c_X10_gaps hWC e1) vlL_177 ⟨Nat.le_of_ble_eq_true rfl, Nat.le_of_ble_eq_true rfl⟩ rfl rfl rfl hl.1 (Nat.le_of_ble_eq_true rfl) dL_law_1394 ⟨Nat.le_of_ble_eq_true rfl, Nat.le_of_ble_eq_true rfl⟩ (fun H locs hw => ?_)
  refine lv_aload_n hx hb dL_law_1397 rfl (lv_at hl 2 rfl) ?_
  refine lv_aload_n hx hb dL_law_1398 rfl (lv_at hl 0 rfl) ?_
  refine lv_iload_n hx hb dL_law_1399 rfl (lv_at hl 3 rfl) ?_
  refine lv_iconst (v := 1) hx hb dL_law_1400 (by decide) ?_
  refine lv_iadd hx hb dL_law_1401 ?_
  refine va_sld hx hb hX hbl hbA hw.2.2 (hi 1 (by decide)) dL_law_1402 ?_
  refine wlawR (As := [.int (xs (ix (i + 1)))]) (rest := [.int r]) X hw (c_X11_gaps hWR e2) vlL_180 ⟨Nat.le_of_ble_eq_true rfl, Nat.le_of_ble_eq_true rfl⟩ rfl rfl rfl hl.1 (Nat.le_of_ble_eq_true rfl) dL_law_1403 ⟨Nat.le_of_ble_eq_true rfl, Nat.le_of_ble_eq_true rfl⟩ (fun H locs hw => ?_)
  refine lv_icmp_eq (tgt := 2654) hx hb dL_law_1406 (by decide) (fun _ => ?_) (fun c1 => absurd rfl c1)
  exact kk Mc' Mr' hrel2 H locs hw
set_option maxRecDepth 100000 in
set_option maxHeartbeats 4000000 in
theorem lawc_41 {p : Program} {l : Launch} {e : Env} {s : State} {m : MethodId} {below : List Frame} {meth : Method} {c : Code} {b L : Nat} {xs : Nat → Int32} {D : va_G} {cA : Nat → ClassId} {adC adR adK : Nat → Nat} {EC : State → Heap → Prop} {Rel : Mem → Mem → Prop} (X : LwX p s m meth c b L xs D cA adC adR adK EC) (ho : Op_41 Rel) {Mc Mr : Mem} {H : Heap} {locs : List Loc} {ls : Array Slot} {i : Int32} (hrel : Rel Mc Mr) (hw : LwS D cA adC adR adK s Mc Mr H locs) (hl : lv_has ls 4 [(0, .ref b), (1, .ref (adC 0)), (2, .ref (adR 0)), (3, .int i)]) (hi : ∀ k : Nat, k < 6 → vp_in (i + Int32.ofNat k) L) (kk : ∀ Mc' Mr', Rel Mc' Mr' → ∀ (H1 : Heap) (locs1 : List Loc), LwS D cA adC adR adK s Mc' Mr' H1 locs1 → W p l e room_1 s m #[Value.ref b] below meth c H1 locs1 600000 7302250 (lw_Z below #[Value.ref b] s) (F0 m 2654 ls [])) : W p l e room_1 s m #[Value.ref b] below meth c H locs 600000 7302250 (lw_Z below #[Value.ref b] s) (F0 m 1411 ls []) := by
  obtain ⟨hx, hb, hml, hown, hts, hX, hbl, hbA, hK, hWC, hWR, hE, hAC, hAR, hdis⟩ := id X
  obtain ⟨r, Mc', Mr', e1, e2, hrel2⟩ := ho Mc Mr (xs (ix (i + 1))) hrel
  refine lv_aload_n hx hb dL_law_1411 rfl (lv_at hl 1 rfl) ?_
  refine lv_aload_n hx hb dL_law_1412 rfl (lv_at hl 0 rfl) ?_
  refine lv_iload_n hx hb dL_law_1413 rfl (lv_at hl 3 rfl) ?_
  refine lv_iconst (v := 1) hx hb dL_law_1414 (by decide) ?_
  refine lv_iadd hx hb dL_law_1415 ?_
  refine va_sld hx hb hX hbl hbA hw.2.2 (hi 1 (by decide)) dL_law_1416 ?_
  refine wlawC (As := [.int (xs (ix (i + 1)))]) (rest := []) X hw (c_X10_spread hWC e1) vlL_181 ⟨Nat.le_of_ble_eq_true rfl, Nat.le_of_ble_eq_true rfl⟩ rfl rfl rfl hl.1 (Nat.le_of_ble_eq_true rfl) dL_law_1417 ⟨Nat.le_of_ble_eq_true rfl, Nat.le_of_ble_eq_true rfl⟩ (fun H locs hw => ?_)
  refine lv_aload_n hx hb dL_law_1420 rfl (lv_at hl 2 rfl) ?_
  refine lv_aload_n hx hb dL_law_1421 rfl (lv_at hl 0 rfl) ?_
  refine lv_iload_n hx hb dL_law_1422 rfl (lv_at hl 3 rfl) ?_
  refine lv_iconst (v := 1) hx hb dL_law_1423 (by decide) ?_
  refine lv_iadd hx hb dL_law_1424 ?_
  refine va_sld hx hb hX hbl hbA hw.2.2 (hi 1 (by decide)) dL_law_1425 ?_
  refine wlawR (As := [.int (xs (ix (i + 1)))]) (rest := [.int r]) X hw (c_X11_spread hWR e2) vlL_184 ⟨Nat.le_of_ble_eq_true rfl, Nat.le_of_ble_eq_true rfl⟩ rfl rfl rfl hl.1 (Nat.le_of_ble_eq_true rfl) dL_law_1426 ⟨Nat.le_of_ble_eq_true rfl, Nat.le_of_ble_eq_true rfl⟩ (fun H locs hw => ?_)
  refine lv_icmp_eq (tgt := 2654) hx hb dL_law_1429 (by decide) (fun _ => ?_) (fun c1 => absurd rfl c1)
  exact kk Mc' Mr' hrel2 H locs hw
