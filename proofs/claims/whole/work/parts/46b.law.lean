set_option maxRecDepth 100000 in
set_option maxHeartbeats 4000000 in
theorem lawc_42 {p : Program} {l : Launch} {e : Env} {s : State} {m : MethodId} {below : List Frame} {meth : Method} {c : Code} {b L : Nat} {xs : Nat → Int32} {D : va_G} {cA : Nat → ClassId} {adC adR adK : Nat → Nat} {EC : State → Heap → Prop} {Rel : Mem → Mem → Prop} (X : LwX p s m meth c b L xs D cA adC adR adK EC) (ho : Op_42 Rel) {Mc Mr : Mem} {H : Heap} {locs : List Loc} {ls : Array Slot} {i : Int32} (hrel : Rel Mc Mr) (hw : LwS D cA adC adR adK s Mc Mr H locs) (hl : lv_has ls 4 [(0, .ref b), (1, .ref (adC 0)), (2, .ref (adR 0)), (3, .int i)]) (hi : ∀ k : Nat, k < 6 → vp_in (i + Int32.ofNat k) L) (kk : ∀ Mc' Mr', Rel Mc' Mr' → ∀ (H1 : Heap) (locs1 : List Loc), LwS D cA adC adR adK s Mc' Mr' H1 locs1 → W p l e room_1 s m #[Value.ref b] below meth c H1 locs1 600000 7302250 (lw_Z below #[Value.ref b] s) (F0 m 2654 ls [])) : W p l e room_1 s m #[Value.ref b] below meth c H locs 600000 7302250 (lw_Z below #[Value.ref b] s) (F0 m 1434 ls []) := by
  obtain ⟨hx, hb, hml, hown, hts, hX, hbl, hbA, hK, hWC, hWR, hE, hAC, hAR, hdis⟩ := id X
  obtain ⟨r, Mr', e1, e2, hrel2⟩ := ho Mc Mr (xs (ix (i + 1))) hrel
  refine lv_aload_n hx hb dL_law_1434 rfl (lv_at hl 1 rfl) ?_
  refine lv_aload_n hx hb dL_law_1435 rfl (lv_at hl 0 rfl) ?_
  refine lv_iload_n hx hb dL_law_1436 rfl (lv_at hl 3 rfl) ?_
  refine lv_iconst (v := 1) hx hb dL_law_1437 (by decide) ?_
  refine lv_iadd hx hb dL_law_1438 ?_
  refine va_sld hx hb hX hbl hbA hw.2.2 (hi 1 (by decide)) dL_law_1439 ?_
  refine wlawC (As := [.int (xs (ix (i + 1)))]) (rest := []) X hw (c_X10_coming hWC e1) vlL_185 ⟨Nat.le_of_ble_eq_true rfl, Nat.le_of_ble_eq_true rfl⟩ rfl rfl rfl hl.1 (Nat.le_of_ble_eq_true rfl) dL_law_1440 ⟨Nat.le_of_ble_eq_true rfl, Nat.le_of_ble_eq_true rfl⟩ (fun H locs hw => ?_)
  refine lv_aload_n hx hb dL_law_1443 rfl (lv_at hl 2 rfl) ?_
  refine lv_aload_n hx hb dL_law_1444 rfl (lv_at hl 0 rfl) ?_
  refine lv_iload_n hx hb dL_law_1445 rfl (lv_at hl 3 rfl) ?_
  refine lv_iconst (v := 1) hx hb dL_law_1446 (by decide) ?_
  refine lv_iadd hx hb dL_law_1447 ?_
  refine va_sld hx hb hX hbl hbA hw.2.2 (hi 1 (by decide)) dL_law_1448 ?_
  refine wlawR (As := [.int (xs (ix (i + 1)))]) (rest := [.int r]) X hw (c_X11_coming hWR e2) vlL_188 ⟨Nat.le_of_ble_eq_true rfl, Nat.le_of_ble_eq_true rfl⟩ rfl rfl rfl hl.1 (Nat.le_of_ble_eq_true rfl) dL_law_1449 ⟨Nat.le_of_ble_eq_true rfl, Nat.le_of_ble_eq_true rfl⟩ (fun H locs hw => ?_)
  refine lv_icmp_eq (tgt := 2654) hx hb dL_law_1452 (by decide) (fun _ => ?_) (fun c1 => absurd rfl c1)
  exact kk Mc Mr' hrel2 H locs hw
set_option maxRecDepth 100000 in
set_option maxHeartbeats 4000000 in
theorem lawc_43 {p : Program} {l : Launch} {e : Env} {s : State} {m : MethodId} {below : List Frame} {meth : Method} {c : Code} {b L : Nat} {xs : Nat → Int32} {D : va_G} {cA : Nat → ClassId} {adC adR adK : Nat → Nat} {EC : State → Heap → Prop} {Rel : Mem → Mem → Prop} (X : LwX p s m meth c b L xs D cA adC adR adK EC) (ho : Op_43 Rel) {Mc Mr : Mem} {H : Heap} {locs : List Loc} {ls : Array Slot} {i : Int32} (hrel : Rel Mc Mr) (hw : LwS D cA adC adR adK s Mc Mr H locs) (hl : lv_has ls 4 [(0, .ref b), (1, .ref (adC 0)), (2, .ref (adR 0)), (3, .int i)]) (hi : ∀ k : Nat, k < 6 → vp_in (i + Int32.ofNat k) L) (kk : ∀ Mc' Mr', Rel Mc' Mr' → ∀ (H1 : Heap) (locs1 : List Loc), LwS D cA adC adR adK s Mc' Mr' H1 locs1 → W p l e room_1 s m #[Value.ref b] below meth c H1 locs1 600000 7302250 (lw_Z below #[Value.ref b] s) (F0 m 2654 ls [])) : W p l e room_1 s m #[Value.ref b] below meth c H locs 600000 7302250 (lw_Z below #[Value.ref b] s) (F0 m 1457 ls []) := by
  obtain ⟨hx, hb, hml, hown, hts, hX, hbl, hbA, hK, hWC, hWR, hE, hAC, hAR, hdis⟩ := id X
  obtain ⟨r, Mc', Mr', e1, e2, hrel2⟩ := ho Mc Mr (xs (ix (i + 1))) hrel
  refine lv_aload_n hx hb dL_law_1457 rfl (lv_at hl 1 rfl) ?_
  refine lv_aload_n hx hb dL_law_1458 rfl (lv_at hl 0 rfl) ?_
  refine lv_iload_n hx hb dL_law_1459 rfl (lv_at hl 3 rfl) ?_
  refine lv_iconst (v := 1) hx hb dL_law_1460 (by decide) ?_
  refine lv_iadd hx hb dL_law_1461 ?_
  refine va_sld hx hb hX hbl hbA hw.2.2 (hi 1 (by decide)) dL_law_1462 ?_
  refine wlawC (As := [.int (xs (ix (i + 1)))]) (rest := []) X hw (c_X10_cracked hWC e1) vlL_189 ⟨Nat.le_of_ble_eq_true rfl, Nat.le_of_ble_eq_true rfl⟩ rfl rfl rfl hl.1 (Nat.le_of_ble_eq_true rfl) dL_law_1463 ⟨Nat.le_of_ble_eq_true rfl, Nat.le_of_ble_eq_true rfl⟩ (fun H locs hw => ?_)
  refine lv_aload_n hx hb dL_law_1466 rfl (lv_at hl 2 rfl) ?_
  refine lv_aload_n hx hb dL_law_1467 rfl (lv_at hl 0 rfl) ?_
  refine lv_iload_n hx hb dL_law_1468 rfl (lv_at hl 3 rfl) ?_
  refine lv_iconst (v := 1) hx hb dL_law_1469 (by decide) ?_
  refine lv_iadd hx hb dL_law_1470 ?_
  refine va_sld hx hb hX hbl hbA hw.2.2 (hi 1 (by decide)) dL_law_1471 ?_
  refine wlawR (As := [.int (xs (ix (i + 1)))]) (rest := [.int r]) X hw (c_X11_cracked hWR e2) vlL_192 ⟨Nat.le_of_ble_eq_true rfl, Nat.le_of_ble_eq_true rfl⟩ rfl rfl rfl hl.1 (Nat.le_of_ble_eq_true rfl) dL_law_1472 ⟨Nat.le_of_ble_eq_true rfl, Nat.le_of_ble_eq_true rfl⟩ (fun H locs hw => ?_)
  refine lv_icmp_eq (tgt := 2654) hx hb dL_law_1475 (by decide) (fun _ => ?_) (fun c1 => absurd rfl c1)
  exact kk Mc' Mr' hrel2 H locs hw
set_option maxRecDepth 100000 in
set_option maxHeartbeats 4000000 in
theorem lawc_44 {p : Program} {l : Launch} {e : Env} {s : State} {m : MethodId} {below : List Frame} {meth : Method} {c : Code} {b L : Nat} {xs : Nat → Int32} {D : va_G} {cA : Nat → ClassId} {adC adR adK : Nat → Nat} {EC : State → Heap → Prop} {Rel : Mem → Mem → Prop} (X : LwX p s m meth c b L xs D cA adC adR adK EC) (ho : Op_44 Rel) {Mc Mr : Mem} {H : Heap} {locs : List Loc} {ls : Array Slot} {i : Int32} (hrel : Rel Mc Mr) (hw : LwS D cA adC adR adK s Mc Mr H locs) (hl : lv_has ls 4 [(0, .ref b), (1, .ref (adC 0)), (2, .ref (adR 0)), (3, .int i)]) (hi : ∀ k : Nat, k < 6 → vp_in (i + Int32.ofNat k) L) (kk : ∀ Mc' Mr', Rel Mc' Mr' → ∀ (H1 : Heap) (locs1 : List Loc), LwS D cA adC adR adK s Mc' Mr' H1 locs1 → W p l e room_1 s m #[Value.ref b] below meth c H1 locs1 600000 7302250 (lw_Z below #[Value.ref b] s) (F0 m 2654 ls [])) : W p l e room_1 s m #[Value.ref b] below meth c H locs 600000 7302250 (lw_Z below #[Value.ref b] s) (F0 m 1480 ls []) := by
  obtain ⟨hx, hb, hml, hown, hts, hX, hbl, hbA, hK, hWC, hWR, hE, hAC, hAR, hdis⟩ := id X
  obtain ⟨r, Mc', Mr', e1, e2, hrel2⟩ := ho Mc Mr (xs (ix (i + 1))) hrel
  refine lv_aload_n hx hb dL_law_1480 rfl (lv_at hl 1 rfl) ?_
  refine lv_aload_n hx hb dL_law_1481 rfl (lv_at hl 0 rfl) ?_
  refine lv_iload_n hx hb dL_law_1482 rfl (lv_at hl 3 rfl) ?_
  refine lv_iconst (v := 1) hx hb dL_law_1483 (by decide) ?_
  refine lv_iadd hx hb dL_law_1484 ?_
  refine va_sld hx hb hX hbl hbA hw.2.2 (hi 1 (by decide)) dL_law_1485 ?_
  refine wlawC (As := [.int (xs (ix (i + 1)))]) (rest := []) X hw (c_X10_kernel hWC e1) vlL_193 ⟨Nat.le_of_ble_eq_true rfl, Nat.le_of_ble_eq_true rfl⟩ rfl rfl rfl hl.1 (Nat.le_of_ble_eq_true rfl) dL_law_1486 ⟨Nat.le_of_ble_eq_true rfl, Nat.le_of_ble_eq_true rfl⟩ (fun H locs hw => ?_)
  refine lv_aload_n hx hb dL_law_1489 rfl (lv_at hl 2 rfl) ?_
  refine lv_aload_n hx hb dL_law_1490 rfl (lv_at hl 0 rfl) ?_
  refine lv_iload_n hx hb dL_law_1491 rfl (lv_at hl 3 rfl) ?_
  refine lv_iconst (v := 1) hx hb dL_law_1492 (by decide) ?_
  refine lv_iadd hx hb dL_law_1493 ?_
  refine va_sld hx hb hX hbl hbA hw.2.2 (hi 1 (by decide)) dL_law_1494 ?_
  refine wlawR (As := [.int (xs (ix (i + 1)))]) (rest := [.int r]) X hw (c_X11_kernel hWR e2) vlL_196 ⟨Nat.le_of_ble_eq_true rfl, Nat.le_of_ble_eq_true rfl⟩ rfl rfl rfl hl.1 (Nat.le_of_ble_eq_true rfl) dL_law_1495 ⟨Nat.le_of_ble_eq_true rfl, Nat.le_of_ble_eq_true rfl⟩ (fun H locs hw => ?_)
  refine lv_icmp_eq (tgt := 2654) hx hb dL_law_1498 (by decide) (fun _ => ?_) (fun c1 => absurd rfl c1)
  exact kk Mc' Mr' hrel2 H locs hw
set_option maxRecDepth 100000 in
set_option maxHeartbeats 4000000 in
theorem lawc_45 {p : Program} {l : Launch} {e : Env} {s : State} {m : MethodId} {below : List Frame} {meth : Method} {c : Code} {b L : Nat} {xs : Nat → Int32} {D : va_G} {cA : Nat → ClassId} {adC adR adK : Nat → Nat} {EC : State → Heap → Prop} {Rel : Mem → Mem → Prop} (X : LwX p s m meth c b L xs D cA adC adR adK EC) (ho : Op_45 Rel) {Mc Mr : Mem} {H : Heap} {locs : List Loc} {ls : Array Slot} {i : Int32} (hrel : Rel Mc Mr) (hw : LwS D cA adC adR adK s Mc Mr H locs) (hl : lv_has ls 4 [(0, .ref b), (1, .ref (adC 0)), (2, .ref (adR 0)), (3, .int i)]) (hi : ∀ k : Nat, k < 6 → vp_in (i + Int32.ofNat k) L) (kk : ∀ Mc' Mr', Rel Mc' Mr' → ∀ (H1 : Heap) (locs1 : List Loc), LwS D cA adC adR adK s Mc' Mr' H1 locs1 → W p l e room_1 s m #[Value.ref b] below meth c H1 locs1 600000 7302250 (lw_Z below #[Value.ref b] s) (F0 m 2654 ls [])) : W p l e room_1 s m #[Value.ref b] below meth c H locs 600000 7302250 (lw_Z below #[Value.ref b] s) (F0 m 1503 ls []) := by
  obtain ⟨hx, hb, hml, hown, hts, hX, hbl, hbA, hK, hWC, hWR, hE, hAC, hAR, hdis⟩ := id X
  obtain ⟨r, Mc', Mr', e1, e2, hrel2⟩ := ho Mc Mr (xs (ix (i + 1))) hrel
  refine lv_aload_n hx hb dL_law_1503 rfl (lv_at hl 1 rfl) ?_
  refine lv_aload_n hx hb dL_law_1504 rfl (lv_at hl 0 rfl) ?_
  refine lv_iload_n hx hb dL_law_1505 rfl (lv_at hl 3 rfl) ?_
  refine lv_iconst (v := 1) hx hb dL_law_1506 (by decide) ?_
  refine lv_iadd hx hb dL_law_1507 ?_
  refine va_sld hx hb hX hbl hbA hw.2.2 (hi 1 (by decide)) dL_law_1508 ?_
  refine wlawC (As := [.int (xs (ix (i + 1)))]) (rest := []) X hw (c_X10_tally hWC e1) vlL_197 ⟨Nat.le_of_ble_eq_true rfl, Nat.le_of_ble_eq_true rfl⟩ rfl rfl rfl hl.1 (Nat.le_of_ble_eq_true rfl) dL_law_1509 ⟨Nat.le_of_ble_eq_true rfl, Nat.le_of_ble_eq_true rfl⟩ (fun H locs hw => ?_)
  refine lv_aload_n hx hb dL_law_1512 rfl (lv_at hl 2 rfl) ?_
  refine lv_aload_n hx hb dL_law_1513 rfl (lv_at hl 0 rfl) ?_
  refine lv_iload_n hx hb dL_law_1514 rfl (lv_at hl 3 rfl) ?_
  refine lv_iconst (v := 1) hx hb dL_law_1515 (by decide) ?_
  refine lv_iadd hx hb dL_law_1516 ?_
  refine va_sld hx hb hX hbl hbA hw.2.2 (hi 1 (by decide)) dL_law_1517 ?_
  refine wlawR (As := [.int (xs (ix (i + 1)))]) (rest := [.int r]) X hw (c_X11_tally hWR e2) vlL_200 ⟨Nat.le_of_ble_eq_true rfl, Nat.le_of_ble_eq_true rfl⟩ rfl rfl rfl hl.1 (Nat.le_of_ble_eq_true rfl) dL_law_1518 ⟨Nat.le_of_ble_eq_true rfl, Nat.le_of_ble_eq_true rfl⟩ (fun H locs hw => ?_)
  refine lv_icmp_eq (tgt := 2654) hx hb dL_law_1521 (by decide) (fun _ => ?_) (fun c1 => absurd rfl c1)
  exact kk Mc' Mr' hrel2 H locs hw
set_option maxRecDepth 100000 in
set_option maxHeartbeats 4000000 in
theorem lawc_46 {p : Program} {l : Launch} {e : Env} {s : State} {m : MethodId} {below : List Frame} {meth : Method} {c : Code} {b L : Nat} {xs : Nat → Int32} {D : va_G} {cA : Nat → ClassId} {adC adR adK : Nat → Nat} {EC : State → Heap → Prop} {Rel : Mem → Mem → Prop} (X : LwX p s m meth c b L xs D cA adC adR adK EC) (ho : Op_46 Rel) {Mc Mr : Mem} {H : Heap} {locs : List Loc} {ls : Array Slot} {i : Int32} (hrel : Rel Mc Mr) (hw : LwS D cA adC adR adK s Mc Mr H locs) (hl : lv_has ls 4 [(0, .ref b), (1, .ref (adC 0)), (2, .ref (adR 0)), (3, .int i)]) (hi : ∀ k : Nat, k < 6 → vp_in (i + Int32.ofNat k) L) (kk : ∀ Mc' Mr', Rel Mc' Mr' → ∀ (H1 : Heap) (locs1 : List Loc), LwS D cA adC adR adK s Mc' Mr' H1 locs1 → W p l e room_1 s m #[Value.ref b] below meth c H1 locs1 600000 7302250 (lw_Z below #[Value.ref b] s) (F0 m 2654 ls [])) : W p l e room_1 s m #[Value.ref b] below meth c H locs 600000 7302250 (lw_Z below #[Value.ref b] s) (F0 m 1526 ls []) := by
  obtain ⟨hx, hb, hml, hown, hts, hX, hbl, hbA, hK, hWC, hWR, hE, hAC, hAR, hdis⟩ := id X
  obtain ⟨r, Mr', e1, e2, hrel2⟩ := ho Mc Mr (xs (ix (i + 1))) hrel
  refine lv_aload_n hx hb dL_law_1526 rfl (lv_at hl 1 rfl) ?_
  refine lv_aload_n hx hb dL_law_1527 rfl (lv_at hl 0 rfl) ?_
  refine lv_iload_n hx hb dL_law_1528 rfl (lv_at hl 3 rfl) ?_
  refine lv_iconst (v := 1) hx hb dL_law_1529 (by decide) ?_
  refine lv_iadd hx hb dL_law_1530 ?_
  refine va_sld hx hb hX hbl hbA hw.2.2 (hi 1 (by decide)) dL_law_1531 ?_
  refine wlawC (As := [.int (xs (ix (i + 1)))]) (rest := []) X hw (c_X10_last hWC e1) vlL_201 ⟨Nat.le_of_ble_eq_true rfl, Nat.le_of_ble_eq_true rfl⟩ rfl rfl rfl hl.1 (Nat.le_of_ble_eq_true rfl) dL_law_1532 ⟨Nat.le_of_ble_eq_true rfl, Nat.le_of_ble_eq_true rfl⟩ (fun H locs hw => ?_)
  refine lv_aload_n hx hb dL_law_1535 rfl (lv_at hl 2 rfl) ?_
  refine lv_aload_n hx hb dL_law_1536 rfl (lv_at hl 0 rfl) ?_
  refine lv_iload_n hx hb dL_law_1537 rfl (lv_at hl 3 rfl) ?_
  refine lv_iconst (v := 1) hx hb dL_law_1538 (by decide) ?_
  refine lv_iadd hx hb dL_law_1539 ?_
  refine va_sld hx hb hX hbl hbA hw.2.2 (hi 1 (by decide)) dL_law_1540 ?_
  refine wlawR (As := [.int (xs (ix (i + 1)))]) (rest := [.int r]) X hw (c_X11_last hWR e2) vlL_204 ⟨Nat.le_of_ble_eq_true rfl, Nat.le_of_ble_eq_true rfl⟩ rfl rfl rfl hl.1 (Nat.le_of_ble_eq_true rfl) dL_law_1541 ⟨Nat.le_of_ble_eq_true rfl, Nat.le_of_ble_eq_true rfl⟩ (fun H locs hw => ?_)
  refine lv_icmp_eq (tgt := 2654) hx hb dL_law_1544 (by decide) (fun _ => ?_) (fun c1 => absurd rfl c1)
  exact kk Mc Mr' hrel2 H locs hw
set_option maxRecDepth 100000 in
set_option maxHeartbeats 4000000 in
theorem lawc_47 {p : Program} {l : Launch} {e : Env} {s : State} {m : MethodId} {below : List Frame} {meth : Method} {c : Code} {b L : Nat} {xs : Nat → Int32} {D : va_G} {cA : Nat → ClassId} {adC adR adK : Nat → Nat} {EC : State → Heap → Prop} {Rel : Mem → Mem → Prop} (X : LwX p s m meth c b L xs D cA adC adR adK EC) (ho : Op_47 Rel) {Mc Mr : Mem} {H : Heap} {locs : List Loc} {ls : Array Slot} {i : Int32} (hrel : Rel Mc Mr) (hw : LwS D cA adC adR adK s Mc Mr H locs) (hl : lv_has ls 4 [(0, .ref b), (1, .ref (adC 0)), (2, .ref (adR 0)), (3, .int i)]) (hi : ∀ k : Nat, k < 6 → vp_in (i + Int32.ofNat k) L) (kk : ∀ Mc' Mr', Rel Mc' Mr' → ∀ (H1 : Heap) (locs1 : List Loc), LwS D cA adC adR adK s Mc' Mr' H1 locs1 → W p l e room_1 s m #[Value.ref b] below meth c H1 locs1 600000 7302250 (lw_Z below #[Value.ref b] s) (F0 m 2654 ls [])) : W p l e room_1 s m #[Value.ref b] below meth c H locs 600000 7302250 (lw_Z below #[Value.ref b] s) (F0 m 1549 ls []) := by
  obtain ⟨hx, hb, hml, hown, hts, hX, hbl, hbA, hK, hWC, hWR, hE, hAC, hAR, hdis⟩ := id X
  obtain ⟨r, Mr', e1, e2, hrel2⟩ := ho Mc Mr (xs (ix (i + 1))) hrel
  refine lv_aload_n hx hb dL_law_1549 rfl (lv_at hl 1 rfl) ?_
  refine lv_aload_n hx hb dL_law_1550 rfl (lv_at hl 0 rfl) ?_
  refine lv_iload_n hx hb dL_law_1551 rfl (lv_at hl 3 rfl) ?_
  refine lv_iconst (v := 1) hx hb dL_law_1552 (by decide) ?_
  refine lv_iadd hx hb dL_law_1553 ?_
  refine va_sld hx hb hX hbl hbA hw.2.2 (hi 1 (by decide)) dL_law_1554 ?_
  refine wlawC (As := [.int (xs (ix (i + 1)))]) (rest := []) X hw (c_X10_busy hWC e1) vlL_205 ⟨Nat.le_of_ble_eq_true rfl, Nat.le_of_ble_eq_true rfl⟩ rfl rfl rfl hl.1 (Nat.le_of_ble_eq_true rfl) dL_law_1555 ⟨Nat.le_of_ble_eq_true rfl, Nat.le_of_ble_eq_true rfl⟩ (fun H locs hw => ?_)
  refine lv_aload_n hx hb dL_law_1558 rfl (lv_at hl 2 rfl) ?_
  refine lv_aload_n hx hb dL_law_1559 rfl (lv_at hl 0 rfl) ?_
  refine lv_iload_n hx hb dL_law_1560 rfl (lv_at hl 3 rfl) ?_
  refine lv_iconst (v := 1) hx hb dL_law_1561 (by decide) ?_
  refine lv_iadd hx hb dL_law_1562 ?_
  refine va_sld hx hb hX hbl hbA hw.2.2 (hi 1 (by decide)) dL_law_1563 ?_
  refine wlawR (As := [.int (xs (ix (i + 1)))]) (rest := [.int r]) X hw (c_X11_busy hWR e2) vlL_208 ⟨Nat.le_of_ble_eq_true rfl, Nat.le_of_ble_eq_true rfl⟩ rfl rfl rfl hl.1 (Nat.le_of_ble_eq_true rfl) dL_law_1564 ⟨Nat.le_of_ble_eq_true rfl, Nat.le_of_ble_eq_true rfl⟩ (fun H locs hw => ?_)
  refine lv_icmp_eq (tgt := 2654) hx hb dL_law_1567 (by decide) (fun _ => ?_) (fun c1 => absurd rfl c1)
  exact kk Mc Mr' hrel2 H locs hw
set_option maxRecDepth 100000 in
set_option maxHeartbeats 4000000 in
theorem lawc_48 {p : Program} {l : Launch} {e : Env} {s : State} {m : MethodId} {below : List Frame} {meth : Method} {c : Code} {b L : Nat} {xs : Nat → Int32} {D : va_G} {cA : Nat → ClassId} {adC adR adK : Nat → Nat} {EC : State → Heap → Prop} {Rel : Mem → Mem → Prop} (X : LwX p s m meth c b L xs D cA adC adR adK EC) (ho : Op_48 Rel) {Mc Mr : Mem} {H : Heap} {locs : List Loc} {ls : Array Slot} {i : Int32} (hrel : Rel Mc Mr) (hw : LwS D cA adC adR adK s Mc Mr H locs) (hl : lv_has ls 4 [(0, .ref b), (1, .ref (adC 0)), (2, .ref (adR 0)), (3, .int i)]) (hi : ∀ k : Nat, k < 6 → vp_in (i + Int32.ofNat k) L) (kk : ∀ Mc' Mr', Rel Mc' Mr' → ∀ (H1 : Heap) (locs1 : List Loc), LwS D cA adC adR adK s Mc' Mr' H1 locs1 → W p l e room_1 s m #[Value.ref b] below meth c H1 locs1 600000 7302250 (lw_Z below #[Value.ref b] s) (F0 m 2654 ls [])) : W p l e room_1 s m #[Value.ref b] below meth c H locs 600000 7302250 (lw_Z below #[Value.ref b] s) (F0 m 1572 ls []) := by
  obtain ⟨hx, hb, hml, hown, hts, hX, hbl, hbA, hK, hWC, hWR, hE, hAC, hAR, hdis⟩ := id X
  obtain ⟨r, Mr', e1, e2, hrel2⟩ := ho Mc Mr  hrel
  refine lv_aload_n hx hb dL_law_1572 rfl (lv_at hl 1 rfl) ?_
  refine wlawC (As := []) (rest := []) X hw (c_X10_idle hWC e1) vlL_209 ⟨Nat.le_of_ble_eq_true rfl, Nat.le_of_ble_eq_true rfl⟩ rfl rfl rfl hl.1 (Nat.le_of_ble_eq_true rfl) dL_law_1573 ⟨Nat.le_of_ble_eq_true rfl, Nat.le_of_ble_eq_true rfl⟩ (fun H locs hw => ?_)
  refine lv_aload_n hx hb dL_law_1576 rfl (lv_at hl 2 rfl) ?_
  refine wlawR (As := []) (rest := [.int r]) X hw (c_X11_idle hWR e2) vlL_212 ⟨Nat.le_of_ble_eq_true rfl, Nat.le_of_ble_eq_true rfl⟩ rfl rfl rfl hl.1 (Nat.le_of_ble_eq_true rfl) dL_law_1577 ⟨Nat.le_of_ble_eq_true rfl, Nat.le_of_ble_eq_true rfl⟩ (fun H locs hw => ?_)
  refine lv_icmp_eq (tgt := 2654) hx hb dL_law_1580 (by decide) (fun _ => ?_) (fun c1 => absurd rfl c1)
  exact kk Mc Mr' hrel2 H locs hw
set_option maxRecDepth 100000 in
set_option maxHeartbeats 4000000 in
theorem lawc_49 {p : Program} {l : Launch} {e : Env} {s : State} {m : MethodId} {below : List Frame} {meth : Method} {c : Code} {b L : Nat} {xs : Nat → Int32} {D : va_G} {cA : Nat → ClassId} {adC adR adK : Nat → Nat} {EC : State → Heap → Prop} {Rel : Mem → Mem → Prop} (X : LwX p s m meth c b L xs D cA adC adR adK EC) (ho : Op_49 Rel) {Mc Mr : Mem} {H : Heap} {locs : List Loc} {ls : Array Slot} {i : Int32} (hrel : Rel Mc Mr) (hw : LwS D cA adC adR adK s Mc Mr H locs) (hl : lv_has ls 4 [(0, .ref b), (1, .ref (adC 0)), (2, .ref (adR 0)), (3, .int i)]) (hi : ∀ k : Nat, k < 6 → vp_in (i + Int32.ofNat k) L) (kk : ∀ Mc' Mr', Rel Mc' Mr' → ∀ (H1 : Heap) (locs1 : List Loc), LwS D cA adC adR adK s Mc' Mr' H1 locs1 → W p l e room_1 s m #[Value.ref b] below meth c H1 locs1 600000 7302250 (lw_Z below #[Value.ref b] s) (F0 m 2654 ls [])) : W p l e room_1 s m #[Value.ref b] below meth c H locs 600000 7302250 (lw_Z below #[Value.ref b] s) (F0 m 1585 ls []) := by
  obtain ⟨hx, hb, hml, hown, hts, hX, hbl, hbA, hK, hWC, hWR, hE, hAC, hAR, hdis⟩ := id X
  obtain ⟨r, Mc', Mr', e1, e2, hrel2⟩ := ho Mc Mr (xs (ix (i + 1))) hrel
  refine lv_aload_n hx hb dL_law_1585 rfl (lv_at hl 1 rfl) ?_
  refine lv_aload_n hx hb dL_law_1586 rfl (lv_at hl 0 rfl) ?_
  refine lv_iload_n hx hb dL_law_1587 rfl (lv_at hl 3 rfl) ?_
  refine lv_iconst (v := 1) hx hb dL_law_1588 (by decide) ?_
  refine lv_iadd hx hb dL_law_1589 ?_
  refine va_sld hx hb hX hbl hbA hw.2.2 (hi 1 (by decide)) dL_law_1590 ?_
  refine wlawC (As := [.int (xs (ix (i + 1)))]) (rest := []) X hw (c_X10_stiff hWC e1) vlL_213 ⟨Nat.le_of_ble_eq_true rfl, Nat.le_of_ble_eq_true rfl⟩ rfl rfl rfl hl.1 (Nat.le_of_ble_eq_true rfl) dL_law_1591 ⟨Nat.le_of_ble_eq_true rfl, Nat.le_of_ble_eq_true rfl⟩ (fun H locs hw => ?_)
  refine lv_aload_n hx hb dL_law_1594 rfl (lv_at hl 2 rfl) ?_
  refine lv_aload_n hx hb dL_law_1595 rfl (lv_at hl 0 rfl) ?_
  refine lv_iload_n hx hb dL_law_1596 rfl (lv_at hl 3 rfl) ?_
  refine lv_iconst (v := 1) hx hb dL_law_1597 (by decide) ?_
  refine lv_iadd hx hb dL_law_1598 ?_
  refine va_sld hx hb hX hbl hbA hw.2.2 (hi 1 (by decide)) dL_law_1599 ?_
  refine wlawR (As := [.int (xs (ix (i + 1)))]) (rest := [.int r]) X hw (c_X11_stiff hWR e2) vlL_216 ⟨Nat.le_of_ble_eq_true rfl, Nat.le_of_ble_eq_true rfl⟩ rfl rfl rfl hl.1 (Nat.le_of_ble_eq_true rfl) dL_law_1600 ⟨Nat.le_of_ble_eq_true rfl, Nat.le_of_ble_eq_true rfl⟩ (fun H locs hw => ?_)
  refine lv_icmp_eq (tgt := 2654) hx hb dL_law_1603 (by decide) (fun _ => ?_) (fun c1 => absurd rfl c1)
  exact kk Mc' Mr' hrel2 H locs hw
set_option maxRecDepth 100000 in
set_option maxHeartbeats 4000000 in
theorem lawc_50 {p : Program} {l : Launch} {e : Env} {s : State} {m : MethodId} {below : List Frame} {meth : Method} {c : Code} {b L : Nat} {xs : Nat → Int32} {D : va_G} {cA : Nat → ClassId} {adC adR adK : Nat → Nat} {EC : State → Heap → Prop} {Rel : Mem → Mem → Prop} (X : LwX p s m meth c b L xs D cA adC adR adK EC) (ho : Op_50 Rel) {Mc Mr : Mem} {H : Heap} {locs : List Loc} {ls : Array Slot} {i : Int32} (hrel : Rel Mc Mr) (hw : LwS D cA adC adR adK s Mc Mr H locs) (hl : lv_has ls 4 [(0, .ref b), (1, .ref (adC 0)), (2, .ref (adR 0)), (3, .int i)]) (hi : ∀ k : Nat, k < 6 → vp_in (i + Int32.ofNat k) L) (kk : ∀ Mc' Mr', Rel Mc' Mr' → ∀ (H1 : Heap) (locs1 : List Loc), LwS D cA adC adR adK s Mc' Mr' H1 locs1 → W p l e room_1 s m #[Value.ref b] below meth c H1 locs1 600000 7302250 (lw_Z below #[Value.ref b] s) (F0 m 2654 ls [])) : W p l e room_1 s m #[Value.ref b] below meth c H locs 600000 7302250 (lw_Z below #[Value.ref b] s) (F0 m 1608 ls []) := by
  obtain ⟨hx, hb, hml, hown, hts, hX, hbl, hbA, hK, hWC, hWR, hE, hAC, hAR, hdis⟩ := id X
  obtain ⟨r, Mc', Mr', e1, e2, hrel2⟩ := ho Mc Mr (xs (ix (i + 1))) hrel
  refine lv_aload_n hx hb dL_law_1608 rfl (lv_at hl 1 rfl) ?_
  refine lv_aload_n hx hb dL_law_1609 rfl (lv_at hl 0 rfl) ?_
  refine lv_iload_n hx hb dL_law_1610 rfl (lv_at hl 3 rfl) ?_
  refine lv_iconst (v := 1) hx hb dL_law_1611 (by decide) ?_
  refine lv_iadd hx hb dL_law_1612 ?_
  refine va_sld hx hb hX hbl hbA hw.2.2 (hi 1 (by decide)) dL_law_1613 ?_
  refine wlawC (As := [.int (xs (ix (i + 1)))]) (rest := []) X hw (c_X10_spare hWC e1) vlL_217 ⟨Nat.le_of_ble_eq_true rfl, Nat.le_of_ble_eq_true rfl⟩ rfl rfl rfl hl.1 (Nat.le_of_ble_eq_true rfl) dL_law_1614 ⟨Nat.le_of_ble_eq_true rfl, Nat.le_of_ble_eq_true rfl⟩ (fun H locs hw => ?_)
  refine lv_aload_n hx hb dL_law_1617 rfl (lv_at hl 2 rfl) ?_
  refine lv_aload_n hx hb dL_law_1618 rfl (lv_at hl 0 rfl) ?_
  refine lv_iload_n hx hb dL_law_1619 rfl (lv_at hl 3 rfl) ?_
  refine lv_iconst (v := 1) hx hb dL_law_1620 (by decide) ?_
  refine lv_iadd hx hb dL_law_1621 ?_
  refine va_sld hx hb hX hbl hbA hw.2.2 (hi 1 (by decide)) dL_law_1622 ?_
  refine wlawR (As := [.int (xs (ix (i + 1)))]) (rest := [.int r]) X hw (c_X11_spare hWR e2) vlL_220 ⟨Nat.le_of_ble_eq_true rfl, Nat.le_of_ble_eq_true rfl⟩ rfl rfl rfl hl.1 (Nat.le_of_ble_eq_true rfl) dL_law_1623 ⟨Nat.le_of_ble_eq_true rfl, Nat.le_of_ble_eq_true rfl⟩ (fun H locs hw => ?_)
  refine lv_icmp_eq (tgt := 2654) hx hb dL_law_1626 (by decide) (fun _ => ?_) (fun c1 => absurd rfl c1)
  exact kk Mc' Mr' hrel2 H locs hw
set_option maxRecDepth 100000 in
set_option maxHeartbeats 4000000 in
theorem lawc_51 {p : Program} {l : Launch} {e : Env} {s : State} {m : MethodId} {below : List Frame} {meth : Method} {c : Code} {b L : Nat} {xs : Nat → Int32} {D : va_G} {cA : Nat → ClassId} {adC adR adK : Nat → Nat} {EC : State → Heap → Prop} {Rel : Mem → Mem → Prop} (X : LwX p s m meth c b L xs D cA adC adR adK EC) (ho : Op_51 Rel) {Mc Mr : Mem} {H : Heap} {locs : List Loc} {ls : Array Slot} {i : Int32} (hrel : Rel Mc Mr) (hw : LwS D cA adC adR adK s Mc Mr H locs) (hl : lv_has ls 4 [(0, .ref b), (1, .ref (adC 0)), (2, .ref (adR 0)), (3, .int i)]) (hi : ∀ k : Nat, k < 6 → vp_in (i + Int32.ofNat k) L) (kk : ∀ Mc' Mr', Rel Mc' Mr' → ∀ (H1 : Heap) (locs1 : List Loc), LwS D cA adC adR adK s Mc' Mr' H1 locs1 → W p l e room_1 s m #[Value.ref b] below meth c H1 locs1 600000 7302250 (lw_Z below #[Value.ref b] s) (F0 m 2654 ls [])) : W p l e room_1 s m #[Value.ref b] below meth c H locs 600000 7302250 (lw_Z below #[Value.ref b] s) (F0 m 1631 ls []) := by
  obtain ⟨hx, hb, hml, hown, hts, hX, hbl, hbA, hK, hWC, hWR, hE, hAC, hAR, hdis⟩ := id X
  obtain ⟨r, Mc', Mr', e1, e2, hrel2⟩ := ho Mc Mr (xs (ix (i + 1))) hrel
  refine lv_aload_n hx hb dL_law_1631 rfl (lv_at hl 1 rfl) ?_
  refine lv_aload_n hx hb dL_law_1632 rfl (lv_at hl 0 rfl) ?_
  refine lv_iload_n hx hb dL_law_1633 rfl (lv_at hl 3 rfl) ?_
  refine lv_iconst (v := 1) hx hb dL_law_1634 (by decide) ?_
  refine lv_iadd hx hb dL_law_1635 ?_
  refine va_sld hx hb hX hbl hbA hw.2.2 (hi 1 (by decide)) dL_law_1636 ?_
  refine wlawC (As := [.int (xs (ix (i + 1)))]) (rest := []) X hw (c_X10_needs hWC e1) vlL_221 ⟨Nat.le_of_ble_eq_true rfl, Nat.le_of_ble_eq_true rfl⟩ rfl rfl rfl hl.1 (Nat.le_of_ble_eq_true rfl) dL_law_1637 ⟨Nat.le_of_ble_eq_true rfl, Nat.le_of_ble_eq_true rfl⟩ (fun H locs hw => ?_)
  refine lv_aload_n hx hb dL_law_1640 rfl (lv_at hl 2 rfl) ?_
  refine lv_aload_n hx hb dL_law_1641 rfl (lv_at hl 0 rfl) ?_
  refine lv_iload_n hx hb dL_law_1642 rfl (lv_at hl 3 rfl) ?_
  refine lv_iconst (v := 1) hx hb dL_law_1643 (by decide) ?_
  refine lv_iadd hx hb dL_law_1644 ?_
  refine va_sld hx hb hX hbl hbA hw.2.2 (hi 1 (by decide)) dL_law_1645 ?_
  refine wlawR (As := [.int (xs (ix (i + 1)))]) (rest := [.int r]) X hw (c_X11_needs hWR e2) vlL_224 ⟨Nat.le_of_ble_eq_true rfl, Nat.le_of_ble_eq_true rfl⟩ rfl rfl rfl hl.1 (Nat.le_of_ble_eq_true rfl) dL_law_1646 ⟨Nat.le_of_ble_eq_true rfl, Nat.le_of_ble_eq_true rfl⟩ (fun H locs hw => ?_)
  refine lv_icmp_eq (tgt := 2654) hx hb dL_law_1649 (by decide) (fun _ => ?_) (fun c1 => absurd rfl c1)
  exact kk Mc' Mr' hrel2 H locs hw
set_option maxRecDepth 100000 in
set_option maxHeartbeats 4000000 in
theorem lawc_52 {p : Program} {l : Launch} {e : Env} {s : State} {m : MethodId} {below : List Frame} {meth : Method} {c : Code} {b L : Nat} {xs : Nat → Int32} {D : va_G} {cA : Nat → ClassId} {adC adR adK : Nat → Nat} {EC : State → Heap → Prop} {Rel : Mem → Mem → Prop} (X : LwX p s m meth c b L xs D cA adC adR adK EC) (ho : Op_52 Rel) {Mc Mr : Mem} {H : Heap} {locs : List Loc} {ls : Array Slot} {i : Int32} (hrel : Rel Mc Mr) (hw : LwS D cA adC adR adK s Mc Mr H locs) (hl : lv_has ls 4 [(0, .ref b), (1, .ref (adC 0)), (2, .ref (adR 0)), (3, .int i)]) (hi : ∀ k : Nat, k < 6 → vp_in (i + Int32.ofNat k) L) (kk : ∀ Mc' Mr', Rel Mc' Mr' → ∀ (H1 : Heap) (locs1 : List Loc), LwS D cA adC adR adK s Mc' Mr' H1 locs1 → W p l e room_1 s m #[Value.ref b] below meth c H1 locs1 600000 7302250 (lw_Z below #[Value.ref b] s) (F0 m 2654 ls [])) : W p l e room_1 s m #[Value.ref b] below meth c H locs 600000 7302250 (lw_Z below #[Value.ref b] s) (F0 m 1654 ls []) := by
  obtain ⟨hx, hb, hml, hown, hts, hX, hbl, hbA, hK, hWC, hWR, hE, hAC, hAR, hdis⟩ := id X
  obtain ⟨r, Mc', Mr', e1, e2, hrel2⟩ := ho Mc Mr (xs (ix (i + 1))) hrel
  refine lv_aload_n hx hb dL_law_1654 rfl (lv_at hl 1 rfl) ?_
  refine lv_aload_n hx hb dL_law_1655 rfl (lv_at hl 0 rfl) ?_
  refine lv_iload_n hx hb dL_law_1656 rfl (lv_at hl 3 rfl) ?_
  refine lv_iconst (v := 1) hx hb dL_law_1657 (by decide) ?_
  refine lv_iadd hx hb dL_law_1658 ?_
  refine va_sld hx hb hX hbl hbA hw.2.2 (hi 1 (by decide)) dL_law_1659 ?_
  refine wlawC (As := [.int (xs (ix (i + 1)))]) (rest := []) X hw (c_X10_thin hWC e1) vlL_225 ⟨Nat.le_of_ble_eq_true rfl, Nat.le_of_ble_eq_true rfl⟩ rfl rfl rfl hl.1 (Nat.le_of_ble_eq_true rfl) dL_law_1660 ⟨Nat.le_of_ble_eq_true rfl, Nat.le_of_ble_eq_true rfl⟩ (fun H locs hw => ?_)
  refine lv_aload_n hx hb dL_law_1663 rfl (lv_at hl 2 rfl) ?_
  refine lv_aload_n hx hb dL_law_1664 rfl (lv_at hl 0 rfl) ?_
  refine lv_iload_n hx hb dL_law_1665 rfl (lv_at hl 3 rfl) ?_
  refine lv_iconst (v := 1) hx hb dL_law_1666 (by decide) ?_
  refine lv_iadd hx hb dL_law_1667 ?_
  refine va_sld hx hb hX hbl hbA hw.2.2 (hi 1 (by decide)) dL_law_1668 ?_
  refine wlawR (As := [.int (xs (ix (i + 1)))]) (rest := [.int r]) X hw (c_X11_thin hWR e2) vlL_228 ⟨Nat.le_of_ble_eq_true rfl, Nat.le_of_ble_eq_true rfl⟩ rfl rfl rfl hl.1 (Nat.le_of_ble_eq_true rfl) dL_law_1669 ⟨Nat.le_of_ble_eq_true rfl, Nat.le_of_ble_eq_true rfl⟩ (fun H locs hw => ?_)
  refine lv_icmp_eq (tgt := 2654) hx hb dL_law_1672 (by decide) (fun _ => ?_) (fun c1 => absurd rfl c1)
  exact kk Mc' Mr' hrel2 H locs hw
set_option maxRecDepth 100000 in
set_option maxHeartbeats 4000000 in
theorem lawc_53 {p : Program} {l : Launch} {e : Env} {s : State} {m : MethodId} {below : List Frame} {meth : Method} {c : Code} {b L : Nat} {xs : Nat → Int32} {D : va_G} {cA : Nat → ClassId} {adC adR adK : Nat → Nat} {EC : State → Heap → Prop} {Rel : Mem → Mem → Prop} (X : LwX p s m meth c b L xs D cA adC adR adK EC) (ho : Op_53 Rel) {Mc Mr : Mem} {H : Heap} {locs : List Loc} {ls : Array Slot} {i : Int32} (hrel : Rel Mc Mr) (hw : LwS D cA adC adR adK s Mc Mr H locs) (hl : lv_has ls 4 [(0, .ref b), (1, .ref (adC 0)), (2, .ref (adR 0)), (3, .int i)]) (hi : ∀ k : Nat, k < 6 → vp_in (i + Int32.ofNat k) L) (kk : ∀ Mc' Mr', Rel Mc' Mr' → ∀ (H1 : Heap) (locs1 : List Loc), LwS D cA adC adR adK s Mc' Mr' H1 locs1 → W p l e room_1 s m #[Value.ref b] below meth c H1 locs1 600000 7302250 (lw_Z below #[Value.ref b] s) (F0 m 2654 ls [])) : W p l e room_1 s m #[Value.ref b] below meth c H locs 600000 7302250 (lw_Z below #[Value.ref b] s) (F0 m 1677 ls []) := by
  obtain ⟨hx, hb, hml, hown, hts, hX, hbl, hbA, hK, hWC, hWR, hE, hAC, hAR, hdis⟩ := id X
  obtain ⟨r, Mc', Mr', e1, e2, hrel2⟩ := ho Mc Mr  hrel
  refine lv_aload_n hx hb dL_law_1677 rfl (lv_at hl 1 rfl) ?_
  refine wlawC (As := []) (rest := []) X hw (c_X10_pace hWC e1) vlL_229 ⟨Nat.le_of_ble_eq_true rfl, Nat.le_of_ble_eq_true rfl⟩ rfl rfl rfl hl.1 (Nat.le_of_ble_eq_true rfl) dL_law_1678 ⟨Nat.le_of_ble_eq_true rfl, Nat.le_of_ble_eq_true rfl⟩ (fun H locs hw => ?_)
  refine lv_aload_n hx hb dL_law_1681 rfl (lv_at hl 2 rfl) ?_
  refine wlawR (As := []) (rest := [.int r]) X hw (c_X11_pace hWR e2) vlL_232 ⟨Nat.le_of_ble_eq_true rfl, Nat.le_of_ble_eq_true rfl⟩ rfl rfl rfl hl.1 (Nat.le_of_ble_eq_true rfl) dL_law_1682 ⟨Nat.le_of_ble_eq_true rfl, Nat.le_of_ble_eq_true rfl⟩ (fun H locs hw => ?_)
  refine lv_icmp_eq (tgt := 2654) hx hb dL_law_1685 (by decide) (fun _ => ?_) (fun c1 => absurd rfl c1)
  exact kk Mc' Mr' hrel2 H locs hw
set_option maxRecDepth 100000 in
set_option maxHeartbeats 4000000 in
theorem lawc_54 {p : Program} {l : Launch} {e : Env} {s : State} {m : MethodId} {below : List Frame} {meth : Method} {c : Code} {b L : Nat} {xs : Nat → Int32} {D : va_G} {cA : Nat → ClassId} {adC adR adK : Nat → Nat} {EC : State → Heap → Prop} {Rel : Mem → Mem → Prop} (X : LwX p s m meth c b L xs D cA adC adR adK EC) (ho : Op_54 Rel) {Mc Mr : Mem} {H : Heap} {locs : List Loc} {ls : Array Slot} {i : Int32} (hrel : Rel Mc Mr) (hw : LwS D cA adC adR adK s Mc Mr H locs) (hl : lv_has ls 4 [(0, .ref b), (1, .ref (adC 0)), (2, .ref (adR 0)), (3, .int i)]) (hi : ∀ k : Nat, k < 6 → vp_in (i + Int32.ofNat k) L) (kk : ∀ Mc' Mr', Rel Mc' Mr' → ∀ (H1 : Heap) (locs1 : List Loc), LwS D cA adC adR adK s Mc' Mr' H1 locs1 → W p l e room_1 s m #[Value.ref b] below meth c H1 locs1 600000 7302250 (lw_Z below #[Value.ref b] s) (F0 m 2654 ls [])) : W p l e room_1 s m #[Value.ref b] below meth c H locs 600000 7302250 (lw_Z below #[Value.ref b] s) (F0 m 1690 ls []) := by
  obtain ⟨hx, hb, hml, hown, hts, hX, hbl, hbA, hK, hWC, hWR, hE, hAC, hAR, hdis⟩ := id X
  obtain ⟨r, Mc', Mr', e1, e2, hrel2⟩ := ho Mc Mr  hrel
  refine lv_aload_n hx hb dL_law_1690 rfl (lv_at hl 1 rfl) ?_
  refine wlawC (As := []) (rest := []) X hw (c_X10_paced hWC e1) vlL_233 ⟨Nat.le_of_ble_eq_true rfl, Nat.le_of_ble_eq_true rfl⟩ rfl rfl rfl hl.1 (Nat.le_of_ble_eq_true rfl) dL_law_1691 ⟨Nat.le_of_ble_eq_true rfl, Nat.le_of_ble_eq_true rfl⟩ (fun H locs hw => ?_)
  refine lv_aload_n hx hb dL_law_1694 rfl (lv_at hl 2 rfl) ?_
  refine wlawR (As := []) (rest := [.int r]) X hw (c_X11_paced hWR e2) vlL_236 ⟨Nat.le_of_ble_eq_true rfl, Nat.le_of_ble_eq_true rfl⟩ rfl rfl rfl hl.1 (Nat.le_of_ble_eq_true rfl) dL_law_1695 ⟨Nat.le_of_ble_eq_true rfl, Nat.le_of_ble_eq_true rfl⟩ (fun H locs hw => ?_)
  refine lv_icmp_eq (tgt := 2654) hx hb dL_law_1698 (by decide) (fun _ => ?_) (fun c1 => absurd rfl c1)
  exact kk Mc' Mr' hrel2 H locs hw
set_option maxRecDepth 100000 in
set_option maxHeartbeats 4000000 in
theorem lawc_55 {p : Program} {l : Launch} {e : Env} {s : State} {m : MethodId} {below : List Frame} {meth : Method} {c : Code} {b L : Nat} {xs : Nat → Int32} {D : va_G} {cA : Nat → ClassId} {adC adR adK : Nat → Nat} {EC : State → Heap → Prop} {Rel : Mem → Mem → Prop} (X : LwX p s m meth c b L xs D cA adC adR adK EC) (ho : Op_55 Rel) {Mc Mr : Mem} {H : Heap} {locs : List Loc} {ls : Array Slot} {i : Int32} (hrel : Rel Mc Mr) (hw : LwS D cA adC adR adK s Mc Mr H locs) (hl : lv_has ls 4 [(0, .ref b), (1, .ref (adC 0)), (2, .ref (adR 0)), (3, .int i)]) (hi : ∀ k : Nat, k < 6 → vp_in (i + Int32.ofNat k) L) (kk : ∀ Mc' Mr', Rel Mc' Mr' → ∀ (H1 : Heap) (locs1 : List Loc), LwS D cA adC adR adK s Mc' Mr' H1 locs1 → W p l e room_1 s m #[Value.ref b] below meth c H1 locs1 600000 7302250 (lw_Z below #[Value.ref b] s) (F0 m 2654 ls [])) : W p l e room_1 s m #[Value.ref b] below meth c H locs 600000 7302250 (lw_Z below #[Value.ref b] s) (F0 m 1703 ls []) := by
  obtain ⟨hx, hb, hml, hown, hts, hX, hbl, hbA, hK, hWC, hWR, hE, hAC, hAR, hdis⟩ := id X
  obtain ⟨r, Mc', Mr', e1, e2, hrel2⟩ := ho Mc Mr (xs (ix (i + 1))) (xs (ix (i + 2))) hrel
  refine lv_aload_n hx hb dL_law_1703 rfl (lv_at hl 1 rfl) ?_
  refine lv_aload_n hx hb dL_law_1704 rfl (lv_at hl 0 rfl) ?_
  refine lv_iload_n hx hb dL_law_1705 rfl (lv_at hl 3 rfl) ?_
  refine lv_iconst (v := 1) hx hb dL_law_1706 (by decide) ?_
  refine lv_iadd hx hb dL_law_1707 ?_
  refine va_sld hx hb hX hbl hbA hw.2.2 (hi 1 (by decide)) dL_law_1708 ?_
  refine lv_aload_n hx hb dL_law_1709 rfl (lv_at hl 0 rfl) ?_
  refine lv_iload_n hx hb dL_law_1710 rfl (lv_at hl 3 rfl) ?_
  refine lv_iconst (v := 2) hx hb dL_law_1711 (by decide) ?_
  refine lv_iadd hx hb dL_law_1712 ?_
  refine va_sld hx hb hX hbl hbA hw.2.2 (hi 2 (by decide)) dL_law_1713 ?_
  refine wlawC (As := [.int (xs (ix (i + 1))), .int (xs (ix (i + 2)))]) (rest := []) X hw (c_X10_raise hWC e1) vlL_237 ⟨Nat.le_of_ble_eq_true rfl, Nat.le_of_ble_eq_true rfl⟩ rfl rfl rfl hl.1 (Nat.le_of_ble_eq_true rfl) dL_law_1714 ⟨Nat.le_of_ble_eq_true rfl, Nat.le_of_ble_eq_true rfl⟩ (fun H locs hw => ?_)
  refine lv_aload_n hx hb dL_law_1717 rfl (lv_at hl 2 rfl) ?_
  refine lv_aload_n hx hb dL_law_1718 rfl (lv_at hl 0 rfl) ?_
  refine lv_iload_n hx hb dL_law_1719 rfl (lv_at hl 3 rfl) ?_
  refine lv_iconst (v := 1) hx hb dL_law_1720 (by decide) ?_
  refine lv_iadd hx hb dL_law_1721 ?_
  refine va_sld hx hb hX hbl hbA hw.2.2 (hi 1 (by decide)) dL_law_1722 ?_
  refine lv_aload_n hx hb dL_law_1723 rfl (lv_at hl 0 rfl) ?_
  refine lv_iload_n hx hb dL_law_1724 rfl (lv_at hl 3 rfl) ?_
  refine lv_iconst (v := 2) hx hb dL_law_1725 (by decide) ?_
  refine lv_iadd hx hb dL_law_1726 ?_
  refine va_sld hx hb hX hbl hbA hw.2.2 (hi 2 (by decide)) dL_law_1727 ?_
  refine wlawR (As := [.int (xs (ix (i + 1))), .int (xs (ix (i + 2)))]) (rest := [.int r]) X hw (c_X11_raise hWR e2) vlL_240 ⟨Nat.le_of_ble_eq_true rfl, Nat.le_of_ble_eq_true rfl⟩ rfl rfl rfl hl.1 (Nat.le_of_ble_eq_true rfl) dL_law_1728 ⟨Nat.le_of_ble_eq_true rfl, Nat.le_of_ble_eq_true rfl⟩ (fun H locs hw => ?_)
  refine lv_icmp_eq (tgt := 2654) hx hb dL_law_1731 (by decide) (fun _ => ?_) (fun c1 => absurd rfl c1)
  exact kk Mc' Mr' hrel2 H locs hw
set_option maxRecDepth 100000 in
set_option maxHeartbeats 4000000 in
theorem lawc_56 {p : Program} {l : Launch} {e : Env} {s : State} {m : MethodId} {below : List Frame} {meth : Method} {c : Code} {b L : Nat} {xs : Nat → Int32} {D : va_G} {cA : Nat → ClassId} {adC adR adK : Nat → Nat} {EC : State → Heap → Prop} {Rel : Mem → Mem → Prop} (X : LwX p s m meth c b L xs D cA adC adR adK EC) (ho : Op_56 Rel) {Mc Mr : Mem} {H : Heap} {locs : List Loc} {ls : Array Slot} {i : Int32} (hrel : Rel Mc Mr) (hw : LwS D cA adC adR adK s Mc Mr H locs) (hl : lv_has ls 4 [(0, .ref b), (1, .ref (adC 0)), (2, .ref (adR 0)), (3, .int i)]) (hi : ∀ k : Nat, k < 6 → vp_in (i + Int32.ofNat k) L) (kk : ∀ Mc' Mr', Rel Mc' Mr' → ∀ (H1 : Heap) (locs1 : List Loc), LwS D cA adC adR adK s Mc' Mr' H1 locs1 → W p l e room_1 s m #[Value.ref b] below meth c H1 locs1 600000 7302250 (lw_Z below #[Value.ref b] s) (F0 m 2654 ls [])) : W p l e room_1 s m #[Value.ref b] below meth c H locs 600000 7302250 (lw_Z below #[Value.ref b] s) (F0 m 1736 ls []) := by
  obtain ⟨hx, hb, hml, hown, hts, hX, hbl, hbA, hK, hWC, hWR, hE, hAC, hAR, hdis⟩ := id X
  obtain ⟨r, Mc', Mr', e1, e2, hrel2⟩ := ho Mc Mr (xs (ix (i + 1))) hrel
  refine lv_aload_n hx hb dL_law_1736 rfl (lv_at hl 1 rfl) ?_
  refine lv_aload_n hx hb dL_law_1737 rfl (lv_at hl 0 rfl) ?_
  refine lv_iload_n hx hb dL_law_1738 rfl (lv_at hl 3 rfl) ?_
  refine lv_iconst (v := 1) hx hb dL_law_1739 (by decide) ?_
  refine lv_iadd hx hb dL_law_1740 ?_
  refine va_sld hx hb hX hbl hbA hw.2.2 (hi 1 (by decide)) dL_law_1741 ?_
  refine wlawC (As := [.int (xs (ix (i + 1)))]) (rest := []) X hw (c_X10_rescue hWC e1) vlL_241 ⟨Nat.le_of_ble_eq_true rfl, Nat.le_of_ble_eq_true rfl⟩ rfl rfl rfl hl.1 (Nat.le_of_ble_eq_true rfl) dL_law_1742 ⟨Nat.le_of_ble_eq_true rfl, Nat.le_of_ble_eq_true rfl⟩ (fun H locs hw => ?_)
  refine lv_aload_n hx hb dL_law_1745 rfl (lv_at hl 2 rfl) ?_
  refine lv_aload_n hx hb dL_law_1746 rfl (lv_at hl 0 rfl) ?_
  refine lv_iload_n hx hb dL_law_1747 rfl (lv_at hl 3 rfl) ?_
  refine lv_iconst (v := 1) hx hb dL_law_1748 (by decide) ?_
  refine lv_iadd hx hb dL_law_1749 ?_
  refine va_sld hx hb hX hbl hbA hw.2.2 (hi 1 (by decide)) dL_law_1750 ?_
  refine wlawR (As := [.int (xs (ix (i + 1)))]) (rest := [.int r]) X hw (c_X11_rescue hWR e2) vlL_244 ⟨Nat.le_of_ble_eq_true rfl, Nat.le_of_ble_eq_true rfl⟩ rfl rfl rfl hl.1 (Nat.le_of_ble_eq_true rfl) dL_law_1751 ⟨Nat.le_of_ble_eq_true rfl, Nat.le_of_ble_eq_true rfl⟩ (fun H locs hw => ?_)
  refine lv_icmp_eq (tgt := 2654) hx hb dL_law_1754 (by decide) (fun _ => ?_) (fun c1 => absurd rfl c1)
  exact kk Mc' Mr' hrel2 H locs hw
set_option maxRecDepth 100000 in
set_option maxHeartbeats 4000000 in
theorem lawc_57 {p : Program} {l : Launch} {e : Env} {s : State} {m : MethodId} {below : List Frame} {meth : Method} {c : Code} {b L : Nat} {xs : Nat → Int32} {D : va_G} {cA : Nat → ClassId} {adC adR adK : Nat → Nat} {EC : State → Heap → Prop} {Rel : Mem → Mem → Prop} (X : LwX p s m meth c b L xs D cA adC adR adK EC) (ho : Op_57 Rel) {Mc Mr : Mem} {H : Heap} {locs : List Loc} {ls : Array Slot} {i : Int32} (hrel : Rel Mc Mr) (hw : LwS D cA adC adR adK s Mc Mr H locs) (hl : lv_has ls 4 [(0, .ref b), (1, .ref (adC 0)), (2, .ref (adR 0)), (3, .int i)]) (hi : ∀ k : Nat, k < 6 → vp_in (i + Int32.ofNat k) L) (kk : ∀ Mc' Mr', Rel Mc' Mr' → ∀ (H1 : Heap) (locs1 : List Loc), LwS D cA adC adR adK s Mc' Mr' H1 locs1 → W p l e room_1 s m #[Value.ref b] below meth c H1 locs1 600000 7302250 (lw_Z below #[Value.ref b] s) (F0 m 2654 ls [])) : W p l e room_1 s m #[Value.ref b] below meth c H locs 600000 7302250 (lw_Z below #[Value.ref b] s) (F0 m 1759 ls []) := by
  obtain ⟨hx, hb, hml, hown, hts, hX, hbl, hbA, hK, hWC, hWR, hE, hAC, hAR, hdis⟩ := id X
  obtain ⟨r, Mc', Mr', e1, e2, hrel2⟩ := ho Mc Mr  hrel
  refine lv_aload_n hx hb dL_law_1759 rfl (lv_at hl 1 rfl) ?_
  refine wlawC (As := []) (rest := []) X hw (c_X10_swap hWC e1) vlL_245 ⟨Nat.le_of_ble_eq_true rfl, Nat.le_of_ble_eq_true rfl⟩ rfl rfl rfl hl.1 (Nat.le_of_ble_eq_true rfl) dL_law_1760 ⟨Nat.le_of_ble_eq_true rfl, Nat.le_of_ble_eq_true rfl⟩ (fun H locs hw => ?_)
  refine lv_aload_n hx hb dL_law_1763 rfl (lv_at hl 2 rfl) ?_
  refine wlawR (As := []) (rest := [.int r]) X hw (c_X11_swap hWR e2) vlL_248 ⟨Nat.le_of_ble_eq_true rfl, Nat.le_of_ble_eq_true rfl⟩ rfl rfl rfl hl.1 (Nat.le_of_ble_eq_true rfl) dL_law_1764 ⟨Nat.le_of_ble_eq_true rfl, Nat.le_of_ble_eq_true rfl⟩ (fun H locs hw => ?_)
  refine lv_icmp_eq (tgt := 2654) hx hb dL_law_1767 (by decide) (fun _ => ?_) (fun c1 => absurd rfl c1)
  exact kk Mc' Mr' hrel2 H locs hw
set_option maxRecDepth 100000 in
set_option maxHeartbeats 4000000 in
theorem lawc_58 {p : Program} {l : Launch} {e : Env} {s : State} {m : MethodId} {below : List Frame} {meth : Method} {c : Code} {b L : Nat} {xs : Nat → Int32} {D : va_G} {cA : Nat → ClassId} {adC adR adK : Nat → Nat} {EC : State → Heap → Prop} {Rel : Mem → Mem → Prop} (X : LwX p s m meth c b L xs D cA adC adR adK EC) (ho : Op_58 Rel) {Mc Mr : Mem} {H : Heap} {locs : List Loc} {ls : Array Slot} {i : Int32} (hrel : Rel Mc Mr) (hw : LwS D cA adC adR adK s Mc Mr H locs) (hl : lv_has ls 4 [(0, .ref b), (1, .ref (adC 0)), (2, .ref (adR 0)), (3, .int i)]) (hi : ∀ k : Nat, k < 6 → vp_in (i + Int32.ofNat k) L) (kk : ∀ Mc' Mr', Rel Mc' Mr' → ∀ (H1 : Heap) (locs1 : List Loc), LwS D cA adC adR adK s Mc' Mr' H1 locs1 → W p l e room_1 s m #[Value.ref b] below meth c H1 locs1 600000 7302250 (lw_Z below #[Value.ref b] s) (F0 m 2654 ls [])) : W p l e room_1 s m #[Value.ref b] below meth c H locs 600000 7302250 (lw_Z below #[Value.ref b] s) (F0 m 1772 ls []) := by
  obtain ⟨hx, hb, hml, hown, hts, hX, hbl, hbA, hK, hWC, hWR, hE, hAC, hAR, hdis⟩ := id X
  obtain ⟨r, Mc', Mr', e1, e2, hrel2⟩ := ho Mc Mr  hrel
  refine lv_aload_n hx hb dL_law_1772 rfl (lv_at hl 1 rfl) ?_
  refine wlawC (As := []) (rest := []) X hw (c_X10_skip hWC e1) vlL_249 ⟨Nat.le_of_ble_eq_true rfl, Nat.le_of_ble_eq_true rfl⟩ rfl rfl rfl hl.1 (Nat.le_of_ble_eq_true rfl) dL_law_1773 ⟨Nat.le_of_ble_eq_true rfl, Nat.le_of_ble_eq_true rfl⟩ (fun H locs hw => ?_)
  refine lv_aload_n hx hb dL_law_1776 rfl (lv_at hl 2 rfl) ?_
  refine wlawR (As := []) (rest := [.int r]) X hw (c_X11_skip hWR e2) vlL_252 ⟨Nat.le_of_ble_eq_true rfl, Nat.le_of_ble_eq_true rfl⟩ rfl rfl rfl hl.1 (Nat.le_of_ble_eq_true rfl) dL_law_1777 ⟨Nat.le_of_ble_eq_true rfl, Nat.le_of_ble_eq_true rfl⟩ (fun H locs hw => ?_)
  refine lv_icmp_eq (tgt := 2654) hx hb dL_law_1780 (by decide) (fun _ => ?_) (fun c1 => absurd rfl c1)
  exact kk Mc' Mr' hrel2 H locs hw
set_option maxRecDepth 100000 in
set_option maxHeartbeats 4000000 in
theorem lawc_59 {p : Program} {l : Launch} {e : Env} {s : State} {m : MethodId} {below : List Frame} {meth : Method} {c : Code} {b L : Nat} {xs : Nat → Int32} {D : va_G} {cA : Nat → ClassId} {adC adR adK : Nat → Nat} {EC : State → Heap → Prop} {Rel : Mem → Mem → Prop} (X : LwX p s m meth c b L xs D cA adC adR adK EC) (ho : Op_59 Rel) {Mc Mr : Mem} {H : Heap} {locs : List Loc} {ls : Array Slot} {i : Int32} (hrel : Rel Mc Mr) (hw : LwS D cA adC adR adK s Mc Mr H locs) (hl : lv_has ls 4 [(0, .ref b), (1, .ref (adC 0)), (2, .ref (adR 0)), (3, .int i)]) (hi : ∀ k : Nat, k < 6 → vp_in (i + Int32.ofNat k) L) (kk : ∀ Mc' Mr', Rel Mc' Mr' → ∀ (H1 : Heap) (locs1 : List Loc), LwS D cA adC adR adK s Mc' Mr' H1 locs1 → W p l e room_1 s m #[Value.ref b] below meth c H1 locs1 600000 7302250 (lw_Z below #[Value.ref b] s) (F0 m 2654 ls [])) : W p l e room_1 s m #[Value.ref b] below meth c H locs 600000 7302250 (lw_Z below #[Value.ref b] s) (F0 m 1785 ls []) := by
  obtain ⟨hx, hb, hml, hown, hts, hX, hbl, hbA, hK, hWC, hWR, hE, hAC, hAR, hdis⟩ := id X
  obtain ⟨r, Mc', Mr', e1, e2, hrel2⟩ := ho Mc Mr (xs (ix (i + 1))) (xs (ix (i + 2))) hrel
  refine lv_aload_n hx hb dL_law_1785 rfl (lv_at hl 1 rfl) ?_
  refine lv_aload_n hx hb dL_law_1786 rfl (lv_at hl 0 rfl) ?_
  refine lv_iload_n hx hb dL_law_1787 rfl (lv_at hl 3 rfl) ?_
  refine lv_iconst (v := 1) hx hb dL_law_1788 (by decide) ?_
  refine lv_iadd hx hb dL_law_1789 ?_
  refine va_sld hx hb hX hbl hbA hw.2.2 (hi 1 (by decide)) dL_law_1790 ?_
  refine lv_aload_n hx hb dL_law_1791 rfl (lv_at hl 0 rfl) ?_
  refine lv_iload_n hx hb dL_law_1792 rfl (lv_at hl 3 rfl) ?_
  refine lv_iconst (v := 2) hx hb dL_law_1793 (by decide) ?_
  refine lv_iadd hx hb dL_law_1794 ?_
  refine va_sld hx hb hX hbl hbA hw.2.2 (hi 2 (by decide)) dL_law_1795 ?_
  refine wlawC (As := [.int (xs (ix (i + 1))), .int (xs (ix (i + 2)))]) (rest := []) X hw (c_X10_airs hWC e1) vlL_253 ⟨Nat.le_of_ble_eq_true rfl, Nat.le_of_ble_eq_true rfl⟩ rfl rfl rfl hl.1 (Nat.le_of_ble_eq_true rfl) dL_law_1796 ⟨Nat.le_of_ble_eq_true rfl, Nat.le_of_ble_eq_true rfl⟩ (fun H locs hw => ?_)
  refine lv_aload_n hx hb dL_law_1799 rfl (lv_at hl 2 rfl) ?_
  refine lv_aload_n hx hb dL_law_1800 rfl (lv_at hl 0 rfl) ?_
  refine lv_iload_n hx hb dL_law_1801 rfl (lv_at hl 3 rfl) ?_
  refine lv_iconst (v := 1) hx hb dL_law_1802 (by decide) ?_
  refine lv_iadd hx hb dL_law_1803 ?_
  refine va_sld hx hb hX hbl hbA hw.2.2 (hi 1 (by decide)) dL_law_1804 ?_
  refine lv_aload_n hx hb dL_law_1805 rfl (lv_at hl 0 rfl) ?_
  refine lv_iload_n hx hb dL_law_1806 rfl (lv_at hl 3 rfl) ?_
  refine lv_iconst (v := 2) hx hb dL_law_1807 (by decide) ?_
  refine lv_iadd hx hb dL_law_1808 ?_
  refine va_sld hx hb hX hbl hbA hw.2.2 (hi 2 (by decide)) dL_law_1809 ?_
  refine wlawR (As := [.int (xs (ix (i + 1))), .int (xs (ix (i + 2)))]) (rest := [.int r]) X hw (c_X11_airs hWR e2) vlL_256 ⟨Nat.le_of_ble_eq_true rfl, Nat.le_of_ble_eq_true rfl⟩ rfl rfl rfl hl.1 (Nat.le_of_ble_eq_true rfl) dL_law_1810 ⟨Nat.le_of_ble_eq_true rfl, Nat.le_of_ble_eq_true rfl⟩ (fun H locs hw => ?_)
  refine lv_icmp_eq (tgt := 2654) hx hb dL_law_1813 (by decide) (fun _ => ?_) (fun c1 => absurd rfl c1)
  exact kk Mc' Mr' hrel2 H locs hw
set_option maxRecDepth 100000 in
set_option maxHeartbeats 4000000 in
theorem lawc_60 {p : Program} {l : Launch} {e : Env} {s : State} {m : MethodId} {below : List Frame} {meth : Method} {c : Code} {b L : Nat} {xs : Nat → Int32} {D : va_G} {cA : Nat → ClassId} {adC adR adK : Nat → Nat} {EC : State → Heap → Prop} {Rel : Mem → Mem → Prop} (X : LwX p s m meth c b L xs D cA adC adR adK EC) (ho : Op_60 Rel) {Mc Mr : Mem} {H : Heap} {locs : List Loc} {ls : Array Slot} {i : Int32} (hrel : Rel Mc Mr) (hw : LwS D cA adC adR adK s Mc Mr H locs) (hl : lv_has ls 4 [(0, .ref b), (1, .ref (adC 0)), (2, .ref (adR 0)), (3, .int i)]) (hi : ∀ k : Nat, k < 6 → vp_in (i + Int32.ofNat k) L) (kk : ∀ Mc' Mr', Rel Mc' Mr' → ∀ (H1 : Heap) (locs1 : List Loc), LwS D cA adC adR adK s Mc' Mr' H1 locs1 → W p l e room_1 s m #[Value.ref b] below meth c H1 locs1 600000 7302250 (lw_Z below #[Value.ref b] s) (F0 m 2654 ls [])) : W p l e room_1 s m #[Value.ref b] below meth c H locs 600000 7302250 (lw_Z below #[Value.ref b] s) (F0 m 1818 ls []) := by
  obtain ⟨hx, hb, hml, hown, hts, hX, hbl, hbA, hK, hWC, hWR, hE, hAC, hAR, hdis⟩ := id X
  obtain ⟨r, Mc', Mr', e1, e2, hrel2⟩ := ho Mc Mr (xs (ix (i + 1))) (xs (ix (i + 2))) hrel
  refine lv_aload_n hx hb dL_law_1818 rfl (lv_at hl 1 rfl) ?_
  refine lv_aload_n hx hb dL_law_1819 rfl (lv_at hl 0 rfl) ?_
  refine lv_iload_n hx hb dL_law_1820 rfl (lv_at hl 3 rfl) ?_
  refine lv_iconst (v := 1) hx hb dL_law_1821 (by decide) ?_
  refine lv_iadd hx hb dL_law_1822 ?_
  refine va_sld hx hb hX hbl hbA hw.2.2 (hi 1 (by decide)) dL_law_1823 ?_
  refine lv_aload_n hx hb dL_law_1824 rfl (lv_at hl 0 rfl) ?_
  refine lv_iload_n hx hb dL_law_1825 rfl (lv_at hl 3 rfl) ?_
  refine lv_iconst (v := 2) hx hb dL_law_1826 (by decide) ?_
  refine lv_iadd hx hb dL_law_1827 ?_
  refine va_sld hx hb hX hbl hbA hw.2.2 (hi 2 (by decide)) dL_law_1828 ?_
  refine wlawC (As := [.int (xs (ix (i + 1))), .int (xs (ix (i + 2)))]) (rest := []) X hw (c_X10_low hWC e1) vlL_257 ⟨Nat.le_of_ble_eq_true rfl, Nat.le_of_ble_eq_true rfl⟩ rfl rfl rfl hl.1 (Nat.le_of_ble_eq_true rfl) dL_law_1829 ⟨Nat.le_of_ble_eq_true rfl, Nat.le_of_ble_eq_true rfl⟩ (fun H locs hw => ?_)
  refine lv_aload_n hx hb dL_law_1832 rfl (lv_at hl 2 rfl) ?_
  refine lv_aload_n hx hb dL_law_1833 rfl (lv_at hl 0 rfl) ?_
  refine lv_iload_n hx hb dL_law_1834 rfl (lv_at hl 3 rfl) ?_
  refine lv_iconst (v := 1) hx hb dL_law_1835 (by decide) ?_
  refine lv_iadd hx hb dL_law_1836 ?_
  refine va_sld hx hb hX hbl hbA hw.2.2 (hi 1 (by decide)) dL_law_1837 ?_
  refine lv_aload_n hx hb dL_law_1838 rfl (lv_at hl 0 rfl) ?_
  refine lv_iload_n hx hb dL_law_1839 rfl (lv_at hl 3 rfl) ?_
  refine lv_iconst (v := 2) hx hb dL_law_1840 (by decide) ?_
  refine lv_iadd hx hb dL_law_1841 ?_
  refine va_sld hx hb hX hbl hbA hw.2.2 (hi 2 (by decide)) dL_law_1842 ?_
  refine wlawR (As := [.int (xs (ix (i + 1))), .int (xs (ix (i + 2)))]) (rest := [.int r]) X hw (c_X11_low hWR e2) vlL_260 ⟨Nat.le_of_ble_eq_true rfl, Nat.le_of_ble_eq_true rfl⟩ rfl rfl rfl hl.1 (Nat.le_of_ble_eq_true rfl) dL_law_1843 ⟨Nat.le_of_ble_eq_true rfl, Nat.le_of_ble_eq_true rfl⟩ (fun H locs hw => ?_)
  refine lv_icmp_eq (tgt := 2654) hx hb dL_law_1846 (by decide) (fun _ => ?_) (fun c1 => absurd rfl c1)
  exact kk Mc' Mr' hrel2 H locs hw
set_option maxRecDepth 100000 in
set_option maxHeartbeats 4000000 in
theorem lawc_61 {p : Program} {l : Launch} {e : Env} {s : State} {m : MethodId} {below : List Frame} {meth : Method} {c : Code} {b L : Nat} {xs : Nat → Int32} {D : va_G} {cA : Nat → ClassId} {adC adR adK : Nat → Nat} {EC : State → Heap → Prop} {Rel : Mem → Mem → Prop} (X : LwX p s m meth c b L xs D cA adC adR adK EC) (ho : Op_61 Rel) {Mc Mr : Mem} {H : Heap} {locs : List Loc} {ls : Array Slot} {i : Int32} (hrel : Rel Mc Mr) (hw : LwS D cA adC adR adK s Mc Mr H locs) (hl : lv_has ls 4 [(0, .ref b), (1, .ref (adC 0)), (2, .ref (adR 0)), (3, .int i)]) (hi : ∀ k : Nat, k < 6 → vp_in (i + Int32.ofNat k) L) (kk : ∀ Mc' Mr', Rel Mc' Mr' → ∀ (H1 : Heap) (locs1 : List Loc), LwS D cA adC adR adK s Mc' Mr' H1 locs1 → W p l e room_1 s m #[Value.ref b] below meth c H1 locs1 600000 7302250 (lw_Z below #[Value.ref b] s) (F0 m 2654 ls [])) : W p l e room_1 s m #[Value.ref b] below meth c H locs 600000 7302250 (lw_Z below #[Value.ref b] s) (F0 m 1851 ls []) := by
  obtain ⟨hx, hb, hml, hown, hts, hX, hbl, hbA, hK, hWC, hWR, hE, hAC, hAR, hdis⟩ := id X
  obtain ⟨r, Mc', Mr', e1, e2, hrel2⟩ := ho Mc Mr (xs (ix (i + 1))) (xs (ix (i + 2))) hrel
  refine lv_aload_n hx hb dL_law_1851 rfl (lv_at hl 1 rfl) ?_
  refine lv_aload_n hx hb dL_law_1852 rfl (lv_at hl 0 rfl) ?_
  refine lv_iload_n hx hb dL_law_1853 rfl (lv_at hl 3 rfl) ?_
  refine lv_iconst (v := 1) hx hb dL_law_1854 (by decide) ?_
  refine lv_iadd hx hb dL_law_1855 ?_
  refine va_sld hx hb hX hbl hbA hw.2.2 (hi 1 (by decide)) dL_law_1856 ?_
  refine lv_aload_n hx hb dL_law_1857 rfl (lv_at hl 0 rfl) ?_
  refine lv_iload_n hx hb dL_law_1858 rfl (lv_at hl 3 rfl) ?_
  refine lv_iconst (v := 2) hx hb dL_law_1859 (by decide) ?_
  refine lv_iadd hx hb dL_law_1860 ?_
  refine va_sld hx hb hX hbl hbA hw.2.2 (hi 2 (by decide)) dL_law_1861 ?_
  refine wlawC (As := [.int (xs (ix (i + 1))), .int (xs (ix (i + 2)))]) (rest := []) X hw (c_X10_high hWC e1) vlL_261 ⟨Nat.le_of_ble_eq_true rfl, Nat.le_of_ble_eq_true rfl⟩ rfl rfl rfl hl.1 (Nat.le_of_ble_eq_true rfl) dL_law_1862 ⟨Nat.le_of_ble_eq_true rfl, Nat.le_of_ble_eq_true rfl⟩ (fun H locs hw => ?_)
  refine lv_aload_n hx hb dL_law_1865 rfl (lv_at hl 2 rfl) ?_
  refine lv_aload_n hx hb dL_law_1866 rfl (lv_at hl 0 rfl) ?_
  refine lv_iload_n hx hb dL_law_1867 rfl (lv_at hl 3 rfl) ?_
  refine lv_iconst (v := 1) hx hb dL_law_1868 (by decide) ?_
  refine lv_iadd hx hb dL_law_1869 ?_
  refine va_sld hx hb hX hbl hbA hw.2.2 (hi 1 (by decide)) dL_law_1870 ?_
  refine lv_aload_n hx hb dL_law_1871 rfl (lv_at hl 0 rfl) ?_
  refine lv_iload_n hx hb dL_law_1872 rfl (lv_at hl 3 rfl) ?_
  refine lv_iconst (v := 2) hx hb dL_law_1873 (by decide) ?_
  refine lv_iadd hx hb dL_law_1874 ?_
  refine va_sld hx hb hX hbl hbA hw.2.2 (hi 2 (by decide)) dL_law_1875 ?_
  refine wlawR (As := [.int (xs (ix (i + 1))), .int (xs (ix (i + 2)))]) (rest := [.int r]) X hw (c_X11_high hWR e2) vlL_264 ⟨Nat.le_of_ble_eq_true rfl, Nat.le_of_ble_eq_true rfl⟩ rfl rfl rfl hl.1 (Nat.le_of_ble_eq_true rfl) dL_law_1876 ⟨Nat.le_of_ble_eq_true rfl, Nat.le_of_ble_eq_true rfl⟩ (fun H locs hw => ?_)
  refine lv_icmp_eq (tgt := 2654) hx hb dL_law_1879 (by decide) (fun _ => ?_) (fun c1 => absurd rfl c1)
  exact kk Mc' Mr' hrel2 H locs hw
set_option maxRecDepth 100000 in
set_option maxHeartbeats 4000000 in
theorem lawc_62 {p : Program} {l : Launch} {e : Env} {s : State} {m : MethodId} {below : List Frame} {meth : Method} {c : Code} {b L : Nat} {xs : Nat → Int32} {D : va_G} {cA : Nat → ClassId} {adC adR adK : Nat → Nat} {EC : State → Heap → Prop} {Rel : Mem → Mem → Prop} (X : LwX p s m meth c b L xs D cA adC adR adK EC) (ho : Op_62 Rel) {Mc Mr : Mem} {H : Heap} {locs : List Loc} {ls : Array Slot} {i : Int32} (hrel : Rel Mc Mr) (hw : LwS D cA adC adR adK s Mc Mr H locs) (hl : lv_has ls 4 [(0, .ref b), (1, .ref (adC 0)), (2, .ref (adR 0)), (3, .int i)]) (hi : ∀ k : Nat, k < 6 → vp_in (i + Int32.ofNat k) L) (kk : ∀ Mc' Mr', Rel Mc' Mr' → ∀ (H1 : Heap) (locs1 : List Loc), LwS D cA adC adR adK s Mc' Mr' H1 locs1 → W p l e room_1 s m #[Value.ref b] below meth c H1 locs1 600000 7302250 (lw_Z below #[Value.ref b] s) (F0 m 2654 ls [])) : W p l e room_1 s m #[Value.ref b] below meth c H locs 600000 7302250 (lw_Z below #[Value.ref b] s) (F0 m 1884 ls []) := by
  obtain ⟨hx, hb, hml, hown, hts, hX, hbl, hbA, hK, hWC, hWR, hE, hAC, hAR, hdis⟩ := id X
  obtain ⟨r, Mc', Mr', e1, e2, hrel2⟩ := ho Mc Mr (xs (ix (i + 1))) (xs (ix (i + 2))) hrel
  refine lv_aload_n hx hb dL_law_1884 rfl (lv_at hl 1 rfl) ?_
  refine lv_aload_n hx hb dL_law_1885 rfl (lv_at hl 0 rfl) ?_
  refine lv_iload_n hx hb dL_law_1886 rfl (lv_at hl 3 rfl) ?_
  refine lv_iconst (v := 1) hx hb dL_law_1887 (by decide) ?_
  refine lv_iadd hx hb dL_law_1888 ?_
  refine va_sld hx hb hX hbl hbA hw.2.2 (hi 1 (by decide)) dL_law_1889 ?_
  refine lv_aload_n hx hb dL_law_1890 rfl (lv_at hl 0 rfl) ?_
  refine lv_iload_n hx hb dL_law_1891 rfl (lv_at hl 3 rfl) ?_
  refine lv_iconst (v := 2) hx hb dL_law_1892 (by decide) ?_
  refine lv_iadd hx hb dL_law_1893 ?_
  refine va_sld hx hb hX hbl hbA hw.2.2 (hi 2 (by decide)) dL_law_1894 ?_
  refine wlawC (As := [.int (xs (ix (i + 1))), .int (xs (ix (i + 2)))]) (rest := []) X hw (c_X10_thicks hWC e1) vlL_265 ⟨Nat.le_of_ble_eq_true rfl, Nat.le_of_ble_eq_true rfl⟩ rfl rfl rfl hl.1 (Nat.le_of_ble_eq_true rfl) dL_law_1895 ⟨Nat.le_of_ble_eq_true rfl, Nat.le_of_ble_eq_true rfl⟩ (fun H locs hw => ?_)
  refine lv_aload_n hx hb dL_law_1898 rfl (lv_at hl 2 rfl) ?_
  refine lv_aload_n hx hb dL_law_1899 rfl (lv_at hl 0 rfl) ?_
  refine lv_iload_n hx hb dL_law_1900 rfl (lv_at hl 3 rfl) ?_
  refine lv_iconst (v := 1) hx hb dL_law_1901 (by decide) ?_
  refine lv_iadd hx hb dL_law_1902 ?_
  refine va_sld hx hb hX hbl hbA hw.2.2 (hi 1 (by decide)) dL_law_1903 ?_
  refine lv_aload_n hx hb dL_law_1904 rfl (lv_at hl 0 rfl) ?_
  refine lv_iload_n hx hb dL_law_1905 rfl (lv_at hl 3 rfl) ?_
  refine lv_iconst (v := 2) hx hb dL_law_1906 (by decide) ?_
  refine lv_iadd hx hb dL_law_1907 ?_
  refine va_sld hx hb hX hbl hbA hw.2.2 (hi 2 (by decide)) dL_law_1908 ?_
  refine wlawR (As := [.int (xs (ix (i + 1))), .int (xs (ix (i + 2)))]) (rest := [.int r]) X hw (c_X11_thicks hWR e2) vlL_268 ⟨Nat.le_of_ble_eq_true rfl, Nat.le_of_ble_eq_true rfl⟩ rfl rfl rfl hl.1 (Nat.le_of_ble_eq_true rfl) dL_law_1909 ⟨Nat.le_of_ble_eq_true rfl, Nat.le_of_ble_eq_true rfl⟩ (fun H locs hw => ?_)
  refine lv_icmp_eq (tgt := 2654) hx hb dL_law_1912 (by decide) (fun _ => ?_) (fun c1 => absurd rfl c1)
  exact kk Mc' Mr' hrel2 H locs hw
set_option maxRecDepth 100000 in
set_option maxHeartbeats 4000000 in
theorem lawc_63 {p : Program} {l : Launch} {e : Env} {s : State} {m : MethodId} {below : List Frame} {meth : Method} {c : Code} {b L : Nat} {xs : Nat → Int32} {D : va_G} {cA : Nat → ClassId} {adC adR adK : Nat → Nat} {EC : State → Heap → Prop} {Rel : Mem → Mem → Prop} (X : LwX p s m meth c b L xs D cA adC adR adK EC) (ho : Op_63 Rel) {Mc Mr : Mem} {H : Heap} {locs : List Loc} {ls : Array Slot} {i : Int32} (hrel : Rel Mc Mr) (hw : LwS D cA adC adR adK s Mc Mr H locs) (hl : lv_has ls 4 [(0, .ref b), (1, .ref (adC 0)), (2, .ref (adR 0)), (3, .int i)]) (hi : ∀ k : Nat, k < 6 → vp_in (i + Int32.ofNat k) L) (kk : ∀ Mc' Mr', Rel Mc' Mr' → ∀ (H1 : Heap) (locs1 : List Loc), LwS D cA adC adR adK s Mc' Mr' H1 locs1 → W p l e room_1 s m #[Value.ref b] below meth c H1 locs1 600000 7302250 (lw_Z below #[Value.ref b] s) (F0 m 2654 ls [])) : W p l e room_1 s m #[Value.ref b] below meth c H locs 600000 7302250 (lw_Z below #[Value.ref b] s) (F0 m 1917 ls []) := by
  obtain ⟨hx, hb, hml, hown, hts, hX, hbl, hbA, hK, hWC, hWR, hE, hAC, hAR, hdis⟩ := id X
  obtain ⟨r, Mc', Mr', e1, e2, hrel2⟩ := ho Mc Mr (xs (ix (i + 1))) hrel
  refine lv_aload_n hx hb dL_law_1917 rfl (lv_at hl 1 rfl) ?_
  refine lv_aload_n hx hb dL_law_1918 rfl (lv_at hl 0 rfl) ?_
  refine lv_iload_n hx hb dL_law_1919 rfl (lv_at hl 3 rfl) ?_
  refine lv_iconst (v := 1) hx hb dL_law_1920 (by decide) ?_
  refine lv_iadd hx hb dL_law_1921 ?_
  refine va_sld hx hb hX hbl hbA hw.2.2 (hi 1 (by decide)) dL_law_1922 ?_
  refine wlawC (As := [.int (xs (ix (i + 1)))]) (rest := []) X hw (c_X10_laws hWC e1) vlL_269 ⟨Nat.le_of_ble_eq_true rfl, Nat.le_of_ble_eq_true rfl⟩ rfl rfl rfl hl.1 (Nat.le_of_ble_eq_true rfl) dL_law_1923 ⟨Nat.le_of_ble_eq_true rfl, Nat.le_of_ble_eq_true rfl⟩ (fun H locs hw => ?_)
  refine lv_aload_n hx hb dL_law_1926 rfl (lv_at hl 2 rfl) ?_
  refine lv_aload_n hx hb dL_law_1927 rfl (lv_at hl 0 rfl) ?_
  refine lv_iload_n hx hb dL_law_1928 rfl (lv_at hl 3 rfl) ?_
  refine lv_iconst (v := 1) hx hb dL_law_1929 (by decide) ?_
  refine lv_iadd hx hb dL_law_1930 ?_
  refine va_sld hx hb hX hbl hbA hw.2.2 (hi 1 (by decide)) dL_law_1931 ?_
  refine wlawR (As := [.int (xs (ix (i + 1)))]) (rest := [.int r]) X hw (c_X11_laws hWR e2) vlL_272 ⟨Nat.le_of_ble_eq_true rfl, Nat.le_of_ble_eq_true rfl⟩ rfl rfl rfl hl.1 (Nat.le_of_ble_eq_true rfl) dL_law_1932 ⟨Nat.le_of_ble_eq_true rfl, Nat.le_of_ble_eq_true rfl⟩ (fun H locs hw => ?_)
  refine lv_icmp_eq (tgt := 2654) hx hb dL_law_1935 (by decide) (fun _ => ?_) (fun c1 => absurd rfl c1)
  exact kk Mc' Mr' hrel2 H locs hw
set_option maxRecDepth 100000 in
set_option maxHeartbeats 4000000 in
theorem lawc_64 {p : Program} {l : Launch} {e : Env} {s : State} {m : MethodId} {below : List Frame} {meth : Method} {c : Code} {b L : Nat} {xs : Nat → Int32} {D : va_G} {cA : Nat → ClassId} {adC adR adK : Nat → Nat} {EC : State → Heap → Prop} {Rel : Mem → Mem → Prop} (X : LwX p s m meth c b L xs D cA adC adR adK EC) (ho : Op_64 Rel) {Mc Mr : Mem} {H : Heap} {locs : List Loc} {ls : Array Slot} {i : Int32} (hrel : Rel Mc Mr) (hw : LwS D cA adC adR adK s Mc Mr H locs) (hl : lv_has ls 4 [(0, .ref b), (1, .ref (adC 0)), (2, .ref (adR 0)), (3, .int i)]) (hi : ∀ k : Nat, k < 6 → vp_in (i + Int32.ofNat k) L) (kk : ∀ Mc' Mr', Rel Mc' Mr' → ∀ (H1 : Heap) (locs1 : List Loc), LwS D cA adC adR adK s Mc' Mr' H1 locs1 → W p l e room_1 s m #[Value.ref b] below meth c H1 locs1 600000 7302250 (lw_Z below #[Value.ref b] s) (F0 m 2654 ls [])) : W p l e room_1 s m #[Value.ref b] below meth c H locs 600000 7302250 (lw_Z below #[Value.ref b] s) (F0 m 1940 ls []) := by
  obtain ⟨hx, hb, hml, hown, hts, hX, hbl, hbA, hK, hWC, hWR, hE, hAC, hAR, hdis⟩ := id X
  obtain ⟨r, Mc', Mr', e1, e2, hrel2⟩ := ho Mc Mr (xs (ix (i + 1))) hrel
  refine lv_aload_n hx hb dL_law_1940 rfl (lv_at hl 1 rfl) ?_
  refine lv_aload_n hx hb dL_law_1941 rfl (lv_at hl 0 rfl) ?_
  refine lv_iload_n hx hb dL_law_1942 rfl (lv_at hl 3 rfl) ?_
  refine lv_iconst (v := 1) hx hb dL_law_1943 (by decide) ?_
  refine lv_iadd hx hb dL_law_1944 ?_
  refine va_sld hx hb hX hbl hbA hw.2.2 (hi 1 (by decide)) dL_law_1945 ?_
  refine wlawC (As := [.int (xs (ix (i + 1)))]) (rest := []) X hw (c_X10_by hWC e1) vlL_273 ⟨Nat.le_of_ble_eq_true rfl, Nat.le_of_ble_eq_true rfl⟩ rfl rfl rfl hl.1 (Nat.le_of_ble_eq_true rfl) dL_law_1946 ⟨Nat.le_of_ble_eq_true rfl, Nat.le_of_ble_eq_true rfl⟩ (fun H locs hw => ?_)
  refine lv_aload_n hx hb dL_law_1949 rfl (lv_at hl 2 rfl) ?_
  refine lv_aload_n hx hb dL_law_1950 rfl (lv_at hl 0 rfl) ?_
  refine lv_iload_n hx hb dL_law_1951 rfl (lv_at hl 3 rfl) ?_
  refine lv_iconst (v := 1) hx hb dL_law_1952 (by decide) ?_
  refine lv_iadd hx hb dL_law_1953 ?_
  refine va_sld hx hb hX hbl hbA hw.2.2 (hi 1 (by decide)) dL_law_1954 ?_
  refine wlawR (As := [.int (xs (ix (i + 1)))]) (rest := [.int r]) X hw (c_X11_by hWR e2) vlL_276 ⟨Nat.le_of_ble_eq_true rfl, Nat.le_of_ble_eq_true rfl⟩ rfl rfl rfl hl.1 (Nat.le_of_ble_eq_true rfl) dL_law_1955 ⟨Nat.le_of_ble_eq_true rfl, Nat.le_of_ble_eq_true rfl⟩ (fun H locs hw => ?_)
  refine lv_icmp_eq (tgt := 2654) hx hb dL_law_1958 (by decide) (fun _ => ?_) (fun c1 => absurd rfl c1)
  exact kk Mc' Mr' hrel2 H locs hw
set_option maxRecDepth 100000 in
set_option maxHeartbeats 4000000 in
theorem lawc_65 {p : Program} {l : Launch} {e : Env} {s : State} {m : MethodId} {below : List Frame} {meth : Method} {c : Code} {b L : Nat} {xs : Nat → Int32} {D : va_G} {cA : Nat → ClassId} {adC adR adK : Nat → Nat} {EC : State → Heap → Prop} {Rel : Mem → Mem → Prop} (X : LwX p s m meth c b L xs D cA adC adR adK EC) (ho : Op_65 Rel) {Mc Mr : Mem} {H : Heap} {locs : List Loc} {ls : Array Slot} {i : Int32} (hrel : Rel Mc Mr) (hw : LwS D cA adC adR adK s Mc Mr H locs) (hl : lv_has ls 4 [(0, .ref b), (1, .ref (adC 0)), (2, .ref (adR 0)), (3, .int i)]) (hi : ∀ k : Nat, k < 6 → vp_in (i + Int32.ofNat k) L) (kk : ∀ Mc' Mr', Rel Mc' Mr' → ∀ (H1 : Heap) (locs1 : List Loc), LwS D cA adC adR adK s Mc' Mr' H1 locs1 → W p l e room_1 s m #[Value.ref b] below meth c H1 locs1 600000 7302250 (lw_Z below #[Value.ref b] s) (F0 m 2654 ls [])) : W p l e room_1 s m #[Value.ref b] below meth c H locs 600000 7302250 (lw_Z below #[Value.ref b] s) (F0 m 1963 ls []) := by
  obtain ⟨hx, hb, hml, hown, hts, hX, hbl, hbA, hK, hWC, hWR, hE, hAC, hAR, hdis⟩ := id X
  obtain ⟨r, Mc', Mr', e1, e2, hrel2⟩ := ho Mc Mr  hrel
  refine lv_aload_n hx hb dL_law_1963 rfl (lv_at hl 1 rfl) ?_
  refine wlawC (As := []) (rest := []) X hw (c_X10_law hWC e1) vlL_277 ⟨Nat.le_of_ble_eq_true rfl, Nat.le_of_ble_eq_true rfl⟩ rfl rfl rfl hl.1 (Nat.le_of_ble_eq_true rfl) dL_law_1964 ⟨Nat.le_of_ble_eq_true rfl, Nat.le_of_ble_eq_true rfl⟩ (fun H locs hw => ?_)
  refine lv_aload_n hx hb dL_law_1967 rfl (lv_at hl 2 rfl) ?_
  refine wlawR (As := []) (rest := [.int r]) X hw (c_X11_law hWR e2) vlL_280 ⟨Nat.le_of_ble_eq_true rfl, Nat.le_of_ble_eq_true rfl⟩ rfl rfl rfl hl.1 (Nat.le_of_ble_eq_true rfl) dL_law_1968 ⟨Nat.le_of_ble_eq_true rfl, Nat.le_of_ble_eq_true rfl⟩ (fun H locs hw => ?_)
  refine lv_icmp_eq (tgt := 2654) hx hb dL_law_1971 (by decide) (fun _ => ?_) (fun c1 => absurd rfl c1)
  exact kk Mc' Mr' hrel2 H locs hw
set_option maxRecDepth 100000 in
set_option maxHeartbeats 4000000 in
theorem lawc_66 {p : Program} {l : Launch} {e : Env} {s : State} {m : MethodId} {below : List Frame} {meth : Method} {c : Code} {b L : Nat} {xs : Nat → Int32} {D : va_G} {cA : Nat → ClassId} {adC adR adK : Nat → Nat} {EC : State → Heap → Prop} {Rel : Mem → Mem → Prop} (X : LwX p s m meth c b L xs D cA adC adR adK EC) (ho : Op_66 Rel) {Mc Mr : Mem} {H : Heap} {locs : List Loc} {ls : Array Slot} {i : Int32} (hrel : Rel Mc Mr) (hw : LwS D cA adC adR adK s Mc Mr H locs) (hl : lv_has ls 4 [(0, .ref b), (1, .ref (adC 0)), (2, .ref (adR 0)), (3, .int i)]) (hi : ∀ k : Nat, k < 6 → vp_in (i + Int32.ofNat k) L) (kk : ∀ Mc' Mr', Rel Mc' Mr' → ∀ (H1 : Heap) (locs1 : List Loc), LwS D cA adC adR adK s Mc' Mr' H1 locs1 → W p l e room_1 s m #[Value.ref b] below meth c H1 locs1 600000 7302250 (lw_Z below #[Value.ref b] s) (F0 m 2654 ls [])) : W p l e room_1 s m #[Value.ref b] below meth c H locs 600000 7302250 (lw_Z below #[Value.ref b] s) (F0 m 1976 ls []) := by
  obtain ⟨hx, hb, hml, hown, hts, hX, hbl, hbA, hK, hWC, hWR, hE, hAC, hAR, hdis⟩ := id X
  obtain ⟨r, Mc', Mr', e1, e2, hrel2⟩ := ho Mc Mr (xs (ix (i + 1))) hrel
  refine lv_aload_n hx hb dL_law_1976 rfl (lv_at hl 1 rfl) ?_
  refine lv_aload_n hx hb dL_law_1977 rfl (lv_at hl 0 rfl) ?_
  refine lv_iload_n hx hb dL_law_1978 rfl (lv_at hl 3 rfl) ?_
  refine lv_iconst (v := 1) hx hb dL_law_1979 (by decide) ?_
  refine lv_iadd hx hb dL_law_1980 ?_
  refine va_sld hx hb hX hbl hbA hw.2.2 (hi 1 (by decide)) dL_law_1981 ?_
  refine wlawC (As := [.int (xs (ix (i + 1)))]) (rest := []) X hw (c_X10_worth hWC e1) vlL_281 ⟨Nat.le_of_ble_eq_true rfl, Nat.le_of_ble_eq_true rfl⟩ rfl rfl rfl hl.1 (Nat.le_of_ble_eq_true rfl) dL_law_1982 ⟨Nat.le_of_ble_eq_true rfl, Nat.le_of_ble_eq_true rfl⟩ (fun H locs hw => ?_)
  refine lv_aload_n hx hb dL_law_1985 rfl (lv_at hl 2 rfl) ?_
  refine lv_aload_n hx hb dL_law_1986 rfl (lv_at hl 0 rfl) ?_
  refine lv_iload_n hx hb dL_law_1987 rfl (lv_at hl 3 rfl) ?_
  refine lv_iconst (v := 1) hx hb dL_law_1988 (by decide) ?_
  refine lv_iadd hx hb dL_law_1989 ?_
  refine va_sld hx hb hX hbl hbA hw.2.2 (hi 1 (by decide)) dL_law_1990 ?_
  refine wlawR (As := [.int (xs (ix (i + 1)))]) (rest := [.int r]) X hw (c_X11_worth hWR e2) vlL_284 ⟨Nat.le_of_ble_eq_true rfl, Nat.le_of_ble_eq_true rfl⟩ rfl rfl rfl hl.1 (Nat.le_of_ble_eq_true rfl) dL_law_1991 ⟨Nat.le_of_ble_eq_true rfl, Nat.le_of_ble_eq_true rfl⟩ (fun H locs hw => ?_)
  refine lv_icmp_eq (tgt := 2654) hx hb dL_law_1994 (by decide) (fun _ => ?_) (fun c1 => absurd rfl c1)
  exact kk Mc' Mr' hrel2 H locs hw
set_option maxRecDepth 100000 in
set_option maxHeartbeats 4000000 in
theorem lawc_67 {p : Program} {l : Launch} {e : Env} {s : State} {m : MethodId} {below : List Frame} {meth : Method} {c : Code} {b L : Nat} {xs : Nat → Int32} {D : va_G} {cA : Nat → ClassId} {adC adR adK : Nat → Nat} {EC : State → Heap → Prop} {Rel : Mem → Mem → Prop} (X : LwX p s m meth c b L xs D cA adC adR adK EC) (ho : Op_67 Rel) {Mc Mr : Mem} {H : Heap} {locs : List Loc} {ls : Array Slot} {i : Int32} (hrel : Rel Mc Mr) (hw : LwS D cA adC adR adK s Mc Mr H locs) (hl : lv_has ls 4 [(0, .ref b), (1, .ref (adC 0)), (2, .ref (adR 0)), (3, .int i)]) (hi : ∀ k : Nat, k < 6 → vp_in (i + Int32.ofNat k) L) (kk : ∀ Mc' Mr', Rel Mc' Mr' → ∀ (H1 : Heap) (locs1 : List Loc), LwS D cA adC adR adK s Mc' Mr' H1 locs1 → W p l e room_1 s m #[Value.ref b] below meth c H1 locs1 600000 7302250 (lw_Z below #[Value.ref b] s) (F0 m 2654 ls [])) : W p l e room_1 s m #[Value.ref b] below meth c H locs 600000 7302250 (lw_Z below #[Value.ref b] s) (F0 m 1999 ls []) := by
  obtain ⟨hx, hb, hml, hown, hts, hX, hbl, hbA, hK, hWC, hWR, hE, hAC, hAR, hdis⟩ := id X
  obtain ⟨r, Mc', Mr', e1, e2, hrel2⟩ := ho Mc Mr (xs (ix (i + 1))) (xs (ix (i + 2))) hrel
  refine lv_aload_n hx hb dL_law_1999 rfl (lv_at hl 1 rfl) ?_
  refine lv_aload_n hx hb dL_law_2000 rfl (lv_at hl 0 rfl) ?_
  refine lv_iload_n hx hb dL_law_2001 rfl (lv_at hl 3 rfl) ?_
  refine lv_iconst (v := 1) hx hb dL_law_2002 (by decide) ?_
  refine lv_iadd hx hb dL_law_2003 ?_
  refine va_sld hx hb hX hbl hbA hw.2.2 (hi 1 (by decide)) dL_law_2004 ?_
  refine lv_aload_n hx hb dL_law_2005 rfl (lv_at hl 0 rfl) ?_
  refine lv_iload_n hx hb dL_law_2006 rfl (lv_at hl 3 rfl) ?_
  refine lv_iconst (v := 2) hx hb dL_law_2007 (by decide) ?_
  refine lv_iadd hx hb dL_law_2008 ?_
  refine va_sld hx hb hX hbl hbA hw.2.2 (hi 2 (by decide)) dL_law_2009 ?_
  refine wlawC (As := [.int (xs (ix (i + 1))), .int (xs (ix (i + 2)))]) (rest := []) X hw (c_X10_share hWC e1) vlL_285 ⟨Nat.le_of_ble_eq_true rfl, Nat.le_of_ble_eq_true rfl⟩ rfl rfl rfl hl.1 (Nat.le_of_ble_eq_true rfl) dL_law_2010 ⟨Nat.le_of_ble_eq_true rfl, Nat.le_of_ble_eq_true rfl⟩ (fun H locs hw => ?_)
  refine lv_aload_n hx hb dL_law_2013 rfl (lv_at hl 2 rfl) ?_
  refine lv_aload_n hx hb dL_law_2014 rfl (lv_at hl 0 rfl) ?_
  refine lv_iload_n hx hb dL_law_2015 rfl (lv_at hl 3 rfl) ?_
  refine lv_iconst (v := 1) hx hb dL_law_2016 (by decide) ?_
  refine lv_iadd hx hb dL_law_2017 ?_
  refine va_sld hx hb hX hbl hbA hw.2.2 (hi 1 (by decide)) dL_law_2018 ?_
  refine lv_aload_n hx hb dL_law_2019 rfl (lv_at hl 0 rfl) ?_
  refine lv_iload_n hx hb dL_law_2020 rfl (lv_at hl 3 rfl) ?_
  refine lv_iconst (v := 2) hx hb dL_law_2021 (by decide) ?_
  refine lv_iadd hx hb dL_law_2022 ?_
  refine va_sld hx hb hX hbl hbA hw.2.2 (hi 2 (by decide)) dL_law_2023 ?_
  refine wlawR (As := [.int (xs (ix (i + 1))), .int (xs (ix (i + 2)))]) (rest := [.int r]) X hw (c_X11_share hWR e2) vlL_288 ⟨Nat.le_of_ble_eq_true rfl, Nat.le_of_ble_eq_true rfl⟩ rfl rfl rfl hl.1 (Nat.le_of_ble_eq_true rfl) dL_law_2024 ⟨Nat.le_of_ble_eq_true rfl, Nat.le_of_ble_eq_true rfl⟩ (fun H locs hw => ?_)
  refine lv_icmp_eq (tgt := 2654) hx hb dL_law_2027 (by decide) (fun _ => ?_) (fun c1 => absurd rfl c1)
  exact kk Mc' Mr' hrel2 H locs hw
set_option maxRecDepth 100000 in
set_option maxHeartbeats 4000000 in
theorem lawc_68 {p : Program} {l : Launch} {e : Env} {s : State} {m : MethodId} {below : List Frame} {meth : Method} {c : Code} {b L : Nat} {xs : Nat → Int32} {D : va_G} {cA : Nat → ClassId} {adC adR adK : Nat → Nat} {EC : State → Heap → Prop} {Rel : Mem → Mem → Prop} (X : LwX p s m meth c b L xs D cA adC adR adK EC) (ho : Op_68 Rel) {Mc Mr : Mem} {H : Heap} {locs : List Loc} {ls : Array Slot} {i : Int32} (hrel : Rel Mc Mr) (hw : LwS D cA adC adR adK s Mc Mr H locs) (hl : lv_has ls 4 [(0, .ref b), (1, .ref (adC 0)), (2, .ref (adR 0)), (3, .int i)]) (hi : ∀ k : Nat, k < 6 → vp_in (i + Int32.ofNat k) L) (kk : ∀ Mc' Mr', Rel Mc' Mr' → ∀ (H1 : Heap) (locs1 : List Loc), LwS D cA adC adR adK s Mc' Mr' H1 locs1 → W p l e room_1 s m #[Value.ref b] below meth c H1 locs1 600000 7302250 (lw_Z below #[Value.ref b] s) (F0 m 2654 ls [])) : W p l e room_1 s m #[Value.ref b] below meth c H locs 600000 7302250 (lw_Z below #[Value.ref b] s) (F0 m 2032 ls []) := by
  obtain ⟨hx, hb, hml, hown, hts, hX, hbl, hbA, hK, hWC, hWR, hE, hAC, hAR, hdis⟩ := id X
  obtain ⟨r, Mc', Mr', e1, e2, hrel2⟩ := ho Mc Mr (xs (ix (i + 1))) (xs (ix (i + 2))) hrel
  refine lv_aload_n hx hb dL_law_2032 rfl (lv_at hl 1 rfl) ?_
  refine lv_aload_n hx hb dL_law_2033 rfl (lv_at hl 0 rfl) ?_
  refine lv_iload_n hx hb dL_law_2034 rfl (lv_at hl 3 rfl) ?_
  refine lv_iconst (v := 1) hx hb dL_law_2035 (by decide) ?_
  refine lv_iadd hx hb dL_law_2036 ?_
  refine va_sld hx hb hX hbl hbA hw.2.2 (hi 1 (by decide)) dL_law_2037 ?_
  refine lv_aload_n hx hb dL_law_2038 rfl (lv_at hl 0 rfl) ?_
  refine lv_iload_n hx hb dL_law_2039 rfl (lv_at hl 3 rfl) ?_
  refine lv_iconst (v := 2) hx hb dL_law_2040 (by decide) ?_
  refine lv_iadd hx hb dL_law_2041 ?_
  refine va_sld hx hb hX hbl hbA hw.2.2 (hi 2 (by decide)) dL_law_2042 ?_
  refine wlawC (As := [.int (xs (ix (i + 1))), .int (xs (ix (i + 2)))]) (rest := []) X hw (c_X10_rests hWC e1) vlL_289 ⟨Nat.le_of_ble_eq_true rfl, Nat.le_of_ble_eq_true rfl⟩ rfl rfl rfl hl.1 (Nat.le_of_ble_eq_true rfl) dL_law_2043 ⟨Nat.le_of_ble_eq_true rfl, Nat.le_of_ble_eq_true rfl⟩ (fun H locs hw => ?_)
  refine lv_aload_n hx hb dL_law_2046 rfl (lv_at hl 2 rfl) ?_
  refine lv_aload_n hx hb dL_law_2047 rfl (lv_at hl 0 rfl) ?_
  refine lv_iload_n hx hb dL_law_2048 rfl (lv_at hl 3 rfl) ?_
  refine lv_iconst (v := 1) hx hb dL_law_2049 (by decide) ?_
  refine lv_iadd hx hb dL_law_2050 ?_
  refine va_sld hx hb hX hbl hbA hw.2.2 (hi 1 (by decide)) dL_law_2051 ?_
  refine lv_aload_n hx hb dL_law_2052 rfl (lv_at hl 0 rfl) ?_
  refine lv_iload_n hx hb dL_law_2053 rfl (lv_at hl 3 rfl) ?_
  refine lv_iconst (v := 2) hx hb dL_law_2054 (by decide) ?_
  refine lv_iadd hx hb dL_law_2055 ?_
  refine va_sld hx hb hX hbl hbA hw.2.2 (hi 2 (by decide)) dL_law_2056 ?_
  refine wlawR (As := [.int (xs (ix (i + 1))), .int (xs (ix (i + 2)))]) (rest := [.int r]) X hw (c_X11_rests hWR e2) vlL_292 ⟨Nat.le_of_ble_eq_true rfl, Nat.le_of_ble_eq_true rfl⟩ rfl rfl rfl hl.1 (Nat.le_of_ble_eq_true rfl) dL_law_2057 ⟨Nat.le_of_ble_eq_true rfl, Nat.le_of_ble_eq_true rfl⟩ (fun H locs hw => ?_)
  refine lv_icmp_eq (tgt := 2654) hx hb dL_law_2060 (by decide) (fun _ => ?_) (fun c1 => absurd rfl c1)
  exact kk Mc' Mr' hrel2 H locs hw
set_option maxRecDepth 100000 in
set_option maxHeartbeats 4000000 in
theorem lawc_69 {p : Program} {l : Launch} {e : Env} {s : State} {m : MethodId} {below : List Frame} {meth : Method} {c : Code} {b L : Nat} {xs : Nat → Int32} {D : va_G} {cA : Nat → ClassId} {adC adR adK : Nat → Nat} {EC : State → Heap → Prop} {Rel : Mem → Mem → Prop} (X : LwX p s m meth c b L xs D cA adC adR adK EC) (ho : Op_69 Rel) {Mc Mr : Mem} {H : Heap} {locs : List Loc} {ls : Array Slot} {i : Int32} (hrel : Rel Mc Mr) (hw : LwS D cA adC adR adK s Mc Mr H locs) (hl : lv_has ls 4 [(0, .ref b), (1, .ref (adC 0)), (2, .ref (adR 0)), (3, .int i)]) (hi : ∀ k : Nat, k < 6 → vp_in (i + Int32.ofNat k) L) (kk : ∀ Mc' Mr', Rel Mc' Mr' → ∀ (H1 : Heap) (locs1 : List Loc), LwS D cA adC adR adK s Mc' Mr' H1 locs1 → W p l e room_1 s m #[Value.ref b] below meth c H1 locs1 600000 7302250 (lw_Z below #[Value.ref b] s) (F0 m 2654 ls [])) : W p l e room_1 s m #[Value.ref b] below meth c H locs 600000 7302250 (lw_Z below #[Value.ref b] s) (F0 m 2065 ls []) := by
  obtain ⟨hx, hb, hml, hown, hts, hX, hbl, hbA, hK, hWC, hWR, hE, hAC, hAR, hdis⟩ := id X
  obtain ⟨r, Mc', Mr', e1, e2, hrel2⟩ := ho Mc Mr (xs (ix (i + 1))) (xs (ix (i + 2))) (xs (ix (i + 3))) (xs (ix (i + 4))) (xs (ix (i + 5))) hrel
  refine lv_aload_n hx hb dL_law_2065 rfl (lv_at hl 1 rfl) ?_
  refine lv_aload_n hx hb dL_law_2066 rfl (lv_at hl 0 rfl) ?_
  refine lv_iload_n hx hb dL_law_2067 rfl (lv_at hl 3 rfl) ?_
  refine lv_iconst (v := 1) hx hb dL_law_2068 (by decide) ?_
  refine lv_iadd hx hb dL_law_2069 ?_
  refine va_sld hx hb hX hbl hbA hw.2.2 (hi 1 (by decide)) dL_law_2070 ?_
  refine lv_aload_n hx hb dL_law_2071 rfl (lv_at hl 0 rfl) ?_
  refine lv_iload_n hx hb dL_law_2072 rfl (lv_at hl 3 rfl) ?_
  refine lv_iconst (v := 2) hx hb dL_law_2073 (by decide) ?_
  refine lv_iadd hx hb dL_law_2074 ?_
  refine va_sld hx hb hX hbl hbA hw.2.2 (hi 2 (by decide)) dL_law_2075 ?_
  refine lv_aload_n hx hb dL_law_2076 rfl (lv_at hl 0 rfl) ?_
  refine lv_iload_n hx hb dL_law_2077 rfl (lv_at hl 3 rfl) ?_
  refine lv_iconst (v := 3) hx hb dL_law_2078 (by decide) ?_
  refine lv_iadd hx hb dL_law_2079 ?_
  refine va_sld hx hb hX hbl hbA hw.2.2 (hi 3 (by decide)) dL_law_2080 ?_
  refine lv_aload_n hx hb dL_law_2081 rfl (lv_at hl 0 rfl) ?_
  refine lv_iload_n hx hb dL_law_2082 rfl (lv_at hl 3 rfl) ?_
  refine lv_iconst (v := 4) hx hb dL_law_2083 (by decide) ?_
  refine lv_iadd hx hb dL_law_2084 ?_
  refine va_sld hx hb hX hbl hbA hw.2.2 (hi 4 (by decide)) dL_law_2085 ?_
  refine lv_aload_n hx hb dL_law_2086 rfl (lv_at hl 0 rfl) ?_
  refine lv_iload_n hx hb dL_law_2087 rfl (lv_at hl 3 rfl) ?_
  refine lv_iconst (v := 5) hx hb dL_law_2088 (by decide) ?_
  refine lv_iadd hx hb dL_law_2089 ?_
  refine va_sld hx hb hX hbl hbA hw.2.2 (hi 5 (by decide)) dL_law_2090 ?_
  refine wlawC (As := [.int (xs (ix (i + 1))), .int (xs (ix (i + 2))), .int (xs (ix (i + 3))), .int (xs (ix (i + 4))), .int (xs (ix (i + 5)))]) (rest := []) X hw (c_X10_gets hWC e1) vlL_293 ⟨Nat.le_of_ble_eq_true rfl, Nat.le_of_ble_eq_true rfl⟩ rfl rfl rfl hl.1 (Nat.le_of_ble_eq_true rfl) dL_law_2091 ⟨Nat.le_of_ble_eq_true rfl, Nat.le_of_ble_eq_true rfl⟩ (fun H locs hw => ?_)
  refine lv_aload_n hx hb dL_law_2094 rfl (lv_at hl 2 rfl) ?_
  refine lv_aload_n hx hb dL_law_2095 rfl (lv_at hl 0 rfl) ?_
  refine lv_iload_n hx hb dL_law_2096 rfl (lv_at hl 3 rfl) ?_
  refine lv_iconst (v := 1) hx hb dL_law_2097 (by decide) ?_
  refine lv_iadd hx hb dL_law_2098 ?_
  refine va_sld hx hb hX hbl hbA hw.2.2 (hi 1 (by decide)) dL_law_2099 ?_
  refine lv_aload_n hx hb dL_law_2100 rfl (lv_at hl 0 rfl) ?_
  refine lv_iload_n hx hb dL_law_2101 rfl (lv_at hl 3 rfl) ?_
  refine lv_iconst (v := 2) hx hb dL_law_2102 (by decide) ?_
  refine lv_iadd hx hb dL_law_2103 ?_
  refine va_sld hx hb hX hbl hbA hw.2.2 (hi 2 (by decide)) dL_law_2104 ?_
  refine lv_aload_n hx hb dL_law_2105 rfl (lv_at hl 0 rfl) ?_
  refine lv_iload_n hx hb dL_law_2106 rfl (lv_at hl 3 rfl) ?_
  refine lv_iconst (v := 3) hx hb dL_law_2107 (by decide) ?_
  refine lv_iadd hx hb dL_law_2108 ?_
  refine va_sld hx hb hX hbl hbA hw.2.2 (hi 3 (by decide)) dL_law_2109 ?_
  refine lv_aload_n hx hb dL_law_2110 rfl (lv_at hl 0 rfl) ?_
  refine lv_iload_n hx hb dL_law_2111 rfl (lv_at hl 3 rfl) ?_
  refine lv_iconst (v := 4) hx hb dL_law_2112 (by decide) ?_
  refine lv_iadd hx hb dL_law_2113 ?_
  refine va_sld hx hb hX hbl hbA hw.2.2 (hi 4 (by decide)) dL_law_2114 ?_
  refine lv_aload_n hx hb dL_law_2115 rfl (lv_at hl 0 rfl) ?_
  refine lv_iload_n hx hb dL_law_2116 rfl (lv_at hl 3 rfl) ?_
  refine lv_iconst (v := 5) hx hb dL_law_2117 (by decide) ?_
  refine lv_iadd hx hb dL_law_2118 ?_
  refine va_sld hx hb hX hbl hbA hw.2.2 (hi 5 (by decide)) dL_law_2119 ?_
  refine wlawR (As := [.int (xs (ix (i + 1))), .int (xs (ix (i + 2))), .int (xs (ix (i + 3))), .int (xs (ix (i + 4))), .int (xs (ix (i + 5)))]) (rest := [.int r]) X hw (c_X11_gets hWR e2) vlL_296 ⟨Nat.le_of_ble_eq_true rfl, Nat.le_of_ble_eq_true rfl⟩ rfl rfl rfl hl.1 (Nat.le_of_ble_eq_true rfl) dL_law_2120 ⟨Nat.le_of_ble_eq_true rfl, Nat.le_of_ble_eq_true rfl⟩ (fun H locs hw => ?_)
  refine lv_icmp_eq (tgt := 2654) hx hb dL_law_2123 (by decide) (fun _ => ?_) (fun c1 => absurd rfl c1)
  exact kk Mc' Mr' hrel2 H locs hw
set_option maxRecDepth 100000 in
set_option maxHeartbeats 4000000 in
theorem lawc_70 {p : Program} {l : Launch} {e : Env} {s : State} {m : MethodId} {below : List Frame} {meth : Method} {c : Code} {b L : Nat} {xs : Nat → Int32} {D : va_G} {cA : Nat → ClassId} {adC adR adK : Nat → Nat} {EC : State → Heap → Prop} {Rel : Mem → Mem → Prop} (X : LwX p s m meth c b L xs D cA adC adR adK EC) (ho : Op_70 Rel) {Mc Mr : Mem} {H : Heap} {locs : List Loc} {ls : Array Slot} {i : Int32} (hrel : Rel Mc Mr) (hw : LwS D cA adC adR adK s Mc Mr H locs) (hl : lv_has ls 4 [(0, .ref b), (1, .ref (adC 0)), (2, .ref (adR 0)), (3, .int i)]) (hi : ∀ k : Nat, k < 6 → vp_in (i + Int32.ofNat k) L) (kk : ∀ Mc' Mr', Rel Mc' Mr' → ∀ (H1 : Heap) (locs1 : List Loc), LwS D cA adC adR adK s Mc' Mr' H1 locs1 → W p l e room_1 s m #[Value.ref b] below meth c H1 locs1 600000 7302250 (lw_Z below #[Value.ref b] s) (F0 m 2654 ls [])) : W p l e room_1 s m #[Value.ref b] below meth c H locs 600000 7302250 (lw_Z below #[Value.ref b] s) (F0 m 2128 ls []) := by
  obtain ⟨hx, hb, hml, hown, hts, hX, hbl, hbA, hK, hWC, hWR, hE, hAC, hAR, hdis⟩ := id X
  obtain ⟨r, Mc', Mr', e1, e2, hrel2⟩ := ho Mc Mr (xs (ix (i + 1))) (xs (ix (i + 2))) (xs (ix (i + 3))) hrel
  refine lv_aload_n hx hb dL_law_2128 rfl (lv_at hl 1 rfl) ?_
  refine lv_aload_n hx hb dL_law_2129 rfl (lv_at hl 0 rfl) ?_
  refine lv_iload_n hx hb dL_law_2130 rfl (lv_at hl 3 rfl) ?_
  refine lv_iconst (v := 1) hx hb dL_law_2131 (by decide) ?_
  refine lv_iadd hx hb dL_law_2132 ?_
  refine va_sld hx hb hX hbl hbA hw.2.2 (hi 1 (by decide)) dL_law_2133 ?_
  refine lv_aload_n hx hb dL_law_2134 rfl (lv_at hl 0 rfl) ?_
  refine lv_iload_n hx hb dL_law_2135 rfl (lv_at hl 3 rfl) ?_
  refine lv_iconst (v := 2) hx hb dL_law_2136 (by decide) ?_
  refine lv_iadd hx hb dL_law_2137 ?_
  refine va_sld hx hb hX hbl hbA hw.2.2 (hi 2 (by decide)) dL_law_2138 ?_
  refine lv_aload_n hx hb dL_law_2139 rfl (lv_at hl 0 rfl) ?_
  refine lv_iload_n hx hb dL_law_2140 rfl (lv_at hl 3 rfl) ?_
  refine lv_iconst (v := 3) hx hb dL_law_2141 (by decide) ?_
  refine lv_iadd hx hb dL_law_2142 ?_
  refine va_sld hx hb hX hbl hbA hw.2.2 (hi 3 (by decide)) dL_law_2143 ?_
  refine wlawC (As := [.int (xs (ix (i + 1))), .int (xs (ix (i + 2))), .int (xs (ix (i + 3)))]) (rest := []) X hw (c_X10_chance hWC e1) vlL_297 ⟨Nat.le_of_ble_eq_true rfl, Nat.le_of_ble_eq_true rfl⟩ rfl rfl rfl hl.1 (Nat.le_of_ble_eq_true rfl) dL_law_2144 ⟨Nat.le_of_ble_eq_true rfl, Nat.le_of_ble_eq_true rfl⟩ (fun H locs hw => ?_)
  refine lv_aload_n hx hb dL_law_2147 rfl (lv_at hl 2 rfl) ?_
  refine lv_aload_n hx hb dL_law_2148 rfl (lv_at hl 0 rfl) ?_
  refine lv_iload_n hx hb dL_law_2149 rfl (lv_at hl 3 rfl) ?_
  refine lv_iconst (v := 1) hx hb dL_law_2150 (by decide) ?_
  refine lv_iadd hx hb dL_law_2151 ?_
  refine va_sld hx hb hX hbl hbA hw.2.2 (hi 1 (by decide)) dL_law_2152 ?_
  refine lv_aload_n hx hb dL_law_2153 rfl (lv_at hl 0 rfl) ?_
  refine lv_iload_n hx hb dL_law_2154 rfl (lv_at hl 3 rfl) ?_
  refine lv_iconst (v := 2) hx hb dL_law_2155 (by decide) ?_
  refine lv_iadd hx hb dL_law_2156 ?_
  refine va_sld hx hb hX hbl hbA hw.2.2 (hi 2 (by decide)) dL_law_2157 ?_
  refine lv_aload_n hx hb dL_law_2158 rfl (lv_at hl 0 rfl) ?_
  refine lv_iload_n hx hb dL_law_2159 rfl (lv_at hl 3 rfl) ?_
  refine lv_iconst (v := 3) hx hb dL_law_2160 (by decide) ?_
  refine lv_iadd hx hb dL_law_2161 ?_
  refine va_sld hx hb hX hbl hbA hw.2.2 (hi 3 (by decide)) dL_law_2162 ?_
  refine wlawR (As := [.int (xs (ix (i + 1))), .int (xs (ix (i + 2))), .int (xs (ix (i + 3)))]) (rest := [.int r]) X hw (c_X11_chance hWR e2) vlL_301 ⟨Nat.le_of_ble_eq_true rfl, Nat.le_of_ble_eq_true rfl⟩ rfl rfl rfl hl.1 (Nat.le_of_ble_eq_true rfl) dL_law_2163 ⟨Nat.le_of_ble_eq_true rfl, Nat.le_of_ble_eq_true rfl⟩ (fun H locs hw => ?_)
  refine lv_icmp_eq (tgt := 2654) hx hb dL_law_2166 (by decide) (fun _ => ?_) (fun c1 => absurd rfl c1)
  exact kk Mc' Mr' hrel2 H locs hw
set_option maxRecDepth 100000 in
set_option maxHeartbeats 4000000 in
theorem lawc_71 {p : Program} {l : Launch} {e : Env} {s : State} {m : MethodId} {below : List Frame} {meth : Method} {c : Code} {b L : Nat} {xs : Nat → Int32} {D : va_G} {cA : Nat → ClassId} {adC adR adK : Nat → Nat} {EC : State → Heap → Prop} {Rel : Mem → Mem → Prop} (X : LwX p s m meth c b L xs D cA adC adR adK EC) (ho : Op_71 Rel) {Mc Mr : Mem} {H : Heap} {locs : List Loc} {ls : Array Slot} {i : Int32} (hrel : Rel Mc Mr) (hw : LwS D cA adC adR adK s Mc Mr H locs) (hl : lv_has ls 4 [(0, .ref b), (1, .ref (adC 0)), (2, .ref (adR 0)), (3, .int i)]) (hi : ∀ k : Nat, k < 6 → vp_in (i + Int32.ofNat k) L) (kk : ∀ Mc' Mr', Rel Mc' Mr' → ∀ (H1 : Heap) (locs1 : List Loc), LwS D cA adC adR adK s Mc' Mr' H1 locs1 → W p l e room_1 s m #[Value.ref b] below meth c H1 locs1 600000 7302250 (lw_Z below #[Value.ref b] s) (F0 m 2654 ls [])) : W p l e room_1 s m #[Value.ref b] below meth c H locs 600000 7302250 (lw_Z below #[Value.ref b] s) (F0 m 2171 ls []) := by
  obtain ⟨hx, hb, hml, hown, hts, hX, hbl, hbA, hK, hWC, hWR, hE, hAC, hAR, hdis⟩ := id X
  obtain ⟨r, Mc', Mr', e1, e2, hrel2⟩ := ho Mc Mr (xs (ix (i + 1))) (xs (ix (i + 2))) hrel
  refine lv_aload_n hx hb dL_law_2171 rfl (lv_at hl 1 rfl) ?_
  refine lv_aload_n hx hb dL_law_2172 rfl (lv_at hl 0 rfl) ?_
  refine lv_iload_n hx hb dL_law_2173 rfl (lv_at hl 3 rfl) ?_
  refine lv_iconst (v := 1) hx hb dL_law_2174 (by decide) ?_
  refine lv_iadd hx hb dL_law_2175 ?_
  refine va_sld hx hb hX hbl hbA hw.2.2 (hi 1 (by decide)) dL_law_2176 ?_
  refine lv_aload_n hx hb dL_law_2177 rfl (lv_at hl 0 rfl) ?_
  refine lv_iload_n hx hb dL_law_2178 rfl (lv_at hl 3 rfl) ?_
  refine lv_iconst (v := 2) hx hb dL_law_2179 (by decide) ?_
  refine lv_iadd hx hb dL_law_2180 ?_
  refine va_sld hx hb hX hbl hbA hw.2.2 (hi 2 (by decide)) dL_law_2181 ?_
  refine wlawC (As := [.int (xs (ix (i + 1))), .int (xs (ix (i + 2)))]) (rest := []) X hw (c_X10_mean hWC e1) vlL_302 ⟨Nat.le_of_ble_eq_true rfl, Nat.le_of_ble_eq_true rfl⟩ rfl rfl rfl hl.1 (Nat.le_of_ble_eq_true rfl) dL_law_2182 ⟨Nat.le_of_ble_eq_true rfl, Nat.le_of_ble_eq_true rfl⟩ (fun H locs hw => ?_)
  refine lv_aload_n hx hb dL_law_2185 rfl (lv_at hl 2 rfl) ?_
  refine lv_aload_n hx hb dL_law_2186 rfl (lv_at hl 0 rfl) ?_
  refine lv_iload_n hx hb dL_law_2187 rfl (lv_at hl 3 rfl) ?_
  refine lv_iconst (v := 1) hx hb dL_law_2188 (by decide) ?_
  refine lv_iadd hx hb dL_law_2189 ?_
  refine va_sld hx hb hX hbl hbA hw.2.2 (hi 1 (by decide)) dL_law_2190 ?_
  refine lv_aload_n hx hb dL_law_2191 rfl (lv_at hl 0 rfl) ?_
  refine lv_iload_n hx hb dL_law_2192 rfl (lv_at hl 3 rfl) ?_
  refine lv_iconst (v := 2) hx hb dL_law_2193 (by decide) ?_
  refine lv_iadd hx hb dL_law_2194 ?_
  refine va_sld hx hb hX hbl hbA hw.2.2 (hi 2 (by decide)) dL_law_2195 ?_
  refine wlawR (As := [.int (xs (ix (i + 1))), .int (xs (ix (i + 2)))]) (rest := [.long r]) X hw (c_X11_mean hWR e2) vlL_306 ⟨Nat.le_of_ble_eq_true rfl, Nat.le_of_ble_eq_true rfl⟩ rfl rfl rfl hl.1 (Nat.le_of_ble_eq_true rfl) dL_law_2196 ⟨Nat.le_of_ble_eq_true rfl, Nat.le_of_ble_eq_true rfl⟩ (fun H locs hw => ?_)
  refine W.lcmp hx hb dL_law_2199 ?_
  refine lv_if_eq (tgt := 2654) hx hb dL_law_2200 (by decide) (fun _ => ?_) (fun c1 => absurd (lcmp_self r) c1)
  exact kk Mc' Mr' hrel2 H locs hw
set_option maxRecDepth 100000 in
set_option maxHeartbeats 4000000 in
theorem lawc_72 {p : Program} {l : Launch} {e : Env} {s : State} {m : MethodId} {below : List Frame} {meth : Method} {c : Code} {b L : Nat} {xs : Nat → Int32} {D : va_G} {cA : Nat → ClassId} {adC adR adK : Nat → Nat} {EC : State → Heap → Prop} {Rel : Mem → Mem → Prop} (X : LwX p s m meth c b L xs D cA adC adR adK EC) (ho : Op_72 Rel) {Mc Mr : Mem} {H : Heap} {locs : List Loc} {ls : Array Slot} {i : Int32} (hrel : Rel Mc Mr) (hw : LwS D cA adC adR adK s Mc Mr H locs) (hl : lv_has ls 4 [(0, .ref b), (1, .ref (adC 0)), (2, .ref (adR 0)), (3, .int i)]) (hi : ∀ k : Nat, k < 6 → vp_in (i + Int32.ofNat k) L) (kk : ∀ Mc' Mr', Rel Mc' Mr' → ∀ (H1 : Heap) (locs1 : List Loc), LwS D cA adC adR adK s Mc' Mr' H1 locs1 → W p l e room_1 s m #[Value.ref b] below meth c H1 locs1 600000 7302250 (lw_Z below #[Value.ref b] s) (F0 m 2654 ls [])) : W p l e room_1 s m #[Value.ref b] below meth c H locs 600000 7302250 (lw_Z below #[Value.ref b] s) (F0 m 2205 ls []) := by
  obtain ⟨hx, hb, hml, hown, hts, hX, hbl, hbA, hK, hWC, hWR, hE, hAC, hAR, hdis⟩ := id X
  obtain ⟨r, Mc', Mr', e1, e2, hrel2⟩ := ho Mc Mr (xs (ix (i + 1))) (xs (ix (i + 2))) (xs (ix (i + 3))) hrel
  refine lv_aload_n hx hb dL_law_2205 rfl (lv_at hl 1 rfl) ?_
  refine lv_aload_n hx hb dL_law_2206 rfl (lv_at hl 0 rfl) ?_
  refine lv_iload_n hx hb dL_law_2207 rfl (lv_at hl 3 rfl) ?_
  refine lv_iconst (v := 1) hx hb dL_law_2208 (by decide) ?_
  refine lv_iadd hx hb dL_law_2209 ?_
  refine va_sld hx hb hX hbl hbA hw.2.2 (hi 1 (by decide)) dL_law_2210 ?_
  refine lv_aload_n hx hb dL_law_2211 rfl (lv_at hl 0 rfl) ?_
  refine lv_iload_n hx hb dL_law_2212 rfl (lv_at hl 3 rfl) ?_
  refine lv_iconst (v := 2) hx hb dL_law_2213 (by decide) ?_
  refine lv_iadd hx hb dL_law_2214 ?_
  refine va_sld hx hb hX hbl hbA hw.2.2 (hi 2 (by decide)) dL_law_2215 ?_
  refine lv_aload_n hx hb dL_law_2216 rfl (lv_at hl 0 rfl) ?_
  refine lv_iload_n hx hb dL_law_2217 rfl (lv_at hl 3 rfl) ?_
  refine lv_iconst (v := 3) hx hb dL_law_2218 (by decide) ?_
  refine lv_iadd hx hb dL_law_2219 ?_
  refine va_sld hx hb hX hbl hbA hw.2.2 (hi 3 (by decide)) dL_law_2220 ?_
  refine wlawC (As := [.int (xs (ix (i + 1))), .int (xs (ix (i + 2))), .int (xs (ix (i + 3)))]) (rest := []) X hw (c_X10_fires hWC e1) vlL_307 ⟨Nat.le_of_ble_eq_true rfl, Nat.le_of_ble_eq_true rfl⟩ rfl rfl rfl hl.1 (Nat.le_of_ble_eq_true rfl) dL_law_2221 ⟨Nat.le_of_ble_eq_true rfl, Nat.le_of_ble_eq_true rfl⟩ (fun H locs hw => ?_)
  refine lv_aload_n hx hb dL_law_2224 rfl (lv_at hl 2 rfl) ?_
  refine lv_aload_n hx hb dL_law_2225 rfl (lv_at hl 0 rfl) ?_
  refine lv_iload_n hx hb dL_law_2226 rfl (lv_at hl 3 rfl) ?_
  refine lv_iconst (v := 1) hx hb dL_law_2227 (by decide) ?_
  refine lv_iadd hx hb dL_law_2228 ?_
  refine va_sld hx hb hX hbl hbA hw.2.2 (hi 1 (by decide)) dL_law_2229 ?_
  refine lv_aload_n hx hb dL_law_2230 rfl (lv_at hl 0 rfl) ?_
  refine lv_iload_n hx hb dL_law_2231 rfl (lv_at hl 3 rfl) ?_
  refine lv_iconst (v := 2) hx hb dL_law_2232 (by decide) ?_
  refine lv_iadd hx hb dL_law_2233 ?_
  refine va_sld hx hb hX hbl hbA hw.2.2 (hi 2 (by decide)) dL_law_2234 ?_
  refine lv_aload_n hx hb dL_law_2235 rfl (lv_at hl 0 rfl) ?_
  refine lv_iload_n hx hb dL_law_2236 rfl (lv_at hl 3 rfl) ?_
  refine lv_iconst (v := 3) hx hb dL_law_2237 (by decide) ?_
  refine lv_iadd hx hb dL_law_2238 ?_
  refine va_sld hx hb hX hbl hbA hw.2.2 (hi 3 (by decide)) dL_law_2239 ?_
  refine wlawR (As := [.int (xs (ix (i + 1))), .int (xs (ix (i + 2))), .int (xs (ix (i + 3)))]) (rest := [.int r]) X hw (c_X11_fires hWR e2) vlL_310 ⟨Nat.le_of_ble_eq_true rfl, Nat.le_of_ble_eq_true rfl⟩ rfl rfl rfl hl.1 (Nat.le_of_ble_eq_true rfl) dL_law_2240 ⟨Nat.le_of_ble_eq_true rfl, Nat.le_of_ble_eq_true rfl⟩ (fun H locs hw => ?_)
  refine lv_icmp_eq (tgt := 2654) hx hb dL_law_2243 (by decide) (fun _ => ?_) (fun c1 => absurd rfl c1)
  exact kk Mc' Mr' hrel2 H locs hw
set_option maxRecDepth 100000 in
set_option maxHeartbeats 4000000 in
theorem lawc_73 {p : Program} {l : Launch} {e : Env} {s : State} {m : MethodId} {below : List Frame} {meth : Method} {c : Code} {b L : Nat} {xs : Nat → Int32} {D : va_G} {cA : Nat → ClassId} {adC adR adK : Nat → Nat} {EC : State → Heap → Prop} {Rel : Mem → Mem → Prop} (X : LwX p s m meth c b L xs D cA adC adR adK EC) (ho : Op_73 Rel) {Mc Mr : Mem} {H : Heap} {locs : List Loc} {ls : Array Slot} {i : Int32} (hrel : Rel Mc Mr) (hw : LwS D cA adC adR adK s Mc Mr H locs) (hl : lv_has ls 4 [(0, .ref b), (1, .ref (adC 0)), (2, .ref (adR 0)), (3, .int i)]) (hi : ∀ k : Nat, k < 6 → vp_in (i + Int32.ofNat k) L) (kk : ∀ Mc' Mr', Rel Mc' Mr' → ∀ (H1 : Heap) (locs1 : List Loc), LwS D cA adC adR adK s Mc' Mr' H1 locs1 → W p l e room_1 s m #[Value.ref b] below meth c H1 locs1 600000 7302250 (lw_Z below #[Value.ref b] s) (F0 m 2654 ls [])) : W p l e room_1 s m #[Value.ref b] below meth c H locs 600000 7302250 (lw_Z below #[Value.ref b] s) (F0 m 2248 ls []) := by
  obtain ⟨hx, hb, hml, hown, hts, hX, hbl, hbA, hK, hWC, hWR, hE, hAC, hAR, hdis⟩ := id X
  obtain ⟨r, Mc', Mr', e1, e2, hrel2⟩ := ho Mc Mr (xs (ix (i + 1))) hrel
  refine lv_aload_n hx hb dL_law_2248 rfl (lv_at hl 1 rfl) ?_
  refine lv_aload_n hx hb dL_law_2249 rfl (lv_at hl 0 rfl) ?_
  refine lv_iload_n hx hb dL_law_2250 rfl (lv_at hl 3 rfl) ?_
  refine lv_iconst (v := 1) hx hb dL_law_2251 (by decide) ?_
  refine lv_iadd hx hb dL_law_2252 ?_
  refine va_sld hx hb hX hbl hbA hw.2.2 (hi 1 (by decide)) dL_law_2253 ?_
  refine wlawC (As := [.int (xs (ix (i + 1)))]) (rest := []) X hw (c_X10_gusts hWC e1) vlL_311 ⟨Nat.le_of_ble_eq_true rfl, Nat.le_of_ble_eq_true rfl⟩ rfl rfl rfl hl.1 (Nat.le_of_ble_eq_true rfl) dL_law_2254 ⟨Nat.le_of_ble_eq_true rfl, Nat.le_of_ble_eq_true rfl⟩ (fun H locs hw => ?_)
  refine lv_aload_n hx hb dL_law_2257 rfl (lv_at hl 2 rfl) ?_
  refine lv_aload_n hx hb dL_law_2258 rfl (lv_at hl 0 rfl) ?_
  refine lv_iload_n hx hb dL_law_2259 rfl (lv_at hl 3 rfl) ?_
  refine lv_iconst (v := 1) hx hb dL_law_2260 (by decide) ?_
  refine lv_iadd hx hb dL_law_2261 ?_
  refine va_sld hx hb hX hbl hbA hw.2.2 (hi 1 (by decide)) dL_law_2262 ?_
  refine wlawR (As := [.int (xs (ix (i + 1)))]) (rest := [.int r]) X hw (c_X11_gusts hWR e2) vlL_314 ⟨Nat.le_of_ble_eq_true rfl, Nat.le_of_ble_eq_true rfl⟩ rfl rfl rfl hl.1 (Nat.le_of_ble_eq_true rfl) dL_law_2263 ⟨Nat.le_of_ble_eq_true rfl, Nat.le_of_ble_eq_true rfl⟩ (fun H locs hw => ?_)
  refine lv_icmp_eq (tgt := 2654) hx hb dL_law_2266 (by decide) (fun _ => ?_) (fun c1 => absurd rfl c1)
  exact kk Mc' Mr' hrel2 H locs hw
set_option maxRecDepth 100000 in
set_option maxHeartbeats 4000000 in
theorem lawc_74 {p : Program} {l : Launch} {e : Env} {s : State} {m : MethodId} {below : List Frame} {meth : Method} {c : Code} {b L : Nat} {xs : Nat → Int32} {D : va_G} {cA : Nat → ClassId} {adC adR adK : Nat → Nat} {EC : State → Heap → Prop} {Rel : Mem → Mem → Prop} (X : LwX p s m meth c b L xs D cA adC adR adK EC) (ho : Op_74 Rel) {Mc Mr : Mem} {H : Heap} {locs : List Loc} {ls : Array Slot} {i : Int32} (hrel : Rel Mc Mr) (hw : LwS D cA adC adR adK s Mc Mr H locs) (hl : lv_has ls 4 [(0, .ref b), (1, .ref (adC 0)), (2, .ref (adR 0)), (3, .int i)]) (hi : ∀ k : Nat, k < 6 → vp_in (i + Int32.ofNat k) L) (kk : ∀ Mc' Mr', Rel Mc' Mr' → ∀ (H1 : Heap) (locs1 : List Loc), LwS D cA adC adR adK s Mc' Mr' H1 locs1 → W p l e room_1 s m #[Value.ref b] below meth c H1 locs1 600000 7302250 (lw_Z below #[Value.ref b] s) (F0 m 2654 ls [])) : W p l e room_1 s m #[Value.ref b] below meth c H locs 600000 7302250 (lw_Z below #[Value.ref b] s) (F0 m 2271 ls []) := by
  obtain ⟨hx, hb, hml, hown, hts, hX, hbl, hbA, hK, hWC, hWR, hE, hAC, hAR, hdis⟩ := id X
  obtain ⟨r, Mc', Mr', e1, e2, hrel2⟩ := ho Mc Mr  hrel
  refine lv_aload_n hx hb dL_law_2271 rfl (lv_at hl 1 rfl) ?_
  refine wlawC (As := []) (rest := []) X hw (c_X10_undo hWC e1) vlL_315 ⟨Nat.le_of_ble_eq_true rfl, Nat.le_of_ble_eq_true rfl⟩ rfl rfl rfl hl.1 (Nat.le_of_ble_eq_true rfl) dL_law_2272 ⟨Nat.le_of_ble_eq_true rfl, Nat.le_of_ble_eq_true rfl⟩ (fun H locs hw => ?_)
  refine lv_aload_n hx hb dL_law_2275 rfl (lv_at hl 2 rfl) ?_
  refine wlawR (As := []) (rest := [.int r]) X hw (c_X11_undo hWR e2) vlL_318 ⟨Nat.le_of_ble_eq_true rfl, Nat.le_of_ble_eq_true rfl⟩ rfl rfl rfl hl.1 (Nat.le_of_ble_eq_true rfl) dL_law_2276 ⟨Nat.le_of_ble_eq_true rfl, Nat.le_of_ble_eq_true rfl⟩ (fun H locs hw => ?_)
  refine lv_icmp_eq (tgt := 2654) hx hb dL_law_2279 (by decide) (fun _ => ?_) (fun c1 => absurd rfl c1)
  exact kk Mc' Mr' hrel2 H locs hw
set_option maxRecDepth 100000 in
set_option maxHeartbeats 4000000 in
theorem lawc_75 {p : Program} {l : Launch} {e : Env} {s : State} {m : MethodId} {below : List Frame} {meth : Method} {c : Code} {b L : Nat} {xs : Nat → Int32} {D : va_G} {cA : Nat → ClassId} {adC adR adK : Nat → Nat} {EC : State → Heap → Prop} {Rel : Mem → Mem → Prop} (X : LwX p s m meth c b L xs D cA adC adR adK EC) (ho : Op_75 Rel) {Mc Mr : Mem} {H : Heap} {locs : List Loc} {ls : Array Slot} {i : Int32} (hrel : Rel Mc Mr) (hw : LwS D cA adC adR adK s Mc Mr H locs) (hl : lv_has ls 4 [(0, .ref b), (1, .ref (adC 0)), (2, .ref (adR 0)), (3, .int i)]) (hi : ∀ k : Nat, k < 6 → vp_in (i + Int32.ofNat k) L) (kk : ∀ Mc' Mr', Rel Mc' Mr' → ∀ (H1 : Heap) (locs1 : List Loc), LwS D cA adC adR adK s Mc' Mr' H1 locs1 → W p l e room_1 s m #[Value.ref b] below meth c H1 locs1 600000 7302250 (lw_Z below #[Value.ref b] s) (F0 m 2654 ls [])) : W p l e room_1 s m #[Value.ref b] below meth c H locs 600000 7302250 (lw_Z below #[Value.ref b] s) (F0 m 2284 ls []) := by
  obtain ⟨hx, hb, hml, hown, hts, hX, hbl, hbA, hK, hWC, hWR, hE, hAC, hAR, hdis⟩ := id X
  obtain ⟨r, Mc', Mr', e1, e2, hrel2⟩ := ho Mc Mr  hrel
  refine lv_aload_n hx hb dL_law_2284 rfl (lv_at hl 1 rfl) ?_
  refine wlawC (As := []) (rest := []) X hw (c_X10_anew hWC e1) vlL_319 ⟨Nat.le_of_ble_eq_true rfl, Nat.le_of_ble_eq_true rfl⟩ rfl rfl rfl hl.1 (Nat.le_of_ble_eq_true rfl) dL_law_2285 ⟨Nat.le_of_ble_eq_true rfl, Nat.le_of_ble_eq_true rfl⟩ (fun H locs hw => ?_)
  refine lv_aload_n hx hb dL_law_2288 rfl (lv_at hl 2 rfl) ?_
  refine wlawR (As := []) (rest := [.int r]) X hw (c_X11_anew hWR e2) vlL_322 ⟨Nat.le_of_ble_eq_true rfl, Nat.le_of_ble_eq_true rfl⟩ rfl rfl rfl hl.1 (Nat.le_of_ble_eq_true rfl) dL_law_2289 ⟨Nat.le_of_ble_eq_true rfl, Nat.le_of_ble_eq_true rfl⟩ (fun H locs hw => ?_)
  refine lv_icmp_eq (tgt := 2654) hx hb dL_law_2292 (by decide) (fun _ => ?_) (fun c1 => absurd rfl c1)
  exact kk Mc' Mr' hrel2 H locs hw
set_option maxRecDepth 100000 in
set_option maxHeartbeats 4000000 in
theorem lawc_76 {p : Program} {l : Launch} {e : Env} {s : State} {m : MethodId} {below : List Frame} {meth : Method} {c : Code} {b L : Nat} {xs : Nat → Int32} {D : va_G} {cA : Nat → ClassId} {adC adR adK : Nat → Nat} {EC : State → Heap → Prop} {Rel : Mem → Mem → Prop} (X : LwX p s m meth c b L xs D cA adC adR adK EC) (ho : Op_76 Rel) {Mc Mr : Mem} {H : Heap} {locs : List Loc} {ls : Array Slot} {i : Int32} (hrel : Rel Mc Mr) (hw : LwS D cA adC adR adK s Mc Mr H locs) (hl : lv_has ls 4 [(0, .ref b), (1, .ref (adC 0)), (2, .ref (adR 0)), (3, .int i)]) (hi : ∀ k : Nat, k < 6 → vp_in (i + Int32.ofNat k) L) (kk : ∀ Mc' Mr', Rel Mc' Mr' → ∀ (H1 : Heap) (locs1 : List Loc), LwS D cA adC adR adK s Mc' Mr' H1 locs1 → W p l e room_1 s m #[Value.ref b] below meth c H1 locs1 600000 7302250 (lw_Z below #[Value.ref b] s) (F0 m 2654 ls [])) : W p l e room_1 s m #[Value.ref b] below meth c H locs 600000 7302250 (lw_Z below #[Value.ref b] s) (F0 m 2297 ls []) := by
  obtain ⟨hx, hb, hml, hown, hts, hX, hbl, hbA, hK, hWC, hWR, hE, hAC, hAR, hdis⟩ := id X
  obtain ⟨r, Mc', Mr', e1, e2, hrel2⟩ := ho Mc Mr (xs (ix (i + 1))) (xs (ix (i + 2))) hrel
  refine lv_aload_n hx hb dL_law_2297 rfl (lv_at hl 1 rfl) ?_
  refine lv_aload_n hx hb dL_law_2298 rfl (lv_at hl 0 rfl) ?_
  refine lv_iload_n hx hb dL_law_2299 rfl (lv_at hl 3 rfl) ?_
  refine lv_iconst (v := 1) hx hb dL_law_2300 (by decide) ?_
  refine lv_iadd hx hb dL_law_2301 ?_
  refine va_sld hx hb hX hbl hbA hw.2.2 (hi 1 (by decide)) dL_law_2302 ?_
  refine lv_aload_n hx hb dL_law_2303 rfl (lv_at hl 0 rfl) ?_
  refine lv_iload_n hx hb dL_law_2304 rfl (lv_at hl 3 rfl) ?_
  refine lv_iconst (v := 2) hx hb dL_law_2305 (by decide) ?_
  refine lv_iadd hx hb dL_law_2306 ?_
  refine va_sld hx hb hX hbl hbA hw.2.2 (hi 2 (by decide)) dL_law_2307 ?_
  refine wlawC (As := [.int (xs (ix (i + 1))), .int (xs (ix (i + 2)))]) (rest := []) X hw (c_X10_drawn hWC e1) vlL_323 ⟨Nat.le_of_ble_eq_true rfl, Nat.le_of_ble_eq_true rfl⟩ rfl rfl rfl hl.1 (Nat.le_of_ble_eq_true rfl) dL_law_2308 ⟨Nat.le_of_ble_eq_true rfl, Nat.le_of_ble_eq_true rfl⟩ (fun H locs hw => ?_)
  refine lv_aload_n hx hb dL_law_2311 rfl (lv_at hl 2 rfl) ?_
  refine lv_aload_n hx hb dL_law_2312 rfl (lv_at hl 0 rfl) ?_
  refine lv_iload_n hx hb dL_law_2313 rfl (lv_at hl 3 rfl) ?_
  refine lv_iconst (v := 1) hx hb dL_law_2314 (by decide) ?_
  refine lv_iadd hx hb dL_law_2315 ?_
  refine va_sld hx hb hX hbl hbA hw.2.2 (hi 1 (by decide)) dL_law_2316 ?_
  refine lv_aload_n hx hb dL_law_2317 rfl (lv_at hl 0 rfl) ?_
  refine lv_iload_n hx hb dL_law_2318 rfl (lv_at hl 3 rfl) ?_
  refine lv_iconst (v := 2) hx hb dL_law_2319 (by decide) ?_
  refine lv_iadd hx hb dL_law_2320 ?_
  refine va_sld hx hb hX hbl hbA hw.2.2 (hi 2 (by decide)) dL_law_2321 ?_
  refine wlawR (As := [.int (xs (ix (i + 1))), .int (xs (ix (i + 2)))]) (rest := [.int r]) X hw (c_X11_drawn hWR e2) vlL_326 ⟨Nat.le_of_ble_eq_true rfl, Nat.le_of_ble_eq_true rfl⟩ rfl rfl rfl hl.1 (Nat.le_of_ble_eq_true rfl) dL_law_2322 ⟨Nat.le_of_ble_eq_true rfl, Nat.le_of_ble_eq_true rfl⟩ (fun H locs hw => ?_)
  refine lv_icmp_eq (tgt := 2654) hx hb dL_law_2325 (by decide) (fun _ => ?_) (fun c1 => absurd rfl c1)
  exact kk Mc' Mr' hrel2 H locs hw
set_option maxRecDepth 100000 in
set_option maxHeartbeats 4000000 in
theorem lawc_77 {p : Program} {l : Launch} {e : Env} {s : State} {m : MethodId} {below : List Frame} {meth : Method} {c : Code} {b L : Nat} {xs : Nat → Int32} {D : va_G} {cA : Nat → ClassId} {adC adR adK : Nat → Nat} {EC : State → Heap → Prop} {Rel : Mem → Mem → Prop} (X : LwX p s m meth c b L xs D cA adC adR adK EC) (ho : Op_77 Rel) {Mc Mr : Mem} {H : Heap} {locs : List Loc} {ls : Array Slot} {i : Int32} (hrel : Rel Mc Mr) (hw : LwS D cA adC adR adK s Mc Mr H locs) (hl : lv_has ls 4 [(0, .ref b), (1, .ref (adC 0)), (2, .ref (adR 0)), (3, .int i)]) (hi : ∀ k : Nat, k < 6 → vp_in (i + Int32.ofNat k) L) (kk : ∀ Mc' Mr', Rel Mc' Mr' → ∀ (H1 : Heap) (locs1 : List Loc), LwS D cA adC adR adK s Mc' Mr' H1 locs1 → W p l e room_1 s m #[Value.ref b] below meth c H1 locs1 600000 7302250 (lw_Z below #[Value.ref b] s) (F0 m 2654 ls [])) : W p l e room_1 s m #[Value.ref b] below meth c H locs 600000 7302250 (lw_Z below #[Value.ref b] s) (F0 m 2330 ls []) := by
  obtain ⟨hx, hb, hml, hown, hts, hX, hbl, hbA, hK, hWC, hWR, hE, hAC, hAR, hdis⟩ := id X
  obtain ⟨r, Mc', Mr', e1, e2, hrel2⟩ := ho Mc Mr (xs (ix (i + 1))) (xs (ix (i + 2))) (xs (ix (i + 3))) hrel
  refine lv_aload_n hx hb dL_law_2330 rfl (lv_at hl 1 rfl) ?_
  refine lv_aload_n hx hb dL_law_2331 rfl (lv_at hl 0 rfl) ?_
  refine lv_iload_n hx hb dL_law_2332 rfl (lv_at hl 3 rfl) ?_
  refine lv_iconst (v := 1) hx hb dL_law_2333 (by decide) ?_
  refine lv_iadd hx hb dL_law_2334 ?_
  refine va_sld hx hb hX hbl hbA hw.2.2 (hi 1 (by decide)) dL_law_2335 ?_
  refine lv_aload_n hx hb dL_law_2336 rfl (lv_at hl 0 rfl) ?_
  refine lv_iload_n hx hb dL_law_2337 rfl (lv_at hl 3 rfl) ?_
  refine lv_iconst (v := 2) hx hb dL_law_2338 (by decide) ?_
  refine lv_iadd hx hb dL_law_2339 ?_
  refine va_sld hx hb hX hbl hbA hw.2.2 (hi 2 (by decide)) dL_law_2340 ?_
  refine lv_aload_n hx hb dL_law_2341 rfl (lv_at hl 0 rfl) ?_
  refine lv_iload_n hx hb dL_law_2342 rfl (lv_at hl 3 rfl) ?_
  refine lv_iconst (v := 3) hx hb dL_law_2343 (by decide) ?_
  refine lv_iadd hx hb dL_law_2344 ?_
  refine va_sld hx hb hX hbl hbA hw.2.2 (hi 3 (by decide)) dL_law_2345 ?_
  refine wlawC (As := [.int (xs (ix (i + 1))), .int (xs (ix (i + 2))), .int (xs (ix (i + 3)))]) (rest := []) X hw (c_X10_luck hWC e1) vlL_327 ⟨Nat.le_of_ble_eq_true rfl, Nat.le_of_ble_eq_true rfl⟩ rfl rfl rfl hl.1 (Nat.le_of_ble_eq_true rfl) dL_law_2346 ⟨Nat.le_of_ble_eq_true rfl, Nat.le_of_ble_eq_true rfl⟩ (fun H locs hw => ?_)
  refine lv_aload_n hx hb dL_law_2349 rfl (lv_at hl 2 rfl) ?_
  refine lv_aload_n hx hb dL_law_2350 rfl (lv_at hl 0 rfl) ?_
  refine lv_iload_n hx hb dL_law_2351 rfl (lv_at hl 3 rfl) ?_
  refine lv_iconst (v := 1) hx hb dL_law_2352 (by decide) ?_
  refine lv_iadd hx hb dL_law_2353 ?_
  refine va_sld hx hb hX hbl hbA hw.2.2 (hi 1 (by decide)) dL_law_2354 ?_
  refine lv_aload_n hx hb dL_law_2355 rfl (lv_at hl 0 rfl) ?_
  refine lv_iload_n hx hb dL_law_2356 rfl (lv_at hl 3 rfl) ?_
  refine lv_iconst (v := 2) hx hb dL_law_2357 (by decide) ?_
  refine lv_iadd hx hb dL_law_2358 ?_
  refine va_sld hx hb hX hbl hbA hw.2.2 (hi 2 (by decide)) dL_law_2359 ?_
  refine lv_aload_n hx hb dL_law_2360 rfl (lv_at hl 0 rfl) ?_
  refine lv_iload_n hx hb dL_law_2361 rfl (lv_at hl 3 rfl) ?_
  refine lv_iconst (v := 3) hx hb dL_law_2362 (by decide) ?_
  refine lv_iadd hx hb dL_law_2363 ?_
  refine va_sld hx hb hX hbl hbA hw.2.2 (hi 3 (by decide)) dL_law_2364 ?_
  refine wlawR (As := [.int (xs (ix (i + 1))), .int (xs (ix (i + 2))), .int (xs (ix (i + 3)))]) (rest := [.int r]) X hw (c_X11_luck hWR e2) vlL_330 ⟨Nat.le_of_ble_eq_true rfl, Nat.le_of_ble_eq_true rfl⟩ rfl rfl rfl hl.1 (Nat.le_of_ble_eq_true rfl) dL_law_2365 ⟨Nat.le_of_ble_eq_true rfl, Nat.le_of_ble_eq_true rfl⟩ (fun H locs hw => ?_)
  refine lv_icmp_eq (tgt := 2654) hx hb dL_law_2368 (by decide) (fun _ => ?_) (fun c1 => absurd rfl c1)
  exact kk Mc' Mr' hrel2 H locs hw
set_option maxRecDepth 100000 in
set_option maxHeartbeats 4000000 in
theorem lawc_78 {p : Program} {l : Launch} {e : Env} {s : State} {m : MethodId} {below : List Frame} {meth : Method} {c : Code} {b L : Nat} {xs : Nat → Int32} {D : va_G} {cA : Nat → ClassId} {adC adR adK : Nat → Nat} {EC : State → Heap → Prop} {Rel : Mem → Mem → Prop} (X : LwX p s m meth c b L xs D cA adC adR adK EC) (ho : Op_78 Rel) {Mc Mr : Mem} {H : Heap} {locs : List Loc} {ls : Array Slot} {i : Int32} (hrel : Rel Mc Mr) (hw : LwS D cA adC adR adK s Mc Mr H locs) (hl : lv_has ls 4 [(0, .ref b), (1, .ref (adC 0)), (2, .ref (adR 0)), (3, .int i)]) (hi : ∀ k : Nat, k < 6 → vp_in (i + Int32.ofNat k) L) (kk : ∀ Mc' Mr', Rel Mc' Mr' → ∀ (H1 : Heap) (locs1 : List Loc), LwS D cA adC adR adK s Mc' Mr' H1 locs1 → W p l e room_1 s m #[Value.ref b] below meth c H1 locs1 600000 7302250 (lw_Z below #[Value.ref b] s) (F0 m 2654 ls [])) : W p l e room_1 s m #[Value.ref b] below meth c H locs 600000 7302250 (lw_Z below #[Value.ref b] s) (F0 m 2373 ls []) := by
  obtain ⟨hx, hb, hml, hown, hts, hX, hbl, hbA, hK, hWC, hWR, hE, hAC, hAR, hdis⟩ := id X
  obtain ⟨r, Mc', Mr', e1, e2, hrel2⟩ := ho Mc Mr (xs (ix (i + 1))) (xs (ix (i + 2))) hrel
  refine lv_aload_n hx hb dL_law_2373 rfl (lv_at hl 1 rfl) ?_
  refine lv_aload_n hx hb dL_law_2374 rfl (lv_at hl 0 rfl) ?_
  refine lv_iload_n hx hb dL_law_2375 rfl (lv_at hl 3 rfl) ?_
  refine lv_iconst (v := 1) hx hb dL_law_2376 (by decide) ?_
  refine lv_iadd hx hb dL_law_2377 ?_
  refine va_sld hx hb hX hbl hbA hw.2.2 (hi 1 (by decide)) dL_law_2378 ?_
  refine lv_aload_n hx hb dL_law_2379 rfl (lv_at hl 0 rfl) ?_
  refine lv_iload_n hx hb dL_law_2380 rfl (lv_at hl 3 rfl) ?_
  refine lv_iconst (v := 2) hx hb dL_law_2381 (by decide) ?_
  refine lv_iadd hx hb dL_law_2382 ?_
  refine va_sld hx hb hX hbl hbA hw.2.2 (hi 2 (by decide)) dL_law_2383 ?_
  refine wlawC (As := [.int (xs (ix (i + 1))), .int (xs (ix (i + 2)))]) (rest := []) X hw (c_X10_rate hWC e1) vlL_331 ⟨Nat.le_of_ble_eq_true rfl, Nat.le_of_ble_eq_true rfl⟩ rfl rfl rfl hl.1 (Nat.le_of_ble_eq_true rfl) dL_law_2384 ⟨Nat.le_of_ble_eq_true rfl, Nat.le_of_ble_eq_true rfl⟩ (fun H locs hw => ?_)
  refine lv_aload_n hx hb dL_law_2387 rfl (lv_at hl 2 rfl) ?_
  refine lv_aload_n hx hb dL_law_2388 rfl (lv_at hl 0 rfl) ?_
  refine lv_iload_n hx hb dL_law_2389 rfl (lv_at hl 3 rfl) ?_
  refine lv_iconst (v := 1) hx hb dL_law_2390 (by decide) ?_
  refine lv_iadd hx hb dL_law_2391 ?_
  refine va_sld hx hb hX hbl hbA hw.2.2 (hi 1 (by decide)) dL_law_2392 ?_
  refine lv_aload_n hx hb dL_law_2393 rfl (lv_at hl 0 rfl) ?_
  refine lv_iload_n hx hb dL_law_2394 rfl (lv_at hl 3 rfl) ?_
  refine lv_iconst (v := 2) hx hb dL_law_2395 (by decide) ?_
  refine lv_iadd hx hb dL_law_2396 ?_
  refine va_sld hx hb hX hbl hbA hw.2.2 (hi 2 (by decide)) dL_law_2397 ?_
  refine wlawR (As := [.int (xs (ix (i + 1))), .int (xs (ix (i + 2)))]) (rest := [.int r]) X hw (c_X11_rate hWR e2) vlL_334 ⟨Nat.le_of_ble_eq_true rfl, Nat.le_of_ble_eq_true rfl⟩ rfl rfl rfl hl.1 (Nat.le_of_ble_eq_true rfl) dL_law_2398 ⟨Nat.le_of_ble_eq_true rfl, Nat.le_of_ble_eq_true rfl⟩ (fun H locs hw => ?_)
  refine lv_icmp_eq (tgt := 2654) hx hb dL_law_2401 (by decide) (fun _ => ?_) (fun c1 => absurd rfl c1)
  exact kk Mc' Mr' hrel2 H locs hw
set_option maxRecDepth 100000 in
set_option maxHeartbeats 4000000 in
theorem lawc_79 {p : Program} {l : Launch} {e : Env} {s : State} {m : MethodId} {below : List Frame} {meth : Method} {c : Code} {b L : Nat} {xs : Nat → Int32} {D : va_G} {cA : Nat → ClassId} {adC adR adK : Nat → Nat} {EC : State → Heap → Prop} {Rel : Mem → Mem → Prop} (X : LwX p s m meth c b L xs D cA adC adR adK EC) (ho : Op_79 Rel) {Mc Mr : Mem} {H : Heap} {locs : List Loc} {ls : Array Slot} {i : Int32} (hrel : Rel Mc Mr) (hw : LwS D cA adC adR adK s Mc Mr H locs) (hl : lv_has ls 4 [(0, .ref b), (1, .ref (adC 0)), (2, .ref (adR 0)), (3, .int i)]) (hi : ∀ k : Nat, k < 6 → vp_in (i + Int32.ofNat k) L) (kk : ∀ Mc' Mr', Rel Mc' Mr' → ∀ (H1 : Heap) (locs1 : List Loc), LwS D cA adC adR adK s Mc' Mr' H1 locs1 → W p l e room_1 s m #[Value.ref b] below meth c H1 locs1 600000 7302250 (lw_Z below #[Value.ref b] s) (F0 m 2654 ls [])) : W p l e room_1 s m #[Value.ref b] below meth c H locs 600000 7302250 (lw_Z below #[Value.ref b] s) (F0 m 2406 ls []) := by
  obtain ⟨hx, hb, hml, hown, hts, hX, hbl, hbA, hK, hWC, hWR, hE, hAC, hAR, hdis⟩ := id X
  obtain ⟨r, Mr', e1, e2, hrel2⟩ := ho Mc Mr (xs (ix (i + 1))) hrel
  refine lv_aload_n hx hb dL_law_2406 rfl (lv_at hl 1 rfl) ?_
  refine lv_aload_n hx hb dL_law_2407 rfl (lv_at hl 0 rfl) ?_
  refine lv_iload_n hx hb dL_law_2408 rfl (lv_at hl 3 rfl) ?_
  refine lv_iconst (v := 1) hx hb dL_law_2409 (by decide) ?_
  refine lv_iadd hx hb dL_law_2410 ?_
  refine va_sld hx hb hX hbl hbA hw.2.2 (hi 1 (by decide)) dL_law_2411 ?_
  refine wlawC (As := [.int (xs (ix (i + 1)))]) (rest := []) X hw (c_X10_count hWC e1) vlL_335 ⟨Nat.le_of_ble_eq_true rfl, Nat.le_of_ble_eq_true rfl⟩ rfl rfl rfl hl.1 (Nat.le_of_ble_eq_true rfl) dL_law_2412 ⟨Nat.le_of_ble_eq_true rfl, Nat.le_of_ble_eq_true rfl⟩ (fun H locs hw => ?_)
  refine lv_aload_n hx hb dL_law_2415 rfl (lv_at hl 2 rfl) ?_
  refine lv_aload_n hx hb dL_law_2416 rfl (lv_at hl 0 rfl) ?_
  refine lv_iload_n hx hb dL_law_2417 rfl (lv_at hl 3 rfl) ?_
  refine lv_iconst (v := 1) hx hb dL_law_2418 (by decide) ?_
  refine lv_iadd hx hb dL_law_2419 ?_
  refine va_sld hx hb hX hbl hbA hw.2.2 (hi 1 (by decide)) dL_law_2420 ?_
  refine wlawR (As := [.int (xs (ix (i + 1)))]) (rest := [.int r]) X hw (c_X11_count hWR e2) vlL_338 ⟨Nat.le_of_ble_eq_true rfl, Nat.le_of_ble_eq_true rfl⟩ rfl rfl rfl hl.1 (Nat.le_of_ble_eq_true rfl) dL_law_2421 ⟨Nat.le_of_ble_eq_true rfl, Nat.le_of_ble_eq_true rfl⟩ (fun H locs hw => ?_)
  refine lv_icmp_eq (tgt := 2654) hx hb dL_law_2424 (by decide) (fun _ => ?_) (fun c1 => absurd rfl c1)
  exact kk Mc Mr' hrel2 H locs hw
set_option maxRecDepth 100000 in
set_option maxHeartbeats 4000000 in
theorem lawc_80 {p : Program} {l : Launch} {e : Env} {s : State} {m : MethodId} {below : List Frame} {meth : Method} {c : Code} {b L : Nat} {xs : Nat → Int32} {D : va_G} {cA : Nat → ClassId} {adC adR adK : Nat → Nat} {EC : State → Heap → Prop} {Rel : Mem → Mem → Prop} (X : LwX p s m meth c b L xs D cA adC adR adK EC) (ho : Op_80 Rel) {Mc Mr : Mem} {H : Heap} {locs : List Loc} {ls : Array Slot} {i : Int32} (hrel : Rel Mc Mr) (hw : LwS D cA adC adR adK s Mc Mr H locs) (hl : lv_has ls 4 [(0, .ref b), (1, .ref (adC 0)), (2, .ref (adR 0)), (3, .int i)]) (hi : ∀ k : Nat, k < 6 → vp_in (i + Int32.ofNat k) L) (kk : ∀ Mc' Mr', Rel Mc' Mr' → ∀ (H1 : Heap) (locs1 : List Loc), LwS D cA adC adR adK s Mc' Mr' H1 locs1 → W p l e room_1 s m #[Value.ref b] below meth c H1 locs1 600000 7302250 (lw_Z below #[Value.ref b] s) (F0 m 2654 ls [])) : W p l e room_1 s m #[Value.ref b] below meth c H locs 600000 7302250 (lw_Z below #[Value.ref b] s) (F0 m 2429 ls []) := by
  obtain ⟨hx, hb, hml, hown, hts, hX, hbl, hbA, hK, hWC, hWR, hE, hAC, hAR, hdis⟩ := id X
  obtain ⟨r, Mc', Mr', e1, e2, hrel2⟩ := ho Mc Mr (xs (ix (i + 1))) hrel
  refine lv_aload_n hx hb dL_law_2429 rfl (lv_at hl 1 rfl) ?_
  refine lv_aload_n hx hb dL_law_2430 rfl (lv_at hl 0 rfl) ?_
  refine lv_iload_n hx hb dL_law_2431 rfl (lv_at hl 3 rfl) ?_
  refine lv_iconst (v := 1) hx hb dL_law_2432 (by decide) ?_
  refine lv_iadd hx hb dL_law_2433 ?_
  refine va_sld hx hb hX hbl hbA hw.2.2 (hi 1 (by decide)) dL_law_2434 ?_
  refine wlawC (As := [.int (xs (ix (i + 1)))]) (rest := []) X hw (c_X10_image hWC e1) vlL_339 ⟨Nat.le_of_ble_eq_true rfl, Nat.le_of_ble_eq_true rfl⟩ rfl rfl rfl hl.1 (Nat.le_of_ble_eq_true rfl) dL_law_2435 ⟨Nat.le_of_ble_eq_true rfl, Nat.le_of_ble_eq_true rfl⟩ (fun H locs hw => ?_)
  refine lv_aload_n hx hb dL_law_2438 rfl (lv_at hl 2 rfl) ?_
  refine lv_aload_n hx hb dL_law_2439 rfl (lv_at hl 0 rfl) ?_
  refine lv_iload_n hx hb dL_law_2440 rfl (lv_at hl 3 rfl) ?_
  refine lv_iconst (v := 1) hx hb dL_law_2441 (by decide) ?_
  refine lv_iadd hx hb dL_law_2442 ?_
  refine va_sld hx hb hX hbl hbA hw.2.2 (hi 1 (by decide)) dL_law_2443 ?_
  refine wlawR (As := [.int (xs (ix (i + 1)))]) (rest := [.int r]) X hw (c_X11_image hWR e2) vlL_342 ⟨Nat.le_of_ble_eq_true rfl, Nat.le_of_ble_eq_true rfl⟩ rfl rfl rfl hl.1 (Nat.le_of_ble_eq_true rfl) dL_law_2444 ⟨Nat.le_of_ble_eq_true rfl, Nat.le_of_ble_eq_true rfl⟩ (fun H locs hw => ?_)
  refine lv_icmp_eq (tgt := 2654) hx hb dL_law_2447 (by decide) (fun _ => ?_) (fun c1 => absurd rfl c1)
  exact kk Mc' Mr' hrel2 H locs hw
set_option maxRecDepth 100000 in
set_option maxHeartbeats 4000000 in
theorem lawc_81 {p : Program} {l : Launch} {e : Env} {s : State} {m : MethodId} {below : List Frame} {meth : Method} {c : Code} {b L : Nat} {xs : Nat → Int32} {D : va_G} {cA : Nat → ClassId} {adC adR adK : Nat → Nat} {EC : State → Heap → Prop} {Rel : Mem → Mem → Prop} (X : LwX p s m meth c b L xs D cA adC adR adK EC) (ho : Op_81 Rel) {Mc Mr : Mem} {H : Heap} {locs : List Loc} {ls : Array Slot} {i : Int32} (hrel : Rel Mc Mr) (hw : LwS D cA adC adR adK s Mc Mr H locs) (hl : lv_has ls 4 [(0, .ref b), (1, .ref (adC 0)), (2, .ref (adR 0)), (3, .int i)]) (hi : ∀ k : Nat, k < 6 → vp_in (i + Int32.ofNat k) L) (kk : ∀ Mc' Mr', Rel Mc' Mr' → ∀ (H1 : Heap) (locs1 : List Loc), LwS D cA adC adR adK s Mc' Mr' H1 locs1 → W p l e room_1 s m #[Value.ref b] below meth c H1 locs1 600000 7302250 (lw_Z below #[Value.ref b] s) (F0 m 2654 ls [])) : W p l e room_1 s m #[Value.ref b] below meth c H locs 600000 7302250 (lw_Z below #[Value.ref b] s) (F0 m 2452 ls []) := by
  obtain ⟨hx, hb, hml, hown, hts, hX, hbl, hbA, hK, hWC, hWR, hE, hAC, hAR, hdis⟩ := id X
  obtain ⟨r, Mc', Mr', e1, e2, hrel2⟩ := ho Mc Mr (xs (ix (i + 1))) hrel
  refine lv_aload_n hx hb dL_law_2452 rfl (lv_at hl 1 rfl) ?_
  refine lv_aload_n hx hb dL_law_2453 rfl (lv_at hl 0 rfl) ?_
  refine lv_iload_n hx hb dL_law_2454 rfl (lv_at hl 3 rfl) ?_
  refine lv_iconst (v := 1) hx hb dL_law_2455 (by decide) ?_
  refine lv_iadd hx hb dL_law_2456 ?_
  refine va_sld hx hb hX hbl hbA hw.2.2 (hi 1 (by decide)) dL_law_2457 ?_
  refine wlawC (As := [.int (xs (ix (i + 1)))]) (rest := []) X hw (c_X10_back hWC e1) vlL_343 ⟨Nat.le_of_ble_eq_true rfl, Nat.le_of_ble_eq_true rfl⟩ rfl rfl rfl hl.1 (Nat.le_of_ble_eq_true rfl) dL_law_2458 ⟨Nat.le_of_ble_eq_true rfl, Nat.le_of_ble_eq_true rfl⟩ (fun H locs hw => ?_)
  refine lv_aload_n hx hb dL_law_2461 rfl (lv_at hl 2 rfl) ?_
  refine lv_aload_n hx hb dL_law_2462 rfl (lv_at hl 0 rfl) ?_
  refine lv_iload_n hx hb dL_law_2463 rfl (lv_at hl 3 rfl) ?_
  refine lv_iconst (v := 1) hx hb dL_law_2464 (by decide) ?_
  refine lv_iadd hx hb dL_law_2465 ?_
  refine va_sld hx hb hX hbl hbA hw.2.2 (hi 1 (by decide)) dL_law_2466 ?_
  refine wlawR (As := [.int (xs (ix (i + 1)))]) (rest := [.int r]) X hw (c_X11_back hWR e2) vlL_346 ⟨Nat.le_of_ble_eq_true rfl, Nat.le_of_ble_eq_true rfl⟩ rfl rfl rfl hl.1 (Nat.le_of_ble_eq_true rfl) dL_law_2467 ⟨Nat.le_of_ble_eq_true rfl, Nat.le_of_ble_eq_true rfl⟩ (fun H locs hw => ?_)
  refine lv_icmp_eq (tgt := 2654) hx hb dL_law_2470 (by decide) (fun _ => ?_) (fun c1 => absurd rfl c1)
  exact kk Mc' Mr' hrel2 H locs hw
set_option maxRecDepth 100000 in
set_option maxHeartbeats 4000000 in
theorem lawc_82 {p : Program} {l : Launch} {e : Env} {s : State} {m : MethodId} {below : List Frame} {meth : Method} {c : Code} {b L : Nat} {xs : Nat → Int32} {D : va_G} {cA : Nat → ClassId} {adC adR adK : Nat → Nat} {EC : State → Heap → Prop} {Rel : Mem → Mem → Prop} (X : LwX p s m meth c b L xs D cA adC adR adK EC) (ho : Op_82 Rel) {Mc Mr : Mem} {H : Heap} {locs : List Loc} {ls : Array Slot} {i : Int32} (hrel : Rel Mc Mr) (hw : LwS D cA adC adR adK s Mc Mr H locs) (hl : lv_has ls 4 [(0, .ref b), (1, .ref (adC 0)), (2, .ref (adR 0)), (3, .int i)]) (hi : ∀ k : Nat, k < 6 → vp_in (i + Int32.ofNat k) L) (kk : ∀ Mc' Mr', Rel Mc' Mr' → ∀ (H1 : Heap) (locs1 : List Loc), LwS D cA adC adR adK s Mc' Mr' H1 locs1 → W p l e room_1 s m #[Value.ref b] below meth c H1 locs1 600000 7302250 (lw_Z below #[Value.ref b] s) (F0 m 2654 ls [])) : W p l e room_1 s m #[Value.ref b] below meth c H locs 600000 7302250 (lw_Z below #[Value.ref b] s) (F0 m 2475 ls []) := by
  obtain ⟨hx, hb, hml, hown, hts, hX, hbl, hbA, hK, hWC, hWR, hE, hAC, hAR, hdis⟩ := id X
  obtain ⟨r, Mc', Mr', e1, e2, hrel2⟩ := ho Mc Mr (xs (ix (i + 1))) (xs (ix (i + 2))) (xs (ix (i + 3))) hrel
  refine lv_aload_n hx hb dL_law_2475 rfl (lv_at hl 1 rfl) ?_
  refine lv_aload_n hx hb dL_law_2476 rfl (lv_at hl 0 rfl) ?_
  refine lv_iload_n hx hb dL_law_2477 rfl (lv_at hl 3 rfl) ?_
  refine lv_iconst (v := 1) hx hb dL_law_2478 (by decide) ?_
  refine lv_iadd hx hb dL_law_2479 ?_
  refine va_sld hx hb hX hbl hbA hw.2.2 (hi 1 (by decide)) dL_law_2480 ?_
  refine lv_aload_n hx hb dL_law_2481 rfl (lv_at hl 0 rfl) ?_
  refine lv_iload_n hx hb dL_law_2482 rfl (lv_at hl 3 rfl) ?_
  refine lv_iconst (v := 2) hx hb dL_law_2483 (by decide) ?_
  refine lv_iadd hx hb dL_law_2484 ?_
  refine va_sld hx hb hX hbl hbA hw.2.2 (hi 2 (by decide)) dL_law_2485 ?_
  refine lv_aload_n hx hb dL_law_2486 rfl (lv_at hl 0 rfl) ?_
  refine lv_iload_n hx hb dL_law_2487 rfl (lv_at hl 3 rfl) ?_
  refine lv_iconst (v := 3) hx hb dL_law_2488 (by decide) ?_
  refine lv_iadd hx hb dL_law_2489 ?_
  refine va_sld hx hb hX hbl hbA hw.2.2 (hi 3 (by decide)) dL_law_2490 ?_
  refine wlawC (As := [.int (xs (ix (i + 1))), .int (xs (ix (i + 2))), .int (xs (ix (i + 3)))]) (rest := []) X hw (c_X10_row hWC e1) vlL_347 ⟨Nat.le_of_ble_eq_true rfl, Nat.le_of_ble_eq_true rfl⟩ rfl rfl rfl hl.1 (Nat.le_of_ble_eq_true rfl) dL_law_2491 ⟨Nat.le_of_ble_eq_true rfl, Nat.le_of_ble_eq_true rfl⟩ (fun H locs hw => ?_)
  refine lv_aload_n hx hb dL_law_2494 rfl (lv_at hl 2 rfl) ?_
  refine lv_aload_n hx hb dL_law_2495 rfl (lv_at hl 0 rfl) ?_
  refine lv_iload_n hx hb dL_law_2496 rfl (lv_at hl 3 rfl) ?_
  refine lv_iconst (v := 1) hx hb dL_law_2497 (by decide) ?_
  refine lv_iadd hx hb dL_law_2498 ?_
  refine va_sld hx hb hX hbl hbA hw.2.2 (hi 1 (by decide)) dL_law_2499 ?_
  refine lv_aload_n hx hb dL_law_2500 rfl (lv_at hl 0 rfl) ?_
  refine lv_iload_n hx hb dL_law_2501 rfl (lv_at hl 3 rfl) ?_
  refine lv_iconst (v := 2) hx hb dL_law_2502 (by decide) ?_
  refine lv_iadd hx hb dL_law_2503 ?_
  refine va_sld hx hb hX hbl hbA hw.2.2 (hi 2 (by decide)) dL_law_2504 ?_
  refine lv_aload_n hx hb dL_law_2505 rfl (lv_at hl 0 rfl) ?_
  refine lv_iload_n hx hb dL_law_2506 rfl (lv_at hl 3 rfl) ?_
  refine lv_iconst (v := 3) hx hb dL_law_2507 (by decide) ?_
  refine lv_iadd hx hb dL_law_2508 ?_
  refine va_sld hx hb hX hbl hbA hw.2.2 (hi 3 (by decide)) dL_law_2509 ?_
  refine wlawR (As := [.int (xs (ix (i + 1))), .int (xs (ix (i + 2))), .int (xs (ix (i + 3)))]) (rest := [.int r]) X hw (c_X11_row hWR e2) vlL_350 ⟨Nat.le_of_ble_eq_true rfl, Nat.le_of_ble_eq_true rfl⟩ rfl rfl rfl hl.1 (Nat.le_of_ble_eq_true rfl) dL_law_2510 ⟨Nat.le_of_ble_eq_true rfl, Nat.le_of_ble_eq_true rfl⟩ (fun H locs hw => ?_)
  refine lv_icmp_eq (tgt := 2654) hx hb dL_law_2513 (by decide) (fun _ => ?_) (fun c1 => absurd rfl c1)
  exact kk Mc' Mr' hrel2 H locs hw
set_option maxRecDepth 100000 in
set_option maxHeartbeats 4000000 in
theorem lawc_83 {p : Program} {l : Launch} {e : Env} {s : State} {m : MethodId} {below : List Frame} {meth : Method} {c : Code} {b L : Nat} {xs : Nat → Int32} {D : va_G} {cA : Nat → ClassId} {adC adR adK : Nat → Nat} {EC : State → Heap → Prop} {Rel : Mem → Mem → Prop} (X : LwX p s m meth c b L xs D cA adC adR adK EC) (ho : Op_83 Rel) {Mc Mr : Mem} {H : Heap} {locs : List Loc} {ls : Array Slot} {i : Int32} (hrel : Rel Mc Mr) (hw : LwS D cA adC adR adK s Mc Mr H locs) (hl : lv_has ls 4 [(0, .ref b), (1, .ref (adC 0)), (2, .ref (adR 0)), (3, .int i)]) (hi : ∀ k : Nat, k < 6 → vp_in (i + Int32.ofNat k) L) (kk : ∀ Mc' Mr', Rel Mc' Mr' → ∀ (H1 : Heap) (locs1 : List Loc), LwS D cA adC adR adK s Mc' Mr' H1 locs1 → W p l e room_1 s m #[Value.ref b] below meth c H1 locs1 600000 7302250 (lw_Z below #[Value.ref b] s) (F0 m 2654 ls [])) : W p l e room_1 s m #[Value.ref b] below meth c H locs 600000 7302250 (lw_Z below #[Value.ref b] s) (F0 m 2518 ls []) := by
  obtain ⟨hx, hb, hml, hown, hts, hX, hbl, hbA, hK, hWC, hWR, hE, hAC, hAR, hdis⟩ := id X
  obtain ⟨r, Mc', Mr', e1, e2, hrel2⟩ := ho Mc Mr (xs (ix (i + 1))) (xs (ix (i + 2))) ((((xs (ix (i + 3))) : Int32).toInt64 <<< ((32 : Int32).toInt64 &&& 63)) ||| (((xs (ix (i + 4))) : Int32).toInt64 &&& 4294967295)) hrel
  refine lv_aload_n hx hb dL_law_2518 rfl (lv_at hl 1 rfl) ?_
  refine lv_aload_n hx hb dL_law_2519 rfl (lv_at hl 0 rfl) ?_
  refine lv_iload_n hx hb dL_law_2520 rfl (lv_at hl 3 rfl) ?_
  refine lv_iconst (v := 1) hx hb dL_law_2521 (by decide) ?_
  refine lv_iadd hx hb dL_law_2522 ?_
  refine va_sld hx hb hX hbl hbA hw.2.2 (hi 1 (by decide)) dL_law_2523 ?_
  refine lv_aload_n hx hb dL_law_2524 rfl (lv_at hl 0 rfl) ?_
  refine lv_iload_n hx hb dL_law_2525 rfl (lv_at hl 3 rfl) ?_
  refine lv_iconst (v := 2) hx hb dL_law_2526 (by decide) ?_
  refine lv_iadd hx hb dL_law_2527 ?_
  refine va_sld hx hb hX hbl hbA hw.2.2 (hi 2 (by decide)) dL_law_2528 ?_
  refine lv_aload_n hx hb dL_law_2529 rfl (lv_at hl 0 rfl) ?_
  refine lv_iload_n hx hb dL_law_2530 rfl (lv_at hl 3 rfl) ?_
  refine lv_iconst (v := 3) hx hb dL_law_2531 (by decide) ?_
  refine lv_iadd hx hb dL_law_2532 ?_
  refine va_sld hx hb hX hbl hbA hw.2.2 (hi 3 (by decide)) dL_law_2533 ?_
  refine lv_i2l hx hb dL_law_2534 rfl ?_
  refine lv_bipush (v := 32) hx hb dL_law_2535 (by decide) ?_
  refine lv_lshl hx hb dL_law_2537 rfl ?_
  refine lv_aload_n hx hb dL_law_2538 rfl (lv_at hl 0 rfl) ?_
  refine lv_iload_n hx hb dL_law_2539 rfl (lv_at hl 3 rfl) ?_
  refine lv_iconst (v := 4) hx hb dL_law_2540 (by decide) ?_
  refine lv_iadd hx hb dL_law_2541 ?_
  refine va_sld hx hb hX hbl hbA hw.2.2 (hi 4 (by decide)) dL_law_2542 ?_
  refine lv_i2l hx hb dL_law_2543 rfl ?_
  refine lv_ldc2 hx hb hown (hts _ kcL_351) dL_law_2544 ?_
  refine lv_land hx hb dL_law_2547 ?_
  refine lv_lor hx hb dL_law_2548 ?_
  refine wlawC (As := [.int (xs (ix (i + 1))), .int (xs (ix (i + 2))), .long ((((xs (ix (i + 3))) : Int32).toInt64 <<< ((32 : Int32).toInt64 &&& 63)) ||| (((xs (ix (i + 4))) : Int32).toInt64 &&& 4294967295))]) (rest := []) X hw (c_X10_write hWC e1) vlL_353 ⟨Nat.le_of_ble_eq_true rfl, Nat.le_of_ble_eq_true rfl⟩ rfl rfl rfl hl.1 (Nat.le_of_ble_eq_true rfl) dL_law_2549 ⟨Nat.le_of_ble_eq_true rfl, Nat.le_of_ble_eq_true rfl⟩ (fun H locs hw => ?_)
  refine lv_aload_n hx hb dL_law_2552 rfl (lv_at hl 2 rfl) ?_
  refine lv_aload_n hx hb dL_law_2553 rfl (lv_at hl 0 rfl) ?_
  refine lv_iload_n hx hb dL_law_2554 rfl (lv_at hl 3 rfl) ?_
  refine lv_iconst (v := 1) hx hb dL_law_2555 (by decide) ?_
  refine lv_iadd hx hb dL_law_2556 ?_
  refine va_sld hx hb hX hbl hbA hw.2.2 (hi 1 (by decide)) dL_law_2557 ?_
  refine lv_aload_n hx hb dL_law_2558 rfl (lv_at hl 0 rfl) ?_
  refine lv_iload_n hx hb dL_law_2559 rfl (lv_at hl 3 rfl) ?_
  refine lv_iconst (v := 2) hx hb dL_law_2560 (by decide) ?_
  refine lv_iadd hx hb dL_law_2561 ?_
  refine va_sld hx hb hX hbl hbA hw.2.2 (hi 2 (by decide)) dL_law_2562 ?_
  refine lv_aload_n hx hb dL_law_2563 rfl (lv_at hl 0 rfl) ?_
  refine lv_iload_n hx hb dL_law_2564 rfl (lv_at hl 3 rfl) ?_
  refine lv_iconst (v := 3) hx hb dL_law_2565 (by decide) ?_
  refine lv_iadd hx hb dL_law_2566 ?_
  refine va_sld hx hb hX hbl hbA hw.2.2 (hi 3 (by decide)) dL_law_2567 ?_
  refine lv_i2l hx hb dL_law_2568 rfl ?_
  refine lv_bipush (v := 32) hx hb dL_law_2569 (by decide) ?_
  refine lv_lshl hx hb dL_law_2571 rfl ?_
  refine lv_aload_n hx hb dL_law_2572 rfl (lv_at hl 0 rfl) ?_
  refine lv_iload_n hx hb dL_law_2573 rfl (lv_at hl 3 rfl) ?_
  refine lv_iconst (v := 4) hx hb dL_law_2574 (by decide) ?_
  refine lv_iadd hx hb dL_law_2575 ?_
  refine va_sld hx hb hX hbl hbA hw.2.2 (hi 4 (by decide)) dL_law_2576 ?_
  refine lv_i2l hx hb dL_law_2577 rfl ?_
  refine lv_ldc2 hx hb hown (hts _ kcL_351) dL_law_2578 ?_
  refine lv_land hx hb dL_law_2581 ?_
  refine lv_lor hx hb dL_law_2582 ?_
  refine wlawR (As := [.int (xs (ix (i + 1))), .int (xs (ix (i + 2))), .long ((((xs (ix (i + 3))) : Int32).toInt64 <<< ((32 : Int32).toInt64 &&& 63)) ||| (((xs (ix (i + 4))) : Int32).toInt64 &&& 4294967295))]) (rest := [.int r]) X hw (c_X11_write hWR e2) vlL_357 ⟨Nat.le_of_ble_eq_true rfl, Nat.le_of_ble_eq_true rfl⟩ rfl rfl rfl hl.1 (Nat.le_of_ble_eq_true rfl) dL_law_2583 ⟨Nat.le_of_ble_eq_true rfl, Nat.le_of_ble_eq_true rfl⟩ (fun H locs hw => ?_)
  refine lv_icmp_eq (tgt := 2654) hx hb dL_law_2586 (by decide) (fun _ => ?_) (fun c1 => absurd rfl c1)
  exact kk Mc' Mr' hrel2 H locs hw
set_option maxRecDepth 100000 in
set_option maxHeartbeats 4000000 in
theorem lawc_84 {p : Program} {l : Launch} {e : Env} {s : State} {m : MethodId} {below : List Frame} {meth : Method} {c : Code} {b L : Nat} {xs : Nat → Int32} {D : va_G} {cA : Nat → ClassId} {adC adR adK : Nat → Nat} {EC : State → Heap → Prop} {Rel : Mem → Mem → Prop} (X : LwX p s m meth c b L xs D cA adC adR adK EC) (ho : Op_84 Rel) {Mc Mr : Mem} {H : Heap} {locs : List Loc} {ls : Array Slot} {i : Int32} (hrel : Rel Mc Mr) (hw : LwS D cA adC adR adK s Mc Mr H locs) (hl : lv_has ls 4 [(0, .ref b), (1, .ref (adC 0)), (2, .ref (adR 0)), (3, .int i)]) (hi : ∀ k : Nat, k < 6 → vp_in (i + Int32.ofNat k) L) (kk : ∀ Mc' Mr', Rel Mc' Mr' → ∀ (H1 : Heap) (locs1 : List Loc), LwS D cA adC adR adK s Mc' Mr' H1 locs1 → W p l e room_1 s m #[Value.ref b] below meth c H1 locs1 600000 7302250 (lw_Z below #[Value.ref b] s) (F0 m 2654 ls [])) : W p l e room_1 s m #[Value.ref b] below meth c H locs 600000 7302250 (lw_Z below #[Value.ref b] s) (F0 m 2591 ls []) := by
  obtain ⟨hx, hb, hml, hown, hts, hX, hbl, hbA, hK, hWC, hWR, hE, hAC, hAR, hdis⟩ := id X
  obtain ⟨r, Mc', Mr', e1, e2, hrel2⟩ := ho Mc Mr (xs (ix (i + 1))) (xs (ix (i + 2))) (xs (ix (i + 3))) (xs (ix (i + 4))) (xs (ix (i + 5))) hrel
  refine lv_aload_n hx hb dL_law_2591 rfl (lv_at hl 1 rfl) ?_
  refine lv_aload_n hx hb dL_law_2592 rfl (lv_at hl 0 rfl) ?_
  refine lv_iload_n hx hb dL_law_2593 rfl (lv_at hl 3 rfl) ?_
  refine lv_iconst (v := 1) hx hb dL_law_2594 (by decide) ?_
  refine lv_iadd hx hb dL_law_2595 ?_
  refine va_sld hx hb hX hbl hbA hw.2.2 (hi 1 (by decide)) dL_law_2596 ?_
  refine lv_aload_n hx hb dL_law_2597 rfl (lv_at hl 0 rfl) ?_
  refine lv_iload_n hx hb dL_law_2598 rfl (lv_at hl 3 rfl) ?_
  refine lv_iconst (v := 2) hx hb dL_law_2599 (by decide) ?_
  refine lv_iadd hx hb dL_law_2600 ?_
  refine va_sld hx hb hX hbl hbA hw.2.2 (hi 2 (by decide)) dL_law_2601 ?_
  refine lv_aload_n hx hb dL_law_2602 rfl (lv_at hl 0 rfl) ?_
  refine lv_iload_n hx hb dL_law_2603 rfl (lv_at hl 3 rfl) ?_
  refine lv_iconst (v := 3) hx hb dL_law_2604 (by decide) ?_
  refine lv_iadd hx hb dL_law_2605 ?_
  refine va_sld hx hb hX hbl hbA hw.2.2 (hi 3 (by decide)) dL_law_2606 ?_
  refine lv_aload_n hx hb dL_law_2607 rfl (lv_at hl 0 rfl) ?_
  refine lv_iload_n hx hb dL_law_2608 rfl (lv_at hl 3 rfl) ?_
  refine lv_iconst (v := 4) hx hb dL_law_2609 (by decide) ?_
  refine lv_iadd hx hb dL_law_2610 ?_
  refine va_sld hx hb hX hbl hbA hw.2.2 (hi 4 (by decide)) dL_law_2611 ?_
  refine lv_aload_n hx hb dL_law_2612 rfl (lv_at hl 0 rfl) ?_
  refine lv_iload_n hx hb dL_law_2613 rfl (lv_at hl 3 rfl) ?_
  refine lv_iconst (v := 5) hx hb dL_law_2614 (by decide) ?_
  refine lv_iadd hx hb dL_law_2615 ?_
  refine va_sld hx hb hX hbl hbA hw.2.2 (hi 5 (by decide)) dL_law_2616 ?_
  refine wlawC (As := [.int (xs (ix (i + 1))), .int (xs (ix (i + 2))), .int (xs (ix (i + 3))), .int (xs (ix (i + 4))), .int (xs (ix (i + 5)))]) (rest := []) X hw (c_X10_paste hWC e1) vlL_358 ⟨Nat.le_of_ble_eq_true rfl, Nat.le_of_ble_eq_true rfl⟩ rfl rfl rfl hl.1 (Nat.le_of_ble_eq_true rfl) dL_law_2617 ⟨Nat.le_of_ble_eq_true rfl, Nat.le_of_ble_eq_true rfl⟩ (fun H locs hw => ?_)
  refine lv_aload_n hx hb dL_law_2620 rfl (lv_at hl 2 rfl) ?_
  refine lv_aload_n hx hb dL_law_2621 rfl (lv_at hl 0 rfl) ?_
  refine lv_iload_n hx hb dL_law_2622 rfl (lv_at hl 3 rfl) ?_
  refine lv_iconst (v := 1) hx hb dL_law_2623 (by decide) ?_
  refine lv_iadd hx hb dL_law_2624 ?_
  refine va_sld hx hb hX hbl hbA hw.2.2 (hi 1 (by decide)) dL_law_2625 ?_
  refine lv_aload_n hx hb dL_law_2626 rfl (lv_at hl 0 rfl) ?_
  refine lv_iload_n hx hb dL_law_2627 rfl (lv_at hl 3 rfl) ?_
  refine lv_iconst (v := 2) hx hb dL_law_2628 (by decide) ?_
  refine lv_iadd hx hb dL_law_2629 ?_
  refine va_sld hx hb hX hbl hbA hw.2.2 (hi 2 (by decide)) dL_law_2630 ?_
  refine lv_aload_n hx hb dL_law_2631 rfl (lv_at hl 0 rfl) ?_
  refine lv_iload_n hx hb dL_law_2632 rfl (lv_at hl 3 rfl) ?_
  refine lv_iconst (v := 3) hx hb dL_law_2633 (by decide) ?_
  refine lv_iadd hx hb dL_law_2634 ?_
  refine va_sld hx hb hX hbl hbA hw.2.2 (hi 3 (by decide)) dL_law_2635 ?_
  refine lv_aload_n hx hb dL_law_2636 rfl (lv_at hl 0 rfl) ?_
  refine lv_iload_n hx hb dL_law_2637 rfl (lv_at hl 3 rfl) ?_
  refine lv_iconst (v := 4) hx hb dL_law_2638 (by decide) ?_
  refine lv_iadd hx hb dL_law_2639 ?_
  refine va_sld hx hb hX hbl hbA hw.2.2 (hi 4 (by decide)) dL_law_2640 ?_
  refine lv_aload_n hx hb dL_law_2641 rfl (lv_at hl 0 rfl) ?_
  refine lv_iload_n hx hb dL_law_2642 rfl (lv_at hl 3 rfl) ?_
  refine lv_iconst (v := 5) hx hb dL_law_2643 (by decide) ?_
  refine lv_iadd hx hb dL_law_2644 ?_
  refine va_sld hx hb hX hbl hbA hw.2.2 (hi 5 (by decide)) dL_law_2645 ?_
  refine wlawR (As := [.int (xs (ix (i + 1))), .int (xs (ix (i + 2))), .int (xs (ix (i + 3))), .int (xs (ix (i + 4))), .int (xs (ix (i + 5)))]) (rest := [.int r]) X hw (c_X11_paste hWR e2) vlL_361 ⟨Nat.le_of_ble_eq_true rfl, Nat.le_of_ble_eq_true rfl⟩ rfl rfl rfl hl.1 (Nat.le_of_ble_eq_true rfl) dL_law_2646 ⟨Nat.le_of_ble_eq_true rfl, Nat.le_of_ble_eq_true rfl⟩ (fun H locs hw => ?_)
  refine lv_icmp_eq (tgt := 2654) hx hb dL_law_2649 (by decide) (fun _ => ?_) (fun c1 => absurd rfl c1)
  exact kk Mc' Mr' hrel2 H locs hw
