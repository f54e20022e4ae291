theorem law_off {k L : Nat} (hk : k ≤ L) (hL : L ≤ 3072) (h : ¬ Int32.ofNat L - 6 < nI k) : k + 6 ≤ L := by
  rcases Nat.lt_or_ge L (k + 6) with h1 | h1
  · exfalso
    apply h
    have e1 : (nI k).toInt = (k : Int) := nI_toInt (by omega)
    have e2 : (Int32.ofNat L).toInt = (L : Int) := nI_toInt (n := L) (by omega)
    have e3 : (6 : Int32).toInt = 6 := by decide
    rw [Int32.lt_iff_toInt_lt, e1, Int32.toInt_sub, e2, e3]
    rw [Int.bmod_eq_of_le (by omega) (by omega)]
    omega
  · exact h1
theorem law_hi {k L : Nat} (hk : k + 6 ≤ L) (hL : L ≤ 3072) : ∀ j : Nat, j < 6 → vp_in (nI k + Int32.ofNat j) L := by
  intro j hj
  have e : nI k + Int32.ofNat j = nI (k + j) := (Int32.ofNat_add k j).symm
  rw [e]
  exact vp_in_nI (by omega) (by omega)

set_option maxRecDepth 100000 in
set_option maxHeartbeats 8000000 in
theorem law_loop {p : Program} {l : Launch} {e : Env} {s : State} {m : MethodId} {below : List Frame} {meth : Method} {c : Code} {b L : Nat} {xs : Nat → Int32} {D : va_G} {cA : Nat → ClassId} {adC adR adK : Nat → Nat} {EC : State → Heap → Prop} {Rel : Mem → Mem → Prop} (X : LwX p s m meth c b L xs D cA adC adR adK EC) (hlocks : meth.locks = false) (hr : meth.sig.returnType = ret) (hL : L ≤ 3072) (ops : OpsAll Rel) : ∀ (n k : Nat), n = L - k → k ≤ L → ∀ (Mc Mr : Mem) (H : Heap) (locs : List Loc) (ls : Array Slot), Rel Mc Mr → LwS D cA adC adR adK s Mc Mr H locs → lv_has ls 4 [(0, .ref b), (1, .ref (adC 0)), (2, .ref (adR 0)), (3, .int (nI k))] → W p l e room_1 s m #[Value.ref b] below meth c H locs 600000 7302250 (lw_Z below #[Value.ref b] s) (F0 m 18 ls []) := by
  obtain ⟨hx, hb, hml, hown, hts, hX, hbl, hbA, hK, hWC, hWR, hE, hAC, hAR, hdis⟩ := id X
  intro n
  induction n using Nat.strongRecOn with
  | ind n ih =>
    intro k hn hk Mc Mr H locs ls hrel hw hl
    refine lv_iload_n hx hb dL_law_18 rfl (lv_at hl 3 rfl) ?_
    refine lv_aload_n hx hb dL_law_19 rfl (lv_at hl 0 rfl) ?_
    refine va_slen hx hb hX hbl hbA hw.2.2 dL_law_20 ?_
    refine lv_bipush (v := 6) hx hb dL_law_21 (by decide) ?_
    refine lv_isub hx hb dL_law_23 ?_
    refine lv_icmp_gt (tgt := 2660) hx hb dL_law_24 (by decide) (fun c1 => ?_) (fun c1 => ?_)
    · refine lv_iconst (v := 1) hx hb dL_law_2660 (by decide) ?_
      refine va_forget (fun q hq => hw.2.2.2.2 q hq) ?_
      exact lw_ret hx hb hr hlocks dL_law_2661
    · have hk6 : k + 6 ≤ L := law_off hk hL c1
      have hi := law_hi hk6 hL
      have hi0 : vp_in (nI k) L := vp_in_nI (by omega) (by omega)
      have next : ∀ Mc' Mr', Rel Mc' Mr' → ∀ (H1 : Heap) (locs1 : List Loc), LwS D cA adC adR adK s Mc' Mr' H1 locs1 → W p l e room_1 s m #[Value.ref b] below meth c H1 locs1 600000 7302250 (lw_Z below #[Value.ref b] s) (F0 m 2654 ls []) := by
        intro Mc' Mr' hrel2 H1 locs1 hw2
        refine lv_iinc (v := nI (k + 6)) (lv' := [(3, .int (nI (k + 6))), (0, .ref b), (1, .ref (adC 0)), (2, .ref (adR 0))]) (k := 3) hx hb dL_law_2654 hl rfl ((Int32.ofNat_add k 6).symm) (by decide) rfl (fun ls hl => ?_)
        refine lv_goto (tgt := 18) hx hb dL_law_2657 (by decide) ?_
        exact ih (L - (k + 6)) (by omega) (k + 6) rfl hk6 Mc' Mr' H1 locs1 ls hrel2 hw2 (lv_sub hl [1, 2, 3, 0] rfl)
      refine lv_aload_n hx hb dL_law_27 rfl (lv_at hl 0 rfl) ?_
      refine lv_iload_n hx hb dL_law_28 rfl (lv_at hl 3 rfl) ?_
      refine va_sld hx hb hX hbl hbA hw.2.2 hi0 dL_law_29 ?_
      refine lv_bipush (v := 127) hx hb dL_law_30 (by decide) ?_
      refine lv_iand hx hb dL_law_32 ?_
      refine lv_topi (fun z ez => ?_)
      by_cases hz : z.toInt < 0 ∨ 84 < z.toInt
      · exact lv_tableOut (tgt := 2654) hx hb dL_law_33 hz (by decide) (next Mc Mr hrel H locs hw)
      · obtain ⟨o0, o1, o2, o3, o4, o5, o6, o7, o8, o9, o10, o11, o12, o13, o14, o15, o16, o17, o18, o19, o20, o21, o22, o23, o24, o25, o26, o27, o28, o29, o30, o31, o32, o33, o34, o35, o36, o37, o38, o39, o40, o41, o42, o43, o44, o45, o46, o47, o48, o49, o50, o51, o52, o53, o54, o55, o56, o57, o58, o59, o60, o61, o62, o63, o64, o65, o66, o67, o68, o69, o70, o71, o72, o73, o74, o75, o76, o77, o78, o79, o80, o81, o82, o83, o84⟩ := ops
        obtain ⟨j, hj, hzj⟩ : ∃ j : Nat, j < 85 ∧ z.toInt = (j : Int) := ⟨z.toInt.toNat, by omega, by omega⟩
        have h1 : ¬ z.toInt < 0 := fun q => hz (Or.inl q)
        have h2 : ¬ 84 < z.toInt := fun q => hz (Or.inr q)
        match j, hj, hzj with
        | 0, _, hzj => exact lv_tableIn (off := 355) (tgt := 388) hx hb dL_law_33 h1 h2 (by rw [hzj]; rfl) (by decide) (lawc_0 X o0 hrel hw hl hi next)
        | 1, _, hzj => exact lv_tableIn (off := 418) (tgt := 451) hx hb dL_law_33 h1 h2 (by rw [hzj]; rfl) (by decide) (lawc_1 X o1 hrel hw hl hi next)
        | 2, _, hzj => exact lv_tableIn (off := 441) (tgt := 474) hx hb dL_law_33 h1 h2 (by rw [hzj]; rfl) (by decide) (lawc_2 X o2 hrel hw hl hi next)
        | 3, _, hzj => exact lv_tableIn (off := 454) (tgt := 487) hx hb dL_law_33 h1 h2 (by rw [hzj]; rfl) (by decide) (lawc_3 X o3 hrel hw hl hi next)
        | 4, _, hzj => exact lv_tableIn (off := 477) (tgt := 510) hx hb dL_law_33 h1 h2 (by rw [hzj]; rfl) (by decide) (lawc_4 X o4 hrel hw hl hi next)
        | 5, _, hzj => exact lv_tableIn (off := 500) (tgt := 533) hx hb dL_law_33 h1 h2 (by rw [hzj]; rfl) (by decide) (lawc_5 X o5 hrel hw hl hi next)
        | 6, _, hzj => exact lv_tableIn (off := 533) (tgt := 566) hx hb dL_law_33 h1 h2 (by rw [hzj]; rfl) (by decide) (lawc_6 X o6 hrel hw hl hi next)
        | 7, _, hzj => exact lv_tableIn (off := 566) (tgt := 599) hx hb dL_law_33 h1 h2 (by rw [hzj]; rfl) (by decide) (lawc_7 X o7 hrel hw hl hi next)
        | 8, _, hzj => exact lv_tableIn (off := 599) (tgt := 632) hx hb dL_law_33 h1 h2 (by rw [hzj]; rfl) (by decide) (lawc_8 X o8 hrel hw hl hi next)
        | 9, _, hzj => exact lv_tableIn (off := 632) (tgt := 665) hx hb dL_law_33 h1 h2 (by rw [hzj]; rfl) (by decide) (lawc_9 X o9 hrel hw hl hi next)
        | 10, _, hzj => exact lv_tableIn (off := 655) (tgt := 688) hx hb dL_law_33 h1 h2 (by rw [hzj]; rfl) (by decide) (lawc_10 X o10 hrel hw hl hi next)
        | 11, _, hzj => exact lv_tableIn (off := 678) (tgt := 711) hx hb dL_law_33 h1 h2 (by rw [hzj]; rfl) (by decide) (lawc_11 X o11 hrel hw hl hi next)
        | 12, _, hzj => exact lv_tableIn (off := 711) (tgt := 744) hx hb dL_law_33 h1 h2 (by rw [hzj]; rfl) (by decide) (lawc_12 X o12 hrel hw hl hi next)
        | 13, _, hzj => exact lv_tableIn (off := 744) (tgt := 777) hx hb dL_law_33 h1 h2 (by rw [hzj]; rfl) (by decide) (lawc_13 X o13 hrel hw hl hi next)
        | 14, _, hzj => exact lv_tableIn (off := 777) (tgt := 810) hx hb dL_law_33 h1 h2 (by rw [hzj]; rfl) (by decide) (lawc_14 X o14 hrel hw hl hi next)
        | 15, _, hzj => exact lv_tableIn (off := 800) (tgt := 833) hx hb dL_law_33 h1 h2 (by rw [hzj]; rfl) (by decide) (lawc_15 X o15 hrel hw hl hi next)
        | 16, _, hzj => exact lv_tableIn (off := 823) (tgt := 856) hx hb dL_law_33 h1 h2 (by rw [hzj]; rfl) (by decide) (lawc_16 X o16 hrel hw hl hi next)
        | 17, _, hzj => exact lv_tableIn (off := 846) (tgt := 879) hx hb dL_law_33 h1 h2 (by rw [hzj]; rfl) (by decide) (lawc_17 X o17 hrel hw hl hi next)
        | 18, _, hzj => exact lv_tableIn (off := 869) (tgt := 902) hx hb dL_law_33 h1 h2 (by rw [hzj]; rfl) (by decide) (lawc_18 X o18 hrel hw hl hi next)
        | 19, _, hzj => exact lv_tableIn (off := 892) (tgt := 925) hx hb dL_law_33 h1 h2 (by rw [hzj]; rfl) (by decide) (lawc_19 X o19 hrel hw hl hi next)
        | 20, _, hzj => exact lv_tableIn (off := 915) (tgt := 948) hx hb dL_law_33 h1 h2 (by rw [hzj]; rfl) (by decide) (lawc_20 X o20 hrel hw hl hi next)
        | 21, _, hzj => exact lv_tableIn (off := 938) (tgt := 971) hx hb dL_law_33 h1 h2 (by rw [hzj]; rfl) (by decide) (lawc_21 X o21 hrel hw hl hi next)
        | 22, _, hzj => exact lv_tableIn (off := 951) (tgt := 984) hx hb dL_law_33 h1 h2 (by rw [hzj]; rfl) (by decide) (lawc_22 X o22 hrel hw hl hi next)
        | 23, _, hzj => exact lv_tableIn (off := 964) (tgt := 997) hx hb dL_law_33 h1 h2 (by rw [hzj]; rfl) (by decide) (lawc_23 X o23 hrel hw hl hi next)
        | 24, _, hzj => exact lv_tableIn (off := 987) (tgt := 1020) hx hb dL_law_33 h1 h2 (by rw [hzj]; rfl) (by decide) (lawc_24 X o24 hrel hw hl hi next)
        | 25, _, hzj => exact lv_tableIn (off := 1010) (tgt := 1043) hx hb dL_law_33 h1 h2 (by rw [hzj]; rfl) (by decide) (lawc_25 X o25 hrel hw hl hi next)
        | 26, _, hzj => exact lv_tableIn (off := 1033) (tgt := 1066) hx hb dL_law_33 h1 h2 (by rw [hzj]; rfl) (by decide) (lawc_26 X o26 hrel hw hl hi next)
        | 27, _, hzj => exact lv_tableIn (off := 1046) (tgt := 1079) hx hb dL_law_33 h1 h2 (by rw [hzj]; rfl) (by decide) (lawc_27 X o27 hrel hw hl hi next)
        | 28, _, hzj => exact lv_tableIn (off := 1059) (tgt := 1092) hx hb dL_law_33 h1 h2 (by rw [hzj]; rfl) (by decide) (lawc_28 X o28 hrel hw hl hi next)
        | 29, _, hzj => exact lv_tableIn (off := 1082) (tgt := 1115) hx hb dL_law_33 h1 h2 (by rw [hzj]; rfl) (by decide) (lawc_29 X o29 hrel hw hl hi next)
        | 30, _, hzj => exact lv_tableIn (off := 1105) (tgt := 1138) hx hb dL_law_33 h1 h2 (by rw [hzj]; rfl) (by decide) (lawc_30 X o30 hrel hw hl hi next)
        | 31, _, hzj => exact lv_tableIn (off := 1138) (tgt := 1171) hx hb dL_law_33 h1 h2 (by rw [hzj]; rfl) (by decide) (lawc_31 X o31 hrel hw hl hi next)
        | 32, _, hzj => exact lv_tableIn (off := 1161) (tgt := 1194) hx hb dL_law_33 h1 h2 (by rw [hzj]; rfl) (by decide) (lawc_32 X o32 hrel hw hl hi next)
        | 33, _, hzj => exact lv_tableIn (off := 1184) (tgt := 1217) hx hb dL_law_33 h1 h2 (by rw [hzj]; rfl) (by decide) (lawc_33 X o33 hrel hw hl hi next)
        | 34, _, hzj => exact lv_tableIn (off := 1197) (tgt := 1230) hx hb dL_law_33 h1 h2 (by rw [hzj]; rfl) (by decide) (lawc_34 X o34 hrel hw hl hi next)
        | 35, _, hzj => exact lv_tableIn (off := 1220) (tgt := 1253) hx hb dL_law_33 h1 h2 (by rw [hzj]; rfl) (by decide) (lawc_35 X o35 hrel hw hl hi next)
        | 36, _, hzj => exact lv_tableIn (off := 1253) (tgt := 1286) hx hb dL_law_33 h1 h2 (by rw [hzj]; rfl) (by decide) (lawc_36 X o36 hrel hw hl hi next)
        | 37, _, hzj => exact lv_tableIn (off := 1276) (tgt := 1309) hx hb dL_law_33 h1 h2 (by rw [hzj]; rfl) (by decide) (lawc_37 X o37 hrel hw hl hi next)
        | 38, _, hzj => exact lv_tableIn (off := 1299) (tgt := 1332) hx hb dL_law_33 h1 h2 (by rw [hzj]; rfl) (by decide) (lawc_38 X o38 hrel hw hl hi next)
        | 39, _, hzj => exact lv_tableIn (off := 1322) (tgt := 1355) hx hb dL_law_33 h1 h2 (by rw [hzj]; rfl) (by decide) (lawc_39 X o39 hrel hw hl hi next)
        | 40, _, hzj => exact lv_tableIn (off := 1355) (tgt := 1388) hx hb dL_law_33 h1 h2 (by rw [hzj]; rfl) (by decide) (lawc_40 X o40 hrel hw hl hi next)
        | 41, _, hzj => exact lv_tableIn (off := 1378) (tgt := 1411) hx hb dL_law_33 h1 h2 (by rw [hzj]; rfl) (by decide) (lawc_41 X o41 hrel hw hl hi next)
        | 42, _, hzj => exact lv_tableIn (off := 1401) (tgt := 1434) hx hb dL_law_33 h1 h2 (by rw [hzj]; rfl) (by decide) (lawc_42 X o42 hrel hw hl hi next)
        | 43, _, hzj => exact lv_tableIn (off := 1424) (tgt := 1457) hx hb dL_law_33 h1 h2 (by rw [hzj]; rfl) (by decide) (lawc_43 X o43 hrel hw hl hi next)
        | 44, _, hzj => exact lv_tableIn (off := 1447) (tgt := 1480) hx hb dL_law_33 h1 h2 (by rw [hzj]; rfl) (by decide) (lawc_44 X o44 hrel hw hl hi next)
        | 45, _, hzj => exact lv_tableIn (off := 1470) (tgt := 1503) hx hb dL_law_33 h1 h2 (by rw [hzj]; rfl) (by decide) (lawc_45 X o45 hrel hw hl hi next)
        | 46, _, hzj => exact lv_tableIn (off := 1493) (tgt := 1526) hx hb dL_law_33 h1 h2 (by rw [hzj]; rfl) (by decide) (lawc_46 X o46 hrel hw hl hi next)
        | 47, _, hzj => exact lv_tableIn (off := 1516) (tgt := 1549) hx hb dL_law_33 h1 h2 (by rw [hzj]; rfl) (by decide) (lawc_47 X o47 hrel hw hl hi next)
        | 48, _, hzj => exact lv_tableIn (off := 1539) (tgt := 1572) hx hb dL_law_33 h1 h2 (by rw [hzj]; rfl) (by decide) (lawc_48 X o48 hrel hw hl hi next)
        | 49, _, hzj => exact lv_tableIn (off := 1552) (tgt := 1585) hx hb dL_law_33 h1 h2 (by rw [hzj]; rfl) (by decide) (lawc_49 X o49 hrel hw hl hi next)
        | 50, _, hzj => exact lv_tableIn (off := 1575) (tgt := 1608) hx hb dL_law_33 h1 h2 (by rw [hzj]; rfl) (by decide) (lawc_50 X o50 hrel hw hl hi next)
        | 51, _, hzj => exact lv_tableIn (off := 1598) (tgt := 1631) hx hb dL_law_33 h1 h2 (by rw [hzj]; rfl) (by decide) (lawc_51 X o51 hrel hw hl hi next)
        | 52, _, hzj => exact lv_tableIn (off := 1621) (tgt := 1654) hx hb dL_law_33 h1 h2 (by rw [hzj]; rfl) (by decide) (lawc_52 X o52 hrel hw hl hi next)
        | 53, _, hzj => exact lv_tableIn (off := 1644) (tgt := 1677) hx hb dL_law_33 h1 h2 (by rw [hzj]; rfl) (by decide) (lawc_53 X o53 hrel hw hl hi next)
        | 54, _, hzj => exact lv_tableIn (off := 1657) (tgt := 1690) hx hb dL_law_33 h1 h2 (by rw [hzj]; rfl) (by decide) (lawc_54 X o54 hrel hw hl hi next)
        | 55, _, hzj => exact lv_tableIn (off := 1670) (tgt := 1703) hx hb dL_law_33 h1 h2 (by rw [hzj]; rfl) (by decide) (lawc_55 X o55 hrel hw hl hi next)
        | 56, _, hzj => exact lv_tableIn (off := 1703) (tgt := 1736) hx hb dL_law_33 h1 h2 (by rw [hzj]; rfl) (by decide) (lawc_56 X o56 hrel hw hl hi next)
        | 57, _, hzj => exact lv_tableIn (off := 1726) (tgt := 1759) hx hb dL_law_33 h1 h2 (by rw [hzj]; rfl) (by decide) (lawc_57 X o57 hrel hw hl hi next)
        | 58, _, hzj => exact lv_tableIn (off := 1739) (tgt := 1772) hx hb dL_law_33 h1 h2 (by rw [hzj]; rfl) (by decide) (lawc_58 X o58 hrel hw hl hi next)
        | 59, _, hzj => exact lv_tableIn (off := 1752) (tgt := 1785) hx hb dL_law_33 h1 h2 (by rw [hzj]; rfl) (by decide) (lawc_59 X o59 hrel hw hl hi next)
        | 60, _, hzj => exact lv_tableIn (off := 1785) (tgt := 1818) hx hb dL_law_33 h1 h2 (by rw [hzj]; rfl) (by decide) (lawc_60 X o60 hrel hw hl hi next)
        | 61, _, hzj => exact lv_tableIn (off := 1818) (tgt := 1851) hx hb dL_law_33 h1 h2 (by rw [hzj]; rfl) (by decide) (lawc_61 X o61 hrel hw hl hi next)
        | 62, _, hzj => exact lv_tableIn (off := 1851) (tgt := 1884) hx hb dL_law_33 h1 h2 (by rw [hzj]; rfl) (by decide) (lawc_62 X o62 hrel hw hl hi next)
        | 63, _, hzj => exact lv_tableIn (off := 1884) (tgt := 1917) hx hb dL_law_33 h1 h2 (by rw [hzj]; rfl) (by decide) (lawc_63 X o63 hrel hw hl hi next)
        | 64, _, hzj => exact lv_tableIn (off := 1907) (tgt := 1940) hx hb dL_law_33 h1 h2 (by rw [hzj]; rfl) (by decide) (lawc_64 X o64 hrel hw hl hi next)
        | 65, _, hzj => exact lv_tableIn (off := 1930) (tgt := 1963) hx hb dL_law_33 h1 h2 (by rw [hzj]; rfl) (by decide) (lawc_65 X o65 hrel hw hl hi next)
        | 66, _, hzj => exact lv_tableIn (off := 1943) (tgt := 1976) hx hb dL_law_33 h1 h2 (by rw [hzj]; rfl) (by decide) (lawc_66 X o66 hrel hw hl hi next)
        | 67, _, hzj => exact lv_tableIn (off := 1966) (tgt := 1999) hx hb dL_law_33 h1 h2 (by rw [hzj]; rfl) (by decide) (lawc_67 X o67 hrel hw hl hi next)
        | 68, _, hzj => exact lv_tableIn (off := 1999) (tgt := 2032) hx hb dL_law_33 h1 h2 (by rw [hzj]; rfl) (by decide) (lawc_68 X o68 hrel hw hl hi next)
        | 69, _, hzj => exact lv_tableIn (off := 2032) (tgt := 2065) hx hb dL_law_33 h1 h2 (by rw [hzj]; rfl) (by decide) (lawc_69 X o69 hrel hw hl hi next)
        | 70, _, hzj => exact lv_tableIn (off := 2095) (tgt := 2128) hx hb dL_law_33 h1 h2 (by rw [hzj]; rfl) (by decide) (lawc_70 X o70 hrel hw hl hi next)
        | 71, _, hzj => exact lv_tableIn (off := 2138) (tgt := 2171) hx hb dL_law_33 h1 h2 (by rw [hzj]; rfl) (by decide) (lawc_71 X o71 hrel hw hl hi next)
        | 72, _, hzj => exact lv_tableIn (off := 2172) (tgt := 2205) hx hb dL_law_33 h1 h2 (by rw [hzj]; rfl) (by decide) (lawc_72 X o72 hrel hw hl hi next)
        | 73, _, hzj => exact lv_tableIn (off := 2215) (tgt := 2248) hx hb dL_law_33 h1 h2 (by rw [hzj]; rfl) (by decide) (lawc_73 X o73 hrel hw hl hi next)
        | 74, _, hzj => exact lv_tableIn (off := 2238) (tgt := 2271) hx hb dL_law_33 h1 h2 (by rw [hzj]; rfl) (by decide) (lawc_74 X o74 hrel hw hl hi next)
        | 75, _, hzj => exact lv_tableIn (off := 2251) (tgt := 2284) hx hb dL_law_33 h1 h2 (by rw [hzj]; rfl) (by decide) (lawc_75 X o75 hrel hw hl hi next)
        | 76, _, hzj => exact lv_tableIn (off := 2264) (tgt := 2297) hx hb dL_law_33 h1 h2 (by rw [hzj]; rfl) (by decide) (lawc_76 X o76 hrel hw hl hi next)
        | 77, _, hzj => exact lv_tableIn (off := 2297) (tgt := 2330) hx hb dL_law_33 h1 h2 (by rw [hzj]; rfl) (by decide) (lawc_77 X o77 hrel hw hl hi next)
        | 78, _, hzj => exact lv_tableIn (off := 2340) (tgt := 2373) hx hb dL_law_33 h1 h2 (by rw [hzj]; rfl) (by decide) (lawc_78 X o78 hrel hw hl hi next)
        | 79, _, hzj => exact lv_tableIn (off := 2373) (tgt := 2406) hx hb dL_law_33 h1 h2 (by rw [hzj]; rfl) (by decide) (lawc_79 X o79 hrel hw hl hi next)
        | 80, _, hzj => exact lv_tableIn (off := 2396) (tgt := 2429) hx hb dL_law_33 h1 h2 (by rw [hzj]; rfl) (by decide) (lawc_80 X o80 hrel hw hl hi next)
        | 81, _, hzj => exact lv_tableIn (off := 2419) (tgt := 2452) hx hb dL_law_33 h1 h2 (by rw [hzj]; rfl) (by decide) (lawc_81 X o81 hrel hw hl hi next)
        | 82, _, hzj => exact lv_tableIn (off := 2442) (tgt := 2475) hx hb dL_law_33 h1 h2 (by rw [hzj]; rfl) (by decide) (lawc_82 X o82 hrel hw hl hi next)
        | 83, _, hzj => exact lv_tableIn (off := 2485) (tgt := 2518) hx hb dL_law_33 h1 h2 (by rw [hzj]; rfl) (by decide) (lawc_83 X o83 hrel hw hl hi next)
        | 84, _, hzj => exact lv_tableIn (off := 2558) (tgt := 2591) hx hb dL_law_33 h1 h2 (by rw [hzj]; rfl) (by decide) (lawc_84 X o84 hrel hw hl hi next)
        | j + 85, hj, _ => exact absurd hj (by omega)
