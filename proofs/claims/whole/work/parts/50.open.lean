theorem nlL_7 : NL "LehrBeltLaw" 7 10 11 := ⟨(RX10, TX10, 11), rfl, rfl, inX10, ⟨tyX10, tyX10_ok⟩, List.mem_of_getElem? (i := 124) (by decide +kernel), List.mem_of_getElem? (i := 125) (by decide +kernel), List.mem_of_getElem? (i := 104) (by decide +kernel)⟩
theorem nlL_10 : NL "LehrBeltLaw" 10 11 39 := ⟨(RX11, TX11, 39), rfl, rfl, inX11, ⟨tyX11, tyX11_ok⟩, List.mem_of_getElem? (i := 1479) (by decide +kernel), List.mem_of_getElem? (i := 1480) (by decide +kernel), List.mem_of_getElem? (i := 115) (by decide +kernel)⟩
theorem ilL_9 : IL "LehrBeltLaw" 9 yX10_init bX10_init 2 0 := ⟨List.mem_of_getElem? (i := 126) (by decide +kernel), List.mem_of_getElem? (i := 127) (by decide +kernel), List.mem_of_getElem? (i := 104) (by decide +kernel), List.mem_of_getElem? (i := 128) (by decide +kernel), rfl, by decide +kernel, by decide +kernel, by decide +kernel⟩
theorem ilL_12 : IL "LehrBeltLaw" 12 yX11_init bX11_init 2 0 := ⟨List.mem_of_getElem? (i := 1481) (by decide +kernel), List.mem_of_getElem? (i := 1482) (by decide +kernel), List.mem_of_getElem? (i := 115) (by decide +kernel), List.mem_of_getElem? (i := 1483) (by decide +kernel), rfl, by decide +kernel, by decide +kernel, by decide +kernel⟩
def tmW : Nat → Term := fun i => .string "LehrBelt$Reader" (srW.getD i (0, "")).1
/-- what the class's side takes from the start: texts and statics -/
def EW (A : Nat → Prop) (adK adV : Nat → Nat) : State → Heap → Prop := fun s H => vk_S 12 lenW bytW adK adV A s H ∧ (∀ (w : Nat) (q : Nat × String), srW[w]? = some q → vk_R "LehrBelt$Reader" q.1 q.2 (adK w) s) ∧ va_Z "java/lang/String" "COMPACT_STRINGS" "Z" (.int 1) A s H ∧ va_Zq "jdk/internal/util/Preconditions" "SIOOBE_FORMATTER" "Ljava/util/function/BiFunction;" A s H
theorem EW_cl {A : Nat → Prop} {adK adV : Nat → Nat} : Ecl A (EW A adK adV) := by
  refine ⟨fun s U H hW h => ?_, fun U H0 H hk h => ?_⟩
  · obtain ⟨h1, h2, h3, h4⟩ := h
    exact ⟨h1.moved hW.alike, fun w q hq => (h2 w q hq).warm hW, h3.moved hW.alike, h4.moved hW.alike⟩
  · obtain ⟨h1, h2, h3, h4⟩ := h
    exact ⟨h1.kept hk, h2, h3.kept hk, h4.kept hk⟩
theorem flW : (∀ i, i < 12 → Cond.exactly (tmW i) "java/lang/String" ∈ flatC (Jvm.Cond.and given_1 narrow_1)) ∧ (∀ i, i < 12 → Cond.eq (.field (tmW i) "java/lang/String" "coder" "B") (.int 0) ∈ flatC (Jvm.Cond.and given_1 narrow_1)) ∧ (∀ i, i < 12 → Cond.arrayOf (.field (tmW i) "java/lang/String" "value" "[B") .byte ∈ flatC (Jvm.Cond.and given_1 narrow_1)) ∧ (∀ i, i < 12 → Cond.eq (.length (.field (tmW i) "java/lang/String" "value" "[B")) (.int (Int32.ofNat (lenW.getD i 0))) ∈ flatC (Jvm.Cond.and given_1 narrow_1)) := by
  refine ⟨?_, ?_, ?_, ?_⟩ <;> decide +kernel
theorem flW2 : ∀ i, i < 12 → ∀ j, j < lenW.getD i 0 → Cond.eq (.elem (.field (tmW i) "java/lang/String" "value" "[B") (.int (Int32.ofNat j))) (.int ((bytW.getD i []).getD j 0)) ∈ flatC (Jvm.Cond.and given_1 narrow_1) := by decide +kernel
theorem flW3 : ∀ i, i < 12 → ∀ j, j < 12 → i ≠ j → Cond.not (Cond.eq (tmW i) (tmW j)) ∈ flatC (Jvm.Cond.and given_1 narrow_1) ∨ Cond.not (Cond.eq (tmW j) (tmW i)) ∈ flatC (Jvm.Cond.and given_1 narrow_1) := by decide +kernel
theorem flW4 : Cond.eq (.static "java/lang/String" "COMPACT_STRINGS" "Z") (.int 1) ∈ flatC (Jvm.Cond.and given_1 narrow_1) ∧ Cond.isRef (.static "jdk/internal/util/Preconditions" "SIOOBE_FORMATTER" "Ljava/util/function/BiFunction;") ∈ flatC (Jvm.Cond.and given_1 narrow_1) := by decide +kernel
theorem srW_tbl : ∀ i, i < 12 → Cond.stringRef "LehrBelt$Reader" (srW.getD i (0, "")).1 (srW.getD i (0, "")).2 ∈ lw_tbl := by decide +kernel
theorem EW_start {args : Array Value} {s : State} {A : Nat → Prop} (hA : ∀ a : Nat, a < s.heap.size → ¬ A a) (hts : ∀ w ∈ lw_tbl, w.before args s = true) (hgv : (Jvm.Cond.and given_1 narrow_1).before args s = true) : ∃ adK adV : Nat → Nat, EW A adK adV s s.heap := by
  have hs := flat_of_before _ hgv
  obtain ⟨adK, adV, hV, hev⟩ := vk_Sof (args := args) (s := s) (N := 12) (tm := tmW) (len := lenW) (byt := bytW) (A := A) (by decide +kernel) (fun i hi => hs _ (flW.1 i hi)) (fun i hi => hs _ (flW.2.1 i hi)) (fun i hi => hs _ (flW.2.2.1 i hi)) (fun i hi => hs _ (flW.2.2.2 i hi)) (fun i hi j hj => hs _ (flW2 i hi j hj)) (fun i j hi hj hij => (flW3 i hi j hj hij).elim (fun h => Or.inl (hs _ h)) (fun h => Or.inr (hs _ h))) hA
  refine ⟨adK, adV, hV, fun w q hq => ?_, va_Zof (hts _ (List.mem_of_getElem? (i := 554) (by decide +kernel))) (hts _ (List.mem_of_getElem? (i := 116) (by decide +kernel))) (va_eqt (hs _ flW4.1)) hA, va_Zqof (hts _ (List.mem_of_getElem? (i := 570) (by decide +kernel))) (hts _ (List.mem_of_getElem? (i := 118) (by decide +kernel))) (hs _ flW4.2) hA⟩
  have hw : w < 12 := (List.getElem?_eq_some_iff.mp hq).1
  have e : srW.getD w (0, "") = q := by rw [List.getD_eq_getElem?_getD, hq]; rfl
  have h1 := hts _ (srW_tbl w hw)
  have h2 := hev w hw
  unfold tmW at h2
  rw [e] at h1 h2
  exact vk_R.of h1 h2
set_option maxRecDepth 100000 in
set_option maxHeartbeats 8000000 in
theorem whole_open {p : Program} {e : Env} {s : State} {m : MethodId} {below : List Frame} {meth : Method} {c : Code} (l : Launch) {Rel : Mem → Mem → Prop} (ops : OpsAll Rel) (h0 : Rel M0C M0R) {b L : Nat} {xs : Nat → Int32} (hL : L ≤ 3072) (C0 : lw_At p s m meth c b L xs) : W p l e room_1 s m #[Value.ref b] below meth c s.heap [] 0 0 (lw_Z below #[Value.ref b] s) (entryFrame m ([Value.ref b] : List Value).toArray 4) := by
  obtain ⟨hx, hb, hr, hml, hown, hts, hX, hbl, hlocks, hgv⟩ := id C0
  obtain ⟨c0, i0, hKn0⟩ := u_known (C := RX0) (T := TX0) (N := 6) (n := 6) hts inX0 (hts (.instantiable RX0 6) (List.mem_of_getElem? (i := 281) (by decide +kernel)))
  obtain ⟨c1, i1, hKn1⟩ := u_known (C := RX1) (T := TX1) (N := 2) (n := 2) hts inX1 (hts (.instantiable RX1 2) (List.mem_of_getElem? (i := 273) (by decide +kernel)))
  obtain ⟨c2, i2, hKn2⟩ := u_known (C := RX2) (T := TX2) (N := 10) (n := 10) hts inX2 (hts (.instantiable RX2 10) (List.mem_of_getElem? (i := 323) (by decide +kernel)))
  obtain ⟨c3, i3, hKn3⟩ := u_known (C := RX3) (T := TX3) (N := 2) (n := 2) hts inX3 (hts (.instantiable RX3 2) (List.mem_of_getElem? (i := 373) (by decide +kernel)))
  obtain ⟨c4, i4, hKn4⟩ := u_known (C := RX4) (T := TX4) (N := 3) (n := 3) hts inX4 (hts (.instantiable RX4 3) (List.mem_of_getElem? (i := 407) (by decide +kernel)))
  obtain ⟨c5, i5, hKn5⟩ := u_known (C := RX5) (T := TX5) (N := 13) (n := 13) hts inX5 (hts (.instantiable RX5 13) (List.mem_of_getElem? (i := 181) (by decide +kernel)))
  obtain ⟨c6, i6, hKn6⟩ := u_known (C := RX6) (T := TX6) (N := 6) (n := 6) hts inX6 (hts (.instantiable RX6 6) (List.mem_of_getElem? (i := 154) (by decide +kernel)))
  obtain ⟨c7, i7, hKn7⟩ := u_known (C := RX7) (T := TX7) (N := 4) (n := 4) hts inX7 (hts (.instantiable RX7 4) (List.mem_of_getElem? (i := 426) (by decide +kernel)))
  obtain ⟨c8, i8, hKn8⟩ := u_known (C := RX8) (T := TX8) (N := 2) (n := 2) hts inX8 (hts (.instantiable RX8 2) (List.mem_of_getElem? (i := 137) (by decide +kernel)))
  obtain ⟨c9, i9, hKn9⟩ := u_known (C := RX9) (T := TX9) (N := 6) (n := 6) hts inX9 (hts (.instantiable RX9 6) (List.mem_of_getElem? (i := 365) (by decide +kernel)))
  obtain ⟨c10, i10, hKn10⟩ := u_known (C := RX10) (T := TX10) (N := 11) (n := 11) hts inX10 (hts (.instantiable RX10 11) (List.mem_of_getElem? (i := 125) (by decide +kernel)))
  obtain ⟨c11, i11, hKn11⟩ := u_known (C := RX11) (T := TX11) (N := 39) (n := 39) hts inX11 (hts (.instantiable RX11 39) (List.mem_of_getElem? (i := 1480) (by decide +kernel)))
  obtain ⟨dC, dI, hKc⟩ : ∃ (dC : Nat → ClassId) (dI : Nat → Nat → Nat), ∀ (k : Nat) (q : vw_C), vwCl[k]? = some q → u_Kn s q.1 q.2.1 q.2.2 (dC k) (dI k) := by
    refine ⟨fun k => match k with | 0 => c0 | 1 => c1 | 2 => c2 | 3 => c3 | 4 => c4 | 5 => c5 | 6 => c6 | 7 => c7 | 8 => c8 | 9 => c9 | 10 => c10 | _ => c11, fun k => match k with | 0 => i0 | 1 => i1 | 2 => i2 | 3 => i3 | 4 => i4 | 5 => i5 | 6 => i6 | 7 => i7 | 8 => i8 | 9 => i9 | 10 => i10 | _ => i11, ?_⟩
    intro k q hq
    match k, hq with
    | 0, hq => cases hq; exact hKn0
    | 1, hq => cases hq; exact hKn1
    | 2, hq => cases hq; exact hKn2
    | 3, hq => cases hq; exact hKn3
    | 4, hq => cases hq; exact hKn4
    | 5, hq => cases hq; exact hKn5
    | 6, hq => cases hq; exact hKn6
    | 7, hq => cases hq; exact hKn7
    | 8, hq => cases hq; exact hKn8
    | 9, hq => cases hq; exact hKn9
    | 10, hq => cases hq; exact hKn10
    | 11, hq => cases hq; exact hKn11
    | k + 12, hq => simp [vwCl] at hq
  obtain ⟨a1, ha1⟩ := ac_of (hts _ ac_int) (by intro C h; cases h)
  obtain ⟨a2, ha2⟩ := ac_of (hts _ ac_byte) (by intro C h; cases h)
  obtain ⟨a3, ha3⟩ := ac_of (hts _ ac_boolean) (by intro C h; cases h)
  obtain ⟨a4, ha4⟩ := ac_of (hts _ ac_long) (by intro C h; cases h)
  obtain ⟨a5, ha5⟩ := ao_of (hts (.arrayOver (.object "LehrBelt$Belt")) (List.mem_of_getElem? (i := 133) (by decide +kernel)))
  obtain ⟨a6, ha6⟩ := ao_of (hts (.arrayOver (.object "LehrBelt$Row")) (List.mem_of_getElem? (i := 135) (by decide +kernel)))
  obtain ⟨cA, hcA⟩ : ∃ cA : Nat → ClassId, cA 1 = a1 ∧ cA 2 = a2 ∧ cA 3 = a3 ∧ cA 4 = a4 ∧ cA 5 = a5 ∧ cA 6 = a6 := ⟨fun k => match k with | 1 => a1 | 2 => a2 | 3 => a3 | 4 => a4 | 5 => a5 | _ => a6, rfl, rfl, rfl, rfl, rfl, rfl⟩
  obtain ⟨rfl, rfl, rfl, rfl, rfl, rfl⟩ := hcA
  generalize hbase : s.heap.size = base at *
  obtain ⟨adC, hadC⟩ : ∃ f : Nat → Nat, f = fun k => base + k := ⟨_, rfl⟩
  obtain ⟨adR, hadR⟩ : ∃ f : Nat → Nat, f = fun k => (base + 111) + k := ⟨_, rfl⟩
  have hA : ∀ a : Nat, a < s.heap.size → ¬ (fun q : Nat => ∃ k, k < shC.1.length ∧ q = adC k) a := by
    intro a ha hz
    obtain ⟨k, -, hk⟩ := hz
    rw [hadC] at hk
    have : a = base + k := hk
    omega
  obtain ⟨adK, adV, hE⟩ := EW_start hA hts hgv
  have hK : va_K (dC, dI) vwCl (tysW ((dC, dI), cA, adC, adK)) s := by
    refine ⟨hKc, fun k q h => ?_⟩
    match k, h with
    | 0, h => cases h; exact ha1
    | 1, h => cases h; exact ha2
    | 2, h => cases h; exact ha3
    | 3, h => cases h; exact ha4
    | 4, h => cases h; exact ha5
    | 5, h => cases h; exact ha6
    | k + 6, h => simp [tysW] at h
  have hl := lv_entry ([.ref b]) (n := 4) (Nat.le_of_ble_eq_true rfl)
  rw [lg_entry_eq]
  generalize (lg_sl ([.ref b]) ++ List.replicate (4 - (lg_sl ([.ref b])).length) Slot.unset).toArray = ls at hl ⊢
  have hl : lv_has ls 4 [(0, .ref b)] := hl
  have hS : va_S (fun q : Nat => base ≤ q) s.heap s.heap [] := va_S.rf
  have hP0 : va_P (dC, dI) vwCl (cw base []) s.heap := fun k q h => by simp [cw] at h
  obtain ⟨q10, hc10, hN10, hin10, ⟨ty10, hty10⟩, g101, g102, g103⟩ := nlL_7
  cases hc10
  refine va_new (ci := 10) (fs := blk (kds 10)) hx hb hts hin10 ty10 hty10 hown (hts _ g101) (hts _ g102) (hts _ g103) hK hP0 cw_D hS (fun q hq => by omega) rfl (fun j hj => bk_X10 _ rfl ty10 hty10 j hj) (Nat.le_of_ble_eq_true rfl) (Nat.le_of_ble_eq_true rfl) dL_law_0 (fun q H hP hD hS => ?_)
  refine W.size (fun hz => ?_)
  have hq : q = base + ([] : List va_E).length := new_at (P := ((dC, dI), cA, adC, adK)) (by show _ ≤ base + (0 + 1); omega) hP hD
  subst hq
  rw [← cw_app] at hP
  have hlow : base + 0 < H.size := (hP 0 _ (cw_get rfl)).lt
  refine lv_dup hx hb dL_law_3 rfl ?_
  refine wlawI (P := ((dC, dI), cA, adC, adK)) (base := base) (rest := [.ref (base + 0)]) (Z := fun U => va_AO "LehrBelt$Belt" U ∧ va_AO "LehrBelt$Row" U) hx hb hml hown hts hK hP (by omega) (fun U hU => ⟨(va_AO.of (hts _ (List.mem_of_getElem? (i := 133) (by decide +kernel)))).moved hU, (va_AO.of (hts _ (List.mem_of_getElem? (i := 135) (by decide +kernel)))).moved hU⟩) (fun U g mk a h => ⟨h.1.moved (u := U) (U := U.calling g mk a) (Vm.Alike.refl U.vm), h.2.moved (u := U) (U := U.calling g mk a) (Vm.Alike.refl U.vm)⟩) (by rw [hbase]; exact hS) (by omega) ci_X10 ilL_9 ⟨Nat.le_of_ble_eq_true rfl, Nat.le_of_ble_eq_true rfl⟩ rfl hl.1 (Nat.le_of_ble_eq_true rfl) dL_law_4 ⟨Nat.le_of_ble_eq_true rfl, Nat.le_of_ble_eq_true rfl⟩ (fun H1 locs1 hP1 hk1 hS1 => ?_)
  refine lv_astore_n (lv' := [(1, .ref (base + 0)), (0, .ref b)]) hx hb dL_law_7 rfl hl (by decide) rfl (fun ls hl => ?_)
  refine va_forget (fun q hq => hS1.2.2 q hq) ?_
  have hS2 : va_S (fun q : Nat => base ≤ q) s.heap H1 [] := ⟨hS1.1, fun q h1 h2 => hS1.2.1 q h1 (by rw [hbase]; exact h2), fun q hq => by cases hq⟩
  obtain ⟨q11, hc11, hN11, hin11, ⟨ty11, hty11⟩, g111, g112, g113⟩ := nlL_10
  cases hc11
  refine va_new (ci := 11) (fs := blk (kds 11)) hx hb hts hin11 ty11 hty11 hown (hts _ g111) (hts _ g112) (hts _ g113) hK hP1 cw_D hS2 (fun q hq => by omega) rfl (fun j hj => bk_X11 _ rfl ty11 hty11 j hj) (Nat.le_of_ble_eq_true rfl) (Nat.le_of_ble_eq_true rfl) dL_law_8 (fun q H2 hP2 hD2 hS2 => ?_)
  refine W.size (fun hz2 => ?_)
  have hlen : (fin_X10 ((dC, dI), cA, adC, adK) base).length = 111 := rfl
  have hq : q = base + (fin_X10 ((dC, dI), cA, adC, adK) base).length := new_at (P := ((dC, dI), cA, adC, adK)) (by rw [hlen, ← hbase]; exact hz2) hP2 hD2
  rw [hlen] at hq
  subst hq
  have hPc2 : va_P (dC, dI) vwCl (cw base (fin_X10 ((dC, dI), cA, adC, adK) base)) H2 := fun k q hq => hP2 k q (by rw [List.getElem?_append_left (List.getElem?_eq_some_iff.mp hq).1]; exact hq)
  have hPn2 : va_P (dC, dI) vwCl (cw (base + 111) ([] ++ [.inr (11, blk (kds 11))])) H2 := by
    intro k q hq
    obtain ⟨e1, e2⟩ := cw_inv hq
    match k, e1, e2 with
    | 0, e1, e2 =>
      have := hP2 111 (base + 111, .inr (11, blk (kds 11))) (by rw [List.getElem?_append_right (by simp [cw, hlen]), show (cw base (fin_X10 ((dC, dI), cA, adC, adK) base)).length = 111 by simp [cw, hlen]]; rfl)
      obtain ⟨a, e⟩ := q
      cases e1
      cases e2
      exact this
    | k + 1, e1, e2 => simp at e1
  have hlow2 : base + 111 + 0 < H2.size := (hPn2 0 _ (cw_get rfl)).lt
  refine lv_dup hx hb dL_law_11 rfl ?_
  refine wlawI (P := ((dC, dI), cA, adC, adK)) (base := base + 111) (rest := [.ref (base + 111 + 0)]) (Z := fun _ => True) hx hb hml hown hts hK hPn2 (by rw [hbase] at hz2; omega) (fun _ _ => trivial) (fun _ _ _ _ _ => trivial) (by rw [hbase]; exact hS2) (by omega) ci_X11 ilL_12 ⟨Nat.le_of_ble_eq_true rfl, Nat.le_of_ble_eq_true rfl⟩ rfl hl.1 (Nat.le_of_ble_eq_true rfl) dL_law_12 ⟨Nat.le_of_ble_eq_true rfl, Nat.le_of_ble_eq_true rfl⟩ (fun H3 locs3 hP3 hk3 hS3 => ?_)
  refine lv_astore_n (lv' := [(2, .ref (base + 111 + 0)), (1, .ref (base + 0)), (0, .ref b)]) hx hb dL_law_15 rfl hl (by decide) rfl (fun ls hl => ?_)
  refine lv_iconst (v := 0) hx hb dL_law_16 (by decide) ?_
  refine lv_istore_n (lv' := [(3, .int 0), (2, .ref (base + 111 + 0)), (1, .ref (base + 0)), (0, .ref b)]) hx hb dL_law_17 rfl hl (by decide) rfl (fun ls hl => ?_)
  refine W.widen (k := 600000) (n := 7302250) (Nat.le_of_ble_eq_true rfl) (Nat.le_of_ble_eq_true rfl) ?_
  have hPC3 : va_P (dC, dI) vwCl (cw base (fin_X10 ((dC, dI), cA, adC, adK) base)) H3 := hPc2.kept (fun k q hq => by
    obtain ⟨e1, e2⟩ := cw_inv hq
    have hk : k < 111 := by have := (List.getElem?_eq_some_iff.mp e1).1; rw [hlen] at this; exact this
    exact hk3 q.1 (by omega))
  have hLX : LwX p s m meth c b L xs (dC, dI) cA adC adR adK (EW (fun q : Nat => ∃ k, k < shC.1.length ∧ q = adC k) adK adV) := by
    refine ⟨hx, hb, hml, hown, hts, hX, by rw [hbase]; exact hbl, by rw [hbase]; omega, hK, ⟨fun i j _ _ h => ?_, EW_cl, fun _ => ⟨adV, fun s H h => h⟩⟩, ⟨fun i j _ _ h => ?_, ⟨fun _ _ _ _ _ => trivial, fun _ _ _ _ _ => trivial⟩, fun h => ?_⟩, hE, fun k _ => ?_, fun k _ => ?_, fun i j hi hj h => ?_⟩
    · have h2 : adC i = adC j := h
      rw [hadC] at h2
      have : base + i = base + j := h2
      omega
    · have h2 : adR i = adR j := h
      rw [hadR] at h2
      have : base + 111 + i = base + 111 + j := h2
      omega
    · exact absurd (congrArg (fun X : Wx => X.1.length) h) (by decide)
    · rw [hadC, hbase]; show base ≤ base + k; omega
    · rw [hadR, hbase]; show base ≤ base + 111 + k; omega
    · have h2 : adC i = adR j := h
      rw [hadC, hadR] at h2
      have h3 : base + i = base + 111 + j := h2
      have h4 : i < 111 := hi
      omega
  refine law_loop hLX hlocks hr hL ops (L - 0) 0 rfl (Nat.zero_le _) M0C M0R H3 locs3 ls h0 ⟨?_, ?_, by rw [hbase]; rw [hbase] at hS3; exact hS3⟩ (by rw [hadC, hadR]; exact lv_sub hl [3, 2, 1, 0] rfl)
  · rw [hadC] at hPC3 ⊢
    exact start_C (adK := adK) rfl hPC3
  · rw [hadR]
    exact start_R (adK := adK) rfl hP3
