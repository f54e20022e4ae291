/-! THE LAW'S ENTRY, from its first instruction on -/
set_option maxRecDepth 100000 in
set_option maxHeartbeats 8000000 in
theorem whole_open {p : Program} {e : Env} {s : State} {m : MethodId} {below : List Frame} {meth : Method} {c : Code} (l : Launch) {Rel : Mem → Mem → Prop} (ops : OpsAll Rel) (h0 : Rel M0C M0R) {b L : Nat} {xs : Nat → Int32} (hL : L ≤ 3072) (C0 : lw_At p s m meth c b L xs) : W p l e room_1 s m #[Value.ref b] below meth c s.heap [] 0 0 (lw_Z below #[Value.ref b] s) (entryFrame m ([Value.ref b] : List Value).toArray 4) := by
  obtain ⟨hx, hb, hr, hml, hown, hts, hX, hbl, hlocks, hgv⟩ := id C0
  obtain ⟨c0, i0, hKn0⟩ := u_known (C := RX0) (T := TX0) (N := 6) (n := 6) hts inX0 (hts (.instantiable RX0 6) (List.mem_of_getElem? (i := 281) (by decide +kernel)))
  obtain ⟨c1, i1, hKn1⟩ := u_known (C := RX1) (T := TX1) (N := 2) (n := 2) hts inX1 (hts (.instantiable RX1 2) (List.mem_of_getElem? (i := 273) (by decide +kernel)))
  obtain ⟨c2, i2, hKn2⟩ := u_known (C := RX2) (T := TX2) (N := 10) (n := 10) hts inX2 (hts (.instantiable RX2 10) (List.mem_of_getElem? (i := 323) (by decide +kernel)))
  obtain ⟨c3, i3, hKn3⟩ := u_known (C := RX3) (T := TX3) (N := 2) (n := 2) hts inX3 (hts (.instantiable RX3 2) (List.mem_of_getElem? (i := 373) (by decide +kernel)))
  obtain ⟨c4, i4, hKn4⟩ := u_known (C := RX4) (T := TX4) (N := 3) (n := 3) hts inX4 (hts (.instantiable RX4 3) (List.mem_of_getElem? (i := 407) (by decide +kernel)))
  obtain ⟨c5, i5, hKn5⟩ := u_known (C := RX5) (T := TX5) (N := 13) (n := 13) hts inX5 (hts (.instantiable RX5 13) (List.mem_of_getElem? (i := 181) (by decide +kernel)))
  obtain ⟨c6, i6, hKn6⟩ := u_known (C := RX6) (T := TX6) (N := 6) (n := 6) hts inX6 (hts (.instantiable RX6 6) (List.mem_of_getElem? (i := 154) (by decide +kernel)))
  obtain ⟨c7, i7, hKn7⟩ := u_known (C := RX7) (T := TX7) (N := 4) (n := 4) hts inX7 (hts (.instantiable RX7 4) (List.mem_of_getElem? (i := 426) (by decide +kernel)))
  obtain ⟨c8, i8, hKn8⟩ := u_known (C := RX8) (T := TX8) (N := 2) (n := 2) hts inX8 (hts (.instantiable RX8 2) (List.mem_of_getElem? (i := 137) (by decide +kernel)))
  obtain ⟨c9, i9, hKn9⟩ := u_known (C := RX9) (T := TX9) (N := 6) (n := 6) hts inX9 (hts (.instantiable RX9 6) (List.mem_of_getElem? (i := 365) (by decide +kernel)))
  obtain ⟨c10, i10, hKn10⟩ := u_known (C := RX10) (T := TX10) (N := 11) (n := 11) hts inX10 (hts (.instantiable RX10 11) (List.mem_of_getElem? (i := 125) (by decide +kernel)))
  obtain ⟨c11, i11, hKn11⟩ := u_known (C := RX11) (T := TX11) (N := 39) (n := 39) hts inX11 (hts (.instantiable RX11 39) (List.mem_of_getElem? (i := 1480) (by decide +kernel)))
  obtain ⟨dC, dI, hKc⟩ : ∃ (dC : Nat → ClassId) (dI : Nat → Nat → Nat), ∀ (k : Nat) (q : vw_C), vwCl[k]? = some q → u_Kn s q.1 q.2.1 q.2.2 (dC k) (dI k) := by
    refine ⟨fun k => match k with | 0 => c0 | 1 => c1 | 2 => c2 | 3 => c3 | 4 => c4 | 5 => c5 | 6 => c6 | 7 => c7 | 8 => c8 | 9 => c9 | 10 => c10 | _ => c11, fun k => match k with | 0 => i0 | 1 => i1 | 2 => i2 | 3 => i3 | 4 => i4 | 5 => i5 | 6 => i6 | 7 => i7 | 8 => i8 | 9 => i9 | 10 => i10 | _ => i11, ?_⟩
    intro k q hq
    match k, hq with
    | 0, hq => cases hq; exact hKn0
    | 1, hq => cases hq; exact hKn1
    | 2, hq => cases hq; exact hKn2
    | 3, hq => cases hq; exact hKn3
    | 4, hq => cases hq; exact hKn4
    | 5, hq => cases hq; exact hKn5
    | 6, hq => cases hq; exact hKn6
    | 7, hq => cases hq; exact hKn7
    | 8, hq => cases hq; exact hKn8
    | 9, hq => cases hq; exact hKn9
    | 10, hq => cases hq; exact hKn10
    | 11, hq => cases hq; exact hKn11
    | k + 12, hq => simp [vwCl] at hq
  obtain ⟨a1, ha1⟩ := ac_of (hts _ ac_int) (by intro C h; cases h)
  obtain ⟨a2, ha2⟩ := ac_of (hts _ ac_byte) (by intro C h; cases h)
  obtain ⟨a3, ha3⟩ := ac_of (hts _ ac_boolean) (by intro C h; cases h)
  obtain ⟨a4, ha4⟩ := ac_of (hts _ ac_long) (by intro C h; cases h)
  obtain ⟨a5, ha5⟩ := ao_of (hts (.arrayOver (.object "LehrBelt$Belt")) (List.mem_of_getElem? (i := 133) (by decide +kernel)))
  obtain ⟨a6, ha6⟩ := ao_of (hts (.arrayOver (.object "LehrBelt$Row")) (List.mem_of_getElem? (i := 135) (by decide +kernel)))
  obtain ⟨cA, hcA⟩ : ∃ cA : Nat → ClassId, cA 1 = a1 ∧ cA 2 = a2 ∧ cA 3 = a3 ∧ cA 4 = a4 ∧ cA 5 = a5 ∧ cA 6 = a6 := ⟨fun k => match k with | 1 => a1 | 2 => a2 | 3 => a3 | 4 => a4 | 5 => a5 | _ => a6, rfl, rfl, rfl, rfl, rfl, rfl⟩
  obtain ⟨rfl, rfl, rfl, rfl, rfl, rfl⟩ := hcA
  generalize hbase : s.heap.size = base at *
  obtain ⟨adC, hadC⟩ : ∃ f : Nat → Nat, f = fun k => base + k := ⟨_, rfl⟩
  obtain ⟨adR, hadR⟩ : ∃ f : Nat → Nat, f = fun k => (base + 111) + k := ⟨_, rfl⟩
  have hA : ∀ a : Nat, a < s.heap.size → ¬ (fun q : Nat => ∃ k, k < shC.1.length ∧ q = adC k) a := by
    intro a ha hz
    obtain ⟨k, -, hk⟩ := hz
    rw [hadC] at hk
    have : a = base + k := hk
    omega
  obtain ⟨adK, adV, hE⟩ := EW_start hA hts hgv
  have hK : va_K (dC, dI) vwCl (tysW ((dC, dI), cA, adC, adK)) s := by
    refine ⟨hKc, fun k q h => ?_⟩
    match k, h with
    | 0, h => cases h; exact ha1
    | 1, h => cases h; exact ha2
    | 2, h => cases h; exact ha3
    | 3, h => cases h; exact ha4
    | 4, h => cases h; exact ha5
    | 5, h => cases h; exact ha6
    | k + 6, h => simp [tysW] at h
  have hl := lv_entry ([.ref b]) (n := 4) (Nat.le_of_ble_eq_true rfl)
  rw [lg_entry_eq]
  generalize (lg_sl ([.ref b]) ++ List.replicate (4 - (lg_sl ([.ref b])).length) Slot.unset).toArray = ls at hl ⊢
  have hl : lv_has ls 4 [(0, .ref b)] := hl
  have hS : va_S (fun q : Nat => base ≤ q) s.heap s.heap [] := va_S.rf
  have hP0 : va_P (dC, dI) vwCl (cw base []) s.heap := fun k q h => by simp [cw] at h
  obtain ⟨q10, hc10, hN10, hin10, ⟨ty10, hty10⟩, g101, g102, g103⟩ := nlL_7
  cases hc10
  refine va_new (ci := 10) (fs := blk (kds 10)) hx hb hts hin10 ty10 hty10 hown (hts _ g101) (hts _ g102) (hts _ g103) hK hP0 cw_D hS (fun q hq => by omega) rfl (fun j hj => bk_X10 _ rfl ty10 hty10 j hj) (Nat.le_of_ble_eq_true rfl) (Nat.le_of_ble_eq_true rfl) dL_law_0 (fun q H hP hD hS => ?_)
  refine W.size (fun hz => ?_)
  have hq : q = base + ([] : List va_E).length := new_at (P := ((dC, dI), cA, adC, adK)) (by show _ ≤ base + (0 + 1); omega) hP hD
  rw [hq] at hP ⊢
  rw [← cw_app] at hP
  have hlow : base + 0 < H.size := (hP 0 _ (cw_get rfl)).lt
  refine lv_dup hx hb dL_law_3 rfl ?_
  refine wlawI (P := ((dC, dI), cA, adC, adK)) (base := base) (rest := [.ref (base + 0)]) (Z := fun U => va_AO "LehrBelt$Belt" U ∧ va_AO "LehrBelt$Row" U) hx hb hml hown hts hK hP (by omega) (fun U hU => ⟨(va_AO.of (hts _ (List.mem_of_getElem? (i := 133) (by decide +kernel)))).moved hU, (va_AO.of (hts _ (List.mem_of_getElem? (i := 135) (by decide +kernel)))).moved hU⟩) (fun U g mk a h => ⟨h.1.moved (u := U) (U := U.calling g mk a) (Vm.Alike.refl U.vm), h.2.moved (u := U) (U := U.calling g mk a) (Vm.Alike.refl U.vm)⟩) (by rw [hbase]; exact hS) (by omega) ci_X10 ilL_9 ⟨Nat.le_of_ble_eq_true rfl, Nat.le_of_ble_eq_true rfl⟩ rfl hl.1 (Nat.le_of_ble_eq_true rfl) dL_law_4 ⟨Nat.le_of_ble_eq_true rfl, Nat.le_of_ble_eq_true rfl⟩ (fun H1 locs1 hP1 hk1 hS1 => ?_)
  obtain ⟨cs, hcs⟩ : ∃ cs, cs = fin_X10 ((dC, dI), cA, adC, adK) base := ⟨_, rfl⟩
  have hlen : cs.length = 111 := by rw [hcs]; rfl
  rw [← hcs] at hP1
  exact open2 l ops h0 hL C0 hbase (adR := adR) hadC hadR hK hE hlen (fun H hH => by
    rw [hcs] at hH
    rw [hadC] at hH ⊢
    exact start_C (P0 := ((dC, dI), cA, (fun k => base + k), adK)) rfl hH) rfl (Nat.le_of_ble_eq_true rfl) hP1 (by first | exact hS1 | (rw [hbase]; exact hS1)) hl
