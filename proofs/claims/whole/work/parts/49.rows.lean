/-! THE START: a constructor called by the law; classes of arrays -/
theorem ac_of {args : Array Value} {s : State} {ty : FieldType} (h : (Cond.arrayClass ty).before args s = true) (hty : ∀ C, ty ≠ .object C) : ∃ cA : ClassId, ArrOfT s cA ty ∧ va_RA s cA ty := by
  obtain ⟨cA, kA, comp, h1, h2, h3⟩ := Cond.arrayClass_spec h
  refine ⟨cA, fun n z => ⟨fun k h => (by cases h), kA, h2, comp, h3⟩, ?_⟩
  cases ty with
  | object C => exact absurd rfl (hty C)
  | _ => exact h1
theorem ao_of {args : Array Value} {s : State} {C : String} (h : (Cond.arrayOver (.object C)).before args s = true) : ∃ cA : ClassId, ArrOfT s cA (.object C) ∧ va_RA s cA (.object C) := by
  obtain ⟨comp, cA, kA, h1, h2, h3, h4, h5⟩ := Cond.arrayOver_spec h
  exact ⟨cA, fun n z => ⟨fun k h => (by cases h), kA, h3, comp, h4⟩, kA, comp, h3, h4, h1, h5⟩
section LAWI
variable {p : Program} {l : Launch} {e : Env} {R : Room} {s : State} {m : MethodId} {args : Array Value} {below : List Frame} {meth : Method} {c : Code} {H : Heap} {locs : List Loc} {cells slots : Nat} {Q : State → Prop} {P : Wp} {pc : Nat} {ls : Array Slot} {rest : List Value} {index base : Nat}
variable {y2 : MethodName} {cc2 : ByteArray} {mL2 fr2 lo2 nc ns nL : Nat} {c0 : va_E} {fin : List va_E} {st0 : List Value} {Z : State → Prop} {own : String}
theorem wlawI (hx : p.tables.exec = Jvm.exec) (hb : c.code = code) (hml : c.maxLocals = nL) (hown : s.vm.findClass own = some m.cls) (hts : ∀ w ∈ lw_tbl, w.before args s = true) (hK : va_K P.1 vwCl (tysW P) s) (hP : va_P P.1 vwCl (cw base ([] ++ [c0])) H) (hHz : H.size = base + (0 + 1)) (hZ : ∀ U : State, s.vm.Alike U.vm → Z U) (hZb : ∀ (U : State) (g : JFrame) (mk : MethodId) (a : Array Value), Z U → Z (U.calling g mk a)) (hS : va_S (fun q : Nat => s.heap.size ≤ q) s.heap H locs) (hbase : s.heap.size ≤ base)
    (hM : CI l P y2 cc2 mL2 fr2 lo2 nc ns [.ref (base + 0)] base 0 c0 fin [] Z) (hL : IL own index y2 cc2 mL2 0) (hR : fr2 + 1 ≤ R.frames ∧ 8 + (mL2 + 11) + lo2 ≤ R.locals) (hst : st0 = .ref (base + 0) :: rest) (hls : ls.size = nL) (hroom : (rest.map fun v => v.category).sum ≤ 8) (hdg : decode code pc = .ok (.invokespecial index, 3)) (hf : cells + nc ≤ R.cells ∧ slots + ns ≤ R.slots)
    (kk : ∀ (H1 : Heap) (locs1 : List Loc), va_P P.1 vwCl (cw base fin) H1 → (∀ q : Nat, q < base → H1[q]? = H[q]?) → va_S (fun q : Nat => s.heap.size ≤ q) s.heap H1 locs1 → W p l e R s m args below meth c H1 locs1 (cells + nc) (slots + ns) Q (F0 m (pc + 3) ls rest)) : W p l e R s m args below meth c H locs cells slots Q (F0 m pc ls st0) := by
  obtain ⟨h1, h2, h3, h4, h5, hd⟩ := hL
  have ht : ∀ w ∈ gtbl, w.before args s = true := fun w hw => hts w (List.mem_filter.mp hw).1
  have hpre : ∀ U : State, U.heap = H → s.WarmedH U.vm → va_Pc [.ref (base + 0)] (fun U => U.heap.size = base + (0 + 1) ∧ va_P P.1 vwCl (cw base ([] ++ [c0])) U.heap ∧ va_K P.1 vwCl (tysW P) U ∧ Z U) ([Value.ref (base + 0)] : List Value).toArray U := by
    intro U hU hWm
    exact ⟨rfl, by rw [hU]; exact hHz, by rw [hU]; exact hP, va_K.moved hWm.alike hK, hZ U hWm.alike⟩
  have hblind : FrameBlind (va_Pc [.ref (base + 0)] (fun U => U.heap.size = base + (0 + 1) ∧ va_P P.1 vwCl (cw base ([] ++ [c0])) U.heap ∧ va_K P.1 vwCl (tysW P) U ∧ Z U)) := by
    intro a U g mk hq
    obtain ⟨q1, q2, q3, q4, q5⟩ := hq
    exact ⟨q1, q2, q3, va_K.moved (u := U) (U := U.calling g mk a) (Vm.Alike.refl U.vm) q4, hZb U g mk a q5⟩
  have hr2 := va_runI (p := p) (e := e) (below := below) (meth := meth) (locs := locs) (R := R) (As := []) (rest := rest) (Ts := lw_tbl) (g := F0 m pc ls st0) ⟨hx, hb, hml, hown, hts⟩ hM ⟨callB_of (Ts := gtbl) 0 ht (good_in (fun _ h => h) h4) rfl rfl rfl (hts _ h3) (hts _ h1) hd hR, h5, hts _ h2⟩ ⟨hblind, hpre⟩ rfl rfl hls hst (lv_room hroom) hdg hf
  intro T hT Y
  obtain ⟨v, st₀, t, T', L, h0, X', hL', e1, e2, ⟨hv, hPt, hz2, hk2⟩, stp⟩ := hr2 T hT Y
  cases hv
  rw [h0] at hz2 hk2
  obtain ⟨t2, a1, b1⟩ := kk T'.heap (locs ++ L) (by rw [e1]; exact hPt) (fun q hq => by rw [e1]; exact hk2 q (by omega) (Nat.not_le.mpr hq)) ⟨Nat.le_trans hS.1 (by rw [e1]; exact hz2), fun q h1 h2 => by rw [e1, hk2 q (Nat.lt_of_lt_of_le h1 hS.1) (by show ¬ base ≤ q; omega)]; exact hS.2.1 q h1 h2, fun q hq => by
      rcases List.mem_append.mp hq with h5 | h5
      · exact hS.2.2 q h5
      · exact Nat.le_trans hbase (hL' q h5)⟩ T' rfl X'
  exact ⟨t2, stp t2 a1, b1⟩
end LAWI
