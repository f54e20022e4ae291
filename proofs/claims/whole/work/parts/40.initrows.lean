/-! CONSTRUCTORS: cells come one behind the other from 'base' on; what each holds is a list -/
def cw (base : Nat) (cs : List va_E) : va_W := cs.mapIdx (fun k e => (base + k, e))
theorem cw_get {base k : Nat} {cs : List va_E} {e : va_E} (h : cs[k]? = some e) : (cw base cs)[k]? = some (base + k, e) := by
  simp [cw, List.getElem?_mapIdx, h]
theorem cw_inv {base k : Nat} {cs : List va_E} {q : Nat × va_E} (h : (cw base cs)[k]? = some q) : cs[k]? = some q.2 ∧ q.1 = base + k := by
  simp only [cw, List.getElem?_mapIdx] at h
  cases hc : cs[k]? with
  | none => rw [hc] at h; cases h
  | some e =>
    rw [hc] at h
    cases h
    exact ⟨rfl, rfl⟩
theorem cw_D {base : Nat} {cs : List va_E} : va_D (fun q : Nat => base ≤ q) (cw base cs) := by
  refine ⟨fun i j p q hi hj e => ?_, fun k q hk => ?_⟩
  · have h1 := (cw_inv hi).2
    have h2 := (cw_inv hj).2
    omega
  · have h1 := (cw_inv hk).2
    show base ≤ q.1
    omega
theorem cw_app {base : Nat} {cs : List va_E} {e : va_E} : cw base (cs ++ [e]) = cw base cs ++ [(base + cs.length, e)] := by
  simp [cw, List.mapIdx_append]
theorem cw_set {base k : Nat} {cs : List va_E} {e : va_E} : (cw base cs).set k (base + k, e) = cw base (cs.set k e) := by
  apply List.ext_getElem?
  intro i
  have hl : (cw base cs).length = cs.length := by simp [cw]
  by_cases hi : k = i
  · subst hi
    by_cases hk : k < cs.length
    · rw [List.getElem?_set_self (by rw [hl]; exact hk)]
      exact (cw_get (List.getElem?_set_self hk)).symm
    · rw [List.getElem?_eq_none (by simp [hl]; omega), List.getElem?_eq_none (by simp [cw]; omega)]
  · rw [List.getElem?_set_ne hi]
    simp only [cw, List.getElem?_mapIdx]
    rw [List.getElem?_set_ne hi]
def Hn (P : Wp) (base : Nat) (cs : List va_E) (s : State) (H : Heap) (locs : List Loc) : Prop := va_P P.1 vwCl (cw base cs) H ∧ va_S (fun q : Nat => base ≤ q) s.heap H locs
def Cn (p : Program) (s : State) (m : MethodId) (args : Array Value) (meth : Method) (c : Code) (P : Wp) (y : MethodName) (cc : ByteArray) (mL base n : Nat) (Z : State → Prop) : Prop :=
  p.tables.exec = Jvm.exec ∧ c.code = cc ∧ c.maxLocals = mL ∧ s.vm.findClass y.cls = some m.cls ∧ (∀ w ∈ (Cond.code y cc mL none :: gtbl), w.before args s = true) ∧ meth.sig.returnType = none ∧ meth.locks = false ∧ va_K P.1 vwCl (tysW P) s ∧ s.heap.size = base + (n + 1) ∧ meth.name = "<init>" ∧ Z s
/-- a constructor's contract: cells 'pre' stand, then its own, blank; behind it 'pre' and 'fin' stand -/
def CI (l : Launch) (P : Wp) (y : MethodName) (cc : ByteArray) (mL fr lo nc ns : Nat) (av : List Value) (base n : Nat) (c0 : va_E) (fin pre : List va_E) (Z : State → Prop) : Prop :=
  Met l y (.code y cc mL none :: gtbl) { frames := fr, cells := nc, slots := ns, locals := lo } (va_Pc av (fun U => U.heap.size = base + (n + 1) ∧ va_P P.1 vwCl (cw base (pre ++ [c0])) U.heap ∧ va_K P.1 vwCl (tysW P) U ∧ Z U)) (fun _ st oc t => oc = .returned none ∧ va_P P.1 vwCl (cw base (pre ++ fin)) t.heap ∧ va_F (fun q : Nat => base ≤ q) st t) nc ns (fun q : Nat => base ≤ q)
theorem ci_of {l : Launch} {P : Wp} {y : MethodName} {cc : ByteArray} {mL fr lo nc ns : Nat} {av : List Value} {base n : Nat} {c0 : va_E} {fin pre : List va_E} {Z : State → Prop} (hy : plainName y.cls = true) (hyn : y.name = "<init>") (hent : (lg_sl av).length ≤ mL)
    (body : ∀ (p : Program) (e : Env) (s : State) (m : MethodId) (args : Array Value) (below : List Frame) (meth : Method) (c : Code), Cn p s m args meth c P y cc mL base n Z → ∀ ls : Array Slot, lv_has ls mL (lv_args 0 av) → Hn P base (pre ++ [c0]) s s.heap [] → W p l e { frames := fr, cells := nc, slots := ns, locals := lo } s m args below meth c s.heap [] 0 0 (MQ below (fun _ st oc t => oc = .returned none ∧ va_P P.1 vwCl (cw base (pre ++ fin)) t.heap ∧ va_F (fun q : Nat => base ≤ q) st t) args s nc ns (fun q : Nat => base ≤ q)) (F0 m 0 ls [])) : CI l P y cc mL fr lo nc ns av base n c0 fin pre Z := by
  refine Met.ofW (cc := cc) (maxL := mL) (ret := none) hy rfl ?_
  intro p e s m args below meth c s₁ B hml hv
  obtain ⟨rfl, hsz, hP, hK, hZ⟩ := hv
  rw [lg_entry_eq]
  exact body p e s m _ below meth c ⟨B.exec, B.bytes, hml, findClass_of_methodNamed B.named, atoms_spec (ws := Cond.code y cc mL none :: gtbl) B.pre, B.returns, B.notSynchronized, hK, hsz, (name_of_methodNamed B.named B.method).1.trans hyn, hZ⟩ _ (lv_entry av hent) ⟨hP, va_S.rf⟩
/-- a class that a constructor makes an object of -/
def NL (own : String) (index ci N : Nat) : Prop := ∃ q : vw_C, vwCl[ci]? = some q ∧ q.2.2 = N ∧ (∀ w ∈ u_ws q.1 q.2.1 q.2.2, w ∈ lw_tbl) ∧ (∃ ty0 : Nat → FieldType, (∀ k, k < q.2.2 → parseFieldDescriptor (q.2.1 k).2.2.1 = some (ty0 k))) ∧ Cond.classLink own index q.1 ∈ lw_tbl ∧ Cond.instantiable q.1 q.2.2 ∈ lw_tbl ∧ Cond.initialized q.1 ∈ lw_tbl
def blk (ks : List Nat) : List Value := ks.map (fun d => match d with | 0 => .int 0 | 1 => .long 0 | _ => .null)
/-- a field that a constructor puts -/
def PL (own : String) (index ci k : Nat) (ty : FieldType) : Prop := ∃ q : vw_C, vwCl[ci]? = some q ∧ (∀ w ∈ u_ws q.1 q.2.1 q.2.2, w ∈ lw_tbl) ∧ k < q.2.2 ∧ Cond.fieldLink own index (q.2.1 k).1 (q.2.1 k).2.1 (q.2.1 k).2.2.1 ∈ lw_tbl ∧
  (∃ ty0 : Nat → FieldType, ∀ k, k < q.2.2 → parseFieldDescriptor (q.2.1 k).2.2.1 = some (ty0 k)) ∧ (∀ a, a < q.2.2 → ∀ b, b < q.2.2 → a ≠ b → (q.2.1 a).2.1 ≠ (q.2.1 b).2.1) ∧ (q.2.1 k).1 = own ∧ parseFieldDescriptor (q.2.1 k).2.2.1 = some ty
def IL (own : String) (index : Nat) (y : MethodName) (cc : ByteArray) (mL n : Nat) : Prop := Cond.methodLink own index y ∈ lw_tbl ∧ Cond.instanceMethod y ∈ lw_tbl ∧ Cond.initialized y.cls ∈ lw_tbl ∧ Cond.code y cc mL none ∈ lw_tbl ∧ y.name = "<init>" ∧ y.cls ≠ "java/lang/invoke/MethodHandle" ∧ y.cls ≠ "java/lang/invoke/VarHandle" ∧ (parseMethodDescriptor y.desc).map (fun d => d.parameters.length) = some n
section INIT
variable {p : Program} {l : Launch} {e : Env} {R : Room} {s : State} {m : MethodId} {args : Array Value} {below : List Frame} {meth : Method} {c : Code} {H : Heap} {locs : List Loc} {cells slots : Nat} {Q : State → Prop} {P : Wp} {y : MethodName} {cc : ByteArray} {mL base n : Nat} {Z : State → Prop} {pc : Nat} {ls : Array Slot} {rest : List Value} {pre cs : List va_E} {index ci k j : Nat}
theorem W.size {g : JFrame} (kk : H.size ≤ s.heap.size + cells → W p l e R s m args below meth c H locs cells slots Q g) : W p l e R s m args below meth c H locs cells slots Q g := by
  intro T hT X
  have h1 := X.same.2.2.1
  subst hT
  exact kk h1 T rfl X
theorem pre_get {e : va_E} (hn : pre.length = n) (h : cs[j]? = some e) : (pre ++ cs)[n + j]? = some e := by
  rw [List.getElem?_append_right (by omega)]
  rw [show n + j - pre.length = j by omega]
  exact h
theorem pre_set {e : va_E} (hn : pre.length = n) : (pre ++ cs).set (n + j) e = pre ++ cs.set j e := by
  rw [List.set_append_right _ _ (by omega)]
  rw [show n + j - pre.length = j by omega]
theorem new_at {q : Nat} {ws : List va_E} {H1 : Heap} {x : va_E} (hsz : H1.size ≤ base + (ws.length + 1)) (hP : va_P P.1 vwCl (cw base ws ++ [(q, x)]) H1) (hD : va_D (fun q : Nat => base ≤ q) (cw base ws ++ [(q, x)])) : q = base + ws.length := by
  have hl : (cw base ws).length = ws.length := by simp [cw]
  have hq : (cw base ws ++ [(q, x)])[ws.length]? = some (q, x) := by
    rw [List.getElem?_append_right (by omega), hl, Nat.sub_self]
    rfl
  have h1 : q < H1.size := (hP _ _ hq).lt
  have h2 : base ≤ q := hD.2 _ _ hq
  rcases Nat.lt_or_ge q (base + ws.length) with h3 | h3
  · exfalso
    obtain ⟨e0, he⟩ : ∃ e0, ws[q - base]? = some e0 := ⟨_, List.getElem?_eq_getElem (by omega : q - base < ws.length)⟩
    have hg : (cw base ws ++ [(q, x)])[q - base]? = some (base + (q - base), e0) := by
      rw [List.getElem?_append_left (by omega)]
      exact cw_get he
    have h4 := hD.1 _ _ _ _ hg hq (by show base + (q - base) = q; omega)
    omega
  · omega
theorem nnew (C : Cn p s m args meth c P y cc mL base n Z) (h : Hn P base (pre ++ cs) s H locs) (hn : pre.length = n) (hcl : cells + 1 = cs.length) {N : Nat} (hF : NL y.cls index ci N) (hN : (kds ci).length = N) (hk : ∀ q, vwCl[ci]? = some q → ∀ ty0 : Nat → FieldType, (∀ k, k < q.2.2 → parseFieldDescriptor (q.2.1 k).2.2.1 = some (ty0 k)) → ∀ j, j < q.2.2 → defaultValue (ty0 j) = vp_V (blk (kds ci)) j) (hcells : cells + 1 ≤ R.cells) (hslots : slots + N ≤ R.slots) (hdg : decode cc pc = .ok (.new index, 3))
    (kk : ∀ (H1 : Heap), Hn P base (pre ++ (cs ++ [.inr (ci, blk (kds ci))])) s H1 locs → W p l e R s m args below meth c H1 locs (cells + 1) (slots + N) Q (F0 m (pc + 3) ls (.ref (base + (n + cs.length)) :: rest))) : W p l e R s m args below meth c H locs cells slots Q (F0 m pc ls rest) := by
  obtain ⟨hx, hb, hml, hown, hts, hr, hlk, hK, hsz, hin, hZ⟩ := C
  obtain ⟨⟨Cn', T, N'⟩, hc, rfl, hin', ⟨ty0, hty⟩, g1, g2, g3⟩ := hF
  refine va_new hx hb hts (fun w hw => List.mem_cons_of_mem _ (gu w hw (hin' w hw))) ty0 hty hown (hts _ (List.mem_cons_of_mem _ (gm g1 rfl))) (hts _ (List.mem_cons_of_mem _ (gm g2 rfl))) (hts _ (List.mem_cons_of_mem _ (gm g3 rfl))) hK h.1 cw_D h.2 (fun q hq => by omega) hc (fs := blk (kds ci)) (fun j hj => hk _ hc ty0 hty j hj) hcells hslots hdg (fun q H1 hP hD hS => ?_)
  refine W.size (fun hz => ?_)
  have hlen : (pre ++ cs).length = n + cs.length := by rw [List.length_append, hn]
  have hq : q = base + (pre ++ cs).length := new_at (by rw [hlen]; omega) hP hD
  subst hq
  rw [← cw_app, List.append_assoc] at hP
  have e1 : base + (pre ++ cs).length = base + (n + cs.length) := by rw [hlen]
  rw [e1]
  exact kk H1 ⟨hP, hS⟩
theorem cA_uniq {U : State} {t0 : Nat} {cA cB : ClassId} {ty : FieldType} (hK : va_K P.1 vwCl (tysW P ++ [(cB, ty)]) U) (h0 : (tysW P)[t0]? = some (cA, ty)) (hty : ∀ C, ty ≠ .object C) : cB = cA := by
  have h1 := (hK.2 t0 (cA, ty) (by rw [List.getElem?_append_left (List.getElem?_eq_some_iff.mp h0).1]; exact h0)).2
  have h2 := (hK.2 (tysW P).length (cB, ty) (by rw [List.getElem?_append_right (Nat.le_refl _), Nat.sub_self]; rfl)).2
  cases ty with
  | object C => exact absurd rfl (hty C)
  | _ => exact Option.some.inj (h2.symm.trans h1)
theorem cA_uniqO {U : State} {t0 : Nat} {cA cB : ClassId} {Cn' : String} (hK : va_K P.1 vwCl (tysW P ++ [(cB, .object Cn')]) U) (h0 : (tysW P)[t0]? = some (cA, .object Cn')) : cB = cA := by
  have h1 := (hK.2 t0 (cA, .object Cn') (by rw [List.getElem?_append_left (List.getElem?_eq_some_iff.mp h0).1]; exact h0)).2
  have h2 := (hK.2 (tysW P).length (cB, .object Cn') (by rw [List.getElem?_append_right (Nat.le_refl _), Nat.sub_self]; rfl)).2
  obtain ⟨kA, comp, -, -, -, a4⟩ := h1
  obtain ⟨kB, comp2, -, -, -, b4⟩ := h2
  exact Option.some.inj (b4.symm.trans a4)
theorem nnewa (C : Cn p s m args meth c P y cc mL base n Z) (h : Hn P base (pre ++ cs) s H locs) (hn : pre.length = n) (hcl : cells + 1 = cs.length) {atype : ArrayType} {ty : FieldType} (hat : newarray.typeOf atype = ty) (harr : Cond.arrayClass ty ∈ lw_tbl) {t0 : Nat} {cA : ClassId} (ht : (tysW P)[t0]? = some (cA, ty)) (hty : ∀ C, ty ≠ .object C) {v : Int32} {N : Nat} {a0 : vp_A} (ha : ∀ cA : ClassId, vp_cell cA a0 = arrV cA N (fun _ => defaultValue ty)) (hv : ¬ v < 0) (hN : v.toNatClampNeg = N) (hbytes : N * componentBytes ty ≤ 536870912) (hcells : cells + 1 ≤ R.cells) (hslots : slots + N ≤ R.slots) (hdg : decode cc pc = .ok (.newarray atype, 2))
    (kk : ∀ (H1 : Heap), Hn P base (pre ++ (cs ++ [.inl (cA, a0)])) s H1 locs → W p l e R s m args below meth c H1 locs (cells + 1) (slots + N) Q (F0 m (pc + 2) ls (.ref (base + (n + cs.length)) :: rest))) : W p l e R s m args below meth c H locs cells slots Q (F0 m pc ls (.int v :: rest)) := by
  obtain ⟨hx, hb, hml, hown, hts, hr, hlk, hK, hsz, hin, hZ⟩ := C
  refine va_newa hx hb (atype := atype) (by rw [hat]; exact hts _ (List.mem_cons_of_mem _ (gm harr rfl))) hat hK h.1 cw_D h.2 (fun q hq => by omega) ha hv hN hbytes hcells hslots hdg (fun q cB H1 hK1 hP hD hS => ?_)
  refine W.size (fun hz => ?_)
  have hlen : (pre ++ cs).length = n + cs.length := by rw [List.length_append, hn]
  have hq : q = base + (pre ++ cs).length := new_at (by rw [hlen]; omega) hP hD
  subst hq
  have hB : cB = cA := cA_uniq hK1 ht hty
  subst hB
  rw [← cw_app, List.append_assoc] at hP
  have e1 : base + (pre ++ cs).length = base + (n + cs.length) := by rw [hlen]
  rw [e1]
  exact kk H1 ⟨hP, hS⟩
theorem nnewq (C : Cn p s m args meth c P y cc mL base n Z) (h : Hn P base (pre ++ cs) s H locs) (hn : pre.length = n) (hcl : cells + 1 = cs.length) {Cq : String} (hlink : Cond.classLink y.cls index Cq ∈ lw_tbl) (hao : va_AO Cq s) {t0 : Nat} {cA : ClassId} (ht : (tysW P)[t0]? = some (cA, .object Cq)) {v : Int32} {N : Nat} (hv : ¬ v < 0) (hN : v.toNatClampNeg = N) (hbytes : N * 4 ≤ 536870912) (hcells : cells + 1 ≤ R.cells) (hslots : slots + N ≤ R.slots) (hdg : decode cc pc = .ok (.anewarray index, 3))
    (kk : ∀ (H1 : Heap), Hn P base (pre ++ (cs ++ [.inl (cA, N, .inr (.inr (.inr (.inr (fun _ => none)))))])) s H1 locs → W p l e R s m args below meth c H1 locs (cells + 1) (slots + N) Q (F0 m (pc + 3) ls (.ref (base + (n + cs.length)) :: rest))) : W p l e R s m args below meth c H locs cells slots Q (F0 m pc ls (.int v :: rest)) := by
  obtain ⟨hx, hb, hml, hown, hts, hr, hlk, hK, hsz, hin, hZ⟩ := C
  refine va_newq hx hb hown (hts _ (List.mem_cons_of_mem _ (gm hlink rfl))) hao hK h.1 cw_D h.2 (fun q hq => by omega) hv hN hbytes hcells hslots hdg (fun q cB H1 hK1 hP hD hS => ?_)
  refine W.size (fun hz => ?_)
  have hlen : (pre ++ cs).length = n + cs.length := by rw [List.length_append, hn]
  have hq : q = base + (pre ++ cs).length := new_at (by rw [hlen]; omega) hP hD
  subst hq
  have hB : cB = cA := cA_uniqO hK1 ht
  subst hB
  rw [← cw_app, List.append_assoc] at hP
  have e1 : base + (pre ++ cs).length = base + (n + cs.length) := by rw [hlen]
  rw [e1]
  exact kk H1 ⟨hP, hS⟩
theorem nput (C : Cn p s m args meth c P y cc mL base n Z) (h : Hn P base (pre ++ cs) s H locs) (hn : pre.length = n) {ty : FieldType} (hF : PL y.cls index ci k ty) {fs : List Value} (hj : cs[j]? = some (.inr (ci, fs))) {N : Nat} (hL : fs.length = N) (hlN : k < N) {v : Value} (hnar : narrow ty v = v) (hfit : fits ty v = true) (hdg : decode cc pc = .ok (.putfield index, 3))
    (kk : ∀ (H1 : Heap) (locs1 : List Loc), Hn P base (pre ++ cs.set j (.inr (ci, fs.set k v))) s H1 locs1 → W p l e R s m args below meth c H1 locs1 cells slots Q (F0 m (pc + 3) ls rest)) : W p l e R s m args below meth c H locs cells slots Q (F0 m pc ls (v :: .ref (base + (n + j)) :: rest)) := by
  obtain ⟨hx, hb, hml, hown, hts, hr, hlk, hK, hsz, hin, hZ⟩ := C
  obtain ⟨⟨Cn', T, N'⟩, hc, hin', hk, g1, ⟨ty0, hty⟩, hnm, hdecl, hpd⟩ := hF
  have hl : k < fs.length := by rw [hL]; exact hlN
  have key : ∀ (H1 : Heap) (locs1 : List Loc), va_P P.1 vwCl ((cw base (pre ++ cs)).set (n + j) (base + (n + j), .inr (ci, fs.set k v))) H1 → va_S (fun q : Nat => base ≤ q) s.heap H1 locs1 → W p l e R s m args below meth c H1 locs1 cells slots Q (F0 m (pc + 3) ls rest) := by
    intro H1 locs1 hP hS
    rw [cw_set, pre_set hn] at hP
    exact kk H1 locs1 ⟨hP, hS⟩
  by_cases hf : (T k).2.2.2 = true
  · exact va_putF (v := v) (ty := ty) hx hb hts (fun w hw => List.mem_cons_of_mem _ (gu w hw (hin' w hw))) ty0 hty hnm hown hK h.1 cw_D h.2 (n + j) (cw_get (pre_get hn hj)) hc k hk (hts _ (List.mem_cons_of_mem _ (gm g1 rfl))) (fun _ h9 => h9) hf hin hdecl hpd hnar hfit hl hdg (fun H1 locs1 hP hD hS => key H1 locs1 hP hS)
  · exact va_put (v := v) (ty := ty) hx hb hts (fun w hw => List.mem_cons_of_mem _ (gu w hw (hin' w hw))) ty0 hty hnm hown hK h.1 cw_D h.2 (n + j) (cw_get (pre_get hn hj)) hc k hk (hts _ (List.mem_cons_of_mem _ (gm g1 rfl))) (fun _ h9 => h9) (by simpa using hf) hpd hnar hfit hl hdg (fun H1 locs1 hP hD hS => key H1 locs1 hP hS)
theorem nget (C : Cn p s m args meth c P y cc mL base n Z) (h : Hn P base (pre ++ cs) s H locs) {kd a : Nat} (hF : FL y.cls index ci k kd) {fs : List Value} (ha : (pre ++ cs)[a]? = some (.inr (ci, fs))) {v : Value} (hv : fs[k]? = some v) (hdg : decode cc pc = .ok (.getfield index, 3))
    (kk : W p l e R s m args below meth c H locs cells slots Q (F0 m (pc + 3) ls (v :: rest))) : W p l e R s m args below meth c H locs cells slots Q (F0 m pc ls (.ref (base + a) :: rest)) := by
  obtain ⟨hx, hb, hml, hown, hts, hr, hlk, hK, hsz, hin, hZ⟩ := C
  obtain ⟨⟨Cn', T, N⟩, hc, hin', hk, hl, hd⟩ := hF
  exact va_get (v := v) hx hb hts (fun w hw => List.mem_cons_of_mem _ (gu w hw (hin' w hw))) hown hK h.1 a (cw_get ha) hc k hk (hts _ (List.mem_cons_of_mem _ (gm hl rfl))) (fun _ h9 => h9) hv hdg kk
theorem niast (C : Cn p s m args meth c P y cc mL base n Z) (h : Hn P base (pre ++ cs) s H locs) (hn : pre.length = n) {N : Nat} {f : Nat → Int32} (hj : cs[j]? = some (.inl (P.2.1 1, N, .inl f))) {i x : Int32} (hin : oob i N = false) (hdg : decode cc pc = .ok (.iastore, 1))
    (kk : ∀ (H1 : Heap) (locs1 : List Loc), Hn P base (pre ++ cs.set j (.inl (P.2.1 1, N, .inl (upd f (ix i) x)))) s H1 locs1 → W p l e R s m args below meth c H1 locs1 cells slots Q (F0 m (pc + 1) ls rest)) : W p l e R s m args below meth c H locs cells slots Q (F0 m pc ls (.int x :: .int i :: .ref (base + (n + j)) :: rest)) := by
  obtain ⟨hx, hb, hml, hown, hts, hr, hlk, hK, hsz, hin', hZ⟩ := C
  refine va_iast hx hb hK h.1 cw_D h.2 (n + j) 0 (cw_get (pre_get hn hj)) rfl (oob_in hin) hdg (fun H1 locs1 hP hD hS => ?_)
  rw [cw_set, pre_set hn] at hP
  exact kk H1 locs1 ⟨hP, hS⟩
theorem naast (C : Cn p s m args meth c P y cc mL base n Z) (h : Hn P base (pre ++ cs) s H locs) (hn : pre.length = n) {N t0 ja : Nat} {q : vw_C} {cA : ClassId} {f : Nat → Option Nat} {vs : List Value} (hj : cs[j]? = some (.inl (cA, N, .inr (.inr (.inr (.inr f)))))) (ht : (tysW P)[t0]? = some (cA, .object q.1)) (hc : vwCl[ci]? = some q) (hv : cs[ja]? = some (.inr (ci, vs))) {i : Int32} (hin : oob i N = false) (hdg : decode cc pc = .ok (.aastore, 1))
    (kk : ∀ (H1 : Heap) (locs1 : List Loc), Hn P base (pre ++ cs.set j (.inl (cA, N, .inr (.inr (.inr (.inr (va_up f (ix i) (some (base + (n + ja)))))))))) s H1 locs1 → W p l e R s m args below meth c H1 locs1 cells slots Q (F0 m (pc + 1) ls rest)) : W p l e R s m args below meth c H locs cells slots Q (F0 m pc ls (.ref (base + (n + ja)) :: .int i :: .ref (base + (n + j)) :: rest)) := by
  obtain ⟨hx, hb, hml, hown, hts, hr, hlk, hK, hsz, hin', hZ⟩ := C
  refine va_astq hx hb hK h.1 cw_D h.2 (n + j) t0 (n + ja) ci (cw_get (pre_get hn hj)) ht (cw_get (pre_get hn hv)) hc (oob_in hin) hdg (fun H1 locs1 hP hD hS => ?_)
  rw [cw_set, pre_set hn] at hP
  exact kk H1 locs1 ⟨hP, hS⟩
theorem nvret {fin : List va_E} (C : Cn p s m args meth c P y cc mL base n Z) (h : Hn P base (pre ++ cs) s H locs) (hf : cs = fin) (hdg : decode cc pc = .ok (.return_, 1)) : W p l e R s m args below meth c H locs cells slots (MQ below (fun _ st oc t => oc = .returned none ∧ va_P P.1 vwCl (cw base (pre ++ fin)) t.heap ∧ va_F (fun q : Nat => base ≤ q) st t) args s cells slots (fun q : Nat => base ≤ q)) (F0 m pc ls []) := by
  obtain ⟨hx, hb, hml, hown, hts, hr, hlk, hK, hsz, hin, hZ⟩ := C
  subst hf
  exact W.vret hx hb hr (fun t ht hW => ⟨rfl, by rw [ht]; exact h.1, h.2.F ht⟩) h.2.2.2 hdg hlk
theorem nobj (C : Cn p s m args meth c P y cc mL base n Z) {a : Nat} (hlink : Cond.methodLink y.cls index objectInit ∈ lw_tbl) (hinst : Cond.instanceMethod objectInit ∈ lw_tbl) (hcode : Cond.code objectInit ⟨#[0xb1]⟩ 1 none ∈ lw_tbl) (hls : ls.size = mL) (hframes : 1 ≤ R.frames) (hlocals : (rest.map fun v => v.category).sum + 12 ≤ R.locals) (hdg : decode cc pc = .ok (.invokespecial index, 3))
    (kk : W p l e R s m args below meth c H locs cells slots Q (F0 m (pc + 3) ls rest)) : W p l e R s m args below meth c H locs cells slots Q (F0 m pc ls (.ref a :: rest)) := by
  obtain ⟨hx, hb, hml, hown, hts, hr, hlk, hK, hsz, hin, hZ⟩ := C
  refine W.objInit hx hb hown (hts _ (List.mem_cons_of_mem _ (gm hlink rfl))) (hts _ (List.mem_cons_of_mem _ (gm hinst rfl))) (hts _ (List.mem_cons_of_mem _ (gm hcode rfl))) rfl (by rw [hml]; exact hls) rfl hdg hframes ?_ kk
  show 2 * 0 + _ + 12 ≤ _
  omega
variable {y2 : MethodName} {cc2 : ByteArray} {mL2 fr2 lo2 nc ns ni : Nat} {As : List Value} {c0 : va_E} {fin : List va_E} {st0 : List Value}
/-- a call of another constructor on the object made last -/
theorem ncall (C : Cn p s m args meth c P y cc mL base n Z) (h : Hn P base (pre ++ (cs ++ [c0])) s H locs) (hn : pre.length = n) (hcl : cells + 1 = cs.length + 1) (hM : CI l P y2 cc2 mL2 fr2 lo2 nc ns (.ref (base + (n + cs.length)) :: As) base (n + cs.length) c0 fin (pre ++ cs) (fun _ => True)) (hL : IL y.cls index y2 cc2 mL2 ni) (hR : fr2 + 1 ≤ R.frames ∧ 8 + (mL2 + 11) + lo2 ≤ R.locals) (hni : As.length = ni) (hst : st0 = As.reverse ++ .ref (base + (n + cs.length)) :: rest) (hls : ls.size = mL) (hroom : (rest.map fun v => v.category).sum ≤ 8) (hdg : decode cc pc = .ok (.invokespecial index, 3)) (hf : cells + nc ≤ R.cells ∧ slots + ns ≤ R.slots)
    (kk : ∀ (H1 : Heap) (locs1 : List Loc), Hn P base (pre ++ (cs ++ fin)) s H1 locs1 → W p l e R s m args below meth c H1 locs1 (cells + nc) (slots + ns) Q (F0 m (pc + 3) ls rest)) : W p l e R s m args below meth c H locs cells slots Q (F0 m pc ls st0) := by
  refine W.size (fun hz => ?_)
  obtain ⟨hx, hb, hml, hown, hts, hr, hlk, hK, hsz, hin, hZ⟩ := C
  obtain ⟨h1, h2, h3, h4, h5, hd⟩ := hL
  have ht : ∀ w ∈ gtbl, w.before args s = true := fun w hw => hts w (List.mem_cons_of_mem _ hw)
  have hP2 : va_P P.1 vwCl (cw base ((pre ++ cs) ++ [c0])) H := by
    rw [List.append_assoc]; exact h.1
  have hlow : base + (n + cs.length) < H.size := by
    have hg : ((pre ++ cs) ++ [c0])[n + cs.length]? = some c0 := by
      rw [List.getElem?_append_right (by rw [List.length_append]; omega), List.length_append, hn, Nat.sub_self]
      rfl
    exact (hP2 _ _ (cw_get hg)).lt
  have hHz : H.size = base + ((n + cs.length) + 1) := by omega
  have hpre : ∀ U : State, U.heap = H → s.WarmedH U.vm → va_Pc (.ref (base + (n + cs.length)) :: As) (fun U => U.heap.size = base + ((n + cs.length) + 1) ∧ va_P P.1 vwCl (cw base ((pre ++ cs) ++ [c0])) U.heap ∧ va_K P.1 vwCl (tysW P) U ∧ True) (Value.ref (base + (n + cs.length)) :: As).toArray U := by
    intro U hU hWm
    exact ⟨rfl, by rw [hU]; exact hHz, by rw [hU]; exact hP2, va_K.moved hWm.alike hK, trivial⟩
  have hblind : FrameBlind (va_Pc (.ref (base + (n + cs.length)) :: As) (fun U => U.heap.size = base + ((n + cs.length) + 1) ∧ va_P P.1 vwCl (cw base ((pre ++ cs) ++ [c0])) U.heap ∧ va_K P.1 vwCl (tysW P) U ∧ True)) := by
    intro a U g mk hq
    obtain ⟨q1, q2, q3, q4, -⟩ := hq
    exact ⟨q1, q2, q3, va_K.moved (u := U) (U := U.calling g mk a) (Vm.Alike.refl U.vm) q4, trivial⟩
  have hr2 := va_runI (p := p) (e := e) (below := below) (meth := meth) (locs := locs) (R := R) (As := As) (rest := rest) (Ts := gtbl) (g := F0 m pc ls st0) ⟨hx, hb, hml, hown, ht⟩ hM ⟨callB_of (Ts := gtbl) ni ht (good_in (fun _ h => h) h4) rfl rfl rfl (ht _ (gm h3 rfl)) (ht _ (gm h1 rfl)) hd hR, h5, ht _ (gm h2 rfl)⟩ ⟨hblind, hpre⟩ rfl hni hls hst (lv_room hroom) hdg hf
  intro T hT Y
  obtain ⟨v, st₀, t, T', L, h0, X', hL', e1, e2, ⟨hv, hPt, hz2, hk2⟩, stp⟩ := hr2 T hT Y
  cases hv
  rw [h0] at hz2 hk2
  have hPt' : va_P P.1 vwCl (cw base (pre ++ (cs ++ fin))) t.heap := by rw [← List.append_assoc]; exact hPt
  obtain ⟨t2, a1, b1⟩ := kk T'.heap (locs ++ L) ⟨by rw [e1]; exact hPt', Nat.le_trans h.2.1 (by rw [e1]; exact hz2), fun q h1 h2 => by rw [e1, hk2 q (Nat.lt_of_lt_of_le h1 h.2.1) h2]; exact h.2.2.1 q h1 h2, fun q hq => by
      rcases List.mem_append.mp hq with h5 | h5
      · exact h.2.2.2 q h5
      · exact hL' q h5⟩ T' rfl X'
  exact ⟨t2, stp t2 a1, b1⟩
end INIT
