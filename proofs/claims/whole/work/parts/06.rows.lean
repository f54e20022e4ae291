/-! ROWS OVER THE FLAT MEMORY: a field, an array's place, a call, a return -/
def FL (own : String) (index ci k kd : Nat) : Prop := ∃ q : vw_C, vwCl[ci]? = some q ∧ (∀ w ∈ u_ws q.1 q.2.1 q.2.2, w ∈ lw_tbl) ∧ k < q.2.2 ∧ Cond.fieldLink own index (q.2.1 k).1 (q.2.1 k).2.1 (q.2.1 k).2.2.1 ∈ lw_tbl ∧ (kds ci)[k]? = some kd
def FP (own : String) (index ci k kd : Nat) (ty : FieldType) : Prop := ∃ q : vw_C, vwCl[ci]? = some q ∧ (∀ w ∈ u_ws q.1 q.2.1 q.2.2, w ∈ lw_tbl) ∧ k < q.2.2 ∧ Cond.fieldLink own index (q.2.1 k).1 (q.2.1 k).2.1 (q.2.1 k).2.2.1 ∈ lw_tbl ∧ (kds ci)[k]? = some kd ∧
  (∃ ty0 : Nat → FieldType, ∀ k, k < q.2.2 → parseFieldDescriptor (q.2.1 k).2.2.1 = some (ty0 k)) ∧ (∀ a, a < q.2.2 → ∀ b, b < q.2.2 → a ≠ b → (q.2.1 a).2.1 ≠ (q.2.1 b).2.1) ∧ (q.2.1 k).2.2.2 = false ∧ parseFieldDescriptor (q.2.1 k).2.2.1 = some ty
def VL (own : String) (index : Nat) (y : MethodName) (cc : ByteArray) (mL : Nat) (ret : Option FieldType) (n : Nat) : Prop := Cond.methodLink own index y ∈ lw_tbl ∧ Cond.instanceMethod y ∈ lw_tbl ∧ Cond.selects y.cls y y ∈ lw_tbl ∧ Cond.initialized y.cls ∈ lw_tbl ∧ Cond.code y cc mL ret ∈ lw_tbl ∧ y.cls ≠ "java/lang/invoke/MethodHandle" ∧ y.cls ≠ "java/lang/invoke/VarHandle" ∧ (parseMethodDescriptor y.desc).map (fun d => d.parameters.length) = some n
def SL (own : String) (index : Nat) (y : MethodName) (cc : ByteArray) (mL : Nat) (ret : Option FieldType) (n : Nat) : Prop := Cond.methodLink own index y ∈ lw_tbl ∧ Cond.static y ∈ lw_tbl ∧ Cond.initialized y.cls ∈ lw_tbl ∧ Cond.code y cc mL ret ∈ lw_tbl ∧ y.cls ≠ "java/lang/invoke/MethodHandle" ∧ y.cls ≠ "java/lang/invoke/VarHandle" ∧ (parseMethodDescriptor y.desc).map (fun d => d.parameters.length) = some n
theorem Ecl.at {A : Nat → Prop} {E : State → Heap → Prop} {s : State} {H : Heap} {locs : List Loc} (h : Ecl A E) (hE : E s s.heap) (hS : va_S A s.heap H locs) : E s H := h.2 s s.heap H hS.2.1 hE
section ROWS
variable {p : Program} {l : Launch} {e : Env} {R : Room} {s : State} {m : MethodId} {args : Array Value} {below : List Frame} {meth : Method} {c : Code} {H : Heap} {locs : List Loc} {cells slots : Nat} {Q : State → Prop} {X : Wx} {P : Wp} {E : State → Heap → Prop} {y : MethodName} {cc : ByteArray} {mL : Nat} {ret : Option FieldType} {M : Mem} {pc : Nat} {ls : Array Slot} {rest : List Value} {index ci k o a n : Nat} {i x : Int32}
theorem wgetV (C : Cx p s m args meth c X P E y cc mL ret) (h : Hw X P M s H locs) {kd : Nat} {v : Value} (hF : FL y.cls index ci k kd) (ho : X.1[o]? = some (0, ci)) (hv : (wfl P.2.2.1 (X.2 o) (M.1 o) (M.2 o) (kds ci) 0)[k]? = some v) (hdg : decode cc pc = .ok (.getfield index, 3))
    (kk : W p l e R s m args below meth c H locs cells slots Q (F0 m (pc + 3) ls (v :: rest))) : W p l e R s m args below meth c H locs cells slots Q (F0 m pc ls (.ref (P.2.2.1 o) :: rest)) := by
  obtain ⟨hx, hb, hml, hown, hts, hr, hlk, hW, hK, hE⟩ := C
  obtain ⟨⟨Cn, T, N⟩, hc, hin, hk, hl, hd⟩ := hF
  exact va_get (v := v) hx hb hts (fun w hw => List.mem_cons_of_mem _ (gu w hw (hin w hw))) hown hK h.1 o (img_get ho) hc k hk (hts _ (List.mem_cons_of_mem _ (gm hl rfl))) (fun _ h9 => h9) hv hdg kk
theorem wgetI (C : Cx p s m args meth c X P E y cc mL ret) (h : Hw X P M s H locs) (hF : FL y.cls index ci k 0) (ho : X.1[o]? = some (0, ci)) (hdg : decode cc pc = .ok (.getfield index, 3))
    (kk : W p l e R s m args below meth c H locs cells slots Q (F0 m (pc + 3) ls (.int (M.1 o k) :: rest))) : W p l e R s m args below meth c H locs cells slots Q (F0 m pc ls (.ref (P.2.2.1 o) :: rest)) := by
  refine wgetV C h hF ho ?_ hdg kk
  obtain ⟨q, -, -, -, -, hd⟩ := hF
  rw [wfl_get, hd]; simp
theorem wgetJ (C : Cx p s m args meth c X P E y cc mL ret) (h : Hw X P M s H locs) (hF : FL y.cls index ci k 1) (ho : X.1[o]? = some (0, ci)) (hdg : decode cc pc = .ok (.getfield index, 3))
    (kk : W p l e R s m args below meth c H locs cells slots Q (F0 m (pc + 3) ls (.long (M.2 o k) :: rest))) : W p l e R s m args below meth c H locs cells slots Q (F0 m pc ls (.ref (P.2.2.1 o) :: rest)) := by
  refine wgetV C h hF ho ?_ hdg kk
  obtain ⟨q, -, -, -, -, hd⟩ := hF
  rw [wfl_get, hd]; simp
theorem wgetR (C : Cx p s m args meth c X P E y cc mL ret) (h : Hw X P M s H locs) {t : Nat} (hF : FL y.cls index ci k 2) (ho : X.1[o]? = some (0, ci)) (ht : X.2 o k = t) (hdg : decode cc pc = .ok (.getfield index, 3))
    (kk : W p l e R s m args below meth c H locs cells slots Q (F0 m (pc + 3) ls (.ref (P.2.2.1 t) :: rest))) : W p l e R s m args below meth c H locs cells slots Q (F0 m pc ls (.ref (P.2.2.1 o) :: rest)) := by
  refine wgetV C h hF ho ?_ hdg kk
  obtain ⟨q, -, -, -, -, hd⟩ := hF
  rw [wfl_get, hd]; simp [ht]
theorem wputI' (C : Cx p s m args meth c X P E y cc mL ret) (h : Hw X P M s H locs) {ty : FieldType} (hF : FP y.cls index ci k 0 ty) (ho : X.1[o]? = some (0, ci)) (hn : narrow ty (.int x) = .int x) (hfit : fits ty (.int x) = true) (hdg : decode cc pc = .ok (.putfield index, 3))
    (kk : ∀ M1, M1 = st M o k x → ∀ (H1 : Heap) (locs1 : List Loc), Hw X P M1 s H1 locs1 → W p l e R s m args below meth c H1 locs1 cells slots Q (F0 m (pc + 3) ls rest)) : W p l e R s m args below meth c H locs cells slots Q (F0 m pc ls (.int x :: .ref (P.2.2.1 o) :: rest)) := by
  obtain ⟨hx, hb, hml, hown, hts, hr, hlk, hW, hK, hE⟩ := C
  obtain ⟨⟨Cn, T, N⟩, hc, hin, hk, hl, hd, ⟨ty0, hty⟩, hnm, hfin, hpd⟩ := hF
  refine va_put (v := .int x) (ty := ty) hx hb hts (fun w hw => List.mem_cons_of_mem _ (gu w hw (hin w hw))) ty0 hty hnm hown hK h.1 (img_D hW M) h.2 o (img_get ho) hc k hk (hts _ (List.mem_cons_of_mem _ (gm hl rfl))) (fun _ h9 => h9) hfin hpd hn hfit (by rw [wfl_len]; exact (List.getElem?_eq_some_iff.mp hd).1) hdg (fun H1 locs1 hP hD hS => ?_)
  refine kk _ rfl H1 locs1 ⟨?_, hS⟩
  rw [img_set (X := X) (P := P) (M := M) (N := st M o k x) ho (by show _ = (Sum.inr _ : va_E); rw [wfl_set_i hd, st_eq]; rfl) (fun i hi => (st_ne hi).symm) (fun i hi => rfl)] at hP
  exact hP
theorem wputI (C : Cx p s m args meth c X P E y cc mL ret) (h : Hw X P M s H locs) (hF : FP y.cls index ci k 0 .int) (ho : X.1[o]? = some (0, ci)) (hdg : decode cc pc = .ok (.putfield index, 3))
    (kk : ∀ M1, M1 = st M o k x → ∀ (H1 : Heap) (locs1 : List Loc), Hw X P M1 s H1 locs1 → W p l e R s m args below meth c H1 locs1 cells slots Q (F0 m (pc + 3) ls rest)) : W p l e R s m args below meth c H locs cells slots Q (F0 m pc ls (.int x :: .ref (P.2.2.1 o) :: rest)) := wputI' C h hF ho rfl rfl hdg kk
theorem wputZ (C : Cx p s m args meth c X P E y cc mL ret) (h : Hw X P M s H locs) (hF : FP y.cls index ci k 0 .boolean) (ho : X.1[o]? = some (0, ci)) (hn : narrow .boolean (.int x) = .int x) (hfit : fits .boolean (.int x) = true) (hdg : decode cc pc = .ok (.putfield index, 3))
    (kk : ∀ M1, M1 = st M o k x → ∀ (H1 : Heap) (locs1 : List Loc), Hw X P M1 s H1 locs1 → W p l e R s m args below meth c H1 locs1 cells slots Q (F0 m (pc + 3) ls rest)) : W p l e R s m args below meth c H locs cells slots Q (F0 m pc ls (.int x :: .ref (P.2.2.1 o) :: rest)) := wputI' C h hF ho hn hfit hdg kk
theorem wputJ (C : Cx p s m args meth c X P E y cc mL ret) (h : Hw X P M s H locs) {x : Int64} (hF : FP y.cls index ci k 1 .long) (ho : X.1[o]? = some (0, ci)) (hdg : decode cc pc = .ok (.putfield index, 3))
    (kk : ∀ M1, M1 = stL M o k x → ∀ (H1 : Heap) (locs1 : List Loc), Hw X P M1 s H1 locs1 → W p l e R s m args below meth c H1 locs1 cells slots Q (F0 m (pc + 3) ls rest)) : W p l e R s m args below meth c H locs cells slots Q (F0 m pc ls (.long x :: .ref (P.2.2.1 o) :: rest)) := by
  obtain ⟨hx, hb, hml, hown, hts, hr, hlk, hW, hK, hE⟩ := C
  obtain ⟨⟨Cn, T, N⟩, hc, hin, hk, hl, hd, ⟨ty0, hty⟩, hnm, hfin, hpd⟩ := hF
  refine va_put (v := .long x) (ty := .long) hx hb hts (fun w hw => List.mem_cons_of_mem _ (gu w hw (hin w hw))) ty0 hty hnm hown hK h.1 (img_D hW M) h.2 o (img_get ho) hc k hk (hts _ (List.mem_cons_of_mem _ (gm hl rfl))) (fun _ h9 => h9) hfin hpd rfl rfl (by rw [wfl_len]; exact (List.getElem?_eq_some_iff.mp hd).1) hdg (fun H1 locs1 hP hD hS => ?_)
  refine kk _ rfl H1 locs1 ⟨?_, hS⟩
  rw [img_set (X := X) (P := P) (M := M) (N := stL M o k x) ho (by show _ = (Sum.inr _ : va_E); rw [wfl_set_l hd, stL_eq]; rfl) (fun i hi => rfl) (fun i hi => (stL_ne hi).symm)] at hP
  exact hP
theorem oob_in (h : oob i n = false) : vp_in i n := of_decide_eq_false h
theorem wald (C : Cx p s m args meth c X P E y cc mL ret) (h : Hw X P M s H locs) (ha : X.1[a]? = some (1, n)) (hin : oob i n = false) (hdg : decode cc pc = .ok (.iaload, 1))
    (kk : W p l e R s m args below meth c H locs cells slots Q (F0 m (pc + 1) ls (.int (M.1 a (ix i)) :: rest))) : W p l e R s m args below meth c H locs cells slots Q (F0 m pc ls (.int i :: .ref (P.2.2.1 a) :: rest)) := by
  obtain ⟨hx, hb, hml, hown, hts, hr, hlk, hW, hK, hE⟩ := C
  exact va_iald hx hb hK h.1 a 0 (img_get ha) rfl (oob_in hin) hdg kk
theorem wbald (C : Cx p s m args meth c X P E y cc mL ret) (h : Hw X P M s H locs) (ha : X.1[a]? = some (2, n)) (hin : oob i n = false) (hdg : decode cc pc = .ok (.baload, 1))
    (kk : W p l e R s m args below meth c H locs cells slots Q (F0 m (pc + 1) ls (.int (M.1 a (ix i)) :: rest))) : W p l e R s m args below meth c H locs cells slots Q (F0 m pc ls (.int i :: .ref (P.2.2.1 a) :: rest)) := by
  obtain ⟨hx, hb, hml, hown, hts, hr, hlk, hW, hK, hE⟩ := C
  exact va_bald hx hb hK h.1 a 1 (img_get ha) rfl (oob_in hin) hdg kk
theorem wzald (C : Cx p s m args meth c X P E y cc mL ret) (h : Hw X P M s H locs) (ha : X.1[a]? = some (3, n)) (hin : oob i n = false) (hdg : decode cc pc = .ok (.baload, 1))
    (kk : W p l e R s m args below meth c H locs cells slots Q (F0 m (pc + 1) ls (.int (M.1 a (ix i)) :: rest))) : W p l e R s m args below meth c H locs cells slots Q (F0 m pc ls (.int i :: .ref (P.2.2.1 a) :: rest)) := by
  obtain ⟨hx, hb, hml, hown, hts, hr, hlk, hW, hK, hE⟩ := C
  exact va_zald hx hb hK h.1 a 2 (img_get ha) rfl (oob_in hin) hdg kk
theorem wlald (C : Cx p s m args meth c X P E y cc mL ret) (h : Hw X P M s H locs) (ha : X.1[a]? = some (4, n)) (hin : oob i n = false) (hdg : decode cc pc = .ok (.laload, 1))
    (kk : W p l e R s m args below meth c H locs cells slots Q (F0 m (pc + 1) ls (.long (M.2 a (ix i)) :: rest))) : W p l e R s m args below meth c H locs cells slots Q (F0 m pc ls (.int i :: .ref (P.2.2.1 a) :: rest)) := by
  obtain ⟨hx, hb, hml, hown, hts, hr, hlk, hW, hK, hE⟩ := C
  exact va_lald hx hb hK h.1 a 3 (img_get ha) rfl (oob_in hin) hdg kk
theorem wqald5 (C : Cx p s m args meth c X P E y cc mL ret) (h : Hw X P M s H locs) (ha : X.1[a]? = some (5, n)) (hin : oob i n = false) (hdg : decode cc pc = .ok (.aaload, 1))
    (kk : W p l e R s m args below meth c H locs cells slots Q (F0 m (pc + 1) ls (.ref (P.2.2.1 (X.2 a (ix i))) :: rest))) : W p l e R s m args below meth c H locs cells slots Q (F0 m pc ls (.int i :: .ref (P.2.2.1 a) :: rest)) := by
  obtain ⟨hx, hb, hml, hown, hts, hr, hlk, hW, hK, hE⟩ := C
  exact va_aldq hx hb hK h.1 a 4 (img_get ha) rfl (oob_in hin) hdg kk
theorem wqald6 (C : Cx p s m args meth c X P E y cc mL ret) (h : Hw X P M s H locs) (ha : X.1[a]? = some (6, n)) (hin : oob i n = false) (hdg : decode cc pc = .ok (.aaload, 1))
    (kk : W p l e R s m args below meth c H locs cells slots Q (F0 m (pc + 1) ls (.ref (P.2.2.1 (X.2 a (ix i))) :: rest))) : W p l e R s m args below meth c H locs cells slots Q (F0 m pc ls (.int i :: .ref (P.2.2.1 a) :: rest)) := by
  obtain ⟨hx, hb, hml, hown, hts, hr, hlk, hW, hK, hE⟩ := C
  exact va_aldq hx hb hK h.1 a 5 (img_get ha) rfl (oob_in hin) hdg kk
theorem wast (C : Cx p s m args meth c X P E y cc mL ret) (h : Hw X P M s H locs) (ha : X.1[a]? = some (1, n)) (hin : oob i n = false) (hdg : decode cc pc = .ok (.iastore, 1))
    (kk : ∀ M1, M1 = st M a (ix i) x → ∀ (H1 : Heap) (locs1 : List Loc), Hw X P M1 s H1 locs1 → W p l e R s m args below meth c H1 locs1 cells slots Q (F0 m (pc + 1) ls rest)) : W p l e R s m args below meth c H locs cells slots Q (F0 m pc ls (.int x :: .int i :: .ref (P.2.2.1 a) :: rest)) := by
  obtain ⟨hx, hb, hml, hown, hts, hr, hlk, hW, hK, hE⟩ := C
  refine va_iast hx hb hK h.1 (img_D hW M) h.2 a 0 (img_get ha) rfl (oob_in hin) hdg (fun H1 locs1 hP hD hS => ?_)
  refine kk _ rfl H1 locs1 ⟨?_, hS⟩
  rw [img_set (X := X) (P := P) (M := M) (N := st M a (ix i) x) ha (by show _ = (Sum.inl _ : va_E); rw [st_eq]) (fun j hj => (st_ne hj).symm) (fun j hj => rfl)] at hP
  exact hP
theorem wbast (C : Cx p s m args meth c X P E y cc mL ret) (h : Hw X P M s H locs) (ha : X.1[a]? = some (2, n)) (hin : oob i n = false) (hdg : decode cc pc = .ok (.bastore, 1))
    (kk : ∀ M1, M1 = st M a (ix i) (vp_nar .byte x) → ∀ (H1 : Heap) (locs1 : List Loc), Hw X P M1 s H1 locs1 → W p l e R s m args below meth c H1 locs1 cells slots Q (F0 m (pc + 1) ls rest)) : W p l e R s m args below meth c H locs cells slots Q (F0 m pc ls (.int x :: .int i :: .ref (P.2.2.1 a) :: rest)) := by
  obtain ⟨hx, hb, hml, hown, hts, hr, hlk, hW, hK, hE⟩ := C
  refine va_bast hx hb hK h.1 (img_D hW M) h.2 a 1 (img_get ha) rfl (oob_in hin) hdg (fun H1 locs1 hP hD hS => ?_)
  refine kk _ rfl H1 locs1 ⟨?_, hS⟩
  rw [img_set (X := X) (P := P) (M := M) (N := st M a (ix i) (vp_nar .byte x)) ha (by show _ = (Sum.inl _ : va_E); rw [st_eq]) (fun j hj => (st_ne hj).symm) (fun j hj => rfl)] at hP
  exact hP
theorem wzast (C : Cx p s m args meth c X P E y cc mL ret) (h : Hw X P M s H locs) (ha : X.1[a]? = some (3, n)) (hin : oob i n = false) (hdg : decode cc pc = .ok (.bastore, 1))
    (kk : ∀ M1, M1 = st M a (ix i) (vp_nar .boolean x) → ∀ (H1 : Heap) (locs1 : List Loc), Hw X P M1 s H1 locs1 → W p l e R s m args below meth c H1 locs1 cells slots Q (F0 m (pc + 1) ls rest)) : W p l e R s m args below meth c H locs cells slots Q (F0 m pc ls (.int x :: .int i :: .ref (P.2.2.1 a) :: rest)) := by
  obtain ⟨hx, hb, hml, hown, hts, hr, hlk, hW, hK, hE⟩ := C
  refine va_zast hx hb hK h.1 (img_D hW M) h.2 a 2 (img_get ha) rfl (oob_in hin) hdg (fun H1 locs1 hP hD hS => ?_)
  refine kk _ rfl H1 locs1 ⟨?_, hS⟩
  rw [img_set (X := X) (P := P) (M := M) (N := st M a (ix i) (vp_nar .boolean x)) ha (by show _ = (Sum.inl _ : va_E); rw [st_eq]) (fun j hj => (st_ne hj).symm) (fun j hj => rfl)] at hP
  exact hP
theorem wlast (C : Cx p s m args meth c X P E y cc mL ret) (h : Hw X P M s H locs) {x : Int64} (ha : X.1[a]? = some (4, n)) (hin : oob i n = false) (hdg : decode cc pc = .ok (.lastore, 1))
    (kk : ∀ M1, M1 = stL M a (ix i) x → ∀ (H1 : Heap) (locs1 : List Loc), Hw X P M1 s H1 locs1 → W p l e R s m args below meth c H1 locs1 cells slots Q (F0 m (pc + 1) ls rest)) : W p l e R s m args below meth c H locs cells slots Q (F0 m pc ls (.long x :: .int i :: .ref (P.2.2.1 a) :: rest)) := by
  obtain ⟨hx, hb, hml, hown, hts, hr, hlk, hW, hK, hE⟩ := C
  refine va_last hx hb hK h.1 (img_D hW M) h.2 a 3 (img_get ha) rfl (oob_in hin) hdg (fun H1 locs1 hP hD hS => ?_)
  refine kk _ rfl H1 locs1 ⟨?_, hS⟩
  rw [img_set (X := X) (P := P) (M := M) (N := stL M a (ix i) x) ha (by show _ = (Sum.inl _ : va_E); rw [stL_eq]) (fun j hj => rfl) (fun j hj => (stL_ne hj).symm)] at hP
  exact hP
theorem walen (C : Cx p s m args meth c X P E y cc mL ret) (h : Hw X P M s H locs) {g : Nat} (ha : X.1[a]? = some (g, n)) (hg : g = 1 ∨ g = 2 ∨ g = 3 ∨ g = 4) {v : Int32} (hv : Int32.ofNat n = v) (hdg : decode cc pc = .ok (.arraylength, 1))
    (kk : W p l e R s m args below meth c H locs cells slots Q (F0 m (pc + 1) ls (.int v :: rest))) : W p l e R s m args below meth c H locs cells slots Q (F0 m pc ls (.ref (P.2.2.1 a) :: rest)) := by
  obtain ⟨hx, hb, hml, hown, hts, hr, hlk, hW, hK, hE⟩ := C
  rcases hg with rfl | rfl | rfl | rfl
  · exact va_alen hx hb hK h.1 a 0 (img_get ha) rfl hv hdg kk
  · exact va_alen hx hb hK h.1 a 1 (img_get ha) rfl hv hdg kk
  · exact va_alen hx hb hK h.1 a 2 (img_get ha) rfl hv hdg kk
  · exact va_alen hx hb hK h.1 a 3 (img_get ha) rfl hv hdg kk
/-! returns -/
theorem CQ.of (C : Cx p s m args meth c X P E y cc mL ret) (h : Hw X P M s H locs) {ov : Option Value} : ∀ t : State, t.heap = H → s.WarmedH t.vm → CQ X P E ov M args s (.returned ov) t := by
  obtain ⟨hx, hb, hml, hown, hts, hr, hlk, hW, hK, hE⟩ := C
  intro t ht hWm
  refine ⟨rfl, ⟨by rw [ht]; exact h.1, va_K.moved hWm.alike hK, ?_⟩, h.2.F ht⟩
  rw [ht]
  exact hW.2.1.1 s t H hWm (hW.2.1.at hE h.2)
theorem wretI (C : Cx p s m args meth c X P E y cc mL (some .int)) (h : Hw X P M s H locs) {v : Int32} (hdg : decode cc pc = .ok (.ireturn, 1)) : W p l e R s m args below meth c H locs cells slots (MQ below (CQ X P E (some (.int v)) M) args s cells slots (wA X P)) (F0 m pc ls [.int v]) :=
  W.iret C.1 C.2.1 C.2.2.2.2.2.1 (CQ.of C h) h.2.2.2 hdg C.2.2.2.2.2.2.1
theorem wretZ (C : Cx p s m args meth c X P E y cc mL (some .boolean)) (h : Hw X P M s H locs) {v : Int32} (hv : v = 0 ∨ v = 1) (hdg : decode cc pc = .ok (.ireturn, 1)) : W p l e R s m args below meth c H locs cells slots (MQ below (CQ X P E (some (.int v)) M) args s cells slots (wA X P)) (F0 m pc ls [.int v]) :=
  W.zret C.1 C.2.1 C.2.2.2.2.2.1 (by rcases hv with rfl | rfl <;> rfl) (CQ.of C h) h.2.2.2 hdg C.2.2.2.2.2.2.1
theorem wretV (C : Cx p s m args meth c X P E y cc mL none) (h : Hw X P M s H locs) (hdg : decode cc pc = .ok (.return_, 1)) : W p l e R s m args below meth c H locs cells slots (MQ below (CQ X P E none M) args s cells slots (wA X P)) (F0 m pc ls []) :=
  W.vret C.1 C.2.1 C.2.2.2.2.2.1 (CQ.of C h) h.2.2.2 hdg C.2.2.2.2.2.2.1
theorem wretJ (C : Cx p s m args meth c X P E y cc mL (some .long)) (h : Hw X P M s H locs) {v : Int64} (hdg : decode cc pc = .ok (.lreturn, 1)) : W p l e R s m args below meth c H locs cells slots (MQ below (CQ X P E (some (.long v)) M) args s cells slots (wA X P)) (F0 m pc ls [.long v]) :=
  W.lret C.1 C.2.1 C.2.2.2.2.2.1 (CQ.of C h) h.2.2.2 hdg C.2.2.2.2.2.2.1
theorem wretA (C : Cx p s m args meth c X P E y cc mL ret) (h : Hw X P M s H locs) {v : Value} {rt : FieldType} (hret : ret = some rt) (hrt : (∃ n, rt = .object n) ∨ ∃ t, rt = .array t) (hv : v = .null ∨ ∃ a, v = .ref a) (hdg : decode cc pc = .ok (.areturn, 1)) : W p l e R s m args below meth c H locs cells slots (MQ below (CQ X P E (some v) M) args s cells slots (wA X P)) (F0 m pc ls [v]) :=
  W.aret C.1 C.2.1 (C.2.2.2.2.2.1.trans hret) hrt hv (CQ.of C h) h.2.2.2 hdg C.2.2.2.2.2.2.1
theorem wretI_T (C : Cx p s m args meth c X P E y cc mL (some .int)) (h : Hw X P M s H locs) {v r : Int32} (he : v = r) (hdg : decode cc pc = .ok (.ireturn, 1)) : W p l e R s m args below meth c H locs cells slots (MQ below (CQ X P E (some (.int r)) M) args s cells slots (wA X P)) (F0 m pc ls [.int v]) := he ▸ wretI C h hdg
theorem wretI_R (C : Cx p s m args meth c X P E y cc mL (some .int)) (h : Hw X P M s H locs) {v r : Int32} (he : some v = some r) (hdg : decode cc pc = .ok (.ireturn, 1)) : W p l e R s m args below meth c H locs cells slots (MQ below (CQ X P E (some (.int r)) M) args s cells slots (wA X P)) (F0 m pc ls [.int v]) := wretI_T C h (Option.some.inj he) hdg
theorem wretI_W (C : Cx p s m args meth c X P E y cc mL (some .int)) (h : Hw X P M s H locs) {v r : Int32} {M' : Mem} (he : some (v, M) = some (r, M')) (hdg : decode cc pc = .ok (.ireturn, 1)) : W p l e R s m args below meth c H locs cells slots (MQ below (CQ X P E (some (.int r)) M') args s cells slots (wA X P)) (F0 m pc ls [.int v]) := by
  cases he
  exact wretI C h hdg
theorem wretZ_T (C : Cx p s m args meth c X P E y cc mL (some .boolean)) (h : Hw X P M s H locs) {v r : Int32} (hv : v = 0 ∨ v = 1) (he : v = r) (hdg : decode cc pc = .ok (.ireturn, 1)) : W p l e R s m args below meth c H locs cells slots (MQ below (CQ X P E (some (.int r)) M) args s cells slots (wA X P)) (F0 m pc ls [.int v]) := he ▸ wretZ C h hv hdg
theorem wretZ_R (C : Cx p s m args meth c X P E y cc mL (some .boolean)) (h : Hw X P M s H locs) {v r : Int32} (hv : v = 0 ∨ v = 1) (he : some v = some r) (hdg : decode cc pc = .ok (.ireturn, 1)) : W p l e R s m args below meth c H locs cells slots (MQ below (CQ X P E (some (.int r)) M) args s cells slots (wA X P)) (F0 m pc ls [.int v]) := wretZ_T C h hv (Option.some.inj he) hdg
theorem wretZ_W (C : Cx p s m args meth c X P E y cc mL (some .boolean)) (h : Hw X P M s H locs) {v r : Int32} (hv : v = 0 ∨ v = 1) {M' : Mem} (he : some (v, M) = some (r, M')) (hdg : decode cc pc = .ok (.ireturn, 1)) : W p l e R s m args below meth c H locs cells slots (MQ below (CQ X P E (some (.int r)) M') args s cells slots (wA X P)) (F0 m pc ls [.int v]) := by
  cases he
  exact wretZ C h hv hdg
theorem wretJ_T (C : Cx p s m args meth c X P E y cc mL (some .long)) (h : Hw X P M s H locs) {v r : Int64} (he : v = r) (hdg : decode cc pc = .ok (.lreturn, 1)) : W p l e R s m args below meth c H locs cells slots (MQ below (CQ X P E (some (.long r)) M) args s cells slots (wA X P)) (F0 m pc ls [.long v]) := he ▸ wretJ C h hdg
theorem wretJ_R (C : Cx p s m args meth c X P E y cc mL (some .long)) (h : Hw X P M s H locs) {v r : Int64} (he : some v = some r) (hdg : decode cc pc = .ok (.lreturn, 1)) : W p l e R s m args below meth c H locs cells slots (MQ below (CQ X P E (some (.long r)) M) args s cells slots (wA X P)) (F0 m pc ls [.long v]) := wretJ_T C h (Option.some.inj he) hdg
theorem wretJ_W (C : Cx p s m args meth c X P E y cc mL (some .long)) (h : Hw X P M s H locs) {v r : Int64} {M' : Mem} (he : some (v, M) = some (r, M')) (hdg : decode cc pc = .ok (.lreturn, 1)) : W p l e R s m args below meth c H locs cells slots (MQ below (CQ X P E (some (.long r)) M') args s cells slots (wA X P)) (F0 m pc ls [.long v]) := by
  cases he
  exact wretJ C h hdg
theorem wretV_W (C : Cx p s m args meth c X P E y cc mL none) (h : Hw X P M s H locs) {M' : Mem} (he : some M = some M') (hdg : decode cc pc = .ok (.return_, 1)) : W p l e R s m args below meth c H locs cells slots (MQ below (CQ X P E none M') args s cells slots (wA X P)) (F0 m pc ls []) := by
  cases he
  exact wretV C h hdg
theorem wretA_W (C : Cx p s m args meth c X P E y cc mL ret) (h : Hw X P M s H locs) {M' : Mem} {a : Nat} {rt : FieldType} (hret : ret = some rt) (hrt : (∃ n, rt = .object n) ∨ ∃ t, rt = .array t) {v : Value} (hv : v = .ref a) (he : some M = some M') (hdg : decode cc pc = .ok (.areturn, 1)) : W p l e R s m args below meth c H locs cells slots (MQ below (CQ X P E (some v) M') args s cells slots (wA X P)) (F0 m pc ls [v]) := by
  cases he
  exact wretA C h hret hrt (Or.inr ⟨a, hv⟩) hdg
/-! calls -/
theorem wcall_of {M' : Mem} {ov : Option Value} {aa : Array Value} {st0 : List Value} (hr : va_Run p l e R s m args below meth c H locs cells slots 0 0 (F0 m pc ls st0) rest (CQ X P E ov M' aa) (wA X P)) (h : Hw X P M s H locs)
    (kk : ∀ (H1 : Heap) (locs1 : List Loc), Hw X P M' s H1 locs1 → W p l e R s m args below meth c H1 locs1 cells slots Q (F0 m (pc + 3) ls (ov.toList ++ rest))) : W p l e R s m args below meth c H locs cells slots Q (F0 m pc ls st0) := by
  intro T hT Y
  obtain ⟨v, st₀, t, T', L, h0, X', hL, e1, e2, ⟨hv, hWd, hz, hk⟩, stp⟩ := hr T hT Y
  cases hv
  rw [h0] at hz hk
  obtain ⟨t2, a1, b1⟩ := kk T'.heap (locs ++ L) ⟨by rw [e1]; exact hWd.1, Nat.le_trans h.2.1 (by rw [e1]; exact hz), fun q h1 h2 => by rw [e1, hk q (Nat.lt_of_lt_of_le h1 h.2.1) h2]; exact h.2.2.1 q h1 h2, fun q hq => by
      rcases List.mem_append.mp hq with h5 | h5
      · exact h.2.2.2 q h5
      · exact hL q h5⟩ T' rfl X'
  exact ⟨t2, stp t2 a1, b1⟩
theorem good_in {y2 : MethodName} {cc2 : ByteArray} {mL2 : Nat} {ret2 : Option FieldType} {Ts : List Cond} (hT : ∀ w ∈ gtbl, w ∈ Ts) (h : Cond.code y2 cc2 mL2 ret2 ∈ lw_tbl) : GoodIn Ts (Cond.code y2 cc2 mL2 ret2 :: gtbl) := by
  intro w hw
  rcases List.mem_cons.mp hw with e | hw
  · subst e
    exact ⟨hT _ (gm h rfl), good_of_word (w := .code y2 cc2 mL2 ret2) rfl⟩
  · exact ⟨hT _ hw, good_of_word (List.mem_filter.mp hw).2⟩
variable {y2 : MethodName} {cc2 : ByteArray} {mL2 fr2 lo2 : Nat} {ret2 : Option FieldType} {M' : Mem} {As : List Value} {ov : Option Value} {own : String} {st0 : List Value}
theorem wcallB (C : Cx p s m args meth c X P E y cc mL ret) (hlink : Cond.methodLink own index y2 ∈ lw_tbl) (hini : Cond.initialized y2.cls ∈ lw_tbl) (hcode : Cond.code y2 cc2 mL2 ret2 ∈ lw_tbl) (hd : y2.cls ≠ "java/lang/invoke/MethodHandle" ∧ y2.cls ≠ "java/lang/invoke/VarHandle" ∧ (parseMethodDescriptor y2.desc).map (fun d => d.parameters.length) = some n) (hR : fr2 + 1 ≤ R.frames ∧ 8 + (mL2 + 11) + lo2 ≤ R.locals) :
    CallB R s args own index y2 cc2 mL2 ret2 (Cond.code y2 cc2 mL2 ret2 :: gtbl) { frames := fr2, cells := 0, slots := 0, locals := lo2 } 0 0 n := by
  obtain ⟨hx, hb, hml, hown, hts, -⟩ := C
  have ht : ∀ w ∈ gtbl, w.before args s = true := fun w hw => hts w (List.mem_cons_of_mem _ hw)
  exact callB_of (Ts := gtbl) n ht (good_in (fun _ h => h) hcode) rfl rfl rfl (ht _ (gm hini rfl)) (ht _ (gm hlink rfl)) hd hR
theorem Cx.pre (C : Cx p s m args meth c X P E y cc mL ret) (h : Hw X P M s H locs) (av : List Value) : ∀ U : State, U.heap = H → s.WarmedH U.vm → va_Pc av (fun U => Wd X P E M U) av.toArray U := by
  obtain ⟨hx, hb, hml, hown, hts, hr, hlk, hW, hK, hE⟩ := C
  intro U hU hWm
  refine ⟨rfl, by rw [hU]; exact h.1, va_K.moved hWm.alike hK, ?_⟩
  rw [hU]
  exact hW.2.1.1 s U H hWm (hW.2.1.at hE h.2)
theorem wcallV (C : Cx p s m args meth c X P E y cc mL ret) (h : Hw X P M s H locs) (hM : CT l X P E y2 cc2 mL2 ret2 fr2 lo2 (.ref (P.2.2.1 o) :: As) ov M M') (hL : VL y.cls index y2 cc2 mL2 ret2 n) (hR : fr2 + 1 ≤ R.frames ∧ 8 + (mL2 + 11) + lo2 ≤ R.locals) {T : u_T} {N : Nat} (ho : X.1[o]? = some (0, ci)) (hci : vwCl[ci]? = some (y2.cls, T, N)) (hn : As.length = n) (hst : st0 = As.reverse ++ .ref (P.2.2.1 o) :: rest) (hls : ls.size = mL) (hroom : (rest.map fun v => v.category).sum ≤ 8) (hdg : decode cc pc = .ok (.invokevirtual index, 3)) (hf : cells ≤ R.cells ∧ slots ≤ R.slots)
    (kk : ∀ (H1 : Heap) (locs1 : List Loc), Hw X P M' s H1 locs1 → W p l e R s m args below meth c H1 locs1 cells slots Q (F0 m (pc + 3) ls (ov.toList ++ rest))) : W p l e R s m args below meth c H locs cells slots Q (F0 m pc ls st0) := by
  obtain ⟨h1, h2, h3, h4, h5, hd⟩ := hL
  have hts : ∀ w ∈ gtbl, w.before args s = true := fun w hw => C.2.2.2.2.1 w (List.mem_cons_of_mem _ hw)
  refine wcall_of (va_runV (As := As) (Ts := gtbl) ⟨C.1, C.2.1, C.2.2.1, C.2.2.2.1, hts⟩ hM ⟨wcallB C h1 h4 h5 hd hR, hts _ (gm h2 rfl), hts _ (gm h3 rfl)⟩ ⟨Wd_blind C.2.2.2.2.2.2.2.1.2.1, va_recv C.2.2.2.2.2.2.2.2.1 h.1 hci (img_get ho), C.pre h _⟩ rfl hn hls hst (lv_room hroom) hdg hf) h kk
theorem wcallS (C : Cx p s m args meth c X P E y cc mL ret) (h : Hw X P M s H locs) (hM : CT l X P E y2 cc2 mL2 ret2 fr2 lo2 As ov M M') (hL : SL y.cls index y2 cc2 mL2 ret2 n) (hR : fr2 + 1 ≤ R.frames ∧ 8 + (mL2 + 11) + lo2 ≤ R.locals) (hn : As.length = n) (hst : st0 = As.reverse ++ rest) (hls : ls.size = mL) (hroom : (rest.map fun v => v.category).sum ≤ 8) (hdg : decode cc pc = .ok (.invokestatic index, 3)) (hf : cells ≤ R.cells ∧ slots ≤ R.slots)
    (kk : ∀ (H1 : Heap) (locs1 : List Loc), Hw X P M' s H1 locs1 → W p l e R s m args below meth c H1 locs1 cells slots Q (F0 m (pc + 3) ls (ov.toList ++ rest))) : W p l e R s m args below meth c H locs cells slots Q (F0 m pc ls st0) := by
  obtain ⟨h1, h2, h4, h5, hd⟩ := hL
  have hts : ∀ w ∈ gtbl, w.before args s = true := fun w hw => C.2.2.2.2.1 w (List.mem_cons_of_mem _ hw)
  refine wcall_of (va_runS (As := As) (Ts := gtbl) ⟨C.1, C.2.1, C.2.2.1, C.2.2.2.1, hts⟩ hM ⟨wcallB C h1 h4 h5 hd hR, hts _ (gm h2 rfl)⟩ ⟨Wd_blind C.2.2.2.2.2.2.2.1.2.1, C.pre h _⟩ rfl hn hls hst (lv_room hroom) hdg hf) h kk
theorem wcallV1 {v : Value} (C : Cx p s m args meth c X P E y cc mL ret) (h : Hw X P M s H locs) (hM : CT l X P E y2 cc2 mL2 ret2 fr2 lo2 (.ref (P.2.2.1 o) :: As) (some v) M M') (hL : VL y.cls index y2 cc2 mL2 ret2 n) (hR : fr2 + 1 ≤ R.frames ∧ 8 + (mL2 + 11) + lo2 ≤ R.locals) {T : u_T} {N : Nat} (ho : X.1[o]? = some (0, ci)) (hci : vwCl[ci]? = some (y2.cls, T, N)) (hn : As.length = n) (hst : st0 = As.reverse ++ .ref (P.2.2.1 o) :: rest) (hls : ls.size = mL) (hroom : (rest.map fun v => v.category).sum ≤ 8) (hdg : decode cc pc = .ok (.invokevirtual index, 3)) (hf : cells ≤ R.cells ∧ slots ≤ R.slots)
    (kk : ∀ (H1 : Heap) (locs1 : List Loc), Hw X P M' s H1 locs1 → W p l e R s m args below meth c H1 locs1 cells slots Q (F0 m (pc + 3) ls (v :: rest))) : W p l e R s m args below meth c H locs cells slots Q (F0 m pc ls st0) := wcallV C h hM hL hR ho hci hn hst hls hroom hdg hf kk
theorem wcallV0 (C : Cx p s m args meth c X P E y cc mL ret) (h : Hw X P M s H locs) (hM : CT l X P E y2 cc2 mL2 ret2 fr2 lo2 (.ref (P.2.2.1 o) :: As) none M M') (hL : VL y.cls index y2 cc2 mL2 ret2 n) (hR : fr2 + 1 ≤ R.frames ∧ 8 + (mL2 + 11) + lo2 ≤ R.locals) {T : u_T} {N : Nat} (ho : X.1[o]? = some (0, ci)) (hci : vwCl[ci]? = some (y2.cls, T, N)) (hn : As.length = n) (hst : st0 = As.reverse ++ .ref (P.2.2.1 o) :: rest) (hls : ls.size = mL) (hroom : (rest.map fun v => v.category).sum ≤ 8) (hdg : decode cc pc = .ok (.invokevirtual index, 3)) (hf : cells ≤ R.cells ∧ slots ≤ R.slots)
    (kk : ∀ (H1 : Heap) (locs1 : List Loc), Hw X P M' s H1 locs1 → W p l e R s m args below meth c H1 locs1 cells slots Q (F0 m (pc + 3) ls rest)) : W p l e R s m args below meth c H locs cells slots Q (F0 m pc ls st0) := wcallV C h hM hL hR ho hci hn hst hls hroom hdg hf kk
theorem wcallS1 {v : Value} (C : Cx p s m args meth c X P E y cc mL ret) (h : Hw X P M s H locs) (hM : CT l X P E y2 cc2 mL2 ret2 fr2 lo2 As (some v) M M') (hL : SL y.cls index y2 cc2 mL2 ret2 n) (hR : fr2 + 1 ≤ R.frames ∧ 8 + (mL2 + 11) + lo2 ≤ R.locals) (hn : As.length = n) (hst : st0 = As.reverse ++ rest) (hls : ls.size = mL) (hroom : (rest.map fun v => v.category).sum ≤ 8) (hdg : decode cc pc = .ok (.invokestatic index, 3)) (hf : cells ≤ R.cells ∧ slots ≤ R.slots)
    (kk : ∀ (H1 : Heap) (locs1 : List Loc), Hw X P M' s H1 locs1 → W p l e R s m args below meth c H1 locs1 cells slots Q (F0 m (pc + 3) ls (v :: rest))) : W p l e R s m args below meth c H locs cells slots Q (F0 m pc ls st0) := wcallS C h hM hL hR hn hst hls hroom hdg hf kk
theorem wcallS0 (C : Cx p s m args meth c X P E y cc mL ret) (h : Hw X P M s H locs) (hM : CT l X P E y2 cc2 mL2 ret2 fr2 lo2 As none M M') (hL : SL y.cls index y2 cc2 mL2 ret2 n) (hR : fr2 + 1 ≤ R.frames ∧ 8 + (mL2 + 11) + lo2 ≤ R.locals) (hn : As.length = n) (hst : st0 = As.reverse ++ rest) (hls : ls.size = mL) (hroom : (rest.map fun v => v.category).sum ≤ 8) (hdg : decode cc pc = .ok (.invokestatic index, 3)) (hf : cells ≤ R.cells ∧ slots ≤ R.slots)
    (kk : ∀ (H1 : Heap) (locs1 : List Loc), Hw X P M' s H1 locs1 → W p l e R s m args below meth c H1 locs1 cells slots Q (F0 m (pc + 3) ls rest)) : W p l e R s m args below meth c H locs cells slots Q (F0 m pc ls st0) := wcallS C h hM hL hR hn hst hls hroom hdg hf kk
theorem wldcS (C : Cx p s m args meth c shC P E y cc mL ret) (w : Nat) {q : Nat × String} (hq : srW[w]? = some q) (hy : y.cls = "LehrBelt$Reader") (hdg : decode cc pc = .ok (.ldc q.1, 2))
    (kk : W p l e R s m args below meth c H locs cells slots Q (F0 m (pc + 2) ls (.ref (P.2.2.2 w) :: rest))) : W p l e R s m args below meth c H locs cells slots Q (F0 m pc ls rest) := by
  obtain ⟨hx, hb, hml, hown, hts, hr, hlk, hW, hK, hE⟩ := C
  obtain ⟨adV, hA⟩ := hW.2.2 rfl
  rw [hy] at hown
  exact va_ldcS hx hb hown ((hA s s.heap hE).2.1 w q hq) hdg kk
/-! the Java machine's arraycopy -/
def AL (own : String) (index : Nat) : Prop := Cond.methodLink own index arraycopyName ∈ lw_tbl ∧ Cond.native arraycopyName ∈ lw_tbl ∧ Cond.static arraycopyName ∈ lw_tbl ∧ Cond.initialized "java/lang/System" ∈ lw_tbl
theorem wcopyI (C : Cx p s m args meth c X P E y cc mL ret) (h : Hw X P M s H locs) {b n0 n1 : Nat} {sp dp len : Int32} (ha : X.1[a]? = some (1, n0)) (hb1 : X.1[b]? = some (1, n1)) (hL : AL y.cls index) (h1 : oob2 sp len n0 = false) (h2 : oob2 dp len n1 = false) (hls : ls.size = mL) (hframes : 1 ≤ R.frames) (hlocals : (rest.map fun v => v.category).sum + (nativeFrameWords "java/lang/System" "arraycopy" 5 + 11) ≤ R.locals) (hdg : decode cc pc = .ok (.invokestatic index, 3))
    (kk : ∀ M1, M1 = cpI M a (ix sp) b (ix dp) (ix len) → ∀ (H1 : Heap) (locs1 : List Loc), Hw X P M1 s H1 locs1 → W p l e R s m args below meth c H1 locs1 cells slots Q (F0 m (pc + 3) ls rest)) : W p l e R s m args below meth c H locs cells slots Q (F0 m pc ls (.int len :: .int dp :: .ref (P.2.2.1 b) :: .int sp :: .ref (P.2.2.1 a) :: rest)) := by
  obtain ⟨hx, hb, hml, hown, hts, hr, hlk, hW, hK, hE⟩ := C
  have ht : ∀ w ∈ gtbl, w.before args s = true := fun w hw => hts w (List.mem_cons_of_mem _ hw)
  obtain ⟨g1, g2, g3, g4⟩ := hL
  have e1 := of_decide_eq_false h1
  have e2 := of_decide_eq_false h2
  refine va_copyi hx hb (hml.trans hls.symm) hown (ht _ (gm g1 rfl)) (ht _ (gm g2 rfl)) (ht _ (gm g3 rfl)) (ht _ (gm g4 rfl)) hK h.1 (img_D hW M) h.2 a b 0 0 (img_get ha) (img_get hb1) rfl rfl rfl (fun q => e1 (Or.inl q)) (fun q => e2 (Or.inl q)) (fun q => e1 (Or.inr (Or.inl q))) (Nat.le_of_not_lt fun q => e1 (Or.inr (Or.inr q))) (Nat.le_of_not_lt fun q => e2 (Or.inr (Or.inr q))) (fun _ _ => rfl) hframes hlocals hdg (fun H1 locs1 hP hD hS => ?_)
  refine kk _ rfl H1 locs1 ⟨?_, hS⟩
  rw [img_set (X := X) (P := P) (M := M) (N := cpI M a (ix sp) b (ix dp) (ix len)) hb1 (by show _ = (Sum.inl _ : va_E); congr 4; funext j; simp [cpI]) (fun j hj => by funext q; simp [cpI, hj]) (fun j hj => rfl)] at hP
  exact hP
theorem wcopyL (C : Cx p s m args meth c X P E y cc mL ret) (h : Hw X P M s H locs) {b n0 n1 : Nat} {sp dp len : Int32} (ha : X.1[a]? = some (4, n0)) (hb1 : X.1[b]? = some (4, n1)) (hL : AL y.cls index) (h1 : oob2 sp len n0 = false) (h2 : oob2 dp len n1 = false) (hls : ls.size = mL) (hframes : 1 ≤ R.frames) (hlocals : (rest.map fun v => v.category).sum + (nativeFrameWords "java/lang/System" "arraycopy" 5 + 11) ≤ R.locals) (hdg : decode cc pc = .ok (.invokestatic index, 3))
    (kk : ∀ M1, M1 = cpL M a (ix sp) b (ix dp) (ix len) → ∀ (H1 : Heap) (locs1 : List Loc), Hw X P M1 s H1 locs1 → W p l e R s m args below meth c H1 locs1 cells slots Q (F0 m (pc + 3) ls rest)) : W p l e R s m args below meth c H locs cells slots Q (F0 m pc ls (.int len :: .int dp :: .ref (P.2.2.1 b) :: .int sp :: .ref (P.2.2.1 a) :: rest)) := by
  obtain ⟨hx, hb, hml, hown, hts, hr, hlk, hW, hK, hE⟩ := C
  have ht : ∀ w ∈ gtbl, w.before args s = true := fun w hw => hts w (List.mem_cons_of_mem _ hw)
  obtain ⟨g1, g2, g3, g4⟩ := hL
  have e1 := of_decide_eq_false h1
  have e2 := of_decide_eq_false h2
  refine va_copyl hx hb (hml.trans hls.symm) hown (ht _ (gm g1 rfl)) (ht _ (gm g2 rfl)) (ht _ (gm g3 rfl)) (ht _ (gm g4 rfl)) hK h.1 (img_D hW M) h.2 a b 3 3 (img_get ha) (img_get hb1) rfl rfl rfl (fun q => e1 (Or.inl q)) (fun q => e2 (Or.inl q)) (fun q => e1 (Or.inr (Or.inl q))) (Nat.le_of_not_lt fun q => e1 (Or.inr (Or.inr q))) (Nat.le_of_not_lt fun q => e2 (Or.inr (Or.inr q))) (fun _ _ => rfl) hframes hlocals hdg (fun H1 locs1 hP hD hS => ?_)
  refine kk _ rfl H1 locs1 ⟨?_, hS⟩
  rw [img_set (X := X) (P := P) (M := M) (N := cpL M a (ix sp) b (ix dp) (ix len)) hb1 (by show _ = (Sum.inl _ : va_E); congr 5; funext j; simp [cpL]) (fun j hj => rfl) (fun j hj => by funext q; simp [cpL, hj])] at hP
  exact hP
end ROWS
/-! what a function's unfolding gives -/
