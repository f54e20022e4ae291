/-! THE FLAT MEMORY: every cell of a side's world has a number; its int slots and long slots are read off one function; references never change after the constructor and are told by the shape. -/
/-- classes and slots, classes of arrays by kind, addresses of cells, addresses of texts -/
abbrev Wp : Type := va_G × (Nat → ClassId) × (Nat → Nat) × (Nat → Nat)
def wfl (ad : Nat → Nat) (rf : Nat → Nat) (m : Nat → Int32) (mL : Nat → Int64) : List Nat → Nat → List Value
  | [], _ => []
  | 0 :: ks, j => .int (m j) :: wfl ad rf m mL ks (j + 1)
  | 1 :: ks, j => .long (mL j) :: wfl ad rf m mL ks (j + 1)
  | _ :: ks, j => .ref (ad (rf j)) :: wfl ad rf m mL ks (j + 1)
def wcell (X : Wx) (P : Wp) (M : Mem) (k : Nat) : Nat × Nat → va_E
  | (0, c) => .inr (c, wfl P.2.2.1 (X.2 k) (M.1 k) (M.2 k) (kds c) 0)
  | (4, n) => .inl (P.2.1 4, n, .inr (.inl (M.2 k)))
  | (5, n) => .inl (P.2.1 5, n, .inr (.inr (.inr (.inr (fun j => some (P.2.2.1 (X.2 k j)))))))
  | (6, n) => .inl (P.2.1 6, n, .inr (.inr (.inr (.inr (fun j => some (P.2.2.1 (X.2 k j)))))))
  | (g, n) => .inl (P.2.1 g, n, .inl (M.1 k))
def img (X : Wx) (P : Wp) (M : Mem) : va_W := X.1.mapIdx (fun k t => (P.2.2.1 k, wcell X P M k t))
def tysW (P : Wp) : List (ClassId × FieldType) := [(P.2.1 1, .int), (P.2.1 2, .byte), (P.2.1 3, .boolean), (P.2.1 4, .long), (P.2.1 5, .object "LehrBelt$Belt"), (P.2.1 6, .object "LehrBelt$Row")]
def wA (X : Wx) (P : Wp) : Nat → Prop := fun q => ∃ k, k < X.1.length ∧ q = P.2.2.1 k
theorem wfl_get {ad rf : Nat → Nat} {m : Nat → Int32} {mL : Nat → Int64} : ∀ (ks : List Nat) (j k : Nat), (wfl ad rf m mL ks j)[k]? = (ks[k]?).map (fun d => match d with | 0 => .int (m (j + k)) | 1 => .long (mL (j + k)) | _ => .ref (ad (rf (j + k))))
  | [], j, k => by simp [wfl]
  | d :: ks, j, 0 => by
    match d with
    | 0 => simp [wfl]
    | 1 => simp [wfl]
    | d + 2 => simp [wfl]
  | d :: ks, j, k + 1 => by
    have h := wfl_get (ad := ad) (rf := rf) (m := m) (mL := mL) ks (j + 1) k
    have e : j + 1 + k = j + (k + 1) := by omega
    rw [e] at h
    match d with
    | 0 => simpa [wfl] using h
    | 1 => simpa [wfl] using h
    | d + 2 => simpa [wfl] using h
theorem wfl_len {ad rf : Nat → Nat} {m : Nat → Int32} {mL : Nat → Int64} : ∀ (ks : List Nat) (j : Nat), (wfl ad rf m mL ks j).length = ks.length
  | [], j => rfl
  | d :: ks, j => by
    have h := wfl_len (ad := ad) (rf := rf) (m := m) (mL := mL) ks (j + 1)
    match d with
    | 0 => simpa [wfl] using h
    | 1 => simpa [wfl] using h
    | d + 2 => simpa [wfl] using h
theorem img_get {X : Wx} {P : Wp} {M : Mem} {k : Nat} {t : Nat × Nat} (h : X.1[k]? = some t) : (img X P M)[k]? = some (P.2.2.1 k, wcell X P M k t) := by
  simp [img, List.getElem?_mapIdx, h]
theorem img_inv {X : Wx} {P : Wp} {M : Mem} {k : Nat} {q : Nat × va_E} (h : (img X P M)[k]? = some q) : k < X.1.length ∧ q.1 = P.2.2.1 k := by
  have hl := (List.getElem?_eq_some_iff.mp h).1
  have hlen : (img X P M).length = X.1.length := by simp [img]
  rw [hlen] at hl
  rw [img_get (List.getElem?_eq_getElem hl)] at h
  cases h
  exact ⟨hl, rfl⟩
theorem st_ne {M : Mem} {a k i : Nat} {v : Int32} (h : i ≠ a) : (st M a k v).1 i = M.1 i := by
  funext j
  simp [st, h]
theorem st_eq {M : Mem} {a k : Nat} {v : Int32} : (st M a k v).1 a = upd (M.1 a) k v := by
  funext j
  by_cases h : j = k <;> simp [st, upd, h]
theorem stL_ne {M : Mem} {a k i : Nat} {v : Int64} (h : i ≠ a) : (stL M a k v).2 i = M.2 i := by
  funext j
  simp [stL, h]
theorem stL_eq {M : Mem} {a k : Nat} {v : Int64} : (stL M a k v).2 a = vp_updL (M.2 a) k v := by
  funext j
  by_cases h : j = k <;> simp [stL, vp_updL, h]
theorem wcell_congr {X : Wx} {P : Wp} {M N : Mem} {k : Nat} (h1 : M.1 k = N.1 k) (h2 : M.2 k = N.2 k) (t : Nat × Nat) : wcell X P M k t = wcell X P N k t := by
  unfold wcell
  rw [h1, h2]
theorem img_set {X : Wx} {P : Wp} {M N : Mem} {k : Nat} {t : Nat × Nat} {e : va_E} (h : X.1[k]? = some t) (he : e = wcell X P N k t) (h1 : ∀ i, i ≠ k → M.1 i = N.1 i) (h2 : ∀ i, i ≠ k → M.2 i = N.2 i) : (img X P M).set k (P.2.2.1 k, e) = img X P N := by
  apply List.ext_getElem?
  intro i
  have hk : k < (img X P M).length := by
    have := (List.getElem?_eq_some_iff.mp h).1
    simpa [img] using this
  by_cases hi : k = i
  · subst hi
    rw [List.getElem?_set_self hk, img_get h, he]
  · rw [List.getElem?_set_ne hi]
    simp only [img, List.getElem?_mapIdx]
    cases X.1[i]? with
    | none => rfl
    | some u =>
      simp only [Option.map_some]
      rw [wcell_congr (h1 i (fun q => hi q.symm)) (h2 i (fun q => hi q.symm))]
theorem wfl_set_i {ad rf : Nat → Nat} {m : Nat → Int32} {mL : Nat → Int64} {ks : List Nat} {k : Nat} {v : Int32} (hk : ks[k]? = some 0) : (wfl ad rf m mL ks 0).set k (.int v) = wfl ad rf (upd m k v) mL ks 0 := by
  apply List.ext_getElem?
  intro i
  have hl : k < (wfl ad rf m mL ks 0).length := by rw [wfl_len]; exact (List.getElem?_eq_some_iff.mp hk).1
  by_cases hi : k = i
  · subst hi
    rw [List.getElem?_set_self hl, wfl_get, hk]
    simp [upd]
  · rw [List.getElem?_set_ne hi, wfl_get, wfl_get]
    have e : upd m k v (0 + i) = m (0 + i) := by
      simp only [upd]
      rw [if_neg (by omega)]
    rw [e]
theorem wfl_set_l {ad rf : Nat → Nat} {m : Nat → Int32} {mL : Nat → Int64} {ks : List Nat} {k : Nat} {v : Int64} (hk : ks[k]? = some 1) : (wfl ad rf m mL ks 0).set k (.long v) = wfl ad rf m (vp_updL mL k v) ks 0 := by
  apply List.ext_getElem?
  intro i
  have hl : k < (wfl ad rf m mL ks 0).length := by rw [wfl_len]; exact (List.getElem?_eq_some_iff.mp hk).1
  by_cases hi : k = i
  · subst hi
    rw [List.getElem?_set_self hl, wfl_get, hk]
    simp [vp_updL]
  · rw [List.getElem?_set_ne hi, wfl_get, wfl_get]
    have e : vp_updL mL k v (0 + i) = mL (0 + i) := by
      simp only [vp_updL]
      rw [if_neg (by omega)]
    rw [e]
/-- what is said of the start beside the world, and stays -/
def Ecl (A : Nat → Prop) (E : State → Heap → Prop) : Prop := (∀ (s U : State) (H : Heap), s.WarmedH U.vm → E s H → E U H) ∧ ∀ (U : State) (H0 H : Heap), (∀ q : Nat, q < H0.size → ¬ A q → H[q]? = H0[q]?) → E U H0 → E U H
/-- the texts, and the statics that String looks at -/
def Str (P : Wp) (E : State → Heap → Prop) : Prop := ∃ adV : Nat → Nat, ∀ (s : State) (H : Heap), E s H → vk_S 12 lenW bytW P.2.2.2 adV (wA shC P) s H ∧ (∀ (w : Nat) (q : Nat × String), srW[w]? = some q → vk_R "LehrBelt$Reader" q.1 q.2 (P.2.2.2 w) s) ∧ va_Z "java/lang/String" "COMPACT_STRINGS" "Z" (.int 1) (wA shC P) s H ∧ va_Zq "jdk/internal/util/Preconditions" "SIOOBE_FORMATTER" "Ljava/util/function/BiFunction;" (wA shC P) s H
def Wok (X : Wx) (P : Wp) (E : State → Heap → Prop) : Prop := (∀ i j, i < X.1.length → j < X.1.length → P.2.2.1 i = P.2.2.1 j → i = j) ∧ Ecl (wA X P) E ∧ (X = shC → Str P E)
theorem img_D {X : Wx} {P : Wp} {E : State → Heap → Prop} (h : Wok X P E) (M : Mem) : va_D (wA X P) (img X P M) := by
  refine ⟨fun i j p q hi hj e => ?_, fun k q hk => ?_⟩
  · obtain ⟨a1, a2⟩ := img_inv hi
    obtain ⟨b1, b2⟩ := img_inv hj
    exact h.1 i j a1 b1 (by rw [← a2, ← b2]; exact e)
  · obtain ⟨a1, a2⟩ := img_inv hk
    exact ⟨k, a1, a2⟩
/-- the world at a state -/
def Wd (X : Wx) (P : Wp) (E : State → Heap → Prop) (M : Mem) (U : State) : Prop := va_P P.1 vwCl (img X P M) U.heap ∧ va_K P.1 vwCl (tysW P) U ∧ E U U.heap
def CQ (X : Wx) (P : Wp) (E : State → Heap → Prop) (ov : Option Value) (M : Mem) : Array Value → State → Outcome → State → Prop := fun _ s oc t => oc = .returned ov ∧ Wd X P E M t ∧ va_F (wA X P) s t
/-- the words that every method's contract asks for: all that a caller may pass on -/
def gtbl : List Cond := lw_tbl.filter goodWord
theorem gm {w : Cond} (h : w ∈ lw_tbl) (hg : goodWord w = true) : w ∈ gtbl := List.mem_filter.mpr ⟨h, hg⟩
theorem gu {Cn : String} {T : u_T} {N : Nat} (w : Cond) (hw : w ∈ u_ws Cn T N) (h : w ∈ lw_tbl) : w ∈ gtbl := by
  refine gm h ?_
  obtain ⟨k, -, rfl⟩ := List.mem_map.mp hw
  unfold u_lay
  split <;> rfl
/-- A METHOD'S CONTRACT: from the world at M with these arguments it returns ov, and the world is at M' -/
def CT (l : Launch) (X : Wx) (P : Wp) (E : State → Heap → Prop) (y : MethodName) (cc : ByteArray) (mL : Nat) (ret : Option FieldType) (fr lo : Nat) (av : List Value) (ov : Option Value) (M M' : Mem) : Prop :=
  Met l y (.code y cc mL ret :: gtbl) { frames := fr, cells := 0, slots := 0, locals := lo } (va_Pc av (fun U => Wd X P E M U)) (CQ X P E ov M') 0 0 (wA X P)
/-- inside a method -/
def Cx (p : Program) (s : State) (m : MethodId) (args : Array Value) (meth : Method) (c : Code) (X : Wx) (P : Wp) (E : State → Heap → Prop) (y : MethodName) (cc : ByteArray) (mL : Nat) (ret : Option FieldType) : Prop :=
  p.tables.exec = Jvm.exec ∧ c.code = cc ∧ c.maxLocals = mL ∧ s.vm.findClass y.cls = some m.cls ∧ (∀ w ∈ (Cond.code y cc mL ret :: gtbl), w.before args s = true) ∧ meth.sig.returnType = ret ∧ meth.locks = false ∧ Wok X P E ∧ va_K P.1 vwCl (tysW P) s ∧ E s s.heap
def Hw (X : Wx) (P : Wp) (M : Mem) (s : State) (H : Heap) (locs : List Loc) : Prop := va_P P.1 vwCl (img X P M) H ∧ va_S (wA X P) s.heap H locs
theorem Wd_blind {X : Wx} {P : Wp} {E : State → Heap → Prop} {M : Mem} {av : List Value} (hE : Ecl (wA X P) E) : FrameBlind (va_Pc av (fun U => Wd X P E M U)) := by
  intro a U g mk h
  obtain ⟨h1, h2, h3, h4⟩ := h
  exact ⟨h1, h2, va_K.moved (u := U) (U := U.calling g mk a) (Vm.Alike.refl U.vm) h3, hE.1 U (U.calling g mk a) U.heap (State.WarmedH.refl U) h4⟩
theorem ct_of {l : Launch} {X : Wx} {P : Wp} {E : State → Heap → Prop} {y : MethodName} {cc : ByteArray} {mL : Nat} {ret : Option FieldType} {fr lo : Nat} {av : List Value} {ov : Option Value} {M M' : Mem} (hW : Wok X P E) (hy : plainName y.cls = true) (hent : (lg_sl av).length ≤ mL)
    (body : ∀ (p : Program) (e : Env) (s : State) (m : MethodId) (args : Array Value) (below : List Frame) (meth : Method) (c : Code), Cx p s m args meth c X P E y cc mL ret → ∀ ls : Array Slot, lv_has ls mL (lv_args 0 av) → Hw X P M s s.heap [] → W p l e { frames := fr, cells := 0, slots := 0, locals := lo } s m args below meth c s.heap [] 0 0 (MQ below (CQ X P E ov M') args s 0 0 (wA X P)) (F0 m 0 ls [])) : CT l X P E y cc mL ret fr lo av ov M M' := by
  refine Met.ofW (cc := cc) (maxL := mL) (ret := ret) hy rfl ?_
  intro p e s m args below meth c s₁ B hml hv
  obtain ⟨rfl, hP, hK, hE⟩ := hv
  rw [lg_entry_eq]
  exact body p e s m _ below meth c ⟨B.exec, B.bytes, hml, findClass_of_methodNamed B.named, atoms_spec (ws := Cond.code y cc mL ret :: gtbl) B.pre, B.returns, B.notSynchronized, hW, hK, hE⟩ _ (lv_entry av hent) ⟨hP, va_S.rf⟩
