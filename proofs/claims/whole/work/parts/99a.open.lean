/-! THE LAW'S ENTRY: texts, statics, links -/
theorem nlL_7 : NL "LehrBeltLaw" 7 10 11 := ⟨(RX10, TX10, 11), rfl, rfl, inX10, ⟨tyX10, tyX10_ok⟩, List.mem_of_getElem? (i := 124) (by decide +kernel), List.mem_of_getElem? (i := 125) (by decide +kernel), List.mem_of_getElem? (i := 104) (by decide +kernel)⟩
theorem nlL_10 : NL "LehrBeltLaw" 10 11 39 := ⟨(RX11, TX11, 39), rfl, rfl, inX11, ⟨tyX11, tyX11_ok⟩, List.mem_of_getElem? (i := 1479) (by decide +kernel), List.mem_of_getElem? (i := 1480) (by decide +kernel), List.mem_of_getElem? (i := 115) (by decide +kernel)⟩
theorem ilL_9 : IL "LehrBeltLaw" 9 yX10_init bX10_init 2 0 := ⟨List.mem_of_getElem? (i := 126) (by decide +kernel), List.mem_of_getElem? (i := 127) (by decide +kernel), List.mem_of_getElem? (i := 104) (by decide +kernel), List.mem_of_getElem? (i := 128) (by decide +kernel), rfl, by decide +kernel, by decide +kernel, by decide +kernel⟩
theorem ilL_12 : IL "LehrBeltLaw" 12 yX11_init bX11_init 2 0 := ⟨List.mem_of_getElem? (i := 1481) (by decide +kernel), List.mem_of_getElem? (i := 1482) (by decide +kernel), List.mem_of_getElem? (i := 115) (by decide +kernel), List.mem_of_getElem? (i := 1483) (by decide +kernel), rfl, by decide +kernel, by decide +kernel, by decide +kernel⟩
def tmW : Nat → Term := fun i => .string "LehrBelt$Reader" (srW.getD i (0, "")).1
/-- what the class's side takes from the start: texts and statics -/
def EW (A : Nat → Prop) (adK adV : Nat → Nat) : State → Heap → Prop := fun s H => vk_S 12 lenW bytW adK adV A s H ∧ (∀ (w : Nat) (q : Nat × String), srW[w]? = some q → vk_R "LehrBelt$Reader" q.1 q.2 (adK w) s) ∧ va_Z "java/lang/String" "COMPACT_STRINGS" "Z" (.int 1) A s H ∧ va_Zq "jdk/internal/util/Preconditions" "SIOOBE_FORMATTER" "Ljava/util/function/BiFunction;" A s H
theorem EW_cl {A : Nat → Prop} {adK adV : Nat → Nat} : Ecl A (EW A adK adV) := by
  refine ⟨fun s U H hW h => ?_, fun U H0 H hk h => ?_⟩
  · obtain ⟨h1, h2, h3, h4⟩ := h
    exact ⟨h1.moved hW.alike, fun w q hq => (h2 w q hq).warm hW, h3.moved hW.alike, h4.moved hW.alike⟩
  · obtain ⟨h1, h2, h3, h4⟩ := h
    exact ⟨h1.kept hk, h2, h3.kept hk, h4.kept hk⟩
theorem flW : (∀ i, i < 12 → Cond.exactly (tmW i) "java/lang/String" ∈ flatC (Jvm.Cond.and given_1 narrow_1)) ∧ (∀ i, i < 12 → Cond.eq (.field (tmW i) "java/lang/String" "coder" "B") (.int 0) ∈ flatC (Jvm.Cond.and given_1 narrow_1)) ∧ (∀ i, i < 12 → Cond.arrayOf (.field (tmW i) "java/lang/String" "value" "[B") .byte ∈ flatC (Jvm.Cond.and given_1 narrow_1)) ∧ (∀ i, i < 12 → Cond.eq (.length (.field (tmW i) "java/lang/String" "value" "[B")) (.int (Int32.ofNat (lenW.getD i 0))) ∈ flatC (Jvm.Cond.and given_1 narrow_1)) := by
  refine ⟨?_, ?_, ?_, ?_⟩ <;> decide +kernel
theorem flW2 : ∀ i, i < 12 → ∀ j, j < lenW.getD i 0 → Cond.eq (.elem (.field (tmW i) "java/lang/String" "value" "[B") (.int (Int32.ofNat j))) (.int ((bytW.getD i []).getD j 0)) ∈ flatC (Jvm.Cond.and given_1 narrow_1) := by decide +kernel
theorem flW3 : ∀ i, i < 12 → ∀ j, j < 12 → i ≠ j → Cond.not (Cond.eq (tmW i) (tmW j)) ∈ flatC (Jvm.Cond.and given_1 narrow_1) ∨ Cond.not (Cond.eq (tmW j) (tmW i)) ∈ flatC (Jvm.Cond.and given_1 narrow_1) := by decide +kernel
theorem flW4 : Cond.eq (.static "java/lang/String" "COMPACT_STRINGS" "Z") (.int 1) ∈ flatC (Jvm.Cond.and given_1 narrow_1) ∧ Cond.isRef (.static "jdk/internal/util/Preconditions" "SIOOBE_FORMATTER" "Ljava/util/function/BiFunction;") ∈ flatC (Jvm.Cond.and given_1 narrow_1) := by decide +kernel
theorem srW_tbl : ∀ i, i < 12 → Cond.stringRef "LehrBelt$Reader" (srW.getD i (0, "")).1 (srW.getD i (0, "")).2 ∈ lw_tbl := by decide +kernel
theorem EW_start {args : Array Value} {s : State} {A : Nat → Prop} (hA : ∀ a : Nat, a < s.heap.size → ¬ A a) (hts : ∀ w ∈ lw_tbl, w.before args s = true) (hgv : (Jvm.Cond.and given_1 narrow_1).before args s = true) : ∃ adK adV : Nat → Nat, EW A adK adV s s.heap := by
  have hs := flat_of_before _ hgv
  obtain ⟨adK, adV, hV, hev⟩ := vk_Sof (args := args) (s := s) (N := 12) (tm := tmW) (len := lenW) (byt := bytW) (A := A) (by decide +kernel) (fun i hi => hs _ (flW.1 i hi)) (fun i hi => hs _ (flW.2.1 i hi)) (fun i hi => hs _ (flW.2.2.1 i hi)) (fun i hi => hs _ (flW.2.2.2 i hi)) (fun i hi j hj => hs _ (flW2 i hi j hj)) (fun i j hi hj hij => (flW3 i hi j hj hij).elim (fun h => Or.inl (hs _ h)) (fun h => Or.inr (hs _ h))) hA
  refine ⟨adK, adV, hV, fun w q hq => ?_, va_Zof (hts _ (List.mem_of_getElem? (i := 554) (by decide +kernel))) (hts _ (List.mem_of_getElem? (i := 116) (by decide +kernel))) (va_eqt (hs _ flW4.1)) hA, va_Zqof (hts _ (List.mem_of_getElem? (i := 570) (by decide +kernel))) (hts _ (List.mem_of_getElem? (i := 118) (by decide +kernel))) (hs _ flW4.2) hA⟩
  have hw : w < 12 := (List.getElem?_eq_some_iff.mp hq).1
  have e : srW.getD w (0, "") = q := by rw [List.getD_eq_getElem?_getD, hq]; rfl
  have h1 := hts _ (srW_tbl w hw)
  have h2 := hev w hw
  unfold tmW at h2
  rw [e] at h1 h2
  exact vk_R.of h1 h2
