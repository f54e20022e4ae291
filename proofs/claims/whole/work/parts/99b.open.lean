/-! THE LAW'S ENTRY, from behind the second constructor on -/
theorem open3 {p : Program} {e : Env} {s : State} {m : MethodId} {below : List Frame} {meth : Method} {c : Code} (l : Launch) {Rel : Mem → Mem → Prop} (ops : OpsAll Rel) (h0 : Rel M0C M0R) {b L : Nat} {xs : Nat → Int32} (hL : L ≤ 3072) (C0 : lw_At p s m meth c b L xs) {base : Nat} (hbase : s.heap.size = base) {D : va_G} {cA : Nat → ClassId} {adC adR adK adV : Nat → Nat} (hadC : adC = fun k => base + k) (hadR : adR = fun k => (base + 111) + k) (hK : va_K D vwCl (tysW (D, cA, adC, adK)) s) (hE : EW (fun q : Nat => ∃ k, k < shC.1.length ∧ q = adC k) adK adV s s.heap) {H3 : Heap} {locs3 : List Loc} {ls : Array Slot} {cells slots : Nat} (hPC : va_P D vwCl (img shC (D, cA, adC, adK) M0C) H3) (hPR : va_P D vwCl (img shR (D, cA, adR, adK) M0R) H3) (hS3 : va_S (fun q : Nat => s.heap.size ≤ q) s.heap H3 locs3) (hl : lv_has ls 4 [(2, .ref (base + 111 + 0)), (1, .ref (base + 0)), (0, .ref b)]) (hc : cells ≤ 600000) (hs : slots ≤ 7302250) : W p l e room_1 s m #[Value.ref b] below meth c H3 locs3 cells slots (lw_Z below #[Value.ref b] s) (F0 m 16 ls []) := by
  obtain ⟨hx, hb, hr, hml, hown, hts, hX, hbl, hlocks, hgv⟩ := id C0
  refine lv_iconst (v := 0) hx hb dL_law_16 (by decide) ?_
  refine lv_istore_n (lv' := [(3, .int 0), (2, .ref (base + 111 + 0)), (1, .ref (base + 0)), (0, .ref b)]) hx hb dL_law_17 rfl hl (by decide) rfl (fun ls hl => ?_)
  refine W.widen (k := 600000) (n := 7302250) hc hs ?_
  have hLX : LwX p s m meth c b L xs D cA adC adR adK (EW (fun q : Nat => ∃ k, k < shC.1.length ∧ q = adC k) adK adV) := by
    refine ⟨hx, hb, hml, hown, hts, hX, hbl, by omega, hK, ⟨fun i j _ _ h => ?_, EW_cl, fun _ => ⟨adV, fun s H h => h⟩⟩, ⟨fun i j _ _ h => ?_, ⟨fun _ _ _ _ _ => trivial, fun _ _ _ _ _ => trivial⟩, fun h => ?_⟩, hE, fun k _ => ?_, fun k _ => ?_, fun i j hi hj h => ?_⟩
    · have h2 : adC i = adC j := h
      rw [hadC] at h2
      have : base + i = base + j := h2
      omega
    · have h2 : adR i = adR j := h
      rw [hadR] at h2
      have : base + 111 + i = base + 111 + j := h2
      omega
    · exact absurd (congrArg (fun X : Wx => X.1.length) h) (by decide)
    · rw [hadC, hbase]; show base ≤ base + k; omega
    · rw [hadR, hbase]; show base ≤ base + 111 + k; omega
    · have h2 : adC i = adR j := h
      rw [hadC, hadR] at h2
      have h3 : base + i = base + 111 + j := h2
      have h4 : i < 111 := hi
      omega
  exact law_loop hLX hlocks hr hL ops (L - 0) 0 rfl (Nat.zero_le _) M0C M0R H3 locs3 ls h0 ⟨hPC, hPR, hS3⟩ (by rw [hadC, hadR]; exact lv_sub hl [3, 2, 1, 0] rfl)
