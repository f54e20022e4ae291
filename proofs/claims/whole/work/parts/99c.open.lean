/-! THE LAW'S ENTRY, from behind the first constructor on -/
set_option maxRecDepth 100000 in
set_option maxHeartbeats 8000000 in
theorem open2 {p : Program} {e : Env} {s : State} {m : MethodId} {below : List Frame} {meth : Method} {c : Code} (l : Launch) {Rel : Mem → Mem → Prop} (ops : OpsAll Rel) (h0 : Rel M0C M0R) {b L : Nat} {xs : Nat → Int32} (hL : L ≤ 3072) (C0 : lw_At p s m meth c b L xs) {base : Nat} (hbase : s.heap.size = base) {D : va_G} {cA : Nat → ClassId} {adC adR adK adV : Nat → Nat} (hadC : adC = fun k => base + k) (hadR : adR = fun k => (base + 111) + k) (hK : va_K D vwCl (tysW (D, cA, adC, adK)) s) (hE : EW (fun q : Nat => ∃ k, k < shC.1.length ∧ q = adC k) adK adV s s.heap) {cs : List va_E} (hlen : cs.length = 111) (hcs : ∀ H : Heap, va_P D vwCl (cw base cs) H → va_P D vwCl (img shC (D, cA, adC, adK) M0C) H) {H1 : Heap} {locs1 : List Loc} {ls : Array Slot} {cells slots : Nat} (hc : cells = 111) (hs : slots ≤ 10000) (hP1 : va_P D vwCl (cw base cs) H1) (hS1 : va_S (fun q : Nat => s.heap.size ≤ q) s.heap H1 locs1) (hl : lv_has ls 4 [(0, .ref b)]) : W p l e room_1 s m #[Value.ref b] below meth c H1 locs1 cells slots (lw_Z below #[Value.ref b] s) (F0 m 7 ls [.ref (base + 0)]) := by
  obtain ⟨hx, hb, hr, hml, hown, hts, hX, hbl, hlocks, hgv⟩ := id C0
  subst hc
  refine lv_astore_n (lv' := [(1, .ref (base + 0)), (0, .ref b)]) hx hb dL_law_7 rfl hl (by decide) rfl (fun ls hl => ?_)
  refine va_forget (fun q hq => hS1.2.2 q hq) ?_
  have hS2 : va_S (fun q : Nat => base ≤ q) s.heap H1 [] := ⟨hS1.1, fun q h1 h2 => hS1.2.1 q h1 (by rw [hbase]; exact h2), fun q hq => by cases hq⟩
  obtain ⟨q11, hc11, hN11, hin11, ⟨ty11, hty11⟩, g111, g112, g113⟩ := nlL_10
  cases hc11
  refine va_new (ci := 11) (fs := blk (kds 11)) hx hb hts hin11 ty11 hty11 hown (hts _ g111) (hts _ g112) (hts _ g113) hK hP1 cw_D hS2 (fun q hq => by omega) rfl (fun j hj => bk_X11 _ rfl ty11 hty11 j hj) (by show 111 + 1 ≤ 600000; omega) (by show slots + 39 ≤ 7302250; omega) dL_law_8 (fun q H2 hP2 hD2 hS2 => ?_)
  refine W.size (fun hz2 => ?_)
  have hq : q = base + cs.length := new_at (P := (D, cA, adC, adK)) (by rw [hlen, ← hbase]; exact hz2) hP2 hD2
  rw [hlen] at hq
  rw [hq] at hP2 ⊢
  have hPc2 : va_P D vwCl (cw base cs) H2 := fun k q hq => hP2 k q (by rw [List.getElem?_append_left (List.getElem?_eq_some_iff.mp hq).1]; exact hq)
  have hPn2 : va_P D vwCl (cw (base + 111) ([] ++ [.inr (11, blk (kds 11))])) H2 := by
    intro k q hq
    obtain ⟨e1, e2⟩ := cw_inv hq
    match k, e1, e2 with
    | 0, e1, e2 =>
      have := hP2 111 (base + 111, .inr (11, blk (kds 11))) (by rw [List.getElem?_append_right (by simp [cw, hlen]), show (cw base cs).length = 111 by simp [cw, hlen]]; rfl)
      obtain ⟨a, e⟩ := q
      cases e1
      cases e2
      exact this
    | k + 1, e1, e2 => simp at e1
  have hlow2 : base + 111 + 0 < H2.size := (hPn2 0 _ (cw_get rfl)).lt
  have hslots : slots + 39 + 1934 ≤ 7302250 := by omega
  refine lv_dup hx hb dL_law_11 rfl ?_
  refine wlawI (P := (D, cA, adC, adK)) (base := base + 111) (rest := [.ref (base + 111 + 0)]) (Z := fun _ => True) hx hb hml hown hts hK hPn2 (by rw [hbase] at hz2; omega) (fun _ _ => trivial) (fun _ _ _ _ _ => trivial) (by rw [hbase]; exact hS2) (by omega) ci_X11 ilL_12 ⟨Nat.le_of_ble_eq_true rfl, Nat.le_of_ble_eq_true rfl⟩ rfl hl.1 (Nat.le_of_ble_eq_true rfl) dL_law_12 ⟨Nat.le_of_ble_eq_true rfl, hslots⟩ (fun H3 locs3 hP3 hk3 hS3 => ?_)
  refine lv_astore_n (lv' := [(2, .ref (base + 111 + 0)), (1, .ref (base + 0)), (0, .ref b)]) hx hb dL_law_15 rfl hl (by decide) rfl (fun ls hl => ?_)
  have hPC3 : va_P D vwCl (cw base cs) H3 := hPc2.kept (fun k q hq => by
    obtain ⟨e1, e2⟩ := cw_inv hq
    have hk : k < 111 := by have := (List.getElem?_eq_some_iff.mp e1).1; rw [hlen] at this; exact this
    exact hk3 q.1 (by omega))
  have hPR3 : va_P D vwCl (img shR (D, cA, adR, adK) M0R) H3 := by
    rw [hadR]
    exact start_R (P0 := (D, cA, adC, adK)) rfl hP3
  exact open3 l ops h0 hL C0 hbase hadC hadR hK hE (hcs H3 hPC3) hPR3 hS3 hl (Nat.le_of_ble_eq_true rfl) hslots
