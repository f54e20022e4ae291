/-! THE START: classes, texts, the two objects; the memory that the constructors leave -/
def M0C : Mem := (fun i j => if i = 6 ∧ j = 5 then -1 else 0, fun i j => if i = 46 ∧ j = 1 then 1 else if i = 58 ∧ j = 1 then 1 else 0)
def M0R : Mem := (fun i j => if i = 0 ∧ j = 15 then -1 else if i = 1 ∧ j < 4 then -1 else 0, fun _ _ => 0)
theorem arrV_congr {cI : ClassId} {N : Nat} {f g : Nat → Value} (h : ∀ j, j < N → f j = g j) : arrV cI N f = arrV cI N g := by
  unfold arrV
  congr 2
  funext j
  exact h j.val j.isLt
theorem tr_eq {D : va_G} {base k : Nat} {cs : List va_E} {H : Heap} {e e2 : va_E} (hP : va_P D vwCl (cw base cs) H) (he : cs[k]? = some e) (hw : e2 = e) : va_at D vwCl (base + k, e2) H := by
  subst hw
  exact hP k _ (cw_get he)
theorem tr_i {D : va_G} {base k : Nat} {cs : List va_E} {H : Heap} {cI : ClassId} {N : Nat} {f g : Nat → Int32} (hP : va_P D vwCl (cw base cs) H) (he : cs[k]? = some (.inl (cI, N, .inl f))) (hw : ∀ j, j < N → f j = g j) : va_at D vwCl (base + k, .inl (cI, N, .inl g)) H := by
  have h := hP k _ (cw_get he)
  show H[base + k]? = some (vp_cell cI (N, .inl g))
  have h2 : H[base + k]? = some (vp_cell cI (N, .inl f)) := h
  rw [h2, vp_cell_i, vp_cell_i, arrV_congr (fun j hj => by rw [hw j hj])]
theorem tr_q {D : va_G} {base k : Nat} {cs : List va_E} {H : Heap} {cI : ClassId} {N : Nat} {f g : Nat → Option Nat} (hP : va_P D vwCl (cw base cs) H) (he : cs[k]? = some (.inl (cI, N, .inr (.inr (.inr (.inr f)))))) (hw : ∀ j, j < N → f j = g j) : va_at D vwCl (base + k, .inl (cI, N, .inr (.inr (.inr (.inr g))))) H := by
  have h := hP k _ (cw_get he)
  show H[base + k]? = some (vp_cell cI (N, .inr (.inr (.inr (.inr g)))))
  have h2 : H[base + k]? = some (vp_cell cI (N, .inr (.inr (.inr (.inr f))))) := h
  rw [h2, vp_cell_q, vp_cell_q, arrV_congr (fun j hj => by rw [hw j hj])]
def allAt (Q : Nat → Nat × Nat → Prop) : Nat → List (Nat × Nat) → Prop
  | _, [] => True
  | n, e :: l => Q n e ∧ allAt Q (n + 1) l
theorem allAt_get {Q : Nat → Nat × Nat → Prop} : ∀ (l : List (Nat × Nat)) (n k : Nat) (e : Nat × Nat), allAt Q n l → l[k]? = some e → Q (n + k) e
  | [], _, _, _, _, h => by simp at h
  | a :: l, n, 0, e, h, he => by
    rw [List.getElem?_cons_zero] at he
    cases he
    exact h.1
  | a :: l, n, k + 1, e, h, he => by
    rw [List.getElem?_cons_succ] at he
    have h2 := allAt_get l (n + 1) k e h.2 he
    rw [show n + 1 + k = n + (k + 1) by omega] at h2
    exact h2
theorem allAt_img {X : Wx} {P : Wp} {M : Mem} {H : Heap} (h : allAt (fun k t => va_at P.1 vwCl (P.2.2.1 k, wcell X P M k t) H) 0 X.1) : va_P P.1 vwCl (img X P M) H := by
  intro k q hq
  obtain ⟨hk, -⟩ := img_inv hq
  have ht := List.getElem?_eq_getElem hk
  rw [img_get ht] at hq
  cases hq
  have h2 := allAt_get X.1 0 k _ h ht
  rw [Nat.zero_add] at h2
  exact h2
set_option maxRecDepth 100000 in
set_option maxHeartbeats 8000000 in
theorem start_C {D : va_G} {cA : Nat → ClassId} {adK : Nat → Nat} {P0 : Wp} (hP0 : P0.2.1 = cA) {base : Nat} {H : Heap} (hP : va_P D vwCl (cw base (fin_X10 P0 base)) H) : va_P D vwCl (img shC (D, cA, (fun k => base + k), adK) M0C) H := by
  subst hP0
  refine allAt_img ?_
  exact ⟨tr_eq (k := 0) hP rfl rfl, tr_q (k := 1) hP rfl (fun j hj => by match j, hj with
    | 0, _ => rfl
    | 1, _ => rfl
    | 2, _ => rfl), tr_eq (k := 2) hP rfl rfl, tr_q (k := 3) hP rfl (fun j hj => by match j, hj with
    | 0, _ => rfl
    | 1, _ => rfl
    | 2, _ => rfl
    | 3, _ => rfl), tr_eq (k := 4) hP rfl rfl, tr_eq (k := 5) hP rfl rfl, tr_eq (k := 6) hP rfl rfl, tr_eq (k := 7) hP rfl rfl, tr_eq (k := 8) hP rfl rfl, tr_eq (k := 9) hP rfl rfl, tr_eq (k := 10) hP rfl rfl, tr_eq (k := 11) hP rfl rfl, tr_eq (k := 12) hP rfl rfl, tr_eq (k := 13) hP rfl rfl, tr_eq (k := 14) hP rfl rfl, tr_eq (k := 15) hP rfl rfl, tr_eq (k := 16) hP rfl rfl, tr_eq (k := 17) hP rfl rfl, tr_eq (k := 18) hP rfl rfl, tr_eq (k := 19) hP rfl rfl, tr_eq (k := 20) hP rfl rfl, tr_eq (k := 21) hP rfl rfl, tr_eq (k := 22) hP rfl rfl, tr_eq (k := 23) hP rfl rfl, tr_eq (k := 24) hP rfl rfl, tr_eq (k := 25) hP rfl rfl, tr_eq (k := 26) hP rfl rfl, tr_eq (k := 27) hP rfl rfl, tr_eq (k := 28) hP rfl rfl, tr_eq (k := 29) hP rfl rfl, tr_eq (k := 30) hP rfl rfl, tr_eq (k := 31) hP rfl rfl, tr_eq (k := 32) hP rfl rfl, tr_eq (k := 33) hP rfl rfl, tr_eq (k := 34) hP rfl rfl, tr_eq (k := 35) hP rfl rfl, tr_eq (k := 36) hP rfl rfl, tr_eq (k := 37) hP rfl rfl, tr_eq (k := 38) hP rfl rfl, tr_eq (k := 39) hP rfl rfl, tr_eq (k := 40) hP rfl rfl, tr_eq (k := 41) hP rfl rfl, tr_eq (k := 42) hP rfl rfl, tr_eq (k := 43) hP rfl rfl, tr_eq (k := 44) hP rfl rfl, tr_eq (k := 45) hP rfl rfl, tr_eq (k := 46) hP rfl rfl, tr_eq (k := 47) hP rfl rfl, tr_eq (k := 48) hP rfl rfl, tr_eq (k := 49) hP rfl rfl, tr_eq (k := 50) hP rfl rfl, tr_eq (k := 51) hP rfl rfl, tr_eq (k := 52) hP rfl rfl, tr_eq (k := 53) hP rfl rfl, tr_eq (k := 54) hP rfl rfl, tr_eq (k := 55) hP rfl rfl, tr_eq (k := 56) hP rfl rfl, tr_eq (k := 57) hP rfl rfl, tr_eq (k := 58) hP rfl rfl, tr_eq (k := 59) hP rfl rfl, tr_eq (k := 60) hP rfl rfl, tr_eq (k := 61) hP rfl rfl, tr_eq (k := 62) hP rfl rfl, tr_eq (k := 63) hP rfl rfl, tr_eq (k := 64) hP rfl rfl, tr_eq (k := 65) hP rfl rfl, tr_eq (k := 66) hP rfl rfl, tr_eq (k := 67) hP rfl rfl, tr_eq (k := 68) hP rfl rfl, tr_eq (k := 69) hP rfl rfl, tr_eq (k := 70) hP rfl rfl, tr_eq (k := 71) hP rfl rfl, tr_eq (k := 72) hP rfl rfl, tr_eq (k := 73) hP rfl rfl, tr_eq (k := 74) hP rfl rfl, tr_eq (k := 75) hP rfl rfl, tr_eq (k := 76) hP rfl rfl, tr_eq (k := 77) hP rfl rfl, tr_eq (k := 78) hP rfl rfl, tr_eq (k := 79) hP rfl rfl, tr_eq (k := 80) hP rfl rfl, tr_eq (k := 81) hP rfl rfl, tr_eq (k := 82) hP rfl rfl, tr_eq (k := 83) hP rfl rfl, tr_eq (k := 84) hP rfl rfl, tr_eq (k := 85) hP rfl rfl, tr_eq (k := 86) hP rfl rfl, tr_eq (k := 87) hP rfl rfl, tr_eq (k := 88) hP rfl rfl, tr_eq (k := 89) hP rfl rfl, tr_eq (k := 90) hP rfl rfl, tr_eq (k := 91) hP rfl rfl, tr_eq (k := 92) hP rfl rfl, tr_eq (k := 93) hP rfl rfl, tr_eq (k := 94) hP rfl rfl, tr_eq (k := 95) hP rfl rfl, tr_eq (k := 96) hP rfl rfl, tr_eq (k := 97) hP rfl rfl, tr_eq (k := 98) hP rfl rfl, tr_eq (k := 99) hP rfl rfl, tr_eq (k := 100) hP rfl rfl, tr_eq (k := 101) hP rfl rfl, tr_eq (k := 102) hP rfl rfl, tr_eq (k := 103) hP rfl rfl, tr_eq (k := 104) hP rfl rfl, tr_eq (k := 105) hP rfl rfl, tr_eq (k := 106) hP rfl rfl, tr_eq (k := 107) hP rfl rfl, tr_eq (k := 108) hP rfl rfl, tr_eq (k := 109) hP rfl rfl, tr_eq (k := 110) hP rfl rfl, trivial⟩
set_option maxRecDepth 100000 in
set_option maxHeartbeats 8000000 in
theorem start_R {D : va_G} {cA : Nat → ClassId} {adK : Nat → Nat} {P0 : Wp} (hP0 : P0.2.1 = cA) {base : Nat} {H : Heap} (hP : va_P D vwCl (cw base (fin_X11 P0 base)) H) : va_P D vwCl (img shR (D, cA, (fun k => base + k), adK) M0R) H := by
  subst hP0
  refine allAt_img ?_
  exact ⟨tr_eq (k := 0) hP rfl rfl, tr_i (k := 1) hP rfl (fun j hj => by match j, hj with
    | 0, _ => rfl
    | 1, _ => rfl
    | 2, _ => rfl
    | 3, _ => rfl), tr_eq (k := 2) hP rfl rfl, tr_eq (k := 3) hP rfl rfl, tr_eq (k := 4) hP rfl rfl, tr_eq (k := 5) hP rfl rfl, tr_eq (k := 6) hP rfl rfl, tr_eq (k := 7) hP rfl rfl, tr_eq (k := 8) hP rfl rfl, tr_eq (k := 9) hP rfl rfl, tr_eq (k := 10) hP rfl rfl, tr_eq (k := 11) hP rfl rfl, tr_eq (k := 12) hP rfl rfl, tr_eq (k := 13) hP rfl rfl, tr_eq (k := 14) hP rfl rfl, tr_eq (k := 15) hP rfl rfl, tr_eq (k := 16) hP rfl rfl, tr_eq (k := 17) hP rfl rfl, tr_eq (k := 18) hP rfl rfl, tr_eq (k := 19) hP rfl rfl, tr_eq (k := 20) hP rfl rfl, trivial⟩
