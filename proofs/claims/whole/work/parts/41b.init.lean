def g1_0 (P : Wp) (base n : Nat) : List va_E := [.inr (1, [.null, .null])]
def g1_1 (P : Wp) (base n : Nat) : List va_E := [.inr (1, [.null, .null]), .inr (5, [.int 0, .int 0, .int 0, .int 0, .int 0, .int 0, .int 0, .int 0, .null, .null, .null, .null, .null])]
def g1_2 (P : Wp) (base n : Nat) : List va_E := [.inr (1, [.null, .null]), .inr (5, [.int 0, .int 0, .int 0, .int 0, .int 0, .int 0, .int 0, .int 0, .ref (base + (n + 2)), .ref (base + (n + 3)), .ref (base + (n + 4)), .ref (base + (n + 5)), .ref (base + (n + 6))]), .inl (P.2.1 1, 7, .inl (fun _ => 0)), .inl (P.2.1 1, 6, .inl (fun _ => 0)), .inl (P.2.1 1, 6, .inl (fun _ => 0)), .inl (P.2.1 1, 6, .inl (fun _ => 0)), .inl (P.2.1 1, 6, .inl (fun _ => 0))]
def g1_3 (P : Wp) (base n : Nat) : List va_E := [.inr (1, [.ref (base + (n + 1)), .null]), .inr (5, [.int 0, .int 0, .int 0, .int 0, .int 0, .int 0, .int 0, .int 0, .ref (base + (n + 2)), .ref (base + (n + 3)), .ref (base + (n + 4)), .ref (base + (n + 5)), .ref (base + (n + 6))]), .inl (P.2.1 1, 7, .inl (fun _ => 0)), .inl (P.2.1 1, 6, .inl (fun _ => 0)), .inl (P.2.1 1, 6, .inl (fun _ => 0)), .inl (P.2.1 1, 6, .inl (fun _ => 0)), .inl (P.2.1 1, 6, .inl (fun _ => 0))]
def g1_4 (P : Wp) (base n : Nat) : List va_E := [.inr (1, [.ref (base + (n + 1)), .null]), .inr (5, [.int 0, .int 0, .int 0, .int 0, .int 0, .int 0, .int 0, .int 0, .ref (base + (n + 2)), .ref (base + (n + 3)), .ref (base + (n + 4)), .ref (base + (n + 5)), .ref (base + (n + 6))]), .inl (P.2.1 1, 7, .inl (fun _ => 0)), .inl (P.2.1 1, 6, .inl (fun _ => 0)), .inl (P.2.1 1, 6, .inl (fun _ => 0)), .inl (P.2.1 1, 6, .inl (fun _ => 0)), .inl (P.2.1 1, 6, .inl (fun _ => 0)), .inr (0, [.int 0, .int 0, .null, .null, .null, .null])]
def g1_5 (P : Wp) (base n : Nat) : List va_E := [.inr (1, [.ref (base + (n + 1)), .null]), .inr (5, [.int 0, .int 0, .int 0, .int 0, .int 0, .int 0, .int 0, .int 0, .ref (base + (n + 2)), .ref (base + (n + 3)), .ref (base + (n + 4)), .ref (base + (n + 5)), .ref (base + (n + 6))]), .inl (P.2.1 1, 7, .inl (fun _ => 0)), .inl (P.2.1 1, 6, .inl (fun _ => 0)), .inl (P.2.1 1, 6, .inl (fun _ => 0)), .inl (P.2.1 1, 6, .inl (fun _ => 0)), .inl (P.2.1 1, 6, .inl (fun _ => 0)), .inr (0, [.int 0, .int 0, .ref (base + (n + 8)), .ref (base + (n + 9)), .ref (base + (n + 10)), .ref (base + (n + 11))]), .inl (P.2.1 1, 30, .inl (fun _ => 0)), .inl (P.2.1 1, 30, .inl (fun _ => 0)), .inl (P.2.1 1, 30, .inl (fun _ => 0)), .inl (P.2.1 1, 105, .inl (fun _ => 0))]
def g1_6 (P : Wp) (base n : Nat) : List va_E := [.inr (1, [.ref (base + (n + 1)), .ref (base + (n + 7))]), .inr (5, [.int 0, .int 0, .int 0, .int 0, .int 0, .int 0, .int 0, .int 0, .ref (base + (n + 2)), .ref (base + (n + 3)), .ref (base + (n + 4)), .ref (base + (n + 5)), .ref (base + (n + 6))]), .inl (P.2.1 1, 7, .inl (fun _ => 0)), .inl (P.2.1 1, 6, .inl (fun _ => 0)), .inl (P.2.1 1, 6, .inl (fun _ => 0)), .inl (P.2.1 1, 6, .inl (fun _ => 0)), .inl (P.2.1 1, 6, .inl (fun _ => 0)), .inr (0, [.int 0, .int 0, .ref (base + (n + 8)), .ref (base + (n + 9)), .ref (base + (n + 10)), .ref (base + (n + 11))]), .inl (P.2.1 1, 30, .inl (fun _ => 0)), .inl (P.2.1 1, 30, .inl (fun _ => 0)), .inl (P.2.1 1, 30, .inl (fun _ => 0)), .inl (P.2.1 1, 105, .inl (fun _ => 0))]
def fin_X1 (P : Wp) (base n : Nat) : List va_E := (g1_6 P base n)
set_option maxRecDepth 100000 in
set_option maxHeartbeats 8000000 in
theorem ci_X1 {l : Launch} {P : Wp} {base n : Nat} {pre : List va_E} (hn : pre.length = n) : CI l P yX1_init bX1_init 1 2 40 11 245 [.ref (base + n)] base n (.inr (1, blk (kds 1))) (fin_X1 P base n) pre (fun _ => True) := by
  refine ci_of (by decide) rfl (Nat.le_of_ble_eq_true rfl) (fun p e s m args below meth c C ls hl hw => ?_)
  have hx := C.1
  have hb := C.2.1
  replace hl : lv_has ls 1 [(0, .ref (base + (n + 0)))] := hl
  replace hw : Hn P base (pre ++ (g1_0 P base n)) s s.heap [] := hw
  refine lv_aload_n hx hb dX1_init_0 rfl (lv_at hl 0 rfl) ?_
  refine nobj C olX1 obj_i obj_c hl.1 (Nat.le_of_ble_eq_true rfl) (Nat.le_of_ble_eq_true rfl) dX1_init_1 ?_
  refine lv_aload_n hx hb dX1_init_4 rfl (lv_at hl 0 rfl) ?_
  refine nnew (pre := pre) (cs := (g1_0 P base n)) C hw hn rfl nlX1_9 rfl bk_X5 (Nat.le_of_ble_eq_true rfl) (Nat.le_of_ble_eq_true rfl) dX1_init_5 (fun H hw => ?_)
  replace hw : Hn P base (pre ++ (g1_1 P base n)) s _ _ := hw
  refine lv_dup hx hb dX1_init_8 rfl ?_
  replace hw : Hn P base (pre ++ ((g1_0 P base n) ++ [.inr (5, blk (kds 5))])) s _ _ := hw
  refine ncall (pre := pre) (cs := (g1_0 P base n)) (c0 := .inr (5, blk (kds 5))) (As := []) (rest := [.ref (base + (n + 1)), .ref (base + (n + 0))]) C hw hn rfl (ci_X5 (n := n + 1) (pre := pre ++ (g1_0 P base n)) (pre_more hn rfl)) ilX1_11 ⟨Nat.le_of_ble_eq_true rfl, Nat.le_of_ble_eq_true rfl⟩ rfl rfl hl.1 (Nat.le_of_ble_eq_true rfl) dX1_init_9 ⟨Nat.le_of_ble_eq_true rfl, Nat.le_of_ble_eq_true rfl⟩ (fun H locs hw => ?_)
  replace hw : Hn P base (pre ++ (g1_2 P base n)) s _ _ := hw
  refine nput (pre := pre) (cs := (g1_2 P base n)) (j := 0) (N := 2) C hw hn plX1_12 rfl rfl (by decide) (by rfl) (by rfl) dX1_init_12 (fun H locs hw => ?_)
  replace hw : Hn P base (pre ++ (g1_3 P base n)) s _ _ := hw
  refine lv_aload_n hx hb dX1_init_15 rfl (lv_at hl 0 rfl) ?_
  refine nnew (pre := pre) (cs := (g1_3 P base n)) C hw hn rfl nlX1_18 rfl bk_X0 (Nat.le_of_ble_eq_true rfl) (Nat.le_of_ble_eq_true rfl) dX1_init_16 (fun H hw => ?_)
  replace hw : Hn P base (pre ++ (g1_4 P base n)) s _ _ := hw
  refine lv_dup hx hb dX1_init_19 rfl ?_
  replace hw : Hn P base (pre ++ ((g1_3 P base n) ++ [.inr (0, blk (kds 0))])) s _ _ := hw
  refine ncall (pre := pre) (cs := (g1_3 P base n)) (c0 := .inr (0, blk (kds 0))) (As := []) (rest := [.ref (base + (n + 7)), .ref (base + (n + 0))]) C hw hn rfl (ci_X0 (n := n + 7) (pre := pre ++ (g1_3 P base n)) (pre_more hn rfl)) ilX1_20 ⟨Nat.le_of_ble_eq_true rfl, Nat.le_of_ble_eq_true rfl⟩ rfl rfl hl.1 (Nat.le_of_ble_eq_true rfl) dX1_init_20 ⟨Nat.le_of_ble_eq_true rfl, Nat.le_of_ble_eq_true rfl⟩ (fun H locs hw => ?_)
  replace hw : Hn P base (pre ++ (g1_5 P base n)) s _ _ := hw
  refine nput (pre := pre) (cs := (g1_5 P base n)) (j := 0) (N := 2) C hw hn plX1_21 rfl rfl (by decide) (by rfl) (by rfl) dX1_init_23 (fun H locs hw => ?_)
  replace hw : Hn P base (pre ++ (g1_6 P base n)) s _ _ := hw
  exact nvret C hw rfl dX1_init_26
def g2_0 (P : Wp) (base n : Nat) (b q1 : Nat) : List va_E := [.inr (2, [.null, .null, .int 0, .null, .null, .null, .null, .null, .null, .null])]
def g2_1 (P : Wp) (base n : Nat) (b q1 : Nat) : List va_E := [.inr (2, [.null, .null, .int 0, .null, .null, .null, .null, .null, .null, .null]), .inl (P.2.1 1, 90, .inl (fun _ => 0))]
def g2_2 (P : Wp) (base n : Nat) (b q1 : Nat) : List va_E := [.inr (2, [.null, .null, .int 0, .ref (base + (n + 1)), .null, .null, .null, .null, .null, .null]), .inl (P.2.1 1, 90, .inl (fun _ => 0))]
def g2_3 (P : Wp) (base n : Nat) (b q1 : Nat) : List va_E := [.inr (2, [.null, .null, .int 0, .ref (base + (n + 1)), .null, .null, .null, .null, .null, .null]), .inl (P.2.1 1, 90, .inl (fun _ => 0)), .inl (P.2.1 1, 90, .inl (fun _ => 0))]
def g2_4 (P : Wp) (base n : Nat) (b q1 : Nat) : List va_E := [.inr (2, [.null, .null, .int 0, .ref (base + (n + 1)), .ref (base + (n + 2)), .null, .null, .null, .null, .null]), .inl (P.2.1 1, 90, .inl (fun _ => 0)), .inl (P.2.1 1, 90, .inl (fun _ => 0))]
def g2_5 (P : Wp) (base n : Nat) (b q1 : Nat) : List va_E := [.inr (2, [.null, .null, .int 0, .ref (base + (n + 1)), .ref (base + (n + 2)), .null, .null, .null, .null, .null]), .inl (P.2.1 1, 90, .inl (fun _ => 0)), .inl (P.2.1 1, 90, .inl (fun _ => 0)), .inl (P.2.1 1, 90, .inl (fun _ => 0))]
def g2_6 (P : Wp) (base n : Nat) (b q1 : Nat) : List va_E := [.inr (2, [.null, .null, .int 0, .ref (base + (n + 1)), .ref (base + (n + 2)), .ref (base + (n + 3)), .null, .null, .null, .null]), .inl (P.2.1 1, 90, .inl (fun _ => 0)), .inl (P.2.1 1, 90, .inl (fun _ => 0)), .inl (P.2.1 1, 90, .inl (fun _ => 0))]
def g2_7 (P : Wp) (base n : Nat) (b q1 : Nat) : List va_E := [.inr (2, [.null, .null, .int 0, .ref (base + (n + 1)), .ref (base + (n + 2)), .ref (base + (n + 3)), .null, .null, .null, .null]), .inl (P.2.1 1, 90, .inl (fun _ => 0)), .inl (P.2.1 1, 90, .inl (fun _ => 0)), .inl (P.2.1 1, 90, .inl (fun _ => 0)), .inl (P.2.1 1, 6, .inl (fun _ => 0))]
def g2_8 (P : Wp) (base n : Nat) (b q1 : Nat) : List va_E := [.inr (2, [.null, .null, .int 0, .ref (base + (n + 1)), .ref (base + (n + 2)), .ref (base + (n + 3)), .ref (base + (n + 4)), .null, .null, .null]), .inl (P.2.1 1, 90, .inl (fun _ => 0)), .inl (P.2.1 1, 90, .inl (fun _ => 0)), .inl (P.2.1 1, 90, .inl (fun _ => 0)), .inl (P.2.1 1, 6, .inl (fun _ => 0))]
def g2_9 (P : Wp) (base n : Nat) (b q1 : Nat) : List va_E := [.inr (2, [.null, .null, .int 0, .ref (base + (n + 1)), .ref (base + (n + 2)), .ref (base + (n + 3)), .ref (base + (n + 4)), .null, .null, .null]), .inl (P.2.1 1, 90, .inl (fun _ => 0)), .inl (P.2.1 1, 90, .inl (fun _ => 0)), .inl (P.2.1 1, 90, .inl (fun _ => 0)), .inl (P.2.1 1, 6, .inl (fun _ => 0)), .inl (P.2.1 1, 6, .inl (fun _ => 0))]
def g2_10 (P : Wp) (base n : Nat) (b q1 : Nat) : List va_E := [.inr (2, [.null, .null, .int 0, .ref (base + (n + 1)), .ref (base + (n + 2)), .ref (base + (n + 3)), .ref (base + (n + 4)), .ref (base + (n + 5)), .null, .null]), .inl (P.2.1 1, 90, .inl (fun _ => 0)), .inl (P.2.1 1, 90, .inl (fun _ => 0)), .inl (P.2.1 1, 90, .inl (fun _ => 0)), .inl (P.2.1 1, 6, .inl (fun _ => 0)), .inl (P.2.1 1, 6, .inl (fun _ => 0))]
def g2_11 (P : Wp) (base n : Nat) (b q1 : Nat) : List va_E := [.inr (2, [.null, .null, .int 0, .ref (base + (n + 1)), .ref (base + (n + 2)), .ref (base + (n + 3)), .ref (base + (n + 4)), .ref (base + (n + 5)), .null, .null]), .inl (P.2.1 1, 90, .inl (fun _ => 0)), .inl (P.2.1 1, 90, .inl (fun _ => 0)), .inl (P.2.1 1, 90, .inl (fun _ => 0)), .inl (P.2.1 1, 6, .inl (fun _ => 0)), .inl (P.2.1 1, 6, .inl (fun _ => 0)), .inl (P.2.1 1, 6, .inl (fun _ => 0))]
def g2_12 (P : Wp) (base n : Nat) (b q1 : Nat) : List va_E := [.inr (2, [.null, .null, .int 0, .ref (base + (n + 1)), .ref (base + (n + 2)), .ref (base + (n + 3)), .ref (base + (n + 4)), .ref (base + (n + 5)), .ref (base + (n + 6)), .null]), .inl (P.2.1 1, 90, .inl (fun _ => 0)), .inl (P.2.1 1, 90, .inl (fun _ => 0)), .inl (P.2.1 1, 90, .inl (fun _ => 0)), .inl (P.2.1 1, 6, .inl (fun _ => 0)), .inl (P.2.1 1, 6, .inl (fun _ => 0)), .inl (P.2.1 1, 6, .inl (fun _ => 0))]
def g2_13 (P : Wp) (base n : Nat) (b q1 : Nat) : List va_E := [.inr (2, [.null, .null, .int 0, .ref (base + (n + 1)), .ref (base + (n + 2)), .ref (base + (n + 3)), .ref (base + (n + 4)), .ref (base + (n + 5)), .ref (base + (n + 6)), .null]), .inl (P.2.1 1, 90, .inl (fun _ => 0)), .inl (P.2.1 1, 90, .inl (fun _ => 0)), .inl (P.2.1 1, 90, .inl (fun _ => 0)), .inl (P.2.1 1, 6, .inl (fun _ => 0)), .inl (P.2.1 1, 6, .inl (fun _ => 0)), .inl (P.2.1 1, 6, .inl (fun _ => 0)), .inl (P.2.1 1, 6, .inl (fun _ => 0))]
def g2_14 (P : Wp) (base n : Nat) (b q1 : Nat) : List va_E := [.inr (2, [.null, .null, .int 0, .ref (base + (n + 1)), .ref (base + (n + 2)), .ref (base + (n + 3)), .ref (base + (n + 4)), .ref (base + (n + 5)), .ref (base + (n + 6)), .ref (base + (n + 7))]), .inl (P.2.1 1, 90, .inl (fun _ => 0)), .inl (P.2.1 1, 90, .inl (fun _ => 0)), .inl (P.2.1 1, 90, .inl (fun _ => 0)), .inl (P.2.1 1, 6, .inl (fun _ => 0)), .inl (P.2.1 1, 6, .inl (fun _ => 0)), .inl (P.2.1 1, 6, .inl (fun _ => 0)), .inl (P.2.1 1, 6, .inl (fun _ => 0))]
def g2_15 (P : Wp) (base n : Nat) (b q1 : Nat) : List va_E := [.inr (2, [.ref (base + b), .null, .int 0, .ref (base + (n + 1)), .ref (base + (n + 2)), .ref (base + (n + 3)), .ref (base + (n + 4)), .ref (base + (n + 5)), .ref (base + (n + 6)), .ref (base + (n + 7))]), .inl (P.2.1 1, 90, .inl (fun _ => 0)), .inl (P.2.1 1, 90, .inl (fun _ => 0)), .inl (P.2.1 1, 90, .inl (fun _ => 0)), .inl (P.2.1 1, 6, .inl (fun _ => 0)), .inl (P.2.1 1, 6, .inl (fun _ => 0)), .inl (P.2.1 1, 6, .inl (fun _ => 0)), .inl (P.2.1 1, 6, .inl (fun _ => 0))]
def g2_16 (P : Wp) (base n : Nat) (b q1 : Nat) : List va_E := [.inr (2, [.ref (base + b), .ref (base + q1), .int 0, .ref (base + (n + 1)), .ref (base + (n + 2)), .ref (base + (n + 3)), .ref (base + (n + 4)), .ref (base + (n + 5)), .ref (base + (n + 6)), .ref (base + (n + 7))]), .inl (P.2.1 1, 90, .inl (fun _ => 0)), .inl (P.2.1 1, 90, .inl (fun _ => 0)), .inl (P.2.1 1, 90, .inl (fun _ => 0)), .inl (P.2.1 1, 6, .inl (fun _ => 0)), .inl (P.2.1 1, 6, .inl (fun _ => 0)), .inl (P.2.1 1, 6, .inl (fun _ => 0)), .inl (P.2.1 1, 6, .inl (fun _ => 0))]
def fin_X2 (P : Wp) (base n : Nat) (b q1 : Nat) : List va_E := (g2_16 P base n b q1)
set_option maxRecDepth 100000 in
set_option maxHeartbeats 8000000 in
theorem ci_X2 {l : Launch} {P : Wp} {base n : Nat} {b q1 q2 : Nat} {pre : List va_E} (hn : pre.length = n) (hb2 : pre[b]? = some (.inr (1, [.ref (base + q1), .ref (base + q2)]))) (hb3 : b < pre.length) : CI l P yX2_init bX2_init 2 1 20 7 294 [.ref (base + n), .ref (base + b)] base n (.inr (2, blk (kds 2))) (fin_X2 P base n b q1) pre (fun _ => True) := by
  refine ci_of (by decide) rfl (Nat.le_of_ble_eq_true rfl) (fun p e s m args below meth c C ls hl hw => ?_)
  have hx := C.1
  have hb := C.2.1
  replace hl : lv_has ls 2 [(0, .ref (base + (n + 0))), (1, .ref (base + b))] := hl
  replace hw : Hn P base (pre ++ (g2_0 P base n b q1)) s s.heap [] := hw
  refine lv_aload_n hx hb dX2_init_0 rfl (lv_at hl 0 rfl) ?_
  refine nobj C olX2 obj_i obj_c hl.1 (Nat.le_of_ble_eq_true rfl) (Nat.le_of_ble_eq_true rfl) dX2_init_1 ?_
  refine lv_aload_n hx hb dX2_init_4 rfl (lv_at hl 0 rfl) ?_
  refine lv_bipush (v := 90) hx hb dX2_init_5 (by decide) ?_
  refine nnewa (pre := pre) (cs := (g2_0 P base n b q1)) (t0 := 0) (atype := .int) (ty := .int) (N := 90) (a0 := (90, .inl (fun _ => 0))) C hw hn rfl rfl ac_int rfl (by intro q h; cases h) (fun _ => rfl) (by decide) (by decide) (Nat.le_of_ble_eq_true rfl) (Nat.le_of_ble_eq_true rfl) (Nat.le_of_ble_eq_true rfl) dX2_init_7 (fun H hw => ?_)
  replace hw : Hn P base (pre ++ (g2_1 P base n b q1)) s _ _ := hw
  refine nput (pre := pre) (cs := (g2_1 P base n b q1)) (j := 0) (N := 10) C hw hn plX2_9 rfl rfl (by decide) (by rfl) (by rfl) dX2_init_9 (fun H locs hw => ?_)
  replace hw : Hn P base (pre ++ (g2_2 P base n b q1)) s _ _ := hw
  refine lv_aload_n hx hb dX2_init_12 rfl (lv_at hl 0 rfl) ?_
  refine lv_bipush (v := 90) hx hb dX2_init_13 (by decide) ?_
  refine nnewa (pre := pre) (cs := (g2_2 P base n b q1)) (t0 := 0) (atype := .int) (ty := .int) (N := 90) (a0 := (90, .inl (fun _ => 0))) C hw hn rfl rfl ac_int rfl (by intro q h; cases h) (fun _ => rfl) (by decide) (by decide) (Nat.le_of_ble_eq_true rfl) (Nat.le_of_ble_eq_true rfl) (Nat.le_of_ble_eq_true rfl) dX2_init_15 (fun H hw => ?_)
  replace hw : Hn P base (pre ++ (g2_3 P base n b q1)) s _ _ := hw
  refine nput (pre := pre) (cs := (g2_3 P base n b q1)) (j := 0) (N := 10) C hw hn plX2_15 rfl rfl (by decide) (by rfl) (by rfl) dX2_init_17 (fun H locs hw => ?_)
  replace hw : Hn P base (pre ++ (g2_4 P base n b q1)) s _ _ := hw
  refine lv_aload_n hx hb dX2_init_20 rfl (lv_at hl 0 rfl) ?_
  refine lv_bipush (v := 90) hx hb dX2_init_21 (by decide) ?_
  refine nnewa (pre := pre) (cs := (g2_4 P base n b q1)) (t0 := 0) (atype := .int) (ty := .int) (N := 90) (a0 := (90, .inl (fun _ => 0))) C hw hn rfl rfl ac_int rfl (by intro q h; cases h) (fun _ => rfl) (by decide) (by decide) (Nat.le_of_ble_eq_true rfl) (Nat.le_of_ble_eq_true rfl) (Nat.le_of_ble_eq_true rfl) dX2_init_23 (fun H hw => ?_)
  replace hw : Hn P base (pre ++ (g2_5 P base n b q1)) s _ _ := hw
  refine nput (pre := pre) (cs := (g2_5 P base n b q1)) (j := 0) (N := 10) C hw hn plX2_18 rfl rfl (by decide) (by rfl) (by rfl) dX2_init_25 (fun H locs hw => ?_)
  replace hw : Hn P base (pre ++ (g2_6 P base n b q1)) s _ _ := hw
  refine lv_aload_n hx hb dX2_init_28 rfl (lv_at hl 0 rfl) ?_
  refine lv_bipush (v := 6) hx hb dX2_init_29 (by decide) ?_
  refine nnewa (pre := pre) (cs := (g2_6 P base n b q1)) (t0 := 0) (atype := .int) (ty := .int) (N := 6) (a0 := (6, .inl (fun _ => 0))) C hw hn rfl rfl ac_int rfl (by intro q h; cases h) (fun _ => rfl) (by decide) (by decide) (Nat.le_of_ble_eq_true rfl) (Nat.le_of_ble_eq_true rfl) (Nat.le_of_ble_eq_true rfl) dX2_init_31 (fun H hw => ?_)
  replace hw : Hn P base (pre ++ (g2_7 P base n b q1)) s _ _ := hw
  refine nput (pre := pre) (cs := (g2_7 P base n b q1)) (j := 0) (N := 10) C hw hn plX2_21 rfl rfl (by decide) (by rfl) (by rfl) dX2_init_33 (fun H locs hw => ?_)
  replace hw : Hn P base (pre ++ (g2_8 P base n b q1)) s _ _ := hw
  refine lv_aload_n hx hb dX2_init_36 rfl (lv_at hl 0 rfl) ?_
  refine lv_bipush (v := 6) hx hb dX2_init_37 (by decide) ?_
  refine nnewa (pre := pre) (cs := (g2_8 P base n b q1)) (t0 := 0) (atype := .int) (ty := .int) (N := 6) (a0 := (6, .inl (fun _ => 0))) C hw hn rfl rfl ac_int rfl (by intro q h; cases h) (fun _ => rfl) (by decide) (by decide) (Nat.le_of_ble_eq_true rfl) (Nat.le_of_ble_eq_true rfl) (Nat.le_of_ble_eq_true rfl) dX2_init_39 (fun H hw => ?_)
  replace hw : Hn P base (pre ++ (g2_9 P base n b q1)) s _ _ := hw
  refine nput (pre := pre) (cs := (g2_9 P base n b q1)) (j := 0) (N := 10) C hw hn plX2_24 rfl rfl (by decide) (by rfl) (by rfl) dX2_init_41 (fun H locs hw => ?_)
  replace hw : Hn P base (pre ++ (g2_10 P base n b q1)) s _ _ := hw
  refine lv_aload_n hx hb dX2_init_44 rfl (lv_at hl 0 rfl) ?_
  refine lv_bipush (v := 6) hx hb dX2_init_45 (by decide) ?_
  refine nnewa (pre := pre) (cs := (g2_10 P base n b q1)) (t0 := 0) (atype := .int) (ty := .int) (N := 6) (a0 := (6, .inl (fun _ => 0))) C hw hn rfl rfl ac_int rfl (by intro q h; cases h) (fun _ => rfl) (by decide) (by decide) (Nat.le_of_ble_eq_true rfl) (Nat.le_of_ble_eq_true rfl) (Nat.le_of_ble_eq_true rfl) dX2_init_47 (fun H hw => ?_)
  replace hw : Hn P base (pre ++ (g2_11 P base n b q1)) s _ _ := hw
  refine nput (pre := pre) (cs := (g2_11 P base n b q1)) (j := 0) (N := 10) C hw hn plX2_27 rfl rfl (by decide) (by rfl) (by rfl) dX2_init_49 (fun H locs hw => ?_)
  replace hw : Hn P base (pre ++ (g2_12 P base n b q1)) s _ _ := hw
  refine lv_aload_n hx hb dX2_init_52 rfl (lv_at hl 0 rfl) ?_
  refine lv_bipush (v := 6) hx hb dX2_init_53 (by decide) ?_
  refine nnewa (pre := pre) (cs := (g2_12 P base n b q1)) (t0 := 0) (atype := .int) (ty := .int) (N := 6) (a0 := (6, .inl (fun _ => 0))) C hw hn rfl rfl ac_int rfl (by intro q h; cases h) (fun _ => rfl) (by decide) (by decide) (Nat.le_of_ble_eq_true rfl) (Nat.le_of_ble_eq_true rfl) (Nat.le_of_ble_eq_true rfl) dX2_init_55 (fun H hw => ?_)
  replace hw : Hn P base (pre ++ (g2_13 P base n b q1)) s _ _ := hw
  refine nput (pre := pre) (cs := (g2_13 P base n b q1)) (j := 0) (N := 10) C hw hn plX2_30 rfl rfl (by decide) (by rfl) (by rfl) dX2_init_57 (fun H locs hw => ?_)
  replace hw : Hn P base (pre ++ (g2_14 P base n b q1)) s _ _ := hw
  refine lv_aload_n hx hb dX2_init_60 rfl (lv_at hl 0 rfl) ?_
  refine lv_aload_n hx hb dX2_init_61 rfl (lv_at hl 1 rfl) ?_
  refine nput (pre := pre) (cs := (g2_14 P base n b q1)) (j := 0) (N := 10) C hw hn plX2_33 rfl rfl (by decide) (by rfl) (by rfl) dX2_init_62 (fun H locs hw => ?_)
  replace hw : Hn P base (pre ++ (g2_15 P base n b q1)) s _ _ := hw
  refine lv_aload_n hx hb dX2_init_65 rfl (lv_at hl 0 rfl) ?_
  refine lv_aload_n hx hb dX2_init_66 rfl (lv_at hl 1 rfl) ?_
  refine nget (pre := pre) (cs := (g2_15 P base n b q1)) (a := b) (fs := [.ref (base + q1), .ref (base + q2)]) C hw fiflX2_37 (pre_lt hb2 hb3) rfl dX2_init_67 ?_
  refine nput (pre := pre) (cs := (g2_15 P base n b q1)) (j := 0) (N := 10) C hw hn plX2_43 rfl rfl (by decide) (by rfl) (by rfl) dX2_init_70 (fun H locs hw => ?_)
  replace hw : Hn P base (pre ++ (g2_16 P base n b q1)) s _ _ := hw
  exact nvret C hw rfl dX2_init_73
