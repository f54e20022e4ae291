/-! THE NEXT TOKEN, the reference -/
def cd (t : Nat → Int32) (a : Nat) : Nat → Int64
  | 0 => 0
  | j + 1 => ((27 : Int64) * cd t a j) + (t (a + j)).toInt64 - (96 : Int64)
def wc (t : Nat → Int32) (a l : Nat) : Int64 := if l ≤ 12 then cd t a l else -1
def dg (x : Int32) : Nat := x.toInt.toNat - 48
def nm (t : Nat → Int32) (a : Nat) : Nat → Nat
  | 0 => 0
  | j + 1 => if nm t a j ≤ 100000 then 10 * nm t a j + dg (t (a + j)) else 1000000
theorem dg_le {x : Int32} (h : isD x) : dg x ≤ 9 ∧ x = io (48 + dg x) := by
  have h1 := Int32.le_iff_toInt_le.mp h.1
  have h2 := Int32.le_iff_toInt_le.mp h.2
  have e1 : (48 : Int32).toInt = 48 := rfl
  have e2 : (57 : Int32).toInt = 57 := rfl
  unfold dg
  refine ⟨by omega, ?_⟩
  rw [← Int32.toInt_inj, io_toInt (by omega)]
  omega
theorem nm_le {t : Nat → Int32} {a : Nat} : ∀ l, (∀ i, i < l → isD (t (a + i))) → nm t a l ≤ 1000009
  | 0, _ => Nat.zero_le _
  | l + 1, h => by
    have := (dg_le (h l (by omega))).1
    simp only [nm]
    split <;> omega
theorem mem7 {M : Mem} {v : Int32} : FtR M (st M 0 7 v) := FtR.refl.sto (by decide)
theorem nextR {n pos m a : Nat} {t : Nat → Int32} {M : Mem} (hn : n ≤ 600) (hT : TxR n t M) (h3 : M.1 0 7 = io pos) (hb : ∀ i, i < m → isB (t (pos + i))) (ha : a = pos + m) (han : a ≤ n) (hend : a = n ∨ ¬ isB (t a)) : (a = n → ∃ M', f_X11_next M = some M' ∧ M'.1 0 8 = io 0 ∧ M'.1 0 9 = io a ∧ M'.1 0 7 = io a ∧ FtR M M') ∧ (a < n → (isW (t a) → ∀ l, 1 ≤ l → a + l ≤ n → (∀ i, i < l → isW (t (a + i))) → (a + l = n ∨ ¬ isW (t (a + l))) → ∃ M', f_X11_next M = some M' ∧ M'.1 0 8 = io 1 ∧ M'.1 0 9 = io a ∧ M'.1 0 7 = io (a + l) ∧ M'.2 0 11 = wc t a l ∧ FtR M M') ∧ (¬ isW (t a) → isD (t a) → ∀ l, 1 ≤ l → a + l ≤ n → (∀ i, i < l → isD (t (a + i))) → (a + l = n ∨ ¬ isD (t (a + l))) → ∃ M', f_X11_next M = some M' ∧ M'.1 0 8 = io 2 ∧ M'.1 0 9 = io a ∧ M'.1 0 7 = io (a + l) ∧ M'.1 0 10 = io (nm t a l) ∧ FtR M M') ∧ (¬ isW (t a) → ¬ isD (t a) → t a = 59 → ∃ M', f_X11_next M = some M' ∧ M'.1 0 8 = io 3 ∧ M'.1 0 9 = io a ∧ M'.1 0 7 = io (a + 1) ∧ FtR M M') ∧ (¬ isW (t a) → ¬ isD (t a) → t a ≠ 59 → ∃ M', f_X11_next M = some M' ∧ M'.1 0 8 = io 4 ∧ M'.1 0 9 = io a ∧ M'.1 0 7 = io (a + 1) ∧ FtR M M')) := by
  have eqs : ∀ (x y : Int32), (y ≤ x ∧ x ≤ y) ↔ x = y := fun x y => ⟨fun q => Int32.le_antisymm q.2 q.1, fun q => by subst q; exact ⟨Int32.le_refl _, Int32.le_refl _⟩⟩
  have start : ∃ x, (x.1 0 7 = io a ∧ FtR M x) ∧ f_X11_next M = L_X11_next_0 (fun _ => none) x := by
    unfold f_X11_next
    obtain ⟨x, ⟨hx1, hx2⟩, e⟩ := in1 (b := L_X11_next_0) (fun i x => x.1 0 7 = io (pos + i) ∧ FtR M x) (fun x => L_X11_next_0 (fun _ => none) x) m (x := M) ⟨h3, FtR.refl⟩ (by omega) (fun i x hi h => by
      obtain ⟨q1, q2⟩ := h
      refine ⟨st x 0 7 (io (pos + i + 1)), ⟨by simp [st]; rfl, q2.sto (by decide)⟩, fun K => ?_⟩
      unfold L_X11_next_0
      rw [q1, byteR hn (hT.f q2) (by omega), bnd_s, byteR hn (hT.f q2) (by omega), bnd_s, ite01, ite01, show io (pos + i) + (1 : Int32) = io (pos + i + 1) from io_add _ 1]
      rcases hb i hi with c | c
      · rw [if_pos ⟨by omega, (eqs _ _).mpr c⟩, letv_eq]
      · rw [if_neg (fun q => by have := (eqs _ _).mp q.2; rw [c] at this; exact absurd this (by decide)), if_pos ⟨by omega, (eqs _ _).mpr c⟩, letv_eq]) (fun x h K => by
      obtain ⟨q1, q2⟩ := h
      rw [← ha] at q1
      have n1 : ¬ (a < n ∧ (32 : Int32) ≤ t a ∧ t a ≤ 32) := fun q => hend.elim (by omega) (fun w => w (Or.inl ((eqs _ _).mp q.2)))
      have n2 : ¬ (a < n ∧ (10 : Int32) ≤ t a ∧ t a ≤ 10) := fun q => hend.elim (by omega) (fun w => w (Or.inr ((eqs _ _).mp q.2)))
      show L_X11_next_0 K x = L_X11_next_0 (fun _ => none) x
      unfold L_X11_next_0
      rw [q1, byteR hn (hT.f q2) han, bnd_s, bnd_s, byteR hn (hT.f q2) han, bnd_s, bnd_s, ite01, ite01, ite01, ite01, if_neg n1, if_neg n1, if_neg n2, if_neg n2])
    exact ⟨x, ⟨by rw [hx1, ha], hx2⟩, e⟩
  obtain ⟨x, ⟨x1, x2⟩, hx⟩ := start
  have n1 : ¬ (a < n ∧ (32 : Int32) ≤ t a ∧ t a ≤ 32) := fun q => hend.elim (by omega) (fun w => w (Or.inl ((eqs _ _).mp q.2)))
  have n2 : ¬ (a < n ∧ (10 : Int32) ≤ t a ∧ t a ≤ 10) := fun q => hend.elim (by omega) (fun w => w (Or.inr ((eqs _ _).mp q.2)))
  have fY : FtR M (stL (st (st x 0 9 (io a)) 0 10 0) 0 11 0) := ((x2.sto (by decide)).sto (by decide)).stoL
  have y9 : (stL (st (st x 0 9 (io a)) 0 10 0) 0 11 0).1 0 9 = io a := by show (st (st x 0 9 (io a)) 0 10 0).1 0 9 = _; rw [st_rd (by decide)]; simp [st]
  have y7 : (stL (st (st x 0 9 (io a)) 0 10 0) 0 11 0).1 0 7 = io a := by show (st (st x 0 9 (io a)) 0 10 0).1 0 7 = _; rw [st_rd (by decide), st_rd (by decide)]; exact x1
  have y10 : (stL (st (st x 0 9 (io a)) 0 10 0) 0 11 0).1 0 10 = io 0 := by show (st (st x 0 9 (io a)) 0 10 0).1 0 10 = _; simp [st]; rfl
  have y11 : (stL (st (st x 0 9 (io a)) 0 10 0) 0 11 0).2 0 11 = 0 := by simp [stL]
  have head : ∃ Y, (FtR M Y ∧ Y.1 0 9 = io a ∧ Y.1 0 7 = io a ∧ Y.1 0 10 = io 0 ∧ Y.2 0 11 = 0) ∧ f_X11_next M = (if a = n then some (st Y 0 8 0) else if isW (t a) then lq2 (L_X11_next_102) FU 0 (st Y 0 8 1) else if isD (t a) then lq1 (L_X11_next_208) FU (st Y 0 8 2) else if t a = 59 then some (st (st Y 0 8 3) 0 7 (io (a + 1))) else some (st (st Y 0 8 4) 0 7 (io (a + 1)))) := by
    refine ⟨_, ⟨fY, y9, y7, y10, y11⟩, ?_⟩
    rw [hx]
    unfold L_X11_next_0
    rw [x1, byteR hn (hT.f x2) han, bnd_s, byteR hn (hT.f x2) han, bnd_s, ite01, ite01, if_neg n1, if_neg n2, letv_eq, letv_eq, letv_eq]
    generalize stL (st (st x 0 9 (io a)) 0 10 0) 0 11 0 = Y at fY y9 y7 y10 y11
    rw [y7, (hT.f fY).1]
    by_cases c : a = n
    · rw [if_pos (by rw [c]), if_pos c]; rfl
    · rw [if_neg (fun q => c ((io_inj (by omega) (by omega)).mp q)), if_neg c, byteR hn (hT.f fY) han, bnd_s, byteR hn (hT.f fY) han, bnd_s, ite01, ite01]
      by_cases cw : isW (t a)
      · rw [if_pos ⟨by omega, cw⟩, if_pos cw]; rfl
      · rw [if_neg (fun q => cw q.2), if_neg cw]
        by_cases cdd : isD (t a)
        · rw [if_pos ⟨by omega, cdd⟩, if_pos cdd]; rfl
        · rw [if_neg (fun q => cdd q.2), if_neg cdd, oob_f (show a < 600 by omega) (by omega), ix_io (by omega), (hT.f fY).2 a (by omega)]
          simp only [Bool.false_eq_true, if_false, letv_eq]
          rw [st_rd (i := 0) (j := 7) (k := 8) (by decide), st_rd (i := 0) (j := 7) (k := 8) (by decide), y7, show io a + (1 : Int32) = io (a + 1) from io_add a 1]
  obtain ⟨Y, ⟨fY, y9, y7, y10, y11⟩, hY⟩ := head
  refine ⟨fun c => ?_, fun hc => ⟨fun cw l l1 l2 l3 l4 => ?_, fun cw cdd l l1 l2 l3 l4 => ?_, fun cw cdd cs => ?_, fun cw cdd cs => ?_⟩⟩
  · refine ⟨st Y 0 8 0, by rw [hY, if_pos c], by simp [st]; rfl, by rw [st_rd (by decide)]; exact y9, by rw [st_rd (by decide)]; exact y7, fY.sto (by decide)⟩
  · rw [hY, if_neg (by omega), if_pos cw]
    obtain ⟨r, hr, e⟩ := in2x (b := L_X11_next_102) (fun i v y => v = io i ∧ y.1 0 8 = io 1 ∧ y.1 0 9 = io a ∧ y.1 0 7 = io (a + i) ∧ y.2 0 11 = wc t a i ∧ FtR M y) (fun r => r.1 0 8 = io 1 ∧ r.1 0 9 = io a ∧ r.1 0 7 = io (a + l) ∧ r.2 0 11 = wc t a l ∧ FtR M r) l (x := 0) (y := st Y 0 8 1) ⟨rfl, by simp [st]; rfl, by rw [st_rd (by decide)]; exact y9, by rw [st_rd (by decide)]; exact y7, y11, fY.sto (by decide)⟩ (by omega) (fun i v y hi h => by
      obtain ⟨rfl, q8, q9, q7, q11, qf⟩ := h
      have hw := l3 i hi
      refine ⟨io (i + 1), st (stL y 0 11 (wc t a (i + 1))) 0 7 (io (a + i + 1)), ⟨rfl, by rw [st_rd (by decide)]; exact q8, by rw [st_rd (by decide)]; exact q9, by simp [st]; rfl, by show (stL y 0 11 (wc t a (i + 1))).2 0 11 = _; simp [stL], qf.stoL.sto (by decide)⟩, fun K => ?_⟩
      unfold L_X11_next_102 J_X11_next_153
      rw [q7, byteR hn (hT.f qf) (by omega), bnd_s, ite01, if_pos ⟨by omega, hw⟩, show io i + (1 : Int32) = io (i + 1) from io_add i 1]
      by_cases c : i ≤ 11
      · have ci : io i ≤ (11 : Int32) := (io_le (b := 11) (by omega) (by omega)).mpr c
        have e1 : wc t a (i + 1) = ((27 : Int64) * y.2 0 11) + (t (a + i)).toInt64 - (96 : Int64) := by
          rw [q11]; unfold wc; rw [if_pos (by omega), if_pos (by omega)]; rfl
        rw [if_pos ci, oob_f (show a + i < 600 by omega) (by omega), ix_io (by omega), (hT.f qf).2 _ (by omega), ← e1]
        simp only [Bool.false_eq_true, if_false, letv_eq]
        rw [if_pos ci, show (stL y 0 11 (wc t a (i + 1))).1 0 7 = io (a + i) from q7, show io (a + i) + (1 : Int32) = io (a + i + 1) from io_add _ 1]
      · have ci : ¬ io i ≤ (11 : Int32) := fun q => c ((io_le (b := 11) (by omega) (by omega)).mp q)
        have e1 : wc t a (i + 1) = -1 := by unfold wc; rw [if_neg (by omega)]
        rw [if_neg ci]
        simp only [letv_eq]
        rw [if_neg ci, e1, show stL (stL y 0 11 (-1)) 0 11 (-1) = stL y 0 11 (-1) from by
          refine Prod.ext rfl ?_
          funext p q
          simp only [stL]
          split <;> rfl, show (stL y 0 11 (-1)).1 0 7 = io (a + i) from q7, show io (a + i) + (1 : Int32) = io (a + i + 1) from io_add _ 1]) (fun v y h => by
      obtain ⟨rfl, q8, q9, q7, q11, qf⟩ := h
      refine ⟨y, ⟨q8, q9, q7, q11, qf⟩, fun K => ?_⟩
      unfold L_X11_next_102
      rw [q7, byteR hn (hT.f qf) (by omega), bnd_s, ite01, if_neg (fun q => l4.elim (by omega) (fun w => w q.2))])
    exact ⟨r, e, hr⟩
  · rw [hY, if_neg (by omega), if_neg cw, if_pos cdd]
    obtain ⟨r, hr, e⟩ := in1x (b := L_X11_next_208) (fun i y => y.1 0 8 = io 2 ∧ y.1 0 9 = io a ∧ y.1 0 7 = io (a + i) ∧ y.1 0 10 = io (nm t a i) ∧ FtR M y) (fun r => r.1 0 8 = io 2 ∧ r.1 0 9 = io a ∧ r.1 0 7 = io (a + l) ∧ r.1 0 10 = io (nm t a l) ∧ FtR M r) l (x := st Y 0 8 2) ⟨by simp [st]; rfl, by rw [st_rd (by decide)]; exact y9, by rw [st_rd (by decide)]; exact y7, by rw [st_rd (by decide)]; exact y10, fY.sto (by decide)⟩ (by omega) (fun i y hi h => by
      obtain ⟨q8, q9, q7, q10, qf⟩ := h
      have hd := l3 i hi
      obtain ⟨d1, d2⟩ := dg_le hd
      have hnm := nm_le i (fun j hj => l3 j (by omega))
      refine ⟨st (st y 0 10 (io (nm t a (i + 1)))) 0 7 (io (a + i + 1)), ⟨by rw [st_rd (by decide), st_rd (by decide)]; exact q8, by rw [st_rd (by decide), st_rd (by decide)]; exact q9, by simp [st]; rfl, by rw [st_rd (by decide)]; simp [st], (qf.sto (by decide)).sto (by decide)⟩, fun K => ?_⟩
      unfold L_X11_next_208
      rw [q7, byteR hn (hT.f qf) (by omega), bnd_s, ite01, if_pos ⟨by omega, hd⟩, q10]
      simp only [nm]
      by_cases c : nm t a i ≤ 100000
      · rw [if_pos (show io (nm t a i) ≤ (100000 : Int32) from (io_le (b := 100000) (by omega) (by omega)).mpr c), if_pos c, oob_f (show a + i < 600 by omega) (by omega), ix_io (by omega), (hT.f qf).2 _ (by omega)]
        simp only [Bool.false_eq_true, if_false, letv_eq]
        have ev : (10 : Int32) * io (nm t a i) + t (a + i) - 48 = io (10 * nm t a i + dg (t (a + i))) := by
          rw [d2, show (10 : Int32) = io 10 from rfl, show (48 : Int32) = io 48 from rfl, io_mul, io_add, io_sub (by omega), ← d2]
          congr 1
          omega
        rw [ev, st_rd (i := 0) (j := 7) (k := 10) (by decide), q7, show io (a + i) + (1 : Int32) = io (a + i + 1) from io_add _ 1]
      · rw [if_neg (show ¬ io (nm t a i) ≤ (100000 : Int32) from fun q => c ((io_le (b := 100000) (by omega) (by omega)).mp q)), if_neg c, letv_eq, letv_eq, st_rd (i := 0) (j := 7) (k := 10) (by decide), q7, show io (a + i) + (1 : Int32) = io (a + i + 1) from io_add _ 1]
        rfl) (fun y h => by
      obtain ⟨q8, q9, q7, q10, qf⟩ := h
      refine ⟨y, ⟨q8, q9, q7, q10, qf⟩, fun K => ?_⟩
      unfold L_X11_next_208
      rw [q7, byteR hn (hT.f qf) (by omega), bnd_s, ite01, if_neg (fun q => l4.elim (by omega) (fun w => w q.2))])
    exact ⟨r, e, hr⟩
  · exact ⟨st (st Y 0 8 3) 0 7 (io (a + 1)), by rw [hY, if_neg (by omega), if_neg cw, if_neg cdd, if_pos cs], by rw [st_rd (by decide)]; simp [st]; rfl, by rw [st_rd (by decide), st_rd (by decide)]; exact y9, by simp [st], (fY.sto (by decide)).sto (by decide)⟩
  · exact ⟨st (st Y 0 8 4) 0 7 (io (a + 1)), by rw [hY, if_neg (by omega), if_neg cw, if_neg cdd, if_neg cs], by rw [st_rd (by decide)]; simp [st]; rfl, by rw [st_rd (by decide), st_rd (by decide)]; exact y9, by simp [st], (fY.sto (by decide)).sto (by decide)⟩
