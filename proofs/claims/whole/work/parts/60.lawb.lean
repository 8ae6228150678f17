def LI (A : Nat → Int32) (L t : Nat) (S : SV) (M : XM) : Prop := WfS S ∧ CX t S M ∧ CM S M ∧ M.1 202 = A ∧ xlen M 202 = L
theorem x_refl (v : Int32) : xeq v v = true := decide_eq_true rfl
theorem x_refl64 (v : Int64) : xeq (lg_cmp v v) (0 : Int32) = true := by
  unfold lg_cmp
  rw [if_neg (fun h => by have := Int64.lt_iff_toInt_lt.mp h; omega), if_pos rfl]
  rfl
theorem li_op {A : Nat → Int32} {L t : Nat} {S : SV} {M : XM} {α : Type} {f g : XM → Option (α × XM)} (hb : both t S f g) (h : LI A L t S M) : ∃ (S' : SV) (v : α) (M1 M2 : XM), f M = some (v, M1) ∧ M1.1 202 = A ∧ xlen M1 202 = L ∧ g M1 = some (v, M2) ∧ LI A L (t + 1) S' M2 := by
  obtain ⟨hW, hC, hM, hA, hL⟩ := h
  obtain ⟨S', v, hW', hc, hm⟩ := hb
  obtain ⟨M1, c1, c2, c3⟩ := hc M hC
  obtain ⟨M2, m1, m2, m3⟩ := hm M1 (hM.fr c3)
  have a1 : M1.1 202 = A := by rw [(c3 202 (by omega)).1, hA]
  have a2 : M2.1 202 = A := by rw [(m3 202 (by omega)).1, a1]
  have l1 : xlen M1 202 = L := by rw [← hL]; show (M1.1 203 0).toNatClampNeg = (M.1 203 0).toNatClampNeg; rw [(c3 203 (by omega)).1]
  have l2 : xlen M2 202 = L := by rw [← l1]; show (M2.1 203 0).toNatClampNeg = (M1.1 203 0).toNatClampNeg; rw [(m3 203 (by omega)).1]
  exact ⟨S', v, M1, M2, c1, a1, l1, m1, hW', c2.fr m3, m2, a2, l2⟩
theorem l_in {t L : Nat} (h6 : 6 * t + 6 ≤ L) (hL : L ≤ 3072) (i : Nat) (hi : i ≤ 5) : xin (Int32.ofInt ((6 * t : Nat) : Int) + Int32.ofInt (i : Int)) L = true := by
  rw [i_add, show (((6 * t : Nat) : Int) + (i : Int)) = ((6 * t + i : Nat) : Int) by omega, i_inn (by omega), decide_eq_true (by omega)]
theorem l_ix {t L : Nat} (h6 : 6 * t + 6 ≤ L) (hL : L ≤ 3072) (i : Nat) (hi : i ≤ 5) : (Int32.ofInt ((6 * t : Nat) : Int) + Int32.ofInt (i : Int)).toNatClampNeg = 6 * t + i := by
  rw [i_add, show (((6 * t : Nat) : Int) + (i : Int)) = ((6 * t + i : Nat) : Int) by omega, i_natn (by omega)]
theorem lw_232 {N n t L : Nat} {A : Nat → Int32} {S : SV} {M : XM} (h : LI A L t S M) (h6 : 6 * t + 6 ≤ L) (hL : L ≤ 3072) (hb : both t S (fX8_row N [.ref 0, .int (A (6 * t + 1)), .int (A (6 * t + 2)), .int (A (6 * t + 3))]) (fX9_row N [.ref 64, .int (A (6 * t + 1)), .int (A (6 * t + 2)), .int (A (6 * t + 3))])) : ∃ (S' : SV) (M' : XM), gL_law N (n + 1) 232 [.ref 202, .ref 0, .ref 64, .int (Int32.ofInt ((6 * t : Nat) : Int))] [] M = gL_law N n 1573 [.ref 202, .ref 0, .ref 64, .int (Int32.ofInt ((6 * t : Nat) : Int))] [] M' ∧ LI A L (t + 1) S' M' := by
  have x1 : xin (Int32.ofInt ((6 * t : Nat) : Int) + Int32.ofInt 1) L = true := l_in h6 hL 1 (by omega)
  have n1 : (Int32.ofInt ((6 * t : Nat) : Int) + Int32.ofInt 1).toNatClampNeg = 6 * t + 1 := l_ix h6 hL 1 (by omega)
  have x2 : xin (Int32.ofInt ((6 * t : Nat) : Int) + Int32.ofInt 2) L = true := l_in h6 hL 2 (by omega)
  have n2 : (Int32.ofInt ((6 * t : Nat) : Int) + Int32.ofInt 2).toNatClampNeg = 6 * t + 2 := l_ix h6 hL 2 (by omega)
  have x3 : xin (Int32.ofInt ((6 * t : Nat) : Int) + Int32.ofInt 3) L = true := l_in h6 hL 3 (by omega)
  have n3 : (Int32.ofInt ((6 * t : Nat) : Int) + Int32.ofInt 3).toNatClampNeg = 6 * t + 3 := l_ix h6 hL 3 (by omega)
  have hlen : xlen M 202 = L := h.2.2.2.2
  have hA : M.1 202 = A := h.2.2.2.1
  obtain ⟨S', v, M1, M2, f1, a1, l1, g1, hI⟩ := li_op hb h
  refine ⟨S', M2, ?_, hI⟩
  rw [eL_law_232, hlen, x1, cond_true, x2, cond_true, x3, cond_true, hA, n1, n2, n3, f1, e_bd]
  dsimp only
  rw [l1, x1, cond_true, x2, cond_true, x3, cond_true, a1, g1, e_bd]
  dsimp only
  rw [x_refl, cond_true]
theorem lw_275 {N n t L : Nat} {A : Nat → Int32} {S : SV} {M : XM} (h : LI A L t S M) (h6 : 6 * t + 6 ≤ L) (hL : L ≤ 3072) (hb : both t S (fX8_set N [.ref 0, .int (A (6 * t + 1)), .int (A (6 * t + 2)), .long ((((A (6 * t + 3)).toInt64) <<< ((Int32.ofInt 32).toInt64 &&& 63)) ||| (((A (6 * t + 4)).toInt64) &&& 4294967295))]) (fX9_set N [.ref 64, .int (A (6 * t + 1)), .int (A (6 * t + 2)), .long ((((A (6 * t + 3)).toInt64) <<< ((Int32.ofInt 32).toInt64 &&& 63)) ||| (((A (6 * t + 4)).toInt64) &&& 4294967295))])) : ∃ (S' : SV) (M' : XM), gL_law N (n + 1) 275 [.ref 202, .ref 0, .ref 64, .int (Int32.ofInt ((6 * t : Nat) : Int))] [] M = gL_law N n 1573 [.ref 202, .ref 0, .ref 64, .int (Int32.ofInt ((6 * t : Nat) : Int))] [] M' ∧ LI A L (t + 1) S' M' := by
  have x1 : xin (Int32.ofInt ((6 * t : Nat) : Int) + Int32.ofInt 1) L = true := l_in h6 hL 1 (by omega)
  have n1 : (Int32.ofInt ((6 * t : Nat) : Int) + Int32.ofInt 1).toNatClampNeg = 6 * t + 1 := l_ix h6 hL 1 (by omega)
  have x2 : xin (Int32.ofInt ((6 * t : Nat) : Int) + Int32.ofInt 2) L = true := l_in h6 hL 2 (by omega)
  have n2 : (Int32.ofInt ((6 * t : Nat) : Int) + Int32.ofInt 2).toNatClampNeg = 6 * t + 2 := l_ix h6 hL 2 (by omega)
  have x3 : xin (Int32.ofInt ((6 * t : Nat) : Int) + Int32.ofInt 3) L = true := l_in h6 hL 3 (by omega)
  have n3 : (Int32.ofInt ((6 * t : Nat) : Int) + Int32.ofInt 3).toNatClampNeg = 6 * t + 3 := l_ix h6 hL 3 (by omega)
  have x4 : xin (Int32.ofInt ((6 * t : Nat) : Int) + Int32.ofInt 4) L = true := l_in h6 hL 4 (by omega)
  have n4 : (Int32.ofInt ((6 * t : Nat) : Int) + Int32.ofInt 4).toNatClampNeg = 6 * t + 4 := l_ix h6 hL 4 (by omega)
  have hlen : xlen M 202 = L := h.2.2.2.2
  have hA : M.1 202 = A := h.2.2.2.1
  obtain ⟨S', v, M1, M2, f1, a1, l1, g1, hI⟩ := li_op hb h
  refine ⟨S', M2, ?_, hI⟩
  rw [eL_law_275, hlen, x1, cond_true, x2, cond_true, x3, cond_true, x4, cond_true, hA, n1, n2, n3, n4, f1, e_bd]
  dsimp only
  rw [l1, x1, cond_true, x2, cond_true, x3, cond_true, x4, cond_true, a1, g1, e_bd]
  dsimp only
  rw [x_refl, cond_true]
theorem lw_348 {N n t L : Nat} {A : Nat → Int32} {S : SV} {M : XM} (h : LI A L t S M) (h6 : 6 * t + 6 ≤ L) (hL : L ≤ 3072) (hb : both t S (fX8_copy N [.ref 0, .int (A (6 * t + 1)), .int (A (6 * t + 2)), .int (A (6 * t + 3)), .int (A (6 * t + 4)), .int (A (6 * t + 5))]) (fX9_copy N [.ref 64, .int (A (6 * t + 1)), .int (A (6 * t + 2)), .int (A (6 * t + 3)), .int (A (6 * t + 4)), .int (A (6 * t + 5))])) : ∃ (S' : SV) (M' : XM), gL_law N (n + 1) 348 [.ref 202, .ref 0, .ref 64, .int (Int32.ofInt ((6 * t : Nat) : Int))] [] M = gL_law N n 1573 [.ref 202, .ref 0, .ref 64, .int (Int32.ofInt ((6 * t : Nat) : Int))] [] M' ∧ LI A L (t + 1) S' M' := by
  have x1 : xin (Int32.ofInt ((6 * t : Nat) : Int) + Int32.ofInt 1) L = true := l_in h6 hL 1 (by omega)
  have n1 : (Int32.ofInt ((6 * t : Nat) : Int) + Int32.ofInt 1).toNatClampNeg = 6 * t + 1 := l_ix h6 hL 1 (by omega)
  have x2 : xin (Int32.ofInt ((6 * t : Nat) : Int) + Int32.ofInt 2) L = true := l_in h6 hL 2 (by omega)
  have n2 : (Int32.ofInt ((6 * t : Nat) : Int) + Int32.ofInt 2).toNatClampNeg = 6 * t + 2 := l_ix h6 hL 2 (by omega)
  have x3 : xin (Int32.ofInt ((6 * t : Nat) : Int) + Int32.ofInt 3) L = true := l_in h6 hL 3 (by omega)
  have n3 : (Int32.ofInt ((6 * t : Nat) : Int) + Int32.ofInt 3).toNatClampNeg = 6 * t + 3 := l_ix h6 hL 3 (by omega)
  have x4 : xin (Int32.ofInt ((6 * t : Nat) : Int) + Int32.ofInt 4) L = true := l_in h6 hL 4 (by omega)
  have n4 : (Int32.ofInt ((6 * t : Nat) : Int) + Int32.ofInt 4).toNatClampNeg = 6 * t + 4 := l_ix h6 hL 4 (by omega)
  have x5 : xin (Int32.ofInt ((6 * t : Nat) : Int) + Int32.ofInt 5) L = true := l_in h6 hL 5 (by omega)
  have n5 : (Int32.ofInt ((6 * t : Nat) : Int) + Int32.ofInt 5).toNatClampNeg = 6 * t + 5 := l_ix h6 hL 5 (by omega)
  have hlen : xlen M 202 = L := h.2.2.2.2
  have hA : M.1 202 = A := h.2.2.2.1
  obtain ⟨S', v, M1, M2, f1, a1, l1, g1, hI⟩ := li_op hb h
  refine ⟨S', M2, ?_, hI⟩
  rw [eL_law_348, hlen, x1, cond_true, x2, cond_true, x3, cond_true, x4, cond_true, x5, cond_true, hA, n1, n2, n3, n4, n5, f1, e_bd]
  dsimp only
  rw [l1, x1, cond_true, x2, cond_true, x3, cond_true, x4, cond_true, x5, cond_true, a1, g1, e_bd]
  dsimp only
  rw [x_refl, cond_true]
theorem lw_411 {N n t L : Nat} {A : Nat → Int32} {S : SV} {M : XM} (h : LI A L t S M) (h6 : 6 * t + 6 ≤ L) (hL : L ≤ 3072) (hb : both t S (fX8_element N [.ref 0, .int (A (6 * t + 1)), .int (A (6 * t + 2))]) (fX9_element N [.ref 64, .int (A (6 * t + 1)), .int (A (6 * t + 2))])) : ∃ (S' : SV) (M' : XM), gL_law N (n + 1) 411 [.ref 202, .ref 0, .ref 64, .int (Int32.ofInt ((6 * t : Nat) : Int))] [] M = gL_law N n 1573 [.ref 202, .ref 0, .ref 64, .int (Int32.ofInt ((6 * t : Nat) : Int))] [] M' ∧ LI A L (t + 1) S' M' := by
  have x1 : xin (Int32.ofInt ((6 * t : Nat) : Int) + Int32.ofInt 1) L = true := l_in h6 hL 1 (by omega)
  have n1 : (Int32.ofInt ((6 * t : Nat) : Int) + Int32.ofInt 1).toNatClampNeg = 6 * t + 1 := l_ix h6 hL 1 (by omega)
  have x2 : xin (Int32.ofInt ((6 * t : Nat) : Int) + Int32.ofInt 2) L = true := l_in h6 hL 2 (by omega)
  have n2 : (Int32.ofInt ((6 * t : Nat) : Int) + Int32.ofInt 2).toNatClampNeg = 6 * t + 2 := l_ix h6 hL 2 (by omega)
  have hlen : xlen M 202 = L := h.2.2.2.2
  have hA : M.1 202 = A := h.2.2.2.1
  obtain ⟨S', v, M1, M2, f1, a1, l1, g1, hI⟩ := li_op hb h
  refine ⟨S', M2, ?_, hI⟩
  rw [eL_law_411, hlen, x1, cond_true, x2, cond_true, hA, n1, n2, f1, e_bd]
  dsimp only
  rw [l1, x1, cond_true, x2, cond_true, a1, g1, e_bd]
  dsimp only
  rw [x_refl64, cond_true]
theorem lw_445 {N n t L : Nat} {A : Nat → Int32} {S : SV} {M : XM} (h : LI A L t S M) (h6 : 6 * t + 6 ≤ L) (hL : L ≤ 3072) (hb : both t S (fX8_holds N [.ref 0, .int (A (6 * t + 1))]) (fX9_holds N [.ref 64, .int (A (6 * t + 1))])) : ∃ (S' : SV) (M' : XM), gL_law N (n + 1) 445 [.ref 202, .ref 0, .ref 64, .int (Int32.ofInt ((6 * t : Nat) : Int))] [] M = gL_law N n 1573 [.ref 202, .ref 0, .ref 64, .int (Int32.ofInt ((6 * t : Nat) : Int))] [] M' ∧ LI A L (t + 1) S' M' := by
  have x1 : xin (Int32.ofInt ((6 * t : Nat) : Int) + Int32.ofInt 1) L = true := l_in h6 hL 1 (by omega)
  have n1 : (Int32.ofInt ((6 * t : Nat) : Int) + Int32.ofInt 1).toNatClampNeg = 6 * t + 1 := l_ix h6 hL 1 (by omega)
  have hlen : xlen M 202 = L := h.2.2.2.2
  have hA : M.1 202 = A := h.2.2.2.1
  obtain ⟨S', v, M1, M2, f1, a1, l1, g1, hI⟩ := li_op hb h
  refine ⟨S', M2, ?_, hI⟩
  rw [eL_law_445, hlen, x1, cond_true, hA, n1, f1, e_bd]
  dsimp only
  rw [l1, x1, cond_true, a1, g1, e_bd]
  dsimp only
  rw [x_refl, cond_true]
theorem lw_468 {N n t L : Nat} {A : Nat → Int32} {S : SV} {M : XM} (h : LI A L t S M) (h6 : 6 * t + 6 ≤ L) (hL : L ≤ 3072) (hb : both t S (fX8_show N [.ref 0, .int (A (6 * t + 1)), .int (A (6 * t + 2))]) (fX9_show N [.ref 64, .int (A (6 * t + 1)), .int (A (6 * t + 2))])) : ∃ (S' : SV) (M' : XM), gL_law N (n + 1) 468 [.ref 202, .ref 0, .ref 64, .int (Int32.ofInt ((6 * t : Nat) : Int))] [] M = gL_law N n 1573 [.ref 202, .ref 0, .ref 64, .int (Int32.ofInt ((6 * t : Nat) : Int))] [] M' ∧ LI A L (t + 1) S' M' := by
  have x1 : xin (Int32.ofInt ((6 * t : Nat) : Int) + Int32.ofInt 1) L = true := l_in h6 hL 1 (by omega)
  have n1 : (Int32.ofInt ((6 * t : Nat) : Int) + Int32.ofInt 1).toNatClampNeg = 6 * t + 1 := l_ix h6 hL 1 (by omega)
  have x2 : xin (Int32.ofInt ((6 * t : Nat) : Int) + Int32.ofInt 2) L = true := l_in h6 hL 2 (by omega)
  have n2 : (Int32.ofInt ((6 * t : Nat) : Int) + Int32.ofInt 2).toNatClampNeg = 6 * t + 2 := l_ix h6 hL 2 (by omega)
  have hlen : xlen M 202 = L := h.2.2.2.2
  have hA : M.1 202 = A := h.2.2.2.1
  obtain ⟨S', v, M1, M2, f1, a1, l1, g1, hI⟩ := li_op hb h
  refine ⟨S', M2, ?_, hI⟩
  rw [eL_law_468, hlen, x1, cond_true, x2, cond_true, hA, n1, n2, f1, e_bd]
  dsimp only
  rw [l1, x1, cond_true, x2, cond_true, a1, g1, e_bd]
  dsimp only
  rw [x_refl, cond_true]
theorem lw_501 {N n t L : Nat} {A : Nat → Int32} {S : SV} {M : XM} (h : LI A L t S M) (h6 : 6 * t + 6 ≤ L) (hL : L ≤ 3072) (hb : both t S (fX8_says N [.ref 0, .int (A (6 * t + 1)), .int (A (6 * t + 2))]) (fX9_says N [.ref 64, .int (A (6 * t + 1)), .int (A (6 * t + 2))])) : ∃ (S' : SV) (M' : XM), gL_law N (n + 1) 501 [.ref 202, .ref 0, .ref 64, .int (Int32.ofInt ((6 * t : Nat) : Int))] [] M = gL_law N n 1573 [.ref 202, .ref 0, .ref 64, .int (Int32.ofInt ((6 * t : Nat) : Int))] [] M' ∧ LI A L (t + 1) S' M' := by
  have x1 : xin (Int32.ofInt ((6 * t : Nat) : Int) + Int32.ofInt 1) L = true := l_in h6 hL 1 (by omega)
  have n1 : (Int32.ofInt ((6 * t : Nat) : Int) + Int32.ofInt 1).toNatClampNeg = 6 * t + 1 := l_ix h6 hL 1 (by omega)
  have x2 : xin (Int32.ofInt ((6 * t : Nat) : Int) + Int32.ofInt 2) L = true := l_in h6 hL 2 (by omega)
  have n2 : (Int32.ofInt ((6 * t : Nat) : Int) + Int32.ofInt 2).toNatClampNeg = 6 * t + 2 := l_ix h6 hL 2 (by omega)
  have hlen : xlen M 202 = L := h.2.2.2.2
  have hA : M.1 202 = A := h.2.2.2.1
  obtain ⟨S', v, M1, M2, f1, a1, l1, g1, hI⟩ := li_op hb h
  refine ⟨S', M2, ?_, hI⟩
  rw [eL_law_501, hlen, x1, cond_true, x2, cond_true, hA, n1, n2, f1, e_bd]
  dsimp only
  rw [l1, x1, cond_true, x2, cond_true, a1, g1, e_bd]
  dsimp only
  rw [x_refl, cond_true]
theorem lw_534 {N n t L : Nat} {A : Nat → Int32} {S : SV} {M : XM} (h : LI A L t S M) (h6 : 6 * t + 6 ≤ L) (hL : L ≤ 3072) (hb : both t S (fX8_brother N [.ref 0, .int (A (6 * t + 1)), .int (A (6 * t + 2)), .int (A (6 * t + 3))]) (fX9_brother N [.ref 64, .int (A (6 * t + 1)), .int (A (6 * t + 2)), .int (A (6 * t + 3))])) : ∃ (S' : SV) (M' : XM), gL_law N (n + 1) 534 [.ref 202, .ref 0, .ref 64, .int (Int32.ofInt ((6 * t : Nat) : Int))] [] M = gL_law N n 1573 [.ref 202, .ref 0, .ref 64, .int (Int32.ofInt ((6 * t : Nat) : Int))] [] M' ∧ LI A L (t + 1) S' M' := by
  have x1 : xin (Int32.ofInt ((6 * t : Nat) : Int) + Int32.ofInt 1) L = true := l_in h6 hL 1 (by omega)
  have n1 : (Int32.ofInt ((6 * t : Nat) : Int) + Int32.ofInt 1).toNatClampNeg = 6 * t + 1 := l_ix h6 hL 1 (by omega)
  have x2 : xin (Int32.ofInt ((6 * t : Nat) : Int) + Int32.ofInt 2) L = true := l_in h6 hL 2 (by omega)
  have n2 : (Int32.ofInt ((6 * t : Nat) : Int) + Int32.ofInt 2).toNatClampNeg = 6 * t + 2 := l_ix h6 hL 2 (by omega)
  have x3 : xin (Int32.ofInt ((6 * t : Nat) : Int) + Int32.ofInt 3) L = true := l_in h6 hL 3 (by omega)
  have n3 : (Int32.ofInt ((6 * t : Nat) : Int) + Int32.ofInt 3).toNatClampNeg = 6 * t + 3 := l_ix h6 hL 3 (by omega)
  have hlen : xlen M 202 = L := h.2.2.2.2
  have hA : M.1 202 = A := h.2.2.2.1
  obtain ⟨S', v, M1, M2, f1, a1, l1, g1, hI⟩ := li_op hb h
  refine ⟨S', M2, ?_, hI⟩
  rw [eL_law_534, hlen, x1, cond_true, x2, cond_true, x3, cond_true, hA, n1, n2, n3, f1, e_bd]
  dsimp only
  rw [l1, x1, cond_true, x2, cond_true, x3, cond_true, a1, g1, e_bd]
  dsimp only
  rw [x_refl, cond_true]
theorem lw_577 {N n t L : Nat} {A : Nat → Int32} {S : SV} {M : XM} (h : LI A L t S M) (h6 : 6 * t + 6 ≤ L) (hL : L ≤ 3072) (hb : ∀ c : Bool, both t S (fX8_feud N [.ref 0, .int (A (6 * t + 1)), .int (A (6 * t + 2)), .int (bi c)]) (fX9_feud N [.ref 64, .int (A (6 * t + 1)), .int (A (6 * t + 2)), .int (bi c)])) : ∃ (S' : SV) (M' : XM), gL_law N (n + 1) 577 [.ref 202, .ref 0, .ref 64, .int (Int32.ofInt ((6 * t : Nat) : Int))] [] M = gL_law N n 1573 [.ref 202, .ref 0, .ref 64, .int (Int32.ofInt ((6 * t : Nat) : Int))] [] M' ∧ LI A L (t + 1) S' M' := by
  have x1 : xin (Int32.ofInt ((6 * t : Nat) : Int) + Int32.ofInt 1) L = true := l_in h6 hL 1 (by omega)
  have n1 : (Int32.ofInt ((6 * t : Nat) : Int) + Int32.ofInt 1).toNatClampNeg = 6 * t + 1 := l_ix h6 hL 1 (by omega)
  have x2 : xin (Int32.ofInt ((6 * t : Nat) : Int) + Int32.ofInt 2) L = true := l_in h6 hL 2 (by omega)
  have n2 : (Int32.ofInt ((6 * t : Nat) : Int) + Int32.ofInt 2).toNatClampNeg = 6 * t + 2 := l_ix h6 hL 2 (by omega)
  have x3 : xin (Int32.ofInt ((6 * t : Nat) : Int) + Int32.ofInt 3) L = true := l_in h6 hL 3 (by omega)
  have n3 : (Int32.ofInt ((6 * t : Nat) : Int) + Int32.ofInt 3).toNatClampNeg = 6 * t + 3 := l_ix h6 hL 3 (by omega)
  have hlen : xlen M 202 = L := h.2.2.2.2
  have hA : M.1 202 = A := h.2.2.2.1
  cases e3 : xeq (A (6 * t + 3)) 0 with
  | true =>
    obtain ⟨S', v, M1, M2, f1, a1, l1, g1, hI⟩ := li_op (hb false) h
    refine ⟨S', M2, ?_, hI⟩
    have f1 : fX8_feud N [.ref 0, .int (A (6 * t + 1)), .int (A (6 * t + 2)), .int (Int32.ofInt 0)] M = some (v, M1) := f1
    have g1 : fX9_feud N [.ref 64, .int (A (6 * t + 1)), .int (A (6 * t + 2)), .int (Int32.ofInt 0)] M1 = some (v, M2) := g1
    rw [eL_law_577, hlen, x1, cond_true, x2, cond_true, x3, cond_true, hA, n3, e3, cond_true, n1, n2, f1, e_bd]
    dsimp only
    rw [l1, x1, cond_true, x2, cond_true, x3, cond_true, a1, e3, cond_true, g1, e_bd]
    dsimp only
    rw [x_refl, cond_true]
  | false =>
    obtain ⟨S', v, M1, M2, f1, a1, l1, g1, hI⟩ := li_op (hb true) h
    refine ⟨S', M2, ?_, hI⟩
    have f1 : fX8_feud N [.ref 0, .int (A (6 * t + 1)), .int (A (6 * t + 2)), .int (Int32.ofInt 1)] M = some (v, M1) := f1
    have g1 : fX9_feud N [.ref 64, .int (A (6 * t + 1)), .int (A (6 * t + 2)), .int (Int32.ofInt 1)] M1 = some (v, M2) := g1
    rw [eL_law_577, hlen, x1, cond_true, x2, cond_true, x3, cond_true, hA, n3, e3, cond_false, n1, n2, f1, e_bd]
    dsimp only
    rw [l1, x1, cond_true, x2, cond_true, x3, cond_true, a1, e3, cond_false, g1, e_bd]
    dsimp only
    rw [x_refl, cond_true]
theorem lw_636 {N n t L : Nat} {A : Nat → Int32} {S : SV} {M : XM} (h : LI A L t S M) (h6 : 6 * t + 6 ≤ L) (hL : L ≤ 3072) (hb : both t S (fX8_need N [.ref 0, .int (A (6 * t + 1))]) (fX9_need N [.ref 64, .int (A (6 * t + 1))])) : ∃ (S' : SV) (M' : XM), gL_law N (n + 1) 636 [.ref 202, .ref 0, .ref 64, .int (Int32.ofInt ((6 * t : Nat) : Int))] [] M = gL_law N n 1573 [.ref 202, .ref 0, .ref 64, .int (Int32.ofInt ((6 * t : Nat) : Int))] [] M' ∧ LI A L (t + 1) S' M' := by
  have x1 : xin (Int32.ofInt ((6 * t : Nat) : Int) + Int32.ofInt 1) L = true := l_in h6 hL 1 (by omega)
  have n1 : (Int32.ofInt ((6 * t : Nat) : Int) + Int32.ofInt 1).toNatClampNeg = 6 * t + 1 := l_ix h6 hL 1 (by omega)
  have hlen : xlen M 202 = L := h.2.2.2.2
  have hA : M.1 202 = A := h.2.2.2.1
  obtain ⟨S', v, M1, M2, f1, a1, l1, g1, hI⟩ := li_op hb h
  refine ⟨S', M2, ?_, hI⟩
  rw [eL_law_636, hlen, x1, cond_true, hA, n1, f1, e_bd]
  dsimp only
  rw [l1, x1, cond_true, a1, g1, e_bd]
  dsimp only
  rw [x_refl, cond_true]
theorem lw_659 {N n t L : Nat} {A : Nat → Int32} {S : SV} {M : XM} (h : LI A L t S M) (h6 : 6 * t + 6 ≤ L) (hL : L ≤ 3072) (hb : both t S (fX8_age N [.ref 0, .int (A (6 * t + 1)), .int (A (6 * t + 2))]) (fX9_age N [.ref 64, .int (A (6 * t + 1)), .int (A (6 * t + 2))])) : ∃ (S' : SV) (M' : XM), gL_law N (n + 1) 659 [.ref 202, .ref 0, .ref 64, .int (Int32.ofInt ((6 * t : Nat) : Int))] [] M = gL_law N n 1573 [.ref 202, .ref 0, .ref 64, .int (Int32.ofInt ((6 * t : Nat) : Int))] [] M' ∧ LI A L (t + 1) S' M' := by
  have x1 : xin (Int32.ofInt ((6 * t : Nat) : Int) + Int32.ofInt 1) L = true := l_in h6 hL 1 (by omega)
  have n1 : (Int32.ofInt ((6 * t : Nat) : Int) + Int32.ofInt 1).toNatClampNeg = 6 * t + 1 := l_ix h6 hL 1 (by omega)
  have x2 : xin (Int32.ofInt ((6 * t : Nat) : Int) + Int32.ofInt 2) L = true := l_in h6 hL 2 (by omega)
  have n2 : (Int32.ofInt ((6 * t : Nat) : Int) + Int32.ofInt 2).toNatClampNeg = 6 * t + 2 := l_ix h6 hL 2 (by omega)
  have hlen : xlen M 202 = L := h.2.2.2.2
  have hA : M.1 202 = A := h.2.2.2.1
  obtain ⟨S', v, M1, M2, f1, a1, l1, g1, hI⟩ := li_op hb h
  refine ⟨S', M2, ?_, hI⟩
  rw [eL_law_659, hlen, x1, cond_true, x2, cond_true, hA, n1, n2, f1, e_bd]
  dsimp only
  rw [l1, x1, cond_true, x2, cond_true, a1, g1, e_bd]
  dsimp only
  rw [x_refl, cond_true]
theorem lw_692 {N n t L : Nat} {A : Nat → Int32} {S : SV} {M : XM} (h : LI A L t S M) (h6 : 6 * t + 6 ≤ L) (hL : L ≤ 3072) (hb : both t S (fX8_goes N [.ref 0, .int (A (6 * t + 1)), .int (A (6 * t + 2))]) (fX9_goes N [.ref 64, .int (A (6 * t + 1)), .int (A (6 * t + 2))])) : ∃ (S' : SV) (M' : XM), gL_law N (n + 1) 692 [.ref 202, .ref 0, .ref 64, .int (Int32.ofInt ((6 * t : Nat) : Int))] [] M = gL_law N n 1573 [.ref 202, .ref 0, .ref 64, .int (Int32.ofInt ((6 * t : Nat) : Int))] [] M' ∧ LI A L (t + 1) S' M' := by
  have x1 : xin (Int32.ofInt ((6 * t : Nat) : Int) + Int32.ofInt 1) L = true := l_in h6 hL 1 (by omega)
  have n1 : (Int32.ofInt ((6 * t : Nat) : Int) + Int32.ofInt 1).toNatClampNeg = 6 * t + 1 := l_ix h6 hL 1 (by omega)
  have x2 : xin (Int32.ofInt ((6 * t : Nat) : Int) + Int32.ofInt 2) L = true := l_in h6 hL 2 (by omega)
  have n2 : (Int32.ofInt ((6 * t : Nat) : Int) + Int32.ofInt 2).toNatClampNeg = 6 * t + 2 := l_ix h6 hL 2 (by omega)
  have hlen : xlen M 202 = L := h.2.2.2.2
  have hA : M.1 202 = A := h.2.2.2.1
  obtain ⟨S', v, M1, M2, f1, a1, l1, g1, hI⟩ := li_op hb h
  refine ⟨S', M2, ?_, hI⟩
  rw [eL_law_692, hlen, x1, cond_true, x2, cond_true, hA, n1, n2, f1, e_bd]
  dsimp only
  rw [l1, x1, cond_true, x2, cond_true, a1, g1, e_bd]
  dsimp only
  rw [x_refl, cond_true]
theorem lw_725 {N n t L : Nat} {A : Nat → Int32} {S : SV} {M : XM} (h : LI A L t S M) (h6 : 6 * t + 6 ≤ L) (hL : L ≤ 3072) (hb : both t S (fX8_dies N [.ref 0, .int (A (6 * t + 1))]) (fX9_dies N [.ref 64, .int (A (6 * t + 1))])) : ∃ (S' : SV) (M' : XM), gL_law N (n + 1) 725 [.ref 202, .ref 0, .ref 64, .int (Int32.ofInt ((6 * t : Nat) : Int))] [] M = gL_law N n 1573 [.ref 202, .ref 0, .ref 64, .int (Int32.ofInt ((6 * t : Nat) : Int))] [] M' ∧ LI A L (t + 1) S' M' := by
  have x1 : xin (Int32.ofInt ((6 * t : Nat) : Int) + Int32.ofInt 1) L = true := l_in h6 hL 1 (by omega)
  have n1 : (Int32.ofInt ((6 * t : Nat) : Int) + Int32.ofInt 1).toNatClampNeg = 6 * t + 1 := l_ix h6 hL 1 (by omega)
  have hlen : xlen M 202 = L := h.2.2.2.2
  have hA : M.1 202 = A := h.2.2.2.1
  obtain ⟨S', v, M1, M2, f1, a1, l1, g1, hI⟩ := li_op hb h
  refine ⟨S', M2, ?_, hI⟩
  rw [eL_law_725, hlen, x1, cond_true, hA, n1, f1, e_bd]
  dsimp only
  rw [l1, x1, cond_true, a1, g1, e_bd]
  dsimp only
  rw [x_refl, cond_true]
theorem lw_748 {N n t L : Nat} {A : Nat → Int32} {S : SV} {M : XM} (h : LI A L t S M) (h6 : 6 * t + 6 ≤ L) (hL : L ≤ 3072) (hb : both t S (fX8_feed N [.ref 0, .int (A (6 * t + 1))]) (fX9_feed N [.ref 64, .int (A (6 * t + 1))])) : ∃ (S' : SV) (M' : XM), gL_law N (n + 1) 748 [.ref 202, .ref 0, .ref 64, .int (Int32.ofInt ((6 * t : Nat) : Int))] [] M = gL_law N n 1573 [.ref 202, .ref 0, .ref 64, .int (Int32.ofInt ((6 * t : Nat) : Int))] [] M' ∧ LI A L (t + 1) S' M' := by
  have x1 : xin (Int32.ofInt ((6 * t : Nat) : Int) + Int32.ofInt 1) L = true := l_in h6 hL 1 (by omega)
  have n1 : (Int32.ofInt ((6 * t : Nat) : Int) + Int32.ofInt 1).toNatClampNeg = 6 * t + 1 := l_ix h6 hL 1 (by omega)
  have hlen : xlen M 202 = L := h.2.2.2.2
  have hA : M.1 202 = A := h.2.2.2.1
  obtain ⟨S', v, M1, M2, f1, a1, l1, g1, hI⟩ := li_op hb h
  refine ⟨S', M2, ?_, hI⟩
  rw [eL_law_748, hlen, x1, cond_true, hA, n1, f1, e_bd]
  dsimp only
  rw [l1, x1, cond_true, a1, g1, e_bd]
  dsimp only
  rw [x_refl, cond_true]
theorem lw_771 {N n t L : Nat} {A : Nat → Int32} {S : SV} {M : XM} (h : LI A L t S M) (h6 : 6 * t + 6 ≤ L) (hL : L ≤ 3072) (hb : both t S (fX8_wipe N [.ref 0]) (fX9_wipe N [.ref 64])) : ∃ (S' : SV) (M' : XM), gL_law N (n + 1) 771 [.ref 202, .ref 0, .ref 64, .int (Int32.ofInt ((6 * t : Nat) : Int))] [] M = gL_law N n 1573 [.ref 202, .ref 0, .ref 64, .int (Int32.ofInt ((6 * t : Nat) : Int))] [] M' ∧ LI A L (t + 1) S' M' := by
  have hlen : xlen M 202 = L := h.2.2.2.2
  have hA : M.1 202 = A := h.2.2.2.1
  obtain ⟨S', v, M1, M2, f1, a1, l1, g1, hI⟩ := li_op hb h
  refine ⟨S', M2, ?_, hI⟩
  rw [eL_law_771, f1, e_bd]
  dsimp only
  rw [g1, e_bd]
  dsimp only
  rw [x_refl, cond_true]
theorem lw_784 {N n t L : Nat} {A : Nat → Int32} {S : SV} {M : XM} (h : LI A L t S M) (h6 : 6 * t + 6 ≤ L) (hL : L ≤ 3072) (hb : both t S (fX8_rock N [.ref 0]) (fX9_rock N [.ref 64])) : ∃ (S' : SV) (M' : XM), gL_law N (n + 1) 784 [.ref 202, .ref 0, .ref 64, .int (Int32.ofInt ((6 * t : Nat) : Int))] [] M = gL_law N n 1573 [.ref 202, .ref 0, .ref 64, .int (Int32.ofInt ((6 * t : Nat) : Int))] [] M' ∧ LI A L (t + 1) S' M' := by
  have hlen : xlen M 202 = L := h.2.2.2.2
  have hA : M.1 202 = A := h.2.2.2.1
  obtain ⟨S', v, M1, M2, f1, a1, l1, g1, hI⟩ := li_op hb h
  refine ⟨S', M2, ?_, hI⟩
  rw [eL_law_784, f1, e_bd]
  dsimp only
  rw [g1, e_bd]
  dsimp only
  rw [x_refl, cond_true]
theorem lw_797 {N n t L : Nat} {A : Nat → Int32} {S : SV} {M : XM} (h : LI A L t S M) (h6 : 6 * t + 6 ≤ L) (hL : L ≤ 3072) (hb : both t S (fX8_brotherOf N [.ref 0, .int (A (6 * t + 1)), .int (A (6 * t + 2))]) (fX9_brotherOf N [.ref 64, .int (A (6 * t + 1)), .int (A (6 * t + 2))])) : ∃ (S' : SV) (M' : XM), gL_law N (n + 1) 797 [.ref 202, .ref 0, .ref 64, .int (Int32.ofInt ((6 * t : Nat) : Int))] [] M = gL_law N n 1573 [.ref 202, .ref 0, .ref 64, .int (Int32.ofInt ((6 * t : Nat) : Int))] [] M' ∧ LI A L (t + 1) S' M' := by
  have x1 : xin (Int32.ofInt ((6 * t : Nat) : Int) + Int32.ofInt 1) L = true := l_in h6 hL 1 (by omega)
  have n1 : (Int32.ofInt ((6 * t : Nat) : Int) + Int32.ofInt 1).toNatClampNeg = 6 * t + 1 := l_ix h6 hL 1 (by omega)
  have x2 : xin (Int32.ofInt ((6 * t : Nat) : Int) + Int32.ofInt 2) L = true := l_in h6 hL 2 (by omega)
  have n2 : (Int32.ofInt ((6 * t : Nat) : Int) + Int32.ofInt 2).toNatClampNeg = 6 * t + 2 := l_ix h6 hL 2 (by omega)
  have hlen : xlen M 202 = L := h.2.2.2.2
  have hA : M.1 202 = A := h.2.2.2.1
  obtain ⟨S', v, M1, M2, f1, a1, l1, g1, hI⟩ := li_op hb h
  refine ⟨S', M2, ?_, hI⟩
  rw [eL_law_797, hlen, x1, cond_true, x2, cond_true, hA, n1, n2, f1, e_bd]
  dsimp only
  rw [l1, x1, cond_true, x2, cond_true, a1, g1, e_bd]
  dsimp only
  rw [x_refl, cond_true]
theorem lw_830 {N n t L : Nat} {A : Nat → Int32} {S : SV} {M : XM} (h : LI A L t S M) (h6 : 6 * t + 6 ≤ L) (hL : L ≤ 3072) (hb : both t S (fX8_needOf N [.ref 0, .int (A (6 * t + 1))]) (fX9_needOf N [.ref 64, .int (A (6 * t + 1))])) : ∃ (S' : SV) (M' : XM), gL_law N (n + 1) 830 [.ref 202, .ref 0, .ref 64, .int (Int32.ofInt ((6 * t : Nat) : Int))] [] M = gL_law N n 1573 [.ref 202, .ref 0, .ref 64, .int (Int32.ofInt ((6 * t : Nat) : Int))] [] M' ∧ LI A L (t + 1) S' M' := by
  have x1 : xin (Int32.ofInt ((6 * t : Nat) : Int) + Int32.ofInt 1) L = true := l_in h6 hL 1 (by omega)
  have n1 : (Int32.ofInt ((6 * t : Nat) : Int) + Int32.ofInt 1).toNatClampNeg = 6 * t + 1 := l_ix h6 hL 1 (by omega)
  have hlen : xlen M 202 = L := h.2.2.2.2
  have hA : M.1 202 = A := h.2.2.2.1
  obtain ⟨S', v, M1, M2, f1, a1, l1, g1, hI⟩ := li_op hb h
  refine ⟨S', M2, ?_, hI⟩
  rw [eL_law_830, hlen, x1, cond_true, hA, n1, f1, e_bd]
  dsimp only
  rw [l1, x1, cond_true, a1, g1, e_bd]
  dsimp only
  rw [x_refl, cond_true]
theorem lw_853 {N n t L : Nat} {A : Nat → Int32} {S : SV} {M : XM} (h : LI A L t S M) (h6 : 6 * t + 6 ≤ L) (hL : L ≤ 3072) (hb : ∀ c : Bool, both t S (fX8_shortest N [.ref 0, .int (A (6 * t + 1)), .int (A (6 * t + 2)), .int (bi c), .int (A (6 * t + 4))]) (fX9_shortest N [.ref 64, .int (A (6 * t + 1)), .int (A (6 * t + 2)), .int (bi c), .int (A (6 * t + 4))])) : ∃ (S' : SV) (M' : XM), gL_law N (n + 1) 853 [.ref 202, .ref 0, .ref 64, .int (Int32.ofInt ((6 * t : Nat) : Int))] [] M = gL_law N n 1573 [.ref 202, .ref 0, .ref 64, .int (Int32.ofInt ((6 * t : Nat) : Int))] [] M' ∧ LI A L (t + 1) S' M' := by
  have x1 : xin (Int32.ofInt ((6 * t : Nat) : Int) + Int32.ofInt 1) L = true := l_in h6 hL 1 (by omega)
  have n1 : (Int32.ofInt ((6 * t : Nat) : Int) + Int32.ofInt 1).toNatClampNeg = 6 * t + 1 := l_ix h6 hL 1 (by omega)
  have x2 : xin (Int32.ofInt ((6 * t : Nat) : Int) + Int32.ofInt 2) L = true := l_in h6 hL 2 (by omega)
  have n2 : (Int32.ofInt ((6 * t : Nat) : Int) + Int32.ofInt 2).toNatClampNeg = 6 * t + 2 := l_ix h6 hL 2 (by omega)
  have x3 : xin (Int32.ofInt ((6 * t : Nat) : Int) + Int32.ofInt 3) L = true := l_in h6 hL 3 (by omega)
  have n3 : (Int32.ofInt ((6 * t : Nat) : Int) + Int32.ofInt 3).toNatClampNeg = 6 * t + 3 := l_ix h6 hL 3 (by omega)
  have x4 : xin (Int32.ofInt ((6 * t : Nat) : Int) + Int32.ofInt 4) L = true := l_in h6 hL 4 (by omega)
  have n4 : (Int32.ofInt ((6 * t : Nat) : Int) + Int32.ofInt 4).toNatClampNeg = 6 * t + 4 := l_ix h6 hL 4 (by omega)
  have hlen : xlen M 202 = L := h.2.2.2.2
  have hA : M.1 202 = A := h.2.2.2.1
  cases e3 : xeq (A (6 * t + 3)) 0 with
  | true =>
    obtain ⟨S', v, M1, M2, f1, a1, l1, g1, hI⟩ := li_op (hb false) h
    refine ⟨S', M2, ?_, hI⟩
    have f1 : fX8_shortest N [.ref 0, .int (A (6 * t + 1)), .int (A (6 * t + 2)), .int (Int32.ofInt 0), .int (A (6 * t + 4))] M = some (v, M1) := f1
    have g1 : fX9_shortest N [.ref 64, .int (A (6 * t + 1)), .int (A (6 * t + 2)), .int (Int32.ofInt 0), .int (A (6 * t + 4))] M1 = some (v, M2) := g1
    rw [eL_law_853, hlen, x1, cond_true, x2, cond_true, x3, cond_true, hA, n3, e3, cond_true, x4, cond_true, n1, n2, n4, f1, e_bd]
    dsimp only
    rw [l1, x1, cond_true, x2, cond_true, x3, cond_true, a1, e3, cond_true, x4, cond_true, g1, e_bd]
    dsimp only
    rw [x_refl, cond_true]
  | false =>
    obtain ⟨S', v, M1, M2, f1, a1, l1, g1, hI⟩ := li_op (hb true) h
    refine ⟨S', M2, ?_, hI⟩
    have f1 : fX8_shortest N [.ref 0, .int (A (6 * t + 1)), .int (A (6 * t + 2)), .int (Int32.ofInt 1), .int (A (6 * t + 4))] M = some (v, M1) := f1
    have g1 : fX9_shortest N [.ref 64, .int (A (6 * t + 1)), .int (A (6 * t + 2)), .int (Int32.ofInt 1), .int (A (6 * t + 4))] M1 = some (v, M2) := g1
    rw [eL_law_853, hlen, x1, cond_true, x2, cond_true, x3, cond_true, hA, n3, e3, cond_false, x4, cond_true, n1, n2, n4, f1, e_bd]
    dsimp only
    rw [l1, x1, cond_true, x2, cond_true, x3, cond_true, a1, e3, cond_false, x4, cond_true, g1, e_bd]
    dsimp only
    rw [x_refl, cond_true]
theorem lw_922 {N n t L : Nat} {A : Nat → Int32} {S : SV} {M : XM} (h : LI A L t S M) (h6 : 6 * t + 6 ≤ L) (hL : L ≤ 3072) (hb : both t S (fX8_said N [.ref 0, .int (A (6 * t + 1)), .int (A (6 * t + 2))]) (fX9_said N [.ref 64, .int (A (6 * t + 1)), .int (A (6 * t + 2))])) : ∃ (S' : SV) (M' : XM), gL_law N (n + 1) 922 [.ref 202, .ref 0, .ref 64, .int (Int32.ofInt ((6 * t : Nat) : Int))] [] M = gL_law N n 1573 [.ref 202, .ref 0, .ref 64, .int (Int32.ofInt ((6 * t : Nat) : Int))] [] M' ∧ LI A L (t + 1) S' M' := by
  have x1 : xin (Int32.ofInt ((6 * t : Nat) : Int) + Int32.ofInt 1) L = true := l_in h6 hL 1 (by omega)
  have n1 : (Int32.ofInt ((6 * t : Nat) : Int) + Int32.ofInt 1).toNatClampNeg = 6 * t + 1 := l_ix h6 hL 1 (by omega)
  have x2 : xin (Int32.ofInt ((6 * t : Nat) : Int) + Int32.ofInt 2) L = true := l_in h6 hL 2 (by omega)
  have n2 : (Int32.ofInt ((6 * t : Nat) : Int) + Int32.ofInt 2).toNatClampNeg = 6 * t + 2 := l_ix h6 hL 2 (by omega)
  have hlen : xlen M 202 = L := h.2.2.2.2
  have hA : M.1 202 = A := h.2.2.2.1
  obtain ⟨S', v, M1, M2, f1, a1, l1, g1, hI⟩ := li_op hb h
  refine ⟨S', M2, ?_, hI⟩
  rw [eL_law_922, hlen, x1, cond_true, x2, cond_true, hA, n1, n2, f1, e_bd]
  dsimp only
  rw [l1, x1, cond_true, x2, cond_true, a1, g1, e_bd]
  dsimp only
  rw [x_refl, cond_true]
theorem lw_955 {N n t L : Nat} {A : Nat → Int32} {S : SV} {M : XM} (h : LI A L t S M) (h6 : 6 * t + 6 ≤ L) (hL : L ≤ 3072) (hb : both t S (fX8_many N [.ref 0, .int (A (6 * t + 1)), .int (A (6 * t + 2))]) (fX9_many N [.ref 64, .int (A (6 * t + 1)), .int (A (6 * t + 2))])) : ∃ (S' : SV) (M' : XM), gL_law N (n + 1) 955 [.ref 202, .ref 0, .ref 64, .int (Int32.ofInt ((6 * t : Nat) : Int))] [] M = gL_law N n 1573 [.ref 202, .ref 0, .ref 64, .int (Int32.ofInt ((6 * t : Nat) : Int))] [] M' ∧ LI A L (t + 1) S' M' := by
  have x1 : xin (Int32.ofInt ((6 * t : Nat) : Int) + Int32.ofInt 1) L = true := l_in h6 hL 1 (by omega)
  have n1 : (Int32.ofInt ((6 * t : Nat) : Int) + Int32.ofInt 1).toNatClampNeg = 6 * t + 1 := l_ix h6 hL 1 (by omega)
  have x2 : xin (Int32.ofInt ((6 * t : Nat) : Int) + Int32.ofInt 2) L = true := l_in h6 hL 2 (by omega)
  have n2 : (Int32.ofInt ((6 * t : Nat) : Int) + Int32.ofInt 2).toNatClampNeg = 6 * t + 2 := l_ix h6 hL 2 (by omega)
  have hlen : xlen M 202 = L := h.2.2.2.2
  have hA : M.1 202 = A := h.2.2.2.1
  obtain ⟨S', v, M1, M2, f1, a1, l1, g1, hI⟩ := li_op hb h
  refine ⟨S', M2, ?_, hI⟩
  rw [eL_law_955, hlen, x1, cond_true, x2, cond_true, hA, n1, n2, f1, e_bd]
  dsimp only
  rw [l1, x1, cond_true, x2, cond_true, a1, g1, e_bd]
  dsimp only
  rw [x_refl, cond_true]
theorem lw_988 {N n t L : Nat} {A : Nat → Int32} {S : SV} {M : XM} (h : LI A L t S M) (h6 : 6 * t + 6 ≤ L) (hL : L ≤ 3072) (hb : both t S (fX8_who N [.ref 0, .int (A (6 * t + 1))]) (fX9_who N [.ref 64, .int (A (6 * t + 1))])) : ∃ (S' : SV) (M' : XM), gL_law N (n + 1) 988 [.ref 202, .ref 0, .ref 64, .int (Int32.ofInt ((6 * t : Nat) : Int))] [] M = gL_law N n 1573 [.ref 202, .ref 0, .ref 64, .int (Int32.ofInt ((6 * t : Nat) : Int))] [] M' ∧ LI A L (t + 1) S' M' := by
  have x1 : xin (Int32.ofInt ((6 * t : Nat) : Int) + Int32.ofInt 1) L = true := l_in h6 hL 1 (by omega)
  have n1 : (Int32.ofInt ((6 * t : Nat) : Int) + Int32.ofInt 1).toNatClampNeg = 6 * t + 1 := l_ix h6 hL 1 (by omega)
  have hlen : xlen M 202 = L := h.2.2.2.2
  have hA : M.1 202 = A := h.2.2.2.1
  obtain ⟨S', v, M1, M2, f1, a1, l1, g1, hI⟩ := li_op hb h
  refine ⟨S', M2, ?_, hI⟩
  rw [eL_law_988, hlen, x1, cond_true, hA, n1, f1, e_bd]
  dsimp only
  rw [l1, x1, cond_true, a1, g1, e_bd]
  dsimp only
  rw [x_refl, cond_true]
theorem lw_1011 {N n t L : Nat} {A : Nat → Int32} {S : SV} {M : XM} (h : LI A L t S M) (h6 : 6 * t + 6 ≤ L) (hL : L ≤ 3072) (hb : both t S (fX8_nearest N [.ref 0, .int (A (6 * t + 1))]) (fX9_nearest N [.ref 64, .int (A (6 * t + 1))])) : ∃ (S' : SV) (M' : XM), gL_law N (n + 1) 1011 [.ref 202, .ref 0, .ref 64, .int (Int32.ofInt ((6 * t : Nat) : Int))] [] M = gL_law N n 1573 [.ref 202, .ref 0, .ref 64, .int (Int32.ofInt ((6 * t : Nat) : Int))] [] M' ∧ LI A L (t + 1) S' M' := by
  have x1 : xin (Int32.ofInt ((6 * t : Nat) : Int) + Int32.ofInt 1) L = true := l_in h6 hL 1 (by omega)
  have n1 : (Int32.ofInt ((6 * t : Nat) : Int) + Int32.ofInt 1).toNatClampNeg = 6 * t + 1 := l_ix h6 hL 1 (by omega)
  have hlen : xlen M 202 = L := h.2.2.2.2
  have hA : M.1 202 = A := h.2.2.2.1
  obtain ⟨S', v, M1, M2, f1, a1, l1, g1, hI⟩ := li_op hb h
  refine ⟨S', M2, ?_, hI⟩
  rw [eL_law_1011, hlen, x1, cond_true, hA, n1, f1, e_bd]
  dsimp only
  rw [l1, x1, cond_true, a1, g1, e_bd]
  dsimp only
  rw [x_refl, cond_true]
theorem lw_1034 {N n t L : Nat} {A : Nat → Int32} {S : SV} {M : XM} (h : LI A L t S M) (h6 : 6 * t + 6 ≤ L) (hL : L ≤ 3072) (hb : both t S (fX8_first N [.ref 0, .int (A (6 * t + 1))]) (fX9_first N [.ref 64, .int (A (6 * t + 1))])) : ∃ (S' : SV) (M' : XM), gL_law N (n + 1) 1034 [.ref 202, .ref 0, .ref 64, .int (Int32.ofInt ((6 * t : Nat) : Int))] [] M = gL_law N n 1573 [.ref 202, .ref 0, .ref 64, .int (Int32.ofInt ((6 * t : Nat) : Int))] [] M' ∧ LI A L (t + 1) S' M' := by
  have x1 : xin (Int32.ofInt ((6 * t : Nat) : Int) + Int32.ofInt 1) L = true := l_in h6 hL 1 (by omega)
  have n1 : (Int32.ofInt ((6 * t : Nat) : Int) + Int32.ofInt 1).toNatClampNeg = 6 * t + 1 := l_ix h6 hL 1 (by omega)
  have hlen : xlen M 202 = L := h.2.2.2.2
  have hA : M.1 202 = A := h.2.2.2.1
  obtain ⟨S', v, M1, M2, f1, a1, l1, g1, hI⟩ := li_op hb h
  refine ⟨S', M2, ?_, hI⟩
  rw [eL_law_1034, hlen, x1, cond_true, hA, n1, f1, e_bd]
  dsimp only
  rw [l1, x1, cond_true, a1, g1, e_bd]
  dsimp only
  rw [x_refl, cond_true]
theorem lw_1057 {N n t L : Nat} {A : Nat → Int32} {S : SV} {M : XM} (h : LI A L t S M) (h6 : 6 * t + 6 ≤ L) (hL : L ≤ 3072) (hb : both t S (fX8_crowd N [.ref 0]) (fX9_crowd N [.ref 64])) : ∃ (S' : SV) (M' : XM), gL_law N (n + 1) 1057 [.ref 202, .ref 0, .ref 64, .int (Int32.ofInt ((6 * t : Nat) : Int))] [] M = gL_law N n 1573 [.ref 202, .ref 0, .ref 64, .int (Int32.ofInt ((6 * t : Nat) : Int))] [] M' ∧ LI A L (t + 1) S' M' := by
  have hlen : xlen M 202 = L := h.2.2.2.2
  have hA : M.1 202 = A := h.2.2.2.1
  obtain ⟨S', v, M1, M2, f1, a1, l1, g1, hI⟩ := li_op hb h
  refine ⟨S', M2, ?_, hI⟩
  rw [eL_law_1057, f1, e_bd]
  dsimp only
  rw [g1, e_bd]
  dsimp only
  rw [x_refl, cond_true]
theorem lw_1070 {N n t L : Nat} {A : Nat → Int32} {S : SV} {M : XM} (h : LI A L t S M) (h6 : 6 * t + 6 ≤ L) (hL : L ≤ 3072) (hb : both t S (fX8_gather N [.ref 0]) (fX9_gather N [.ref 64])) : ∃ (S' : SV) (M' : XM), gL_law N (n + 1) 1070 [.ref 202, .ref 0, .ref 64, .int (Int32.ofInt ((6 * t : Nat) : Int))] [] M = gL_law N n 1573 [.ref 202, .ref 0, .ref 64, .int (Int32.ofInt ((6 * t : Nat) : Int))] [] M' ∧ LI A L (t + 1) S' M' := by
  have hlen : xlen M 202 = L := h.2.2.2.2
  have hA : M.1 202 = A := h.2.2.2.1
  obtain ⟨S', v, M1, M2, f1, a1, l1, g1, hI⟩ := li_op hb h
  refine ⟨S', M2, ?_, hI⟩
  rw [eL_law_1070, f1, e_bd]
  dsimp only
  rw [g1, e_bd]
  dsimp only
  rw [x_refl, cond_true]
theorem lw_1083 {N n t L : Nat} {A : Nat → Int32} {S : SV} {M : XM} (h : LI A L t S M) (h6 : 6 * t + 6 ≤ L) (hL : L ≤ 3072) (hb : both t S (fX8_alone N [.ref 0]) (fX9_alone N [.ref 64])) : ∃ (S' : SV) (M' : XM), gL_law N (n + 1) 1083 [.ref 202, .ref 0, .ref 64, .int (Int32.ofInt ((6 * t : Nat) : Int))] [] M = gL_law N n 1573 [.ref 202, .ref 0, .ref 64, .int (Int32.ofInt ((6 * t : Nat) : Int))] [] M' ∧ LI A L (t + 1) S' M' := by
  have hlen : xlen M 202 = L := h.2.2.2.2
  have hA : M.1 202 = A := h.2.2.2.1
  obtain ⟨S', v, M1, M2, f1, a1, l1, g1, hI⟩ := li_op hb h
  refine ⟨S', M2, ?_, hI⟩
  rw [eL_law_1083, f1, e_bd]
  dsimp only
  rw [g1, e_bd]
  dsimp only
  rw [x_refl, cond_true]
theorem lw_1096 {N n t L : Nat} {A : Nat → Int32} {S : SV} {M : XM} (h : LI A L t S M) (h6 : 6 * t + 6 ≤ L) (hL : L ≤ 3072) (hb : both t S (fX8_lasting N [.ref 0]) (fX9_lasting N [.ref 64])) : ∃ (S' : SV) (M' : XM), gL_law N (n + 1) 1096 [.ref 202, .ref 0, .ref 64, .int (Int32.ofInt ((6 * t : Nat) : Int))] [] M = gL_law N n 1573 [.ref 202, .ref 0, .ref 64, .int (Int32.ofInt ((6 * t : Nat) : Int))] [] M' ∧ LI A L (t + 1) S' M' := by
  have hlen : xlen M 202 = L := h.2.2.2.2
  have hA : M.1 202 = A := h.2.2.2.1
  obtain ⟨S', v, M1, M2, f1, a1, l1, g1, hI⟩ := li_op hb h
  refine ⟨S', M2, ?_, hI⟩
  rw [eL_law_1096, f1, e_bd]
  dsimp only
  rw [g1, e_bd]
  dsimp only
  rw [x_refl, cond_true]
theorem lw_1109 {N n t L : Nat} {A : Nat → Int32} {S : SV} {M : XM} (h : LI A L t S M) (h6 : 6 * t + 6 ≤ L) (hL : L ≤ 3072) (hb : both t S (fX8_longest N [.ref 0, .int (A (6 * t + 1))]) (fX9_longest N [.ref 64, .int (A (6 * t + 1))])) : ∃ (S' : SV) (M' : XM), gL_law N (n + 1) 1109 [.ref 202, .ref 0, .ref 64, .int (Int32.ofInt ((6 * t : Nat) : Int))] [] M = gL_law N n 1573 [.ref 202, .ref 0, .ref 64, .int (Int32.ofInt ((6 * t : Nat) : Int))] [] M' ∧ LI A L (t + 1) S' M' := by
  have x1 : xin (Int32.ofInt ((6 * t : Nat) : Int) + Int32.ofInt 1) L = true := l_in h6 hL 1 (by omega)
  have n1 : (Int32.ofInt ((6 * t : Nat) : Int) + Int32.ofInt 1).toNatClampNeg = 6 * t + 1 := l_ix h6 hL 1 (by omega)
  have hlen : xlen M 202 = L := h.2.2.2.2
  have hA : M.1 202 = A := h.2.2.2.1
  obtain ⟨S', v, M1, M2, f1, a1, l1, g1, hI⟩ := li_op hb h
  refine ⟨S', M2, ?_, hI⟩
  rw [eL_law_1109, hlen, x1, cond_true, hA, n1, f1, e_bd]
  dsimp only
  rw [l1, x1, cond_true, a1, g1, e_bd]
  dsimp only
  rw [x_refl, cond_true]
theorem lw_1132 {N n t L : Nat} {A : Nat → Int32} {S : SV} {M : XM} (h : LI A L t S M) (h6 : 6 * t + 6 ≤ L) (hL : L ≤ 3072) (hb : both t S (fX8_met N [.ref 0]) (fX9_met N [.ref 64])) : ∃ (S' : SV) (M' : XM), gL_law N (n + 1) 1132 [.ref 202, .ref 0, .ref 64, .int (Int32.ofInt ((6 * t : Nat) : Int))] [] M = gL_law N n 1573 [.ref 202, .ref 0, .ref 64, .int (Int32.ofInt ((6 * t : Nat) : Int))] [] M' ∧ LI A L (t + 1) S' M' := by
  have hlen : xlen M 202 = L := h.2.2.2.2
  have hA : M.1 202 = A := h.2.2.2.1
  obtain ⟨S', v, M1, M2, f1, a1, l1, g1, hI⟩ := li_op hb h
  refine ⟨S', M2, ?_, hI⟩
  rw [eL_law_1132, f1, e_bd]
  dsimp only
  rw [g1, e_bd]
  dsimp only
  rw [x_refl, cond_true]
theorem lw_1145 {N n t L : Nat} {A : Nat → Int32} {S : SV} {M : XM} (h : LI A L t S M) (h6 : 6 * t + 6 ≤ L) (hL : L ≤ 3072) (hb : both t S (fX8_without N [.ref 0, .int (A (6 * t + 1)), .int (A (6 * t + 2))]) (fX9_without N [.ref 64, .int (A (6 * t + 1)), .int (A (6 * t + 2))])) : ∃ (S' : SV) (M' : XM), gL_law N (n + 1) 1145 [.ref 202, .ref 0, .ref 64, .int (Int32.ofInt ((6 * t : Nat) : Int))] [] M = gL_law N n 1573 [.ref 202, .ref 0, .ref 64, .int (Int32.ofInt ((6 * t : Nat) : Int))] [] M' ∧ LI A L (t + 1) S' M' := by
  have x1 : xin (Int32.ofInt ((6 * t : Nat) : Int) + Int32.ofInt 1) L = true := l_in h6 hL 1 (by omega)
  have n1 : (Int32.ofInt ((6 * t : Nat) : Int) + Int32.ofInt 1).toNatClampNeg = 6 * t + 1 := l_ix h6 hL 1 (by omega)
  have x2 : xin (Int32.ofInt ((6 * t : Nat) : Int) + Int32.ofInt 2) L = true := l_in h6 hL 2 (by omega)
  have n2 : (Int32.ofInt ((6 * t : Nat) : Int) + Int32.ofInt 2).toNatClampNeg = 6 * t + 2 := l_ix h6 hL 2 (by omega)
  have hlen : xlen M 202 = L := h.2.2.2.2
  have hA : M.1 202 = A := h.2.2.2.1
  obtain ⟨S', v, M1, M2, f1, a1, l1, g1, hI⟩ := li_op hb h
  refine ⟨S', M2, ?_, hI⟩
  rw [eL_law_1145, hlen, x1, cond_true, x2, cond_true, hA, n1, n2, f1, e_bd]
  dsimp only
  rw [l1, x1, cond_true, x2, cond_true, a1, g1, e_bd]
  dsimp only
  rw [x_refl, cond_true]
theorem lw_1178 {N n t L : Nat} {A : Nat → Int32} {S : SV} {M : XM} (h : LI A L t S M) (h6 : 6 * t + 6 ≤ L) (hL : L ≤ 3072) (hb : both t S (fX8_mightiest N [.ref 0]) (fX9_mightiest N [.ref 64])) : ∃ (S' : SV) (M' : XM), gL_law N (n + 1) 1178 [.ref 202, .ref 0, .ref 64, .int (Int32.ofInt ((6 * t : Nat) : Int))] [] M = gL_law N n 1573 [.ref 202, .ref 0, .ref 64, .int (Int32.ofInt ((6 * t : Nat) : Int))] [] M' ∧ LI A L (t + 1) S' M' := by
  have hlen : xlen M 202 = L := h.2.2.2.2
  have hA : M.1 202 = A := h.2.2.2.1
  obtain ⟨S', v, M1, M2, f1, a1, l1, g1, hI⟩ := li_op hb h
  refine ⟨S', M2, ?_, hI⟩
  rw [eL_law_1178, f1, e_bd]
  dsimp only
  rw [g1, e_bd]
  dsimp only
  rw [x_refl, cond_true]
theorem lw_1191 {N n t L : Nat} {A : Nat → Int32} {S : SV} {M : XM} (h : LI A L t S M) (h6 : 6 * t + 6 ≤ L) (hL : L ≤ 3072) (hb : both t S (fX8_choice N [.ref 0, .int (A (6 * t + 1))]) (fX9_choice N [.ref 64, .int (A (6 * t + 1))])) : ∃ (S' : SV) (M' : XM), gL_law N (n + 1) 1191 [.ref 202, .ref 0, .ref 64, .int (Int32.ofInt ((6 * t : Nat) : Int))] [] M = gL_law N n 1573 [.ref 202, .ref 0, .ref 64, .int (Int32.ofInt ((6 * t : Nat) : Int))] [] M' ∧ LI A L (t + 1) S' M' := by
  have x1 : xin (Int32.ofInt ((6 * t : Nat) : Int) + Int32.ofInt 1) L = true := l_in h6 hL 1 (by omega)
  have n1 : (Int32.ofInt ((6 * t : Nat) : Int) + Int32.ofInt 1).toNatClampNeg = 6 * t + 1 := l_ix h6 hL 1 (by omega)
  have hlen : xlen M 202 = L := h.2.2.2.2
  have hA : M.1 202 = A := h.2.2.2.1
  obtain ⟨S', v, M1, M2, f1, a1, l1, g1, hI⟩ := li_op hb h
  refine ⟨S', M2, ?_, hI⟩
  rw [eL_law_1191, hlen, x1, cond_true, hA, n1, f1, e_bd]
  dsimp only
  rw [l1, x1, cond_true, a1, g1, e_bd]
  dsimp only
  rw [x_refl, cond_true]
theorem lw_1214 {N n t L : Nat} {A : Nat → Int32} {S : SV} {M : XM} (h : LI A L t S M) (h6 : 6 * t + 6 ≤ L) (hL : L ≤ 3072) (hb : both t S (fX8_lost N [.ref 0, .int (A (6 * t + 1)), .int (A (6 * t + 2))]) (fX9_lost N [.ref 64, .int (A (6 * t + 1)), .int (A (6 * t + 2))])) : ∃ (S' : SV) (M' : XM), gL_law N (n + 1) 1214 [.ref 202, .ref 0, .ref 64, .int (Int32.ofInt ((6 * t : Nat) : Int))] [] M = gL_law N n 1573 [.ref 202, .ref 0, .ref 64, .int (Int32.ofInt ((6 * t : Nat) : Int))] [] M' ∧ LI A L (t + 1) S' M' := by
  have x1 : xin (Int32.ofInt ((6 * t : Nat) : Int) + Int32.ofInt 1) L = true := l_in h6 hL 1 (by omega)
  have n1 : (Int32.ofInt ((6 * t : Nat) : Int) + Int32.ofInt 1).toNatClampNeg = 6 * t + 1 := l_ix h6 hL 1 (by omega)
  have x2 : xin (Int32.ofInt ((6 * t : Nat) : Int) + Int32.ofInt 2) L = true := l_in h6 hL 2 (by omega)
  have n2 : (Int32.ofInt ((6 * t : Nat) : Int) + Int32.ofInt 2).toNatClampNeg = 6 * t + 2 := l_ix h6 hL 2 (by omega)
  have hlen : xlen M 202 = L := h.2.2.2.2
  have hA : M.1 202 = A := h.2.2.2.1
  obtain ⟨S', v, M1, M2, f1, a1, l1, g1, hI⟩ := li_op hb h
  refine ⟨S', M2, ?_, hI⟩
  rw [eL_law_1214, hlen, x1, cond_true, x2, cond_true, hA, n1, n2, f1, e_bd]
  dsimp only
  rw [l1, x1, cond_true, x2, cond_true, a1, g1, e_bd]
  dsimp only
  rw [x_refl, cond_true]
theorem lw_1247 {N n t L : Nat} {A : Nat → Int32} {S : SV} {M : XM} (h : LI A L t S M) (h6 : 6 * t + 6 ≤ L) (hL : L ≤ 3072) (hb : both t S (fX8_ran N [.ref 0, .int (A (6 * t + 1)), .int (A (6 * t + 2))]) (fX9_ran N [.ref 64, .int (A (6 * t + 1)), .int (A (6 * t + 2))])) : ∃ (S' : SV) (M' : XM), gL_law N (n + 1) 1247 [.ref 202, .ref 0, .ref 64, .int (Int32.ofInt ((6 * t : Nat) : Int))] [] M = gL_law N n 1573 [.ref 202, .ref 0, .ref 64, .int (Int32.ofInt ((6 * t : Nat) : Int))] [] M' ∧ LI A L (t + 1) S' M' := by
  have x1 : xin (Int32.ofInt ((6 * t : Nat) : Int) + Int32.ofInt 1) L = true := l_in h6 hL 1 (by omega)
  have n1 : (Int32.ofInt ((6 * t : Nat) : Int) + Int32.ofInt 1).toNatClampNeg = 6 * t + 1 := l_ix h6 hL 1 (by omega)
  have x2 : xin (Int32.ofInt ((6 * t : Nat) : Int) + Int32.ofInt 2) L = true := l_in h6 hL 2 (by omega)
  have n2 : (Int32.ofInt ((6 * t : Nat) : Int) + Int32.ofInt 2).toNatClampNeg = 6 * t + 2 := l_ix h6 hL 2 (by omega)
  have hlen : xlen M 202 = L := h.2.2.2.2
  have hA : M.1 202 = A := h.2.2.2.1
  obtain ⟨S', v, M1, M2, f1, a1, l1, g1, hI⟩ := li_op hb h
  refine ⟨S', M2, ?_, hI⟩
  rw [eL_law_1247, hlen, x1, cond_true, x2, cond_true, hA, n1, n2, f1, e_bd]
  dsimp only
  rw [l1, x1, cond_true, x2, cond_true, a1, g1, e_bd]
  dsimp only
  rw [x_refl, cond_true]
theorem lw_1280 {N n t L : Nat} {A : Nat → Int32} {S : SV} {M : XM} (h : LI A L t S M) (h6 : 6 * t + 6 ≤ L) (hL : L ≤ 3072) (hb : both t S (fX8_meant N [.ref 0, .int (A (6 * t + 1)), .int (A (6 * t + 2))]) (fX9_meant N [.ref 64, .int (A (6 * t + 1)), .int (A (6 * t + 2))])) : ∃ (S' : SV) (M' : XM), gL_law N (n + 1) 1280 [.ref 202, .ref 0, .ref 64, .int (Int32.ofInt ((6 * t : Nat) : Int))] [] M = gL_law N n 1573 [.ref 202, .ref 0, .ref 64, .int (Int32.ofInt ((6 * t : Nat) : Int))] [] M' ∧ LI A L (t + 1) S' M' := by
  have x1 : xin (Int32.ofInt ((6 * t : Nat) : Int) + Int32.ofInt 1) L = true := l_in h6 hL 1 (by omega)
  have n1 : (Int32.ofInt ((6 * t : Nat) : Int) + Int32.ofInt 1).toNatClampNeg = 6 * t + 1 := l_ix h6 hL 1 (by omega)
  have x2 : xin (Int32.ofInt ((6 * t : Nat) : Int) + Int32.ofInt 2) L = true := l_in h6 hL 2 (by omega)
  have n2 : (Int32.ofInt ((6 * t : Nat) : Int) + Int32.ofInt 2).toNatClampNeg = 6 * t + 2 := l_ix h6 hL 2 (by omega)
  have hlen : xlen M 202 = L := h.2.2.2.2
  have hA : M.1 202 = A := h.2.2.2.1
  obtain ⟨S', v, M1, M2, f1, a1, l1, g1, hI⟩ := li_op hb h
  refine ⟨S', M2, ?_, hI⟩
  rw [eL_law_1280, hlen, x1, cond_true, x2, cond_true, hA, n1, n2, f1, e_bd]
  dsimp only
  rw [l1, x1, cond_true, x2, cond_true, a1, g1, e_bd]
  dsimp only
  rw [x_refl, cond_true]
theorem lw_1313 {N n t L : Nat} {A : Nat → Int32} {S : SV} {M : XM} (h : LI A L t S M) (h6 : 6 * t + 6 ≤ L) (hL : L ≤ 3072) (hb : both t S (fX8_judge N [.ref 0, .int (A (6 * t + 1)), .int (A (6 * t + 2))]) (fX9_judge N [.ref 64, .int (A (6 * t + 1)), .int (A (6 * t + 2))])) : ∃ (S' : SV) (M' : XM), gL_law N (n + 1) 1313 [.ref 202, .ref 0, .ref 64, .int (Int32.ofInt ((6 * t : Nat) : Int))] [] M = gL_law N n 1573 [.ref 202, .ref 0, .ref 64, .int (Int32.ofInt ((6 * t : Nat) : Int))] [] M' ∧ LI A L (t + 1) S' M' := by
  have x1 : xin (Int32.ofInt ((6 * t : Nat) : Int) + Int32.ofInt 1) L = true := l_in h6 hL 1 (by omega)
  have n1 : (Int32.ofInt ((6 * t : Nat) : Int) + Int32.ofInt 1).toNatClampNeg = 6 * t + 1 := l_ix h6 hL 1 (by omega)
  have x2 : xin (Int32.ofInt ((6 * t : Nat) : Int) + Int32.ofInt 2) L = true := l_in h6 hL 2 (by omega)
  have n2 : (Int32.ofInt ((6 * t : Nat) : Int) + Int32.ofInt 2).toNatClampNeg = 6 * t + 2 := l_ix h6 hL 2 (by omega)
  have hlen : xlen M 202 = L := h.2.2.2.2
  have hA : M.1 202 = A := h.2.2.2.1
  obtain ⟨S', v, M1, M2, f1, a1, l1, g1, hI⟩ := li_op hb h
  refine ⟨S', M2, ?_, hI⟩
  rw [eL_law_1313, hlen, x1, cond_true, x2, cond_true, hA, n1, n2, f1, e_bd]
  dsimp only
  rw [l1, x1, cond_true, x2, cond_true, a1, g1, e_bd]
  dsimp only
  rw [x_refl, cond_true]
theorem lw_1346 {N n t L : Nat} {A : Nat → Int32} {S : SV} {M : XM} (h : LI A L t S M) (h6 : 6 * t + 6 ≤ L) (hL : L ≤ 3072) (hb : both t S (fX8_means N [.ref 0, .int (A (6 * t + 1)), .int (A (6 * t + 2))]) (fX9_means_ N [.ref 64, .int (A (6 * t + 1)), .int (A (6 * t + 2))])) : ∃ (S' : SV) (M' : XM), gL_law N (n + 1) 1346 [.ref 202, .ref 0, .ref 64, .int (Int32.ofInt ((6 * t : Nat) : Int))] [] M = gL_law N n 1573 [.ref 202, .ref 0, .ref 64, .int (Int32.ofInt ((6 * t : Nat) : Int))] [] M' ∧ LI A L (t + 1) S' M' := by
  have x1 : xin (Int32.ofInt ((6 * t : Nat) : Int) + Int32.ofInt 1) L = true := l_in h6 hL 1 (by omega)
  have n1 : (Int32.ofInt ((6 * t : Nat) : Int) + Int32.ofInt 1).toNatClampNeg = 6 * t + 1 := l_ix h6 hL 1 (by omega)
  have x2 : xin (Int32.ofInt ((6 * t : Nat) : Int) + Int32.ofInt 2) L = true := l_in h6 hL 2 (by omega)
  have n2 : (Int32.ofInt ((6 * t : Nat) : Int) + Int32.ofInt 2).toNatClampNeg = 6 * t + 2 := l_ix h6 hL 2 (by omega)
  have hlen : xlen M 202 = L := h.2.2.2.2
  have hA : M.1 202 = A := h.2.2.2.1
  obtain ⟨S', v, M1, M2, f1, a1, l1, g1, hI⟩ := li_op hb h
  refine ⟨S', M2, ?_, hI⟩
  rw [eL_law_1346, hlen, x1, cond_true, x2, cond_true, hA, n1, n2, f1, e_bd]
  dsimp only
  rw [l1, x1, cond_true, x2, cond_true, a1, g1, e_bd]
  dsimp only
  rw [x_refl, cond_true]
theorem lw_1379 {N n t L : Nat} {A : Nat → Int32} {S : SV} {M : XM} (h : LI A L t S M) (h6 : 6 * t + 6 ≤ L) (hL : L ≤ 3072) (hb : both t S (fX8_stands N [.ref 0, .int (A (6 * t + 1)), .int (A (6 * t + 2)), .int (A (6 * t + 3))]) (fX9_stands N [.ref 64, .int (A (6 * t + 1)), .int (A (6 * t + 2)), .int (A (6 * t + 3))])) : ∃ (S' : SV) (M' : XM), gL_law N (n + 1) 1379 [.ref 202, .ref 0, .ref 64, .int (Int32.ofInt ((6 * t : Nat) : Int))] [] M = gL_law N n 1573 [.ref 202, .ref 0, .ref 64, .int (Int32.ofInt ((6 * t : Nat) : Int))] [] M' ∧ LI A L (t + 1) S' M' := by
  have x1 : xin (Int32.ofInt ((6 * t : Nat) : Int) + Int32.ofInt 1) L = true := l_in h6 hL 1 (by omega)
  have n1 : (Int32.ofInt ((6 * t : Nat) : Int) + Int32.ofInt 1).toNatClampNeg = 6 * t + 1 := l_ix h6 hL 1 (by omega)
  have x2 : xin (Int32.ofInt ((6 * t : Nat) : Int) + Int32.ofInt 2) L = true := l_in h6 hL 2 (by omega)
  have n2 : (Int32.ofInt ((6 * t : Nat) : Int) + Int32.ofInt 2).toNatClampNeg = 6 * t + 2 := l_ix h6 hL 2 (by omega)
  have x3 : xin (Int32.ofInt ((6 * t : Nat) : Int) + Int32.ofInt 3) L = true := l_in h6 hL 3 (by omega)
  have n3 : (Int32.ofInt ((6 * t : Nat) : Int) + Int32.ofInt 3).toNatClampNeg = 6 * t + 3 := l_ix h6 hL 3 (by omega)
  have hlen : xlen M 202 = L := h.2.2.2.2
  have hA : M.1 202 = A := h.2.2.2.1
  obtain ⟨S', v, M1, M2, f1, a1, l1, g1, hI⟩ := li_op hb h
  refine ⟨S', M2, ?_, hI⟩
  rw [eL_law_1379, hlen, x1, cond_true, x2, cond_true, x3, cond_true, hA, n1, n2, n3, f1, e_bd]
  dsimp only
  rw [l1, x1, cond_true, x2, cond_true, x3, cond_true, a1, g1, e_bd]
  dsimp only
  rw [x_refl, cond_true]
theorem lw_1422 {N n t L : Nat} {A : Nat → Int32} {S : SV} {M : XM} (h : LI A L t S M) (h6 : 6 * t + 6 ≤ L) (hL : L ≤ 3072) (hb : both t S (fX8_done N [.ref 0, .int (A (6 * t + 1)), .int (A (6 * t + 2))]) (fX9_done N [.ref 64, .int (A (6 * t + 1)), .int (A (6 * t + 2))])) : ∃ (S' : SV) (M' : XM), gL_law N (n + 1) 1422 [.ref 202, .ref 0, .ref 64, .int (Int32.ofInt ((6 * t : Nat) : Int))] [] M = gL_law N n 1573 [.ref 202, .ref 0, .ref 64, .int (Int32.ofInt ((6 * t : Nat) : Int))] [] M' ∧ LI A L (t + 1) S' M' := by
  have x1 : xin (Int32.ofInt ((6 * t : Nat) : Int) + Int32.ofInt 1) L = true := l_in h6 hL 1 (by omega)
  have n1 : (Int32.ofInt ((6 * t : Nat) : Int) + Int32.ofInt 1).toNatClampNeg = 6 * t + 1 := l_ix h6 hL 1 (by omega)
  have x2 : xin (Int32.ofInt ((6 * t : Nat) : Int) + Int32.ofInt 2) L = true := l_in h6 hL 2 (by omega)
  have n2 : (Int32.ofInt ((6 * t : Nat) : Int) + Int32.ofInt 2).toNatClampNeg = 6 * t + 2 := l_ix h6 hL 2 (by omega)
  have hlen : xlen M 202 = L := h.2.2.2.2
  have hA : M.1 202 = A := h.2.2.2.1
  obtain ⟨S', v, M1, M2, f1, a1, l1, g1, hI⟩ := li_op hb h
  refine ⟨S', M2, ?_, hI⟩
  rw [eL_law_1422, hlen, x1, cond_true, x2, cond_true, hA, n1, n2, f1, e_bd]
  dsimp only
  rw [l1, x1, cond_true, x2, cond_true, a1, g1, e_bd]
  dsimp only
  rw [x_refl, cond_true]
theorem lw_1455 {N n t L : Nat} {A : Nat → Int32} {S : SV} {M : XM} (h : LI A L t S M) (h6 : 6 * t + 6 ≤ L) (hL : L ≤ 3072) (hb : both t S (fX8_peace N [.ref 0, .int (A (6 * t + 1))]) (fX9_peace N [.ref 64, .int (A (6 * t + 1))])) : ∃ (S' : SV) (M' : XM), gL_law N (n + 1) 1455 [.ref 202, .ref 0, .ref 64, .int (Int32.ofInt ((6 * t : Nat) : Int))] [] M = gL_law N n 1573 [.ref 202, .ref 0, .ref 64, .int (Int32.ofInt ((6 * t : Nat) : Int))] [] M' ∧ LI A L (t + 1) S' M' := by
  have x1 : xin (Int32.ofInt ((6 * t : Nat) : Int) + Int32.ofInt 1) L = true := l_in h6 hL 1 (by omega)
  have n1 : (Int32.ofInt ((6 * t : Nat) : Int) + Int32.ofInt 1).toNatClampNeg = 6 * t + 1 := l_ix h6 hL 1 (by omega)
  have hlen : xlen M 202 = L := h.2.2.2.2
  have hA : M.1 202 = A := h.2.2.2.1
  obtain ⟨S', v, M1, M2, f1, a1, l1, g1, hI⟩ := li_op hb h
  refine ⟨S', M2, ?_, hI⟩
  rw [eL_law_1455, hlen, x1, cond_true, hA, n1, f1, e_bd]
  dsimp only
  rw [l1, x1, cond_true, a1, g1, e_bd]
  dsimp only
  rw [x_refl, cond_true]
theorem lw_1478 {N n t L : Nat} {A : Nat → Int32} {S : SV} {M : XM} (h : LI A L t S M) (h6 : 6 * t + 6 ≤ L) (hL : L ≤ 3072) (hb : both t S (fX8_years N [.ref 0, .int (A (6 * t + 1))]) (fX9_years N [.ref 64, .int (A (6 * t + 1))])) : ∃ (S' : SV) (M' : XM), gL_law N (n + 1) 1478 [.ref 202, .ref 0, .ref 64, .int (Int32.ofInt ((6 * t : Nat) : Int))] [] M = gL_law N n 1573 [.ref 202, .ref 0, .ref 64, .int (Int32.ofInt ((6 * t : Nat) : Int))] [] M' ∧ LI A L (t + 1) S' M' := by
  have x1 : xin (Int32.ofInt ((6 * t : Nat) : Int) + Int32.ofInt 1) L = true := l_in h6 hL 1 (by omega)
  have n1 : (Int32.ofInt ((6 * t : Nat) : Int) + Int32.ofInt 1).toNatClampNeg = 6 * t + 1 := l_ix h6 hL 1 (by omega)
  have hlen : xlen M 202 = L := h.2.2.2.2
  have hA : M.1 202 = A := h.2.2.2.1
  obtain ⟨S', v, M1, M2, f1, a1, l1, g1, hI⟩ := li_op hb h
  refine ⟨S', M2, ?_, hI⟩
  rw [eL_law_1478, hlen, x1, cond_true, hA, n1, f1, e_bd]
  dsimp only
  rw [l1, x1, cond_true, a1, g1, e_bd]
  dsimp only
  rw [x_refl, cond_true]
theorem lw_1501 {N n t L : Nat} {A : Nat → Int32} {S : SV} {M : XM} (h : LI A L t S M) (h6 : 6 * t + 6 ≤ L) (hL : L ≤ 3072) (hb : both t S (fX8_seed N [.ref 0, .int (A (6 * t + 1))]) (fX9_seed N [.ref 64, .int (A (6 * t + 1))])) : ∃ (S' : SV) (M' : XM), gL_law N (n + 1) 1501 [.ref 202, .ref 0, .ref 64, .int (Int32.ofInt ((6 * t : Nat) : Int))] [] M = gL_law N n 1573 [.ref 202, .ref 0, .ref 64, .int (Int32.ofInt ((6 * t : Nat) : Int))] [] M' ∧ LI A L (t + 1) S' M' := by
  have x1 : xin (Int32.ofInt ((6 * t : Nat) : Int) + Int32.ofInt 1) L = true := l_in h6 hL 1 (by omega)
  have n1 : (Int32.ofInt ((6 * t : Nat) : Int) + Int32.ofInt 1).toNatClampNeg = 6 * t + 1 := l_ix h6 hL 1 (by omega)
  have hlen : xlen M 202 = L := h.2.2.2.2
  have hA : M.1 202 = A := h.2.2.2.1
  obtain ⟨S', v, M1, M2, f1, a1, l1, g1, hI⟩ := li_op hb h
  refine ⟨S', M2, ?_, hI⟩
  rw [eL_law_1501, hlen, x1, cond_true, hA, n1, f1, e_bd]
  dsimp only
  rw [l1, x1, cond_true, a1, g1, e_bd]
  dsimp only
  rw [x_refl, cond_true]
theorem lw_1524 {N n t L : Nat} {A : Nat → Int32} {S : SV} {M : XM} (h : LI A L t S M) (h6 : 6 * t + 6 ≤ L) (hL : L ≤ 3072) (hb : both t S (fX8_image N [.ref 0]) (fX9_image N [.ref 64])) : ∃ (S' : SV) (M' : XM), gL_law N (n + 1) 1524 [.ref 202, .ref 0, .ref 64, .int (Int32.ofInt ((6 * t : Nat) : Int))] [] M = gL_law N n 1573 [.ref 202, .ref 0, .ref 64, .int (Int32.ofInt ((6 * t : Nat) : Int))] [] M' ∧ LI A L (t + 1) S' M' := by
  have hlen : xlen M 202 = L := h.2.2.2.2
  have hA : M.1 202 = A := h.2.2.2.1
  obtain ⟨S', v, M1, M2, f1, a1, l1, g1, hI⟩ := li_op hb h
  refine ⟨S', M2, ?_, hI⟩
  rw [eL_law_1524, f1, e_bd]
  dsimp only
  rw [g1, e_bd]
  dsimp only
  rw [x_refl, cond_true]
theorem lw_1537 {N n t L : Nat} {A : Nat → Int32} {S : SV} {M : XM} (h : LI A L t S M) (h6 : 6 * t + 6 ≤ L) (hL : L ≤ 3072) (hb : both t S (fX8_back N [.ref 0]) (fX9_back N [.ref 64])) : ∃ (S' : SV) (M' : XM), gL_law N (n + 1) 1537 [.ref 202, .ref 0, .ref 64, .int (Int32.ofInt ((6 * t : Nat) : Int))] [] M = gL_law N n 1573 [.ref 202, .ref 0, .ref 64, .int (Int32.ofInt ((6 * t : Nat) : Int))] [] M' ∧ LI A L (t + 1) S' M' := by
  have hlen : xlen M 202 = L := h.2.2.2.2
  have hA : M.1 202 = A := h.2.2.2.1
  obtain ⟨S', v, M1, M2, f1, a1, l1, g1, hI⟩ := li_op hb h
  refine ⟨S', M2, ?_, hI⟩
  rw [eL_law_1537, f1, e_bd]
  dsimp only
  rw [g1, e_bd]
  dsimp only
  rw [x_refl, cond_true]
theorem lw_1550 {N n t L : Nat} {A : Nat → Int32} {S : SV} {M : XM} (h : LI A L t S M) (h6 : 6 * t + 6 ≤ L) (hL : L ≤ 3072) (hb : both t S (fX8_status N [.ref 0, .int (A (6 * t + 1))]) (fX9_status N [.ref 64, .int (A (6 * t + 1))])) : ∃ (S' : SV) (M' : XM), gL_law N (n + 1) 1550 [.ref 202, .ref 0, .ref 64, .int (Int32.ofInt ((6 * t : Nat) : Int))] [] M = gL_law N n 1573 [.ref 202, .ref 0, .ref 64, .int (Int32.ofInt ((6 * t : Nat) : Int))] [] M' ∧ LI A L (t + 1) S' M' := by
  have x1 : xin (Int32.ofInt ((6 * t : Nat) : Int) + Int32.ofInt 1) L = true := l_in h6 hL 1 (by omega)
  have n1 : (Int32.ofInt ((6 * t : Nat) : Int) + Int32.ofInt 1).toNatClampNeg = 6 * t + 1 := l_ix h6 hL 1 (by omega)
  have hlen : xlen M 202 = L := h.2.2.2.2
  have hA : M.1 202 = A := h.2.2.2.1
  obtain ⟨S', v, M1, M2, f1, a1, l1, g1, hI⟩ := li_op hb h
  refine ⟨S', M2, ?_, hI⟩
  rw [eL_law_1550, hlen, x1, cond_true, hA, n1, f1, e_bd]
  dsimp only
  rw [l1, x1, cond_true, a1, g1, e_bd]
  dsimp only
  rw [x_refl, cond_true]
