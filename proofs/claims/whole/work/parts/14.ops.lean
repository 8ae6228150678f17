def und (k j : Nat) : Bool := decide (k = j) || decide (j = 0) || (decide (j = 1) && decide (k = 3)) || (decide (j = 2) && decide (k = 4))
theorem v_under {N k j : Nat} {M : XM} (hk : k < 6) (hj : j < 6) : fX0_isUnder N [.int (Int32.ofInt k), .int (Int32.ofInt j)] M = some (bi (und k j), M) ∧ fX9_isUnder N [.int (Int32.ofInt k), .int (Int32.ofInt j)] M = some (bi (und k j), M) := by
  rw [eX0_isUnder, eX9_isUnder]
  match k, hk, j, hj with
  | 0, _, 0, _ | 0, _, 1, _ | 0, _, 2, _ | 0, _, 3, _ | 0, _, 4, _ | 0, _, 5, _
  | 1, _, 0, _ | 1, _, 1, _ | 1, _, 2, _ | 1, _, 3, _ | 1, _, 4, _ | 1, _, 5, _
  | 2, _, 0, _ | 2, _, 1, _ | 2, _, 2, _ | 2, _, 3, _ | 2, _, 4, _ | 2, _, 5, _
  | 3, _, 0, _ | 3, _, 1, _ | 3, _, 2, _ | 3, _, 3, _ | 3, _, 4, _ | 3, _, 5, _
  | 4, _, 0, _ | 4, _, 1, _ | 4, _, 2, _ | 4, _, 3, _ | 4, _, 4, _ | 4, _, 5, _
  | 5, _, 0, _ | 5, _, 1, _ | 5, _, 2, _ | 5, _, 3, _ | 5, _, 4, _ | 5, _, 5, _ => exact ⟨rfl, rfl⟩
def f_lok (R : RV) (q : Nat) : Nat → Nat → Int32 → Int32
  | 0, _, x => x
  | d + 1, k, x => f_lok R q d (k + 1) (bif R.lv.testBit k && decide (R.kd k = q) then x + Int32.ofInt 1 else x)
theorem l_lok8 {N q : Nat} {M : XM} {R : RV} (hR : cv 1 R M) (hW : Wf R) (hq : q < 6) : ∀ (d n k : Nat) (x : Int32), k + d = R.nb → d < n → gX3_livingOfKind N n 4 [.ref 1, .int (Int32.ofInt q), .int x, .int (Int32.ofInt k)] [] M = some (f_lok R q d k x, M)
  | 0, n + 1, k, x, hk, _ => by
    have h10 := hW.1
    rw [eX3_livingOfKind_4 _ _ _ _ _ _ (by omega), hR.1, i_lt (by omega) (by omega), decide_eq_false (by omega)]; rfl
  | d + 1, n + 1, k, x, hk, hn => by
    have h10 := hW.1
    have ih := l_lok8 (N := N) hR hW hq d n (k + 1)
    have hkd := (hW.2.2.2.1 k (by omega)).1
    have x0 : x + Int32.ofInt 0 = x := by rw [show Int32.ofInt 0 = 0 from rfl, Int32.add_zero]
    unfold f_lok
    rw [eX3_livingOfKind_4 _ _ _ _ _ _ (by omega), hR.1, i_lt (by omega) (by omega), decide_eq_true (by omega), cond_true, v_isLivingn (by omega) hR hW (by omega), e_bd, b_z, i_add, x0]
    cases h : R.lv.testBit k with
    | false => exact ih x (by omega) (by omega)
    | true =>
      rw [cond_true, i_inn (show k < 2147483648 by omega), show ∀ M, xlen M (1 + 1) = 16 from fun _ => rfl, decide_eq_true (show k < 16 by omega), cond_true, i_natn (show k < 2147483648 by omega), Bool.true_and]
      show (bif xeq (M.1 2 k) (Int32.ofInt q) then _ else _) = _
      rw [(hR.2.2.2.2.2.1 k (by omega)).1, i_eq (by omega) (by omega)]
      by_cases e : R.kd k = q
      · rw [decide_eq_true (show (R.kd k : Int) = q by omega), decide_eq_true e]
        exact ih _ (by omega) (by omega)
      · rw [decide_eq_false (show ¬ (R.kd k : Int) = q by omega), decide_eq_false e]
        exact ih _ (by omega) (by omega)
theorem l_lok9 {N b : Nat} {M : XM} {R : RV} (hR : mv R M) (hW : Wf R) (hb : b < R.nb) : ∀ (d n k : Nat) (x : Int32), k + d = R.nb → d < n → gX9_says N n 101 [.ref 64, .retAddr 0, .retAddr 0, .int (Int32.ofInt b), .int x, .int (Int32.ofInt k)] [] M = some (f_lok R (R.kd b) d k x, M)
  | 0, n + 1, k, x, hk, _ => by
    have h10 := hW.1
    rw [eX9_says_101, hR.1, i_lt (by omega) (by omega), decide_eq_false (by omega)]; rfl
  | d + 1, n + 1, k, x, hk, hn => by
    have h10 := hW.1
    have ih := l_lok9 (N := N) hR hW hb d n (k + 1)
    have hkd := (hW.2.2.2.1 k (by omega)).1
    have hkb := (hW.2.2.2.1 b hb).1
    unfold f_lok
    rw [eX9_says_101, hR.1, i_lt (by omega) (by omega), decide_eq_true (by omega), cond_true, i_inn (show k < 2147483648 by omega), show xlen M (64 + 6) = 11 from rfl, show xlen M (64 + 1) = 11 from rfl, decide_eq_true (show k < 11 by omega), cond_true, i_natn (show k < 2147483648 by omega), (hR.2.2.2.2.1 k (by omega)).2.2.2.2.2, b_z, i_add]
    cases h : R.lv.testBit k with
    | false => exact ih x (by omega) (by omega)
    | true =>
      rw [cond_true, i_inn (show k < 2147483648 by omega), decide_eq_true (show k < 11 by omega), cond_true, i_inn (show b < 2147483648 by omega), decide_eq_true (show b < 11 by omega), cond_true, i_natn (show b < 2147483648 by omega), Bool.true_and]
      show (bif xeq (M.1 65 k) (M.1 65 b) then _ else _) = _
      rw [(hR.2.2.2.2.1 k (by omega)).1, (hR.2.2.2.2.1 b hb).1, i_eq (by omega) (by omega)]
      by_cases e : R.kd k = R.kd b
      · rw [decide_eq_true (show (R.kd k : Int) = R.kd b by omega), decide_eq_true e]
        exact ih _ (by omega) (by omega)
      · rw [decide_eq_false (show ¬ (R.kd k : Int) = R.kd b by omega), decide_eq_false e]
        exact ih _ (by omega) (by omega)
set_option maxRecDepth 100000 in
theorem op_says {t : Nat} {S : SV} (hW : WfS S) {N : Nat} (hN : 41 < N) (a b : Int32) : both t S (fX8_says N [.ref 0, .int a, .int b]) (fX9_says N [.ref 64, .int a, .int b]) := by
  have h10 := hW.1.1
  obtain ⟨z, hz, rfl⟩ := i_ex b
  cases h1 : xin a 8 with
  | false =>
    refine both_ref' hW 0 (by omega) N (fun M hM => ?_) (fun M hM => ?_)
    · rw [eX8_says, v_isShelf.1, e_bd, b_z, h1]; rfl
    · rw [eX9_says, v_isShelf.2, e_bd, b_z, h1]; rfl
  | true =>
    obtain ⟨k, hk, rfl⟩ := xin_ex (by omega) h1
    have hw := hW.2.2.2.2 k hk
    cases h2 : (decide (0 ≤ z) && decide (z ≤ 5)) with
    | false =>
      refine both_ref' hW 0 (by omega) N (fun M hM => ?_) (fun M hM => ?_)
      · rw [eX8_says, v_isShelf.1, e_bd, b_z, h1, cond_true, (v_isKind hz).1, e_bd, b_z, h2]; rfl
      · rw [eX9_says, v_isShelf.2, e_bd, b_z, h1, cond_true, (v_isKind hz).2, e_bd, b_z, h2]; rfl
    | true =>
      have h2' := h2
      simp only [Bool.and_eq_true, decide_eq_true_eq] at h2'
      obtain ⟨j, rfl⟩ := Int.eq_ofNat_of_zero_le h2'.1
      have hc : ∀ M, CX t S M → fX8_says N [.ref 0, .int (Int32.ofInt k), .int (Int32.ofInt j)] M = (bif decide (S.th k = -1) then (fX8_refuse N [.ref 0, .int (Int32.ofInt (-4))] M).bind (fun q3 => xrI (some (.int q3.1)) q3.2) else ((fX3_has N [.ref 1, .int (Int32.ofInt (S.th k - 10))] M).bind fun q3 => bif xeq q3.1 (0 : Int32) then ((fX8_refuse N [.ref 0, .int (Int32.ofInt (-3))] q3.2).bind fun q4 => xrI (some (.int q4.1)) q4.2) else (bif xin (Int32.ofInt (S.th k - 10)) (xlen q3.2 2) then (fX0_isUnder N [.int (q3.2.1 2 ((Int32.ofInt (S.th k - 10)).toNatClampNeg)), .int (Int32.ofInt j)] q3.2).bind fun q4 => bif xeq q4.1 (0 : Int32) then ((fX8_refuse N [.ref 0, .int (Int32.ofInt (-3))] q4.2).bind fun q5 => xrI (some (.int q5.1)) q5.2) else (bif xeq (Int32.ofInt j) (0 : Int32) then (bif xin (Int32.ofInt (S.th k - 10)) (xlen q4.2 3) then xrI (some (.int (q4.2.1 3 ((Int32.ofInt (S.th k - 10)).toNatClampNeg)))) q4.2 else none) else (bif xin (Int32.ofInt (S.th k - 10)) (xlen q4.2 2) then (fX3_livingOfKind N [.ref 1, .int (q4.2.1 2 ((Int32.ofInt (S.th k - 10)).toNatClampNeg))] q4.2).bind fun q5 => xrI (some (.int q5.1)) q5.2 else none)) else none))) := fun M hM => by
        rw [eX8_says, v_isShelf.1, e_bd, b_z, h1, cond_true, (v_isKind hz).1, e_bd, b_z, h2, cond_true, i_inn (by omega), show xlen M (0 + 46) = 8 from rfl, decide_eq_true hk, cond_true, i_natn (by omega), (x_shelf hk).1, (x_shelf hk).2]
        show (fX5_isEmpty N [.ref (48 + 2 * k)] M).bind _ = _
        rw [v_isEmpty hW hM hk, e_bd, b_z, (hM.2.2.2.2.2.1 k hk).1, i_sub]
      by_cases h3 : S.th k = -1
      · refine both_ref' hW 2 (by omega) N (fun M hM => ?_) (fun M hM => ?_)
        · rw [hc M hM, decide_eq_true h3]; rfl
        · rw [eX9_says, v_isShelf.2, e_bd, b_z, h1, cond_true, (v_isKind hz).2, e_bd, b_z, h2, cond_true, v_isRow9 hW hM hk, e_bd, b_z, v_notrow (by omega), cond_false, i_inn (by omega), show xlen M (64 + 9) = 8 from rfl, decide_eq_true hk, cond_true, i_natn (by omega), show 64 + 9 = 73 from rfl, (hM.2.2.2.2.2.1 k hk).1, h3, show xlt (Int32.ofInt (-1)) 0 = true by decide +kernel]; rfl
      · by_cases h4 : S.th k < 5
        · refine both_ref' hW 1 (by omega) N (fun M hM => ?_) (fun M hM => ?_)
          · rw [hc M hM, decide_eq_false h3, cond_false, v_has (by omega) hM.1.1 (by omega), e_bd, b_z, i_in (by omega), decide_eq_false (show ¬ 0 ≤ S.th k - 10 by omega)]; rfl
          · rw [eX9_says, v_isShelf.2, e_bd, b_z, h1, cond_true, (v_isKind hz).2, e_bd, b_z, h2, cond_true, v_isRow9 hW hM hk, e_bd, b_z, v_row (by omega)]; rfl
        · obtain ⟨x, hx⟩ := Int.eq_ofNat_of_zero_le (show 0 ≤ S.th k - 10 by omega)
          have hxn : x < S.R.nb := by omega
          have hkd := (hW.1.2.2.2.1 x hxn).1
          have hm : ∀ M, CM S M → fX9_says N [.ref 64, .int (Int32.ofInt k), .int (Int32.ofInt j)] M = (bif und (S.R.kd x) j then (bif xeq (Int32.ofInt j) (0 : Int32) then some (Int32.ofInt (S.R.am x), M) else some (f_lok S.R (S.R.kd x) S.R.nb 0 (Int32.ofInt 0), M)) else (fX9_no N [.ref 64, .int (Int32.ofInt (-3))] M).bind fun q4 => xrI (some (.int q4.1)) q4.2) := fun M hM => by
            rw [eX9_says, v_isShelf.2, e_bd, b_z, h1, cond_true, (v_isKind hz).2, e_bd, b_z, h2, cond_true, v_isRow9 hW hM hk, e_bd, b_z, v_notrow (by omega), cond_false, i_inn (by omega), show xlen M (64 + 9) = 8 from rfl, decide_eq_true hk, cond_true, i_natn (by omega), show 64 + 9 = 73 from rfl, (hM.2.2.2.2.2.1 k hk).1, show (0 : Int32) = Int32.ofInt 0 from rfl, i_lt (by omega) (by omega), decide_eq_false (show ¬ S.th k < 0 by omega), cond_false, cond_true, i_sub, hx, i_inn (show x < 2147483648 by omega), show xlen M (64 + 1) = 11 from rfl, decide_eq_true (show x < 11 by omega), cond_true, i_natn (show x < 2147483648 by omega), show 64 + 1 = 65 from rfl, (hM.1.2.2.2.2.1 x hxn).1, (v_under hkd (show j < 6 by omega)).2, e_bd, ← show (0 : Int32) = Int32.ofInt 0 from rfl, b_z]
            cases und (S.R.kd x) j with
            | false => rfl
            | true =>
              rw [cond_true, cond_true]
              cases xeq (Int32.ofInt j) (0 : Int32) with
              | true =>
                rw [cond_true, cond_true, i_inn (show x < 2147483648 by omega), show ∀ M, xlen M (64 + 2) = 11 from fun _ => rfl, decide_eq_true (show x < 11 by omega), cond_true, e_I]
                show some (M.1 66 x, M) = _
                rw [(hM.1.2.2.2.2.1 x hxn).2.1]
              | false =>
                rw [cond_false, cond_false]
                exact l_lok9 hM.1 hW.1 hxn _ _ 0 _ (by omega) (by omega)
          have hc2 : ∀ M, CX t S M → fX8_says N [.ref 0, .int (Int32.ofInt k), .int (Int32.ofInt j)] M = (bif und (S.R.kd x) j then (bif xeq (Int32.ofInt j) (0 : Int32) then some (Int32.ofInt (S.R.am x), M) else some (f_lok S.R (S.R.kd x) S.R.nb 0 (Int32.ofInt 0), M)) else (fX8_refuse N [.ref 0, .int (Int32.ofInt (-3))] M).bind fun q4 => xrI (some (.int q4.1)) q4.2) := fun M hM => by
            rw [hc M hM, decide_eq_false h3, cond_false, hx, v_has (by omega) hM.1.1 (by omega), e_bd, b_z, i_inn (show x < 2147483648 by omega), i_inn (show x < 2147483648 by omega), decide_eq_true hxn, cond_true, show xlen M 2 = 16 from rfl, decide_eq_true (show x < 16 by omega), cond_true, i_natn (show x < 2147483648 by omega), (hM.1.2.2.2.2.2.1 x hxn).1, (v_under hkd (show j < 6 by omega)).1, e_bd, b_z]
            cases und (S.R.kd x) j with
            | false => rfl
            | true =>
              rw [cond_true, cond_true]
              cases xeq (Int32.ofInt j) (0 : Int32) with
              | true =>
                rw [cond_true, cond_true, i_inn (show x < 2147483648 by omega), show ∀ M, xlen M 3 = 16 from fun _ => rfl, decide_eq_true (show x < 16 by omega), cond_true, e_I]
                show some (M.1 3 x, M) = _
                rw [(hM.1.2.2.2.2.2.1 x hxn).2.1]
              | false =>
                rw [cond_false, cond_false, i_inn (show x < 2147483648 by omega), show ∀ M, xlen M 2 = 16 from fun _ => rfl, decide_eq_true (show x < 16 by omega), cond_true]
                show (fX3_livingOfKind N [.ref 1, .int (M.1 2 x)] M).bind _ = _
                rw [(hM.1.2.2.2.2.2.1 x hxn).1, e_rI, eX3_livingOfKind _ _ _ (by omega)]
                exact l_lok8 hM.1 hW.1 hkd _ _ 0 _ (by omega) (by omega)
          cases h5 : und (S.R.kd x) j with
          | false =>
            refine both_ref' hW 1 (by omega) N (fun M hM => ?_) (fun M hM => ?_)
            · rw [hc2 M hM, h5]; rfl
            · rw [hm M hM, h5]; rfl
          | true =>
            cases h6 : xeq (Int32.ofInt j) (0 : Int32) with
            | true => exact both_same hW (Int32.ofInt (S.R.am x)) (fun M hM => by rw [hc2 M hM, h5, h6]; rfl) (fun M hM => by rw [hm M hM, h5, h6]; rfl)
            | false => exact both_same hW (f_lok S.R (S.R.kd x) S.R.nb 0 (Int32.ofInt 0)) (fun M hM => by rw [hc2 M hM, h5, h6]; rfl) (fun M hM => by rw [hm M hM, h5, h6]; rfl)
