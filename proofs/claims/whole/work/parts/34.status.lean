def f_pair (R : RV) : Nat → Nat → Int32 → Int32
  | 0, _, x => x
  | d + 1, k, x => f_pair R d (k + 1) (x + Int32.ofInt (pop (R.fd k)))
def f_age (R : RV) : Nat → Nat → Nat → Nat
  | 0, _, x => x
  | d + 1, k, x => f_age R d (k + 1) (bif R.lv.testBit k then x + R.ag k else x)
def f_sh (S : SV) : Nat → Nat → Nat → Nat
  | 0, _, x => x
  | d + 1, k, x => f_sh S d (k + 1) (if S.th k = -1 then x else x + 1)
theorem l_pair8 {N : Nat} {M : XM} {R : RV} (hR : cv 1 R M) (hW : Wf R) : ∀ (d n k : Nat) (x : Int32), k + d = R.nb → d < n → gX3_pairsFeuding N n 4 [.ref 1, .int x, .int (Int32.ofInt k)] [] M = some (f_pair R d k x / Int32.ofInt 2, M)
  | 0, n + 1, k, x, hk, _ => by
    have h10 := hW.1
    rw [eX3_pairsFeuding_4 _ _ _ _ _ (by omega), hR.1, i_lt (by omega) (by omega), decide_eq_false (by omega), cond_false, show xeq (Int32.ofInt 2) 0 = false by decide +kernel]
    rfl
  | d + 1, n + 1, k, x, hk, hn => by
    have h10 := hW.1
    have ih := l_pair8 (N := N) hR hW d n (k + 1)
    rw [eX3_pairsFeuding_4 _ _ _ _ _ (by omega), hR.1, i_lt (by omega) (by omega), decide_eq_true (by omega), cond_true, i_inn (by omega), show xlen M (1 + 5) = 16 from rfl, decide_eq_true (by omega), cond_true, i_natn (by omega), show 1 + 5 = 6 from rfl, (hR.2.2.2.2.2.1 k (by omega)).2.2.2.2, v_pop N (fd_small hW (by omega)), e_bd, i_suc]
    exact ih _ (by omega) (by omega)
theorem l_pair9 {N : Nat} {M : XM} {R : RV} (hR : mv R M) (hW : Wf R) : ∀ (d n k : Nat) (x : Int32), k + d = R.nb → d < n → gX9_pairs N n 4 [.ref 64, .int x, .int (Int32.ofInt k)] [] M = some (f_pair R d k x / Int32.ofInt 2, M)
  | 0, n + 1, k, x, hk, _ => by
    have h10 := hW.1
    rw [eX9_pairs_4, hR.1, i_lt (by omega) (by omega), decide_eq_false (by omega), cond_false, show xeq (Int32.ofInt 2) 0 = false by decide +kernel]
    rfl
  | d + 1, n + 1, k, x, hk, hn => by
    have h10 := hW.1
    have ih := l_pair9 (N := N) hR hW d n (k + 1)
    rw [eX9_pairs_4, hR.1, i_lt (by omega) (by omega), decide_eq_true (by omega), cond_true, i_inn (by omega), show xlen M (64 + 5) = 11 from rfl, decide_eq_true (by omega), cond_true, i_natn (by omega), show 64 + 5 = 69 from rfl, (hR.2.2.2.2.1 k (by omega)).2.2.2.2.1, v_pop N (fd_small hW (by omega)), e_bd, i_suc]
    exact ih _ (by omega) (by omega)
theorem l_age8 {N : Nat} {M : XM} {R : RV} (hR : cv 1 R M) (hW : Wf R) : ∀ (d n k x : Nat), k + d = R.nb → d < n → gX3_agesTogether N n 4 [.ref 1, .int (Int32.ofInt x), .int (Int32.ofInt k)] [] M = some (Int32.ofInt (f_age R d k x), M)
  | 0, n + 1, k, x, hk, _ => by
    have h10 := hW.1
    rw [eX3_agesTogether_4 _ _ _ _ _ (by omega), hR.1, i_lt (by omega) (by omega), decide_eq_false (by omega)]
    rfl
  | d + 1, n + 1, k, x, hk, hn => by
    have h10 := hW.1
    have ih := l_age8 (N := N) hR hW d n (k + 1)
    rw [eX3_agesTogether_4 _ _ _ _ _ (by omega), hR.1, i_lt (by omega) (by omega), decide_eq_true (by omega), cond_true, v_isLivingn (by omega) hR hW (by omega), e_bd, b_z, i_suc, f_age, i_add, show (x : Int) + 0 = x by omega]
    dsimp only
    rw [i_inn (by omega), show xlen M (1 + 4) = 16 from rfl, decide_eq_true (by omega), cond_true, i_natn (by omega), show 1 + 4 = 5 from rfl, (hR.2.2.2.2.2.1 k (by omega)).2.2.2.1, i_add]
    cases R.lv.testBit k with
    | false => exact ih x (by omega) (by omega)
    | true => exact ih (x + R.ag k) (by omega) (by omega)
theorem l_age9 {N : Nat} {M : XM} {R : RV} (hR : mv R M) (hW : Wf R) : ∀ (d n k x : Nat), k + d = R.nb → d < n → gX9_ages N n 4 [.ref 64, .int (Int32.ofInt x), .int (Int32.ofInt k)] [] M = some (Int32.ofInt (f_age R d k x), M)
  | 0, n + 1, k, x, hk, _ => by
    have h10 := hW.1
    rw [eX9_ages_4, hR.1, i_lt (by omega) (by omega), decide_eq_false (by omega)]
    rfl
  | d + 1, n + 1, k, x, hk, hn => by
    have h10 := hW.1
    have ih := l_age9 (N := N) hR hW d n (k + 1)
    rw [eX9_ages_4, hR.1, i_lt (by omega) (by omega), decide_eq_true (by omega), cond_true, show xlen M (64 + 6) = 11 from rfl, show xlen M (64 + 4) = 11 from rfl, i_inn (by omega), decide_eq_true (show k < 11 by omega), cond_true, cond_true, i_natn (by omega), show 64 + 6 = 70 from rfl, show 64 + 4 = 68 from rfl, (hR.2.2.2.2.1 k (by omega)).2.2.2.2.2, (hR.2.2.2.2.1 k (by omega)).2.2.2.1, b_z, i_suc, f_age, i_add]
    cases R.lv.testBit k with
    | false => exact ih x (by omega) (by omega)
    | true => exact ih (x + R.ag k) (by omega) (by omega)
theorem l_sh8 {N : Nat} {t : Nat} {S : SV} (hW : WfS S) {M : XM} (hM : CX t S M) : ∀ (d n k x : Nat), k + d = 8 → d < n → gX8_shelvesHolding N n 4 [.ref 0, .int (Int32.ofInt x), .int (Int32.ofInt k)] [] M = some (Int32.ofInt (f_sh S d k x), M)
  | 0, n + 1, k, x, hk, _ => by
    rw [eX8_shelvesHolding_4, i_lt (by omega) (by omega), decide_eq_false (by omega)]
    rfl
  | d + 1, n + 1, k, x, hk, hn => by
    have ih := l_sh8 (N := N) hW hM d n (k + 1)
    rw [eX8_shelvesHolding_4, i_lt (by omega) (by omega), decide_eq_true (by omega), cond_true, i_inn (by omega), show xlen M (0 + 46) = 8 from rfl, decide_eq_true (by omega), cond_true, i_natn (by omega), (x_shelf (by omega)).1, (x_shelf (by omega)).2]
    show (fX5_isEmpty N [.ref (48 + 2 * k)] M).bind _ = _
    rw [v_isEmpty hW hM (by omega), e_bd, b_z, i_suc, f_sh, i_add, i_add, show (x : Int) + 0 = x by omega]
    by_cases e : S.th k = -1
    · rw [decide_eq_true e, if_pos e]
      exact ih x (by omega) (by omega)
    · rw [decide_eq_false e, if_neg e]
      exact ih (x + 1) (by omega) (by omega)
theorem l_sh9 {N : Nat} {S : SV} (hW : WfS S) {M : XM} (hM : CM S M) : ∀ (d n k x : Nat), k + d = 8 → d < n → gX9_status N n 97 [.ref 64, .retAddr 0, .int (Int32.ofInt x), .int (Int32.ofInt k)] [] M = some (Int32.ofInt (f_sh S d k x), M)
  | 0, n + 1, k, x, hk, _ => by
    rw [eX9_status_97, i_lt (by omega) (by omega), decide_eq_false (by omega)]
    rfl
  | d + 1, n + 1, k, x, hk, hn => by
    have ih := l_sh9 (N := N) hW hM d n (k + 1)
    have hth := (hW.2.2.2.2 k (by omega)).1
    have h10 := hW.1.1
    rw [eX9_status_97, i_lt (by omega) (by omega), decide_eq_true (by omega), cond_true, i_inn (by omega), show xlen M (64 + 9) = 8 from rfl, decide_eq_true (by omega), cond_true, i_natn (by omega), show 64 + 9 = 73 from rfl, (hM.2.2.2.2.2.1 k (by omega)).1, i_eq (by omega) (by omega), i_suc, i_suc, f_sh]
    by_cases e : S.th k = -1
    · rw [decide_eq_true e, if_pos e]
      exact ih x (by omega) (by omega)
    · rw [decide_eq_false e, if_neg e]
      exact ih (x + 1) (by omega) (by omega)
set_option maxRecDepth 100000 in
theorem op_status {t : Nat} {S : SV} (hW : WfS S) {N : Nat} (hN : big N) (a : Int32) : both t S (fX8_status N [.ref 0, .int a]) (fX9_status N [.ref 64, .int a]) := by
  obtain ⟨z, hz, rfl⟩ := i_ex a
  have hN' := hN
  unfold big at hN'
  have h10 := hW.1.1
  have tst : ∀ c : Int, rg c → xeq (Int32.ofInt z) (Int32.ofInt c) = decide (z = c) := fun c hc => i_eq hz hc
  have c8 : ∀ M, fX8_status N [.ref 0, .int (Int32.ofInt z)] M = _ := fun M => eX8_status N (Int32.ofInt z) M
  have c9 : ∀ M, fX9_status N [.ref 64, .int (Int32.ofInt z)] M = _ := fun M => eX9_status N (Int32.ofInt z) M
  simp only [tst 0 (by omega), tst 1 (by omega), tst 2 (by omega), tst 3 (by omega), tst 4 (by omega), tst 5 (by omega), tst 6 (by omega), tst 7 (by omega), tst 8 (by omega), Nat.zero_add] at c8 c9
  by_cases e0 : z = 0
  · refine both_same hW (Int32.ofInt S.R.nb) (fun M hM => ?_) (fun M hM => ?_)
    · rw [c8, decide_eq_true e0, cond_true, hM.1.1]; rfl
    · rw [c9, decide_eq_true e0, cond_true, hM.1.1]; rfl
  by_cases e1 : z = 1
  · refine both_same hW (Int32.ofInt (pop S.R.lv)) (fun M hM => ?_) (fun M hM => ?_)
    · rw [c8, decide_eq_false e0, cond_false, decide_eq_true e1, cond_true, hM.1.2.1, v_pop N (lv_small hW.1)]; rfl
    · rw [c9, decide_eq_false e0, cond_false, decide_eq_true e1, cond_true, v_living (by omega) hM.1 hW.1, e_bd]
      dsimp only
      rw [v_pop N (lv_small hW.1)]; rfl
  by_cases e2 : z = 2
  · refine both_same hW (Int32.ofInt S.R.nn) (fun M hM => ?_) (fun M hM => ?_)
    · rw [c8, decide_eq_false e0, decide_eq_false e1, decide_eq_true e2, cond_false, cond_false, cond_true, hM.1.2.2.1]; rfl
    · rw [c9, decide_eq_false e0, decide_eq_false e1, decide_eq_true e2, cond_false, cond_false, cond_true, hM.1.2.1]; rfl
  by_cases e3 : z = 3
  · refine both_same hW (f_pair S.R S.R.nb 0 (Int32.ofInt 0) / Int32.ofInt 2) (fun M hM => ?_) (fun M hM => ?_)
    · rw [c8, decide_eq_false e0, decide_eq_false e1, decide_eq_false e2, decide_eq_true e3, cond_false, cond_false, cond_false, cond_true, eX3_pairsFeuding _ _ (by omega)]
      have := l_pair8 (N := N) hM.1 hW.1 S.R.nb N 0 (Int32.ofInt 0) (by omega) (by omega)
      have this : gX3_pairsFeuding N N 4 [.ref 1, .int (Int32.ofInt 0), .int (Int32.ofInt 0)] [] M = _ := this
      rw [this]; rfl
    · rw [c9, decide_eq_false e0, decide_eq_false e1, decide_eq_false e2, decide_eq_true e3, cond_false, cond_false, cond_false, cond_true, eX9_pairs]
      have := l_pair9 (N := N) hM.1 hW.1 S.R.nb N 0 (Int32.ofInt 0) (by omega) (by omega)
      have this : gX9_pairs N N 4 [.ref 64, .int (Int32.ofInt 0), .int (Int32.ofInt 0)] [] M = _ := this
      rw [this]; rfl
  by_cases e4 : z = 4
  · refine both_same hW S.R.sd (fun M hM => ?_) (fun M hM => ?_)
    · rw [c8, decide_eq_false e0, decide_eq_false e1, decide_eq_false e2, decide_eq_false e3, decide_eq_true e4]
      simp only [cond_false, cond_true]
      rw [hM.1.2.2.2.1]; rfl
    · rw [c9, decide_eq_false e0, decide_eq_false e1, decide_eq_false e2, decide_eq_false e3, decide_eq_true e4]
      simp only [cond_false, cond_true]
      rw [hM.1.2.2.1]; rfl
  by_cases e5 : z = 5
  · refine both_same hW (Int32.ofInt (f_age S.R S.R.nb 0 0)) (fun M hM => ?_) (fun M hM => ?_)
    · rw [c8, decide_eq_false e0, decide_eq_false e1, decide_eq_false e2, decide_eq_false e3, decide_eq_false e4, decide_eq_true e5]
      simp only [cond_false, cond_true]
      have := l_age8 (N := N) hM.1 hW.1 S.R.nb N 0 0 (by omega) (by omega)
      have this : gX3_agesTogether N N 4 [.ref 1, .int (Int32.ofInt 0), .int (Int32.ofInt 0)] [] M = _ := this
      rw [eX3_agesTogether _ _ (by omega), this]; rfl
    · rw [c9, decide_eq_false e0, decide_eq_false e1, decide_eq_false e2, decide_eq_false e3, decide_eq_false e4, decide_eq_true e5]
      simp only [cond_false, cond_true]
      have := l_age9 (N := N) hM.1 hW.1 S.R.nb N 0 0 (by omega) (by omega)
      have this : gX9_ages N N 4 [.ref 64, .int (Int32.ofInt 0), .int (Int32.ofInt 0)] [] M = _ := this
      rw [eX9_ages, this]; rfl
  by_cases e6 : z = 6
  · refine both_same hW (Int32.ofInt S.tz) (fun M hM => ?_) (fun M hM => ?_)
    · rw [c8, decide_eq_false e0, decide_eq_false e1, decide_eq_false e2, decide_eq_false e3, decide_eq_false e4, decide_eq_false e5, decide_eq_true e6]
      simp only [cond_false, cond_true]
      rw [hM.2.2.2.1]; rfl
    · rw [c9, decide_eq_false e0, decide_eq_false e1, decide_eq_false e2, decide_eq_false e3, decide_eq_false e4, decide_eq_false e5, decide_eq_true e6]
      simp only [cond_false, cond_true]
      rw [hM.2.2.2.1]; rfl
  by_cases e7 : z = 7
  · refine both_same hW S.R.se (fun M hM => ?_) (fun M hM => ?_)
    · rw [c8, decide_eq_false e0, decide_eq_false e1, decide_eq_false e2, decide_eq_false e3, decide_eq_false e4, decide_eq_false e5, decide_eq_false e6, decide_eq_true e7]
      simp only [cond_false, cond_true]
      rw [hM.1.2.2.2.2.1]; rfl
    · rw [c9, decide_eq_false e0, decide_eq_false e1, decide_eq_false e2, decide_eq_false e3, decide_eq_false e4, decide_eq_false e5, decide_eq_false e6, decide_eq_true e7]
      simp only [cond_false, cond_true]
      rw [hM.1.2.2.2.1]; rfl
  by_cases e8 : z = 8
  · refine both_same hW (Int32.ofInt (f_sh S 8 0 0)) (fun M hM => ?_) (fun M hM => ?_)
    · rw [c8, decide_eq_false e0, decide_eq_false e1, decide_eq_false e2, decide_eq_false e3, decide_eq_false e4, decide_eq_false e5, decide_eq_false e6, decide_eq_false e7, decide_eq_true e8]
      simp only [cond_false, cond_true]
      have := l_sh8 (N := N) hW hM 8 N 0 0 (by omega) (by omega)
      have this : gX8_shelvesHolding N N 4 [.ref 0, .int (Int32.ofInt 0), .int (Int32.ofInt 0)] [] M = _ := this
      rw [eX8_shelvesHolding, this]; rfl
    · rw [c9, decide_eq_false e0, decide_eq_false e1, decide_eq_false e2, decide_eq_false e3, decide_eq_false e4, decide_eq_false e5, decide_eq_false e6, decide_eq_false e7, decide_eq_true e8]
      simp only [cond_false, cond_true]
      exact l_sh9 (N := N) hW hM 8 N 0 0 (by omega) (by omega)
  by_cases e9 : 12 ≤ z ∧ z ≤ 16
  · obtain ⟨k, hk⟩ := Int.eq_ofNat_of_zero_le (show 0 ≤ z - 12 by omega)
    refine both_same hW (S.rf k) (fun M hM => ?_) (fun M hM => ?_)
    · rw [c8, decide_eq_false e0, decide_eq_false e1, decide_eq_false e2, decide_eq_false e3, decide_eq_false e4, decide_eq_false e5, decide_eq_false e6, decide_eq_false e7, decide_eq_false e8]
      simp only [cond_false]
      rw [chk hz (by omega) (by omega), decide_eq_true e9, cond_true, i_sub, hk, i_inn (by omega), show xlen M 47 = 5 from rfl, decide_eq_true (by omega), cond_true, i_natn (by omega), hM.2.2.2.2.2.2.1 k (by omega)]
      rfl
    · rw [c9, decide_eq_false e0, decide_eq_false e1, decide_eq_false e2, decide_eq_false e3, decide_eq_false e4, decide_eq_false e5, decide_eq_false e6, decide_eq_false e7, decide_eq_false e8]
      simp only [cond_false]
      rw [v_win hz (by omega) (by omega), e_bd, b_z, decide_eq_true e9, cond_true, i_sub, show z - 10 = ((k + 2 : Nat) : Int) by omega, i_inn (by omega), show xlen M (64 + 12) = 7 from rfl, decide_eq_true (by omega), cond_true, i_natn (by omega), show 64 + 12 = 76 from rfl, hM.2.2.2.2.2.2.1 k (by omega)]
      rfl
  · refine both_same hW (Int32.ofInt (-1)) (fun M hM => ?_) (fun M hM => ?_)
    · rw [c8, decide_eq_false e0, decide_eq_false e1, decide_eq_false e2, decide_eq_false e3, decide_eq_false e4, decide_eq_false e5, decide_eq_false e6, decide_eq_false e7, decide_eq_false e8]
      simp only [cond_false]
      rw [chk hz (by omega) (by omega), decide_eq_false e9]
      rfl
    · rw [c9, decide_eq_false e0, decide_eq_false e1, decide_eq_false e2, decide_eq_false e3, decide_eq_false e4, decide_eq_false e5, decide_eq_false e6, decide_eq_false e7, decide_eq_false e8]
      simp only [cond_false]
      rw [v_win hz (by omega) (by omega), e_bd, b_z, decide_eq_false e9]
      rfl
def rk (R : RV) (w b : Nat) : Int := if w = 0 then (R.ag b : Int) else if w = 1 then -(R.ag b : Int) else (pop (R.fd b) : Int)
theorem rk_b {R : RV} (hW : Wf R) (w : Nat) {b : Nat} (hb : b < R.nb) : -99 ≤ rk R w b ∧ rk R w b ≤ 99 := by
  have h := (hW.2.2.2.1 b hb).2.2.2.1
  have p := pop_10 (R.fd b)
  unfold rk
  split
  · omega
  · split <;> omega
def f_fst (R : RV) (w : Nat) : Nat → Nat → Int → Int → Int
  | 0, _, x, _ => x
  | d + 1, k, x, y => bif R.lv.testBit k && (decide (x = -1) || decide (y < rk R w k)) then f_fst R w d (k + 1) k (rk R w k) else f_fst R w d (k + 1) x y
theorem l_fst8 {N : Nat} {M : XM} {R : RV} (hR : cv 1 R M) (hW : Wf R) {w : Nat} (hw : w ≤ 2) : ∀ (d n k : Nat) (x y : Int), k + d = R.nb → d < n → -1 ≤ x ∧ x ≤ 10 → -99 ≤ y ∧ y ≤ 99 → gX3_foremost N n 7 [.ref 1, .int (Int32.ofInt w), .int (Int32.ofInt x), .int (Int32.ofInt y), .int (Int32.ofInt k), .retAddr 0] [] M = some (Int32.ofInt (f_fst R w d k x y), M)
  | 0, n + 1, k, x, y, hk, _, hx, hy => by
    have h10 := hW.1
    rw [eX3_foremost_7 _ _ _ _ _ _ _ (by omega), hR.1, i_lt (by omega) (by omega), decide_eq_false (by omega)]
    rfl
  | d + 1, n + 1, k, x, y, hk, hn, hx, hy => by
    have h10 := hW.1
    have hb := rk_b hW w (b := k) (by omega)
    have ih := fun x y => l_fst8 (N := N) hR hW hw d n (k + 1) x y (by omega) (by omega)
    have hcv := hR.2.2.2.2.2.1 k (by omega)
    have e0 : xeq (Int32.ofInt w) (0 : Int32) = decide ((w : Int) = 0) := i_eq (y := 0) (by omega) (by omega)
    have e1 : xeq (Int32.ofInt w) (Int32.ofInt 1) = decide ((w : Int) = 1) := i_eq (by omega) (by omega)
    have ex : xeq (Int32.ofInt x) (Int32.ofInt (-1)) = decide (x = -1) := i_eq (by omega) (by omega)
    rw [eX3_foremost_7 _ _ _ _ _ _ _ (by omega), hR.1, i_lt (by omega) (by omega), decide_eq_true (by omega), cond_true, e0, e1, show xlen M (1 + 4) = 16 from rfl, show xlen M (1 + 5) = 16 from rfl, i_inn (by omega), decide_eq_true (show k < 16 by omega), i_natn (by omega), show 1 + 4 = 5 from rfl, show 1 + 5 = 6 from rfl, hcv.2.2.2.1, hcv.2.2.2.2, v_isLivingn (by omega) hR hW (by omega), v_pop N (fd_small hW (by omega)), i_neg, i_suc]
    simp only [cond_true, e_bd]
    rw [v_isLivingn (by omega) hR hW (by omega)]
    simp only [e_bd]
    simp only [b_z, ex]
    rw [f_fst]
    rcases (show w = 0 ∨ w = 1 ∨ w = 2 by omega) with rfl | rfl | rfl
    · have e : rk R 0 k = (R.ag k : Int) := rfl
      rw [e] at hb ⊢
      rw [decide_eq_true (show ((0 : Nat) : Int) = 0 by omega), cond_true, i_lt (by omega) (by omega)]
      cases R.lv.testBit k with
      | false => exact ih x y hx hy
      | true =>
        cases decide (x = -1) with
        | true => exact ih _ _ (by omega) hb
        | false =>
          cases decide (y < (R.ag k : Int)) with
          | true => exact ih _ _ (by omega) hb
          | false => exact ih x y hx hy
    · have e : rk R 1 k = -(R.ag k : Int) := rfl
      rw [e] at hb ⊢
      rw [decide_eq_false (show ¬ ((1 : Nat) : Int) = 0 by omega), cond_false, decide_eq_true (show ((1 : Nat) : Int) = 1 by omega), cond_true, i_lt (show rg y by omega) (show rg (-(R.ag k : Int)) by omega)]
      cases R.lv.testBit k with
      | false => exact ih x y hx hy
      | true =>
        cases decide (x = -1) with
        | true => exact ih _ _ (by omega) hb
        | false =>
          cases decide (y < -(R.ag k : Int)) with
          | true => exact ih _ _ (by omega) hb
          | false => exact ih x y hx hy
    · have e : rk R 2 k = (pop (R.fd k) : Int) := rfl
      rw [e] at hb ⊢
      rw [decide_eq_false (show ¬ ((2 : Nat) : Int) = 0 by omega), cond_false, decide_eq_false (show ¬ ((2 : Nat) : Int) = 1 by omega), cond_false, i_lt (show rg y by omega) (show rg (pop (R.fd k) : Int) by omega)]
      cases R.lv.testBit k with
      | false => exact ih x y hx hy
      | true =>
        cases decide (x = -1) with
        | true => exact ih _ _ (by omega) hb
        | false =>
          cases decide (y < (pop (R.fd k) : Int)) with
          | true => exact ih _ _ (by omega) hb
          | false => exact ih x y hx hy
theorem v_rank {N : Nat} {M : XM} {R : RV} (hR : mv R M) (hW : Wf R) {w : Nat} (hw : w ≤ 2) {b : Nat} (hb : b < R.nb) : fX9_rank N [.ref 64, .int (Int32.ofInt b), .int (Int32.ofInt w)] M = some (Int32.ofInt (rk R w b), M) := by
  have h10 := hW.1
  have hm := hR.2.2.2.2.1 b hb
  have e0 : xeq (Int32.ofInt w) (0 : Int32) = decide ((w : Int) = 0) := i_eq (y := 0) (by omega) (by omega)
  have e1 : xeq (Int32.ofInt w) (Int32.ofInt 1) = decide ((w : Int) = 1) := i_eq (by omega) (by omega)
  rw [eX9_rank, e0, e1, show xlen M (64 + 4) = 11 from rfl, show xlen M (64 + 5) = 11 from rfl, i_inn (by omega), decide_eq_true (show b < 11 by omega), i_natn (by omega), show 64 + 4 = 68 from rfl, show 64 + 5 = 69 from rfl, hm.2.2.2.1, hm.2.2.2.2.1, v_pop N (fd_small hW hb), i_neg]
  rcases (show w = 0 ∨ w = 1 ∨ w = 2 by omega) with rfl | rfl | rfl <;> rfl
theorem l_fst9 {N : Nat} {M : XM} {R : RV} (hR : mv R M) (hW : Wf R) {w : Nat} (hw : w ≤ 2) : ∀ (d n k : Nat) (x y : Int), k + d = R.nb → d < n → (x = -1 ∨ ∃ j : Nat, j < R.nb ∧ x = j ∧ y = rk R w j) → gX9_first N n 20 [.ref 64, .int (Int32.ofInt w), .int (Int32.ofInt x), .int (Int32.ofInt k)] [] M = (bif decide (f_fst R w d k x y = -1) then ((fX9_no N [.ref 64, .int (Int32.ofInt (-5))] M).bind fun q0 => xrI (some (.int q0.1)) q0.2) else (xrI (some (.int (Int32.ofInt (f_fst R w d k x y)))) M))
  | 0, n + 1, k, x, y, hk, _, hx => by
    have h10 := hW.1
    have hxr : rg x := by rcases hx with h | ⟨j, h1, h2, _⟩ <;> omega
    rw [eX9_first_20, hR.1, i_lt (by omega) (by omega), decide_eq_false (by omega), cond_false, i_eq hxr (by omega)]
    rfl
  | d + 1, n + 1, k, x, y, hk, hn, hx => by
    have h10 := hW.1
    have hxr : rg x := by rcases hx with h | ⟨j, h1, h2, _⟩ <;> omega
    have ih := fun x y => l_fst9 (N := N) hR hW hw d n (k + 1) x y (by omega) (by omega)
    have hb := rk_b hW w (b := k) (by omega)
    rw [eX9_first_20, hR.1, i_lt (by omega) (by omega), decide_eq_true (by omega), cond_true, i_inn (by omega), show xlen M (64 + 6) = 11 from rfl, decide_eq_true (by omega), cond_true, i_natn (by omega), show 64 + 6 = 70 from rfl, (hR.2.2.2.2.1 k (by omega)).2.2.2.2.2, b_z, i_suc, f_fst, i_eq hxr (by omega)]
    cases R.lv.testBit k with
    | false => exact ih x y hx
    | true =>
      rw [cond_true, Bool.true_and]
      rcases hx with hx | ⟨j, h1, h2, h3⟩
      · rw [decide_eq_true hx, cond_true, Bool.true_or, cond_true]
        exact ih _ _ (.inr ⟨k, by omega, rfl, rfl⟩)
      · have hbj := rk_b hW w h1
        rw [decide_eq_false (by omega), cond_false, Bool.false_or, h2, v_rank hR hW hw (by omega), e_bd]
        dsimp only
        rw [v_rank hR hW hw h1, e_bd]
        dsimp only
        rw [i_lt (by omega) (by omega), ← h3]
        cases decide (y < rk R w k) with
        | true => exact ih _ _ (.inr ⟨k, by omega, rfl, rfl⟩)
        | false => exact ih _ _ (.inr ⟨j, h1, rfl, h3⟩)
theorem f_fst_0 {R : RV} (h : R.lv = 0) (w : Nat) : ∀ d k x y, f_fst R w d k x y = x
  | 0, _, _, _ => rfl
  | d + 1, k, x, y => by rw [f_fst, h, Nat.zero_testBit, Bool.false_and, cond_false, f_fst_0 h w d]
theorem f_fst_n {R : RV} (w : Nat) : ∀ (d k : Nat) (x y : Int), (0 ≤ x ∨ x = -1) → (0 ≤ x ∨ ∃ b, k ≤ b ∧ b < k + d ∧ R.lv.testBit b = true) → 0 ≤ f_fst R w d k x y
  | 0, k, x, y, h1, h2 => by
    rcases h2 with h2 | ⟨b, b1, b2, _⟩
    · exact h2
    · omega
  | d + 1, k, x, y, h1, h2 => by
    rw [f_fst]
    cases hl : R.lv.testBit k with
    | false =>
      rw [Bool.false_and, cond_false]
      refine f_fst_n w d (k + 1) x y h1 ?_
      rcases h2 with h2 | ⟨b, b1, b2, b3⟩
      · exact .inl h2
      · refine .inr ⟨b, ?_, by omega, b3⟩
        by_cases e : b = k
        · rw [e, hl] at b3; cases b3
        · omega
    | true =>
      rw [Bool.true_and]
      rcases h1 with h1 | h1
      · cases decide (x = -1) || decide (y < rk R w k) with
        | true => exact f_fst_n w d (k + 1) _ _ (.inl (by omega)) (.inl (by omega))
        | false => exact f_fst_n w d (k + 1) _ _ (.inl h1) (.inl h1)
      · rw [decide_eq_true h1, Bool.true_or, cond_true]
        exact f_fst_n w d (k + 1) _ _ (.inl (by omega)) (.inl (by omega))
theorem lv_ex {R : RV} (hW : Wf R) (h0 : R.lv ≠ 0) : ∃ b, 0 ≤ b ∧ b < 0 + R.nb ∧ R.lv.testBit b = true := by
  obtain ⟨b, hb⟩ := Nat.exists_testBit_of_ne_zero h0
  refine ⟨b, Nat.zero_le _, ?_, hb⟩
  by_cases e : b < R.nb
  · omega
  · rw [bits_of_lt hW.2.1 (by omega)] at hb
    cases hb
set_option maxRecDepth 100000 in
theorem op_first {t : Nat} {S : SV} (hW : WfS S) {N : Nat} (hN : big N) (a : Int32) : both t S (fX8_first N [.ref 0, .int a]) (fX9_first N [.ref 64, .int a]) := by
  obtain ⟨z, hz, rfl⟩ := i_ex a
  have hN' := hN
  unfold big at hN'
  have h10 := hW.1.1
  have hlv := lv_small hW.1
  by_cases h1 : 0 ≤ z ∧ z ≤ 2
  · obtain ⟨w, rfl⟩ := Int.eq_ofNat_of_zero_le h1.1
    have mdl : ∀ M, CM S M → fX9_first N [.ref 64, .int (Int32.ofInt w)] M = (bif decide (f_fst S.R w S.R.nb 0 (-1) 0 = -1) then ((fX9_no N [.ref 64, .int (Int32.ofInt (-5))] M).bind fun q0 => xrI (some (.int q0.1)) q0.2) else (xrI (some (.int (Int32.ofInt (f_fst S.R w S.R.nb 0 (-1) 0)))) M)) := by
      intro M hM
      rw [eX9_first, v_win hz (by omega) (by omega), e_bd, b_z, decide_eq_true h1, cond_true]
      exact l_fst9 hM.1 hW.1 (by omega) S.R.nb N 0 (-1) 0 (by omega) (by omega) (.inl rfl)
    by_cases h0 : S.R.lv = 0
    · refine both_ref' hW 3 (by omega) N (fun M hM => ?_) (fun M hM => ?_)
      · rw [eX8_first, chk0 hz (by omega), decide_eq_true h1, cond_true, show 0 + 1 = 1 from rfl, hM.1.2.1, h0]
        rfl
      · rw [mdl M hM, f_fst_0 h0]
        rfl
    · have hpos := f_fst_n (R := S.R) w S.R.nb 0 (-1) 0 (.inr rfl) (.inr (lv_ex hW.1 h0))
      refine both_same hW (Int32.ofInt (f_fst S.R w S.R.nb 0 (-1) 0)) (fun M hM => ?_) (fun M hM => ?_)
      · rw [eX8_first, chk0 hz (by omega), decide_eq_true h1, cond_true, show 0 + 1 = 1 from rfl, hM.1.2.1, show (0 : Int32) = Int32.ofInt 0 from rfl, i_eq (by omega) (by omega), decide_eq_false (by omega), cond_false, eX3_foremost _ _ _ (by omega)]
        have := l_fst8 (N := N) hM.1 hW.1 (w := w) (by omega) S.R.nb N 0 (-1) 0 (by omega) (by omega) (by omega) (by omega)
        have this : gX3_foremost N N 7 [.ref 1, .int (Int32.ofInt w), .int (Int32.ofInt (-1)), .int (Int32.ofInt 0), .int (Int32.ofInt 0), .retAddr 0] [] M = _ := this
        rw [this]
        rfl
      · rw [mdl M hM, decide_eq_false (by omega)]
        rfl
  · refine both_ref' hW 0 (by omega) N (fun M hM => ?_) (fun M hM => ?_)
    · rw [eX8_first, chk0 hz (by omega), decide_eq_false h1]; rfl
    · rw [eX9_first, v_win hz (by omega) (by omega), e_bd, b_z, decide_eq_false h1]; rfl
