theorem mbits_bit (P : Nat → Bool) : ∀ (d k a i : Nat), (mbits P d k a).testBit i = (a.testBit i || (decide (k ≤ i ∧ i < k + d) && P i))
  | 0, k, a, i => by
    rw [decide_eq_false (by omega), Bool.false_and, Bool.or_false]
    rfl
  | d + 1, k, a, i => by
    rw [mbits, mbits_bit P d (k + 1)]
    by_cases e : i = k
    · subst e
      rw [decide_eq_false (show ¬ (i + 1 ≤ i ∧ i < i + 1 + d) by omega), decide_eq_true (show i ≤ i ∧ i < i + (d + 1) by omega), Bool.false_and, Bool.or_false, Bool.true_and]
      cases P i with
      | false => rw [cond_false, Bool.or_false]
      | true => rw [cond_true, Nat.testBit_or, Nat.testBit_two_pow]; simp
    · have h1 : (bif P k then a ||| 2 ^ k else a).testBit i = a.testBit i := by
        cases P k with
        | false => rfl
        | true => rw [cond_true, Nat.testBit_or, Nat.testBit_two_pow, decide_eq_false (fun x => e x.symm), Bool.or_false]
      rw [h1, show decide (k + 1 ≤ i ∧ i < k + 1 + d) = decide (k ≤ i ∧ i < k + (d + 1)) from decide_eq_decide.mpr (by omega)]
def nof (R : RV) (z : Int) : Nat := mbits (fun i => decide (R.nd i = z)) R.nn 0 0
theorem nof_bit (R : RV) (z : Int) (i : Nat) : (nof R z).testBit i = (decide (i < R.nn) && decide (R.nd i = z)) := by
  unfold nof
  rw [mbits_bit, Nat.zero_testBit, Bool.false_or, show decide (0 ≤ i ∧ i < 0 + R.nn) = decide (i < R.nn) from decide_eq_decide.mpr (by omega)]
theorem nof_lt {R : RV} (hW : Wf R) (z : Int) : nof R z < 256 := mbits_lt _ R.nn 0 0 8 (by have := hW.2.2.1; omega) (by decide)
theorem l_nof {N o : Nat} (ho : PO o) {R : RV} (hW : Wf R) {M : XM} (hR : cv o R M) {z : Int} (hz : rg z) : ∀ (d k n a : Nat), k + d = R.nn → d < n → gX3_needsOf N n 4 [.ref o, .int (Int32.ofInt z), .int (Int32.ofInt a), .int (Int32.ofInt k)] [] M = some (Int32.ofInt (mbits (fun i => decide (R.nd i = z)) d k a : Nat), M)
  | 0, k, n + 1, a, hk, hn => by
    have h8 := hW.2.2.1
    rw [eX3_needsOf_4 _ _ _ _ _ _ ho, hR.2.2.1, i_lt (by omega) (by omega), decide_eq_false (by omega), cond_false, e_I]
    rfl
  | d + 1, k, n + 1, a, hk, hn => by
    have h8 := hW.2.2.1
    have hnd := hW.2.2.2.2 k (by omega)
    have hl : xlen M (o + 6) = 8 := by rcases ho with rfl | rfl | rfl <;> rfl
    have ih := fun a => l_nof (N := N) ho hW hR hz d (k + 1) n a (by omega) (by omega)
    rw [eX3_needsOf_4 _ _ _ _ _ _ ho, hR.2.2.1, i_lt (by omega) (by omega), decide_eq_true (by omega), cond_true, hl, i_inn (by omega), decide_eq_true (by omega), cond_true, i_natn (by omega), hR.2.2.2.2.2.2 k (by omega), i_eq (by omega) hz, i_suc, mbits]
    by_cases e : R.nd k = z
    · rw [decide_eq_true e, cond_true, cond_true, i_or2 (by omega)]
      exact ih _
    · rw [decide_eq_false e, cond_false, cond_false]
      exact ih _
theorem v_nof {N o : Nat} (hN : 9 < N) (ho : PO o) {R : RV} (hW : Wf R) {M : XM} (hR : cv o R M) {z : Int} (hz : rg z) : fX3_needsOf N [.ref o, .int (Int32.ofInt z)] M = some (Int32.ofInt (nof R z : Nat), M) := by
  rw [eX3_needsOf _ _ _ ho]
  exact l_nof ho hW hR hz R.nn 0 N 0 (by omega) (by have := hW.2.2.1; omega)
theorem metW_bit (R : RV) (m i : Nat) : (metW R m).testBit i = (decide (i < R.nn) && cm R m (R.nd i)) := by
  unfold metW
  rw [mbits_bit, Nat.zero_testBit, Bool.false_or, show decide (0 ≤ i ∧ i < 0 + R.nn) = decide (i < R.nn) from decide_eq_decide.mpr (by omega)]
def mba (R : RV) (K a : Nat) (l4 : Nat) : List RW → Nat
  | [] => l4
  | q :: T => mba R K a (if q.2.2.testBit R.nb = true then l4 ||| nof R (lin R K a q.1) else l4) T
theorem mba_bit {R : RV} {K a : Nat} (i : Nat) : ∀ (T : List RW) (l4 : Nat), (mba R K a l4 T).testBit i = (l4.testBit i || (decide (i < R.nn) && T.any (fun q => q.2.2.testBit R.nb && decide (lin R K a q.1 = R.nd i))))
  | [], l4 => by rw [List.any_nil, Bool.and_false, Bool.or_false]; rfl
  | q :: T, l4 => by
    rw [mba, mba_bit i T, List.any_cons]
    by_cases h : q.2.2.testBit R.nb = true
    · rw [if_pos h, h, Bool.true_and, Nat.testBit_or, nof_bit, show decide (R.nd i = lin R K a q.1) = decide (lin R K a q.1 = R.nd i) from decide_eq_decide.mpr eq_comm]
      cases l4.testBit i <;> cases decide (i < R.nn) <;> simp
    · rw [if_neg h, (Bool.not_eq_true _).mp h, Bool.false_and, Bool.false_or]
theorem met_add {R : RV} (hW : Wf R) (hn : R.nb < 10) {K a : Nat} (hK : K < 6) (ha : a ≤ 9) : metW (R.add K a 0) (R.add K a 0).lv = mba R K a (metW R R.lv) (VL (wR (R.add K 0 0)) 5) := by
  apply Nat.eq_of_testBit_eq
  intro i
  rw [mba_bit, metW_bit, metW_bit]
  show (decide (i < R.nn) && cm (R.add K a 0) (R.add K a 0).lv (R.nd i)) = _
  rw [cm_add hW hn hK ha]
  cases decide (i < R.nn) <;> rfl
