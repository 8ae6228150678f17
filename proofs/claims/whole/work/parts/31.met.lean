def cm (R : RV) (m : Nat) (z : Int) : Bool := (VL (wR R) 5).any (fun q => mez R z q.1 && allm m q.1)
theorem allm_x {R : RV} (hW : Wf R) {x : Nat} {q : RW} (h : q ∈ VL (wR R) 6) : allm (ndiff R.lv x) q.1 = decide (q.2.2 &&& x = 0) := by
  obtain ⟨v1, v2, v3, v4, v5⟩ := VL_row hW h
  rw [Bool.eq_iff_iff, decide_eq_true_eq]
  unfold allm
  rw [List.all_eq_true]
  constructor
  · intro ha
    apply Nat.eq_of_testBit_eq
    intro i
    rw [Nat.testBit_and, v5, Nat.zero_testBit]
    by_cases e : i ∈ q.1
    · have := ha i e
      rw [ndiff_bit, Bool.and_eq_true] at this
      have := this.2
      cases hx : x.testBit i with
      | false => rw [Bool.and_false]
      | true => rw [hx] at this; cases this
    · rw [decide_eq_false e, Bool.false_and]
  · intro h0 c hc
    rw [ndiff_bit, (v1.1 c hc).2]
    have : (q.2.2 &&& x).testBit c = (0 : Nat).testBit c := congrArg (fun n => n.testBit c) h0
    rw [Nat.testBit_and, v5, Nat.zero_testBit, decide_eq_true hc, Bool.true_and] at this
    rw [this]
    rfl
theorem l_cmw {N : Nat} {R : RV} (hW : Wf R) {M : XM} (hS : SYw 22 6 2400 (wR R) M) {z : Int} (hz : rg z) {x : Nat} : ∀ (T : List RW) (i n : Nat), SM 22 (wR R) i T M → (∀ q ∈ T, q ∈ VL (wR R) 6) → i + T.length = (VL (wR R) 5).length → T.length < n → gX4_canMeanWithout N n 3 [.ref 22, .int (Int32.ofInt z), .int (Int32.ofInt (5 : Nat)), .int (Int32.ofInt x), .int (Int32.ofInt i)] [] M = some (bi (T.any (fun q => mez R z q.1 && allm (ndiff R.lv x) q.1)), M)
  | [], i, n + 1, hT, hq, hi, hn => by
    have so : SO 22 6 2400 := .inl ⟨rfl, rfl, rfl⟩
    have := VL_rm hS (n := 5) (by omega)
    simp only [List.length_nil] at hi
    rw [eX4_canMeanWithout_3 _ _ _ _ _ _ _ (by omega), v_upTo so hS (by omega), e_bd]
    dsimp only
    rw [Nat.min_eq_left (by omega), i_lt (by omega) (by omega), decide_eq_false (by omega)]
    rfl
  | q :: T, i, n + 1, hT, hq, hi, hn => by
    have so : SO 22 6 2400 := .inl ⟨rfl, rfl, rfl⟩
    have hrm := VL_rm hS (n := 5) (by omega)
    simp only [List.length_cons] at hi hn
    obtain ⟨m1, m2, m3, m4, m5⟩ := SM_t hT
    have hqq := hq q List.mem_cons_self
    have h24 := (VL_row hW hqq).2.2.2.1
    have hb := VL_b9 hW (by omega) hqq
    unfold b9 at hb
    have hle : q.2.2 &&& x < 1024 := Nat.lt_of_le_of_lt Nat.and_le_left h24
    have ih := l_cmw (N := N) hW hS hz (x := x) T (i + 1) n m5 (fun y hy => hq y (List.mem_cons_of_mem _ hy)) (by omega) (by omega)
    rw [eX4_canMeanWithout_3 _ _ _ _ _ _ _ (by omega), v_upTo so hS (by omega), e_bd]
    dsimp only
    rw [Nat.min_eq_left (by omega), i_lt (by omega) (by omega), decide_eq_true (by omega), cond_true, m4, e_bd]
    dsimp only
    rw [m3, e_bd]
    dsimp only
    rw [i_eq (by omega) hz, i_and, show (0 : Int32) = Int32.ofInt 0 from rfl, i_eq (by omega) (by omega), i_suc, List.any_cons, show mez R z q.1 = decide (mean (wR R) q.1 = z) from rfl, allm_x hW hqq]
    by_cases e : mean (wR R) q.1 = z
    · rw [decide_eq_true e, cond_true, Bool.true_and]
      by_cases e2 : q.2.2 &&& x = 0
      · rw [decide_eq_true e2, decide_eq_true (by omega)]; rfl
      · rw [decide_eq_false e2, decide_eq_false (by omega), cond_false, Bool.false_or]
        exact ih
    · rw [decide_eq_false e, cond_false, Bool.false_and, Bool.false_or]
      exact ih
theorem v_cmw {N : Nat} (hN : big N) {R : RV} (hW : Wf R) {M : XM} (hS : SYw 22 6 2400 (wR R) M) {z : Int} (hz : rg z) (x : Nat) : fX4_canMeanWithout N [.ref 22, .int (Int32.ofInt z), .int (Int32.ofInt 5), .int (Int32.ofInt x)] M = some (bi (cm R (ndiff R.lv x) z), M) := by
  unfold big at hN
  have hrm := VL_rm hS (n := 5) (by omega)
  obtain ⟨X, hX, _⟩ := VL_app (wR R) (j := 5) (L := 6) (by omega)
  rw [eX4_canMeanWithout _ _ _ _ _ (by omega)]
  exact l_cmw hW hS hz (VL (wR R) 5) 0 N (SM_0 hS (by omega)) (fun q hq => by rw [hX]; exact List.mem_append_left _ hq) (by omega) (by omega)
def mbits (P : Nat → Bool) : Nat → Nat → Nat → Nat
  | 0, _, a => a
  | d + 1, k, a => mbits P d (k + 1) (bif P k then a ||| 2 ^ k else a)
theorem mbits_lt (P : Nat → Bool) : ∀ d k a n, k + d ≤ n → a < 2 ^ n → mbits P d k a < 2 ^ n
  | 0, k, a, n, _, h => h
  | d + 1, k, a, n, hk, h => by
    refine mbits_lt P d (k + 1) _ n (by omega) ?_
    cases P k with
    | false => exact h
    | true => exact Nat.or_lt_two_pow h (Nat.pow_lt_pow_right (by omega) (by omega))
def metW (R : RV) (m : Nat) : Nat := mbits (fun i => cm R m (R.nd i)) R.nn 0 0
theorem metW_lt {R : RV} (hW : Wf R) (m : Nat) : metW R m < 256 := by
  have := mbits_lt (fun i => cm R m (R.nd i)) R.nn 0 0 8 (by have := hW.2.2.1; omega) (by decide)
  exact this
theorem l_met8 {N : Nat} (hN : big N) {R : RV} (hW : Wf R) {M : XM} (hR : cv 1 R M) (hS : SYw 22 6 2400 (wR R) M) (x : Nat) : ∀ (d k n a : Nat), k + d = R.nn → d < n → gX1_metWithout N n 6 [.retAddr 0, .ref 1, .ref 22, .int (Int32.ofInt x), .int (Int32.ofInt a), .int (Int32.ofInt k)] [] M = some (Int32.ofInt (mbits (fun i => cm R (ndiff R.lv x) (R.nd i)) d k a : Nat), M)
  | 0, k, n + 1, a, hk, hn => by
    have h8 := hW.2.2.1
    rw [eX1_metWithout_6 _ _ _ _ _ _ _ (by omega) (by omega), hR.2.2.1, i_lt (by omega) (by omega), decide_eq_false (by omega)]
    rfl
  | d + 1, k, n + 1, a, hk, hn => by
    have h8 := hW.2.2.1
    have hnd := hW.2.2.2.2 k (by omega)
    have ih := fun a => l_met8 hN hW hR hS x d (k + 1) n a (by omega) (by omega)
    rw [eX1_metWithout_6 _ _ _ _ _ _ _ (by omega) (by omega), hR.2.2.1, i_lt (by omega) (by omega), decide_eq_true (by omega), cond_true, i_inn (by omega), show xlen M (1 + 6) = 8 from rfl, decide_eq_true (by omega), cond_true, i_natn (by omega), hR.2.2.2.2.2.2 k (by omega), v_cmw hN hW hS (by omega), e_bd, b_z, i_or2 (by omega), i_suc, mbits]
    cases cm R (ndiff R.lv x) (R.nd k) with
    | false => exact ih _
    | true => exact ih _
theorem v_met8 {N : Nat} (hN : big N) {R : RV} (hW : Wf R) {M : XM} (hR : cv 1 R M) (hS : SYw 22 6 2400 (wR R) M) (x : Nat) : fX1_metWithout N [.ref 31, .ref 1, .ref 22, .int (Int32.ofInt x)] M = some (Int32.ofInt (metW R (ndiff R.lv x)), M) := by
  have hN' := hN
  unfold big at hN'
  have h8 := hW.2.2.1
  rw [eX1_metWithout _ _ _ _ (by omega) (by omega)]
  exact l_met8 hN hW hR hS x R.nn 0 N 0 (by omega) (by omega)
theorem hit_cm {R : RV} {m : Nat} {z : Int} {j : Nat} (hj : (j : Int) - 1000 = z) : hit (zs R m (VL (wR R) 5)) j = cm R m z := by
  unfold hit cm zs
  rw [hj, Bool.eq_iff_iff, decide_eq_true_eq, List.any_eq_true, List.mem_map]
  constructor
  · rintro ⟨q, hq, hz⟩
    rw [List.mem_filter] at hq
    refine ⟨q, hq.1, ?_⟩
    have h2 : cndm R m false q = allm m q.1 := rfl
    rw [h2] at hq
    rw [hq.2, Bool.and_true]
    exact decide_eq_true hz
  · rintro ⟨q, hq, h⟩
    rw [Bool.and_eq_true] at h
    refine ⟨q, ?_, of_decide_eq_true h.1⟩
    rw [List.mem_filter]
    exact ⟨hq, h.2⟩
theorem l_met9 {N : Nat} {R : RV} (hW : Wf R) {m : Nat} {M : XM} (hR : mv R M) (h81 : mk81 M (hit (zs R m (VL (wR R) 5)))) : ∀ (d k n a : Nat), k + d = R.nn → d < n → gX9_metBy N n 13 [.ref 64, .retAddr 0, .int (Int32.ofInt a), .int (Int32.ofInt k)] [] M = some (Int32.ofInt (mbits (fun i => cm R m (R.nd i)) d k a : Nat), M)
  | 0, k, n + 1, a, hk, hn => by
    have h8 := hW.2.2.1
    rw [eX9_metBy_13, hR.2.1, i_lt (by omega) (by omega), decide_eq_false (by omega)]
    rfl
  | d + 1, k, n + 1, a, hk, hn => by
    have h8 := hW.2.2.1
    have hnd := hW.2.2.2.2 k (by omega)
    have ih := fun a => l_met9 (N := N) hW hR h81 d (k + 1) n a (by omega) (by omega)
    obtain ⟨j, hj⟩ := Int.eq_ofNat_of_zero_le (show 0 ≤ 1000 + R.nd k by omega)
    rw [eX9_metBy_13, hR.2.1, i_lt (by omega) (by omega), decide_eq_true (by omega), cond_true, i_inn (by omega), show xlen M (64 + 7) = 8 from rfl, decide_eq_true (by omega), cond_true, i_natn (by omega), show 64 + 7 = 71 from rfl, hR.2.2.2.2.2 k (by omega), i_add, hj, i_inn (by omega), xl_81, decide_eq_true (by omega), cond_true, i_natn (by omega), show 64 + 17 = 81 from rfl, h81 j (by omega), b_z, hit_cm (z := R.nd k) (by omega), i_or2 (by omega), i_suc, mbits]
    cases cm R m (R.nd k) with
    | false => exact ih _
    | true => exact ih _
theorem v_met9 {N : Nat} (hN : big N) {R : RV} (hW : Wf R) {m : Nat} (hms : ∀ c, m.testBit c = true → R.lv.testBit c = true) {M : XM} (hR : mv R M) (h80 : M.1 80 0 = Int32.ofInt 0) : ∃ M', fX9_metBy N [.ref 64, .int (Int32.ofInt m)] M = some (Int32.ofInt (metW R m), M') ∧ f8 M M' := by
  have hN' := hN
  unfold big at hN'
  have h8 := hW.2.2.1
  obtain ⟨M', g1, g2, g3⟩ := v_means hN hW hms (lo := 1) (hi := 5) (what := 0) (by omega) (by omega) (by omega) (by omega) hR h80
  rw [show 5 + 1 - 1 = 5 by omega, VR_1] at g3
  have g1 : fX9_means N [.ref 64, .int (Int32.ofInt 1), .int (Int32.ofInt 5), .int (Int32.ofInt m), .int (Int32.ofInt 0)] M = _ := g1
  refine ⟨M', ?_, g2⟩
  rw [eX9_metBy, g1, e_bd]
  exact l_met9 hW (mv_f8 hR g2) g3 R.nn 0 N 0 (by omega) (by omega)
theorem ndiff_0 (a : Nat) : ndiff a 0 = a := by
  apply Nat.eq_of_testBit_eq
  intro i
  rw [ndiff_bit, Nat.zero_testBit]
  simp
theorem nd_sub (a x : Nat) : ∀ c, (ndiff a x).testBit c = true → a.testBit c = true := fun c h => by
  rw [ndiff_bit, Bool.and_eq_true] at h
  exact h.1
set_option maxRecDepth 100000 in
theorem op_met {t : Nat} {S : SV} (hW : WfS S) {N : Nat} (hN : big N) : both t S (fX8_met N [.ref 0]) (fX9_met N [.ref 64]) := by
  have hN' := hN
  unfold big at hN'
  refine both_v hW (Int32.ofInt (metW S.R S.R.lv)) (fun M hM => ?_) (fun M hM => ?_)
  · obtain ⟨M', a1, a2, a3, a4⟩ := v_now hN hW hM
    have h := v_met8 hN hW.1 a2.1 a3 0
    rw [ndiff_0] at h
    have h : fX1_metWithout N [.ref 31, .ref 1, .ref 22, .int (Int32.ofInt 0)] M' = _ := h
    refine ⟨M', ?_, a2, a4⟩
    rw [eX8_met, a1, e_bd, show 0 + 31 = 31 from rfl, show 0 + 1 = 1 from rfl, h]
    rfl
  · obtain ⟨M', b1, b2⟩ := v_met9 hN hW.1 (m := S.R.lv) (fun _ x => x) hM.1 hM.2.2.2.2.2.2.2.1
    refine ⟨M', ?_, b2⟩
    rw [eX9_met, v_living (by omega) hM.1 hW.1, e_bd, b1]
    rfl
def ms (R : RV) (b : Nat) : Nat := ndiff (metW R R.lv) (metW R (ndiff R.lv (2 ^ b)))
theorem ms_lt {R : RV} (hW : Wf R) (b : Nat) : ms R b < 256 := ndiff_lt (n := 8) (metW_lt hW _)
theorem v_ms8 {N : Nat} (hN : big N) {R : RV} (hW : Wf R) {M : XM} (hR : cv 1 R M) (hS : SYw 22 6 2400 (wR R) M) {b : Nat} (hb : b < 31) : fX1_missed N [.ref 31, .ref 1, .ref 22, .int (Int32.ofInt b)] M = some (Int32.ofInt (ms R b), M) := by
  have h := v_met8 hN hW hR hS 0
  rw [ndiff_0] at h
  have h : fX1_metWithout N [.ref 31, .ref 1, .ref 22, .int (Int32.ofInt 0)] M = _ := h
  rw [eX1_missed _ _ _ _ (by omega) (by omega), h, e_bd]
  dsimp only
  rw [i_shl hb, v_met8 hN hW hR hS (2 ^ b), e_bd, i_andn, e_I]
  rfl
theorem v_ms9 {N : Nat} (hN : big N) {R : RV} (hW : Wf R) {M : XM} (hR : mv R M) (h80 : M.1 80 0 = Int32.ofInt 0) {b : Nat} (hb : b < 31) : ∃ M', fX9_lostBy N [.ref 64, .int (Int32.ofInt b)] M = some (Int32.ofInt (ms R b), M') ∧ f8 M M' := by
  have hN' := hN
  unfold big at hN'
  obtain ⟨M1, a1, a2⟩ := v_met9 hN hW (m := R.lv) (fun _ x => x) hR h80
  obtain ⟨M2, b1, b2⟩ := v_met9 hN hW (m := ndiff R.lv (2 ^ b)) (nd_sub _ _) (mv_f8 hR a2) (by rw [a2.2 _ _ (by omega) (by omega) (by omega) (by omega)]; exact h80)
  refine ⟨M2, ?_, a2.tr b2⟩
  rw [eX9_lostBy, v_living (by omega) hR hW, e_bd, a1, e_bd]
  dsimp only
  rw [v_living (by omega) (mv_f8 hR a2) hW, e_bd]
  dsimp only
  rw [i_clr2 hb, b1, e_bd, i_andn, e_I]
  rfl
theorem v_ltr {N : Nat} {R : RV} (hW : Wf R) {M : XM} (hR : cv 1 R M) (a : Int32) : fX8_livingTrouble N [.ref 0, .int a] M = some (Int32.ofInt (bif xin a R.nb then (bif R.lv.testBit a.toNatClampNeg then 0 else -5) else -2), M) := by
  have h10 := hW.1
  rw [eX8_livingTrouble, show 0 + 1 = 1 from rfl, v_has (by omega) hR.1 (by omega), e_bd, b_z]
  cases h : xin a R.nb with
  | false => rfl
  | true =>
    rw [cond_true, v_isLiving (by omega) hR hW, e_bd, b_z, h, Bool.true_and, cond_true]
    cases R.lv.testBit a.toNatClampNeg <;> rfl
set_option maxRecDepth 100000 in
theorem op_without {t : Nat} {S : SV} (hW : WfS S) {N : Nat} (hN : big N) (a b : Int32) : both t S (fX8_without N [.ref 0, .int a, .int b]) (fX9_without N [.ref 64, .int a, .int b]) := by
  obtain ⟨y, hy, rfl⟩ := i_ex b
  have hN' := hN
  unfold big at hN'
  have h10 := hW.1.1
  have hm2 : xeq (Int32.ofInt (-2)) 0 = false := by decide +kernel
  have hm5 : xeq (Int32.ofInt (-5)) 0 = false := by decide +kernel
  by_cases h1 : 0 ≤ y ∧ y ≤ 1
  · have cls : ∀ M, fX8_without N [.ref 0, .int a, .int (Int32.ofInt y)] M = ((fX8_livingTrouble N [.ref 0, .int a] M).bind fun q0 => bif xeq q0.1 (0 : Int32) then ((fX8_sayingsNow N [.ref 0] q0.2).bind fun q1 => (fX1_missed N [.ref 31, .ref 1, .ref 22, .int a] q1).bind fun q2 => bif xeq (Int32.ofInt y) (0 : Int32) then (xrI (some (.int q2.1)) q2.2) else ((fJ6_bitCount_0f7a4 N [.int q2.1] q2.2).bind fun q3 => xrI (some (.int q3.1)) q3.2)) else ((fX8_refuse N [.ref 0, .int q0.1] q0.2).bind fun q1 => xrI (some (.int q1.1)) q1.2)) := by
      intro M
      rw [eX8_without, hm2, cond_false, chk0 hy (by omega), decide_eq_true h1, cond_true]
    cases h2 : xin a S.R.nb with
    | false =>
      refine both_ref' hW 0 (by omega) N (fun M hM => ?_) (fun M hM => ?_)
      · rw [cls, v_ltr hW.1 hM.1, h2, cond_false, e_bd]
        dsimp only
        rw [hm2]
        rfl
      · rw [eX9_without, v_isBrother hM.1.1 (by omega), e_bd, b_z, h2]; rfl
    | true =>
      obtain ⟨k, hk, rfl⟩ := xin_ex (by omega) h2
      have mdl : ∀ M, CM S M → fX9_without N [.ref 64, .int (Int32.ofInt k), .int (Int32.ofInt y)] M = (bif S.R.lv.testBit k then ((fX9_lostBy N [.ref 64, .int (Int32.ofInt k)] M).bind fun q2 => bif xeq (Int32.ofInt y) (0 : Int32) then (xrI (some (.int q2.1)) q2.2) else ((fJ6_bitCount_0f7a4 N [.int q2.1] q2.2).bind fun q3 => xrI (some (.int q3.1)) q3.2)) else ((fX9_no N [.ref 64, .int (Int32.ofInt (-5))] M).bind fun q2 => xrI (some (.int q2.1)) q2.2)) := by
        intro M hM
        rw [eX9_without, v_isBrother hM.1.1 (by omega), e_bd, b_z, h2, cond_true, v_win hy (by omega) (by omega), e_bd, b_z, decide_eq_true h1, cond_true, i_inn (by omega), show xlen M (64 + 6) = 11 from rfl, decide_eq_true (by omega), cond_true, i_natn (by omega), show 64 + 6 = 70 from rfl]
        dsimp only
        rw [(hM.1.2.2.2.2.1 k hk).2.2.2.2.2, b_z]
      cases h3 : S.R.lv.testBit k with
      | false =>
        refine both_ref' hW 3 (by omega) N (fun M hM => ?_) (fun M hM => ?_)
        · rw [cls, v_ltr hW.1 hM.1, h2, cond_true, i_natn (by omega), h3, cond_false, e_bd]
          dsimp only
          rw [hm5]
          rfl
        · rw [mdl M hM, h3]
          rfl
      | true =>
        refine both_v hW (if y = 0 then Int32.ofInt (ms S.R k) else Int32.ofInt (pop (ms S.R k))) (fun M hM => ?_) (fun M hM => ?_)
        · obtain ⟨M', a1, a2, a3, a4⟩ := v_now hN hW hM
          refine ⟨M', ?_, a2, a4⟩
          rw [cls, v_ltr hW.1 hM.1, h2, cond_true, i_natn (by omega), h3, cond_true, e_bd]
          dsimp only
          rw [show xeq (Int32.ofInt 0) 0 = true from rfl, cond_true, a1, e_bd, v_ms8 hN hW.1 a2.1 a3 (by omega), e_bd]
          dsimp only
          rw [show (0 : Int32) = Int32.ofInt 0 from rfl, i_eq (by omega) (by omega)]
          by_cases e : y = 0
          · rw [if_pos e, decide_eq_true e]; rfl
          · rw [if_neg e, decide_eq_false e, cond_false, v_pop N (by have := ms_lt hW.1 k; omega)]; rfl
        · obtain ⟨M', b1, b2⟩ := v_ms9 hN hW.1 hM.1 hM.2.2.2.2.2.2.2.1 (b := k) (by omega)
          refine ⟨M', ?_, b2⟩
          rw [mdl M hM, h3, cond_true, b1, e_bd]
          dsimp only
          rw [show (0 : Int32) = Int32.ofInt 0 from rfl, i_eq (by omega) (by omega)]
          by_cases e : y = 0
          · rw [if_pos e, decide_eq_true e]; rfl
          · rw [if_neg e, decide_eq_false e, cond_false, v_pop N (by have := ms_lt hW.1 k; omega)]; rfl
  · have hbad : ∀ M, fX8_without N [.ref 0, .int a, .int (Int32.ofInt y)] M = ((fX8_refuse N [.ref 0, .int (Int32.ofInt (-2))] M).bind fun q0 => xrI (some (.int q0.1)) q0.2) := by
      intro M
      rw [eX8_without, hm2, cond_false, chk0 hy (by omega), decide_eq_false h1]
      rfl
    refine both_ref' hW 0 (by omega) N (fun M hM => hbad M) (fun M hM => ?_)
    rw [eX9_without, v_isBrother hM.1.1 (by omega), e_bd, b_z]
    cases xin a S.R.nb with
    | false => rfl
    | true =>
      rw [cond_true, v_win hy (by omega) (by omega), e_bd, b_z, decide_eq_false h1]; rfl
def f_mig (R : RV) : Nat → Nat → Int → Int → Int
  | 0, _, x, _ => x
  | d + 1, k, x, y => bif R.lv.testBit k && decide (y < (pop (ms R k) : Int)) then f_mig R d (k + 1) k (pop (ms R k)) else f_mig R d (k + 1) x y
theorem pop_10 (a : Nat) : pop a ≤ 10 := by
  rw [pop_c]
  exact Nat.le_trans List.countP_le_length (by simp)
theorem l_mig8 {N : Nat} (hN : big N) {R : RV} (hW : Wf R) {M : XM} (hR : cv 1 R M) (hS : SYw 22 6 2400 (wR R) M) : ∀ (d k n : Nat) (x y : Int), k + d = R.nb → d < n → -1 ≤ y ∧ y ≤ 10 → gX1_mostMissed N n 8 [.ref 31, .ref 1, .ref 22, .int (Int32.ofInt x), .int (Int32.ofInt y), .int (Int32.ofInt k), .retAddr 0] [] M = some (Int32.ofInt (f_mig R d k x y), M)
  | 0, k, n + 1, x, y, hk, hn, hy => by
    have h10 := hW.1
    rw [eX1_mostMissed_8 _ _ _ _ _ _ _ (by omega) (by omega), hR.1, i_lt (by omega) (by omega), decide_eq_false (by omega)]
    rfl
  | d + 1, k, n + 1, x, y, hk, hn, hy => by
    have h10 := hW.1
    have hp := pop_10 (ms R k)
    have ih := fun x y => l_mig8 hN hW hR hS d (k + 1) n x y (by omega) (by omega)
    rw [eX1_mostMissed_8 _ _ _ _ _ _ _ (by omega) (by omega), hR.1, i_lt (by omega) (by omega), decide_eq_true (by omega), cond_true, v_isLivingn (by omega) hR hW (by omega), e_bd, b_z, f_mig, i_suc]
    cases R.lv.testBit k with
    | false =>
      rw [cond_false, Bool.false_and, cond_false]
      dsimp only
      rw [i_lt (by omega) (by omega), decide_eq_false (by omega), cond_false]
      exact ih x y hy
    | true =>
      rw [cond_true, Bool.true_and]
      dsimp only
      rw [v_ms8 hN hW hR hS (by omega), e_bd]
      dsimp only
      rw [v_pop N (by have := ms_lt hW k; omega), e_bd]
      dsimp only
      rw [i_lt (by omega) (by omega)]
      cases decide (y < (pop (ms R k) : Int)) with
      | true => exact ih _ _ (by omega)
      | false => exact ih _ _ hy
theorem l_mig9 {N : Nat} (hN : big N) {R : RV} (hW : Wf R) : ∀ (d k n : Nat) (x y : Int) (M : XM), mv R M → M.1 80 0 = Int32.ofInt 0 → k + d = R.nb → d < n → -1 ≤ y ∧ y ≤ 10 → -1 ≤ x ∧ x ≤ 10 → ∃ M', gX9_mightiest N n 6 [.ref 64, .int (Int32.ofInt x), .int (Int32.ofInt y), .int (Int32.ofInt k), .retAddr 0] [] M = (bif decide (f_mig R d k x y = -1) then ((fX9_no N [.ref 64, .int (Int32.ofInt (-5))] M').bind fun q0 => xrI (some (.int q0.1)) q0.2) else (xrI (some (.int (Int32.ofInt (f_mig R d k x y)))) M')) ∧ f8 M M'
  | 0, k, n + 1, x, y, M, hR, h80, hk, hn, hy, hx => by
    have h10 := hW.1
    rw [eX9_mightiest_6, hR.1, i_lt (by omega) (by omega), decide_eq_false (by omega), cond_false, i_eq (by omega) (by omega)]
    exact ⟨M, rfl, f8.rf⟩
  | d + 1, k, n + 1, x, y, M, hR, h80, hk, hn, hy, hx => by
    have h10 := hW.1
    have hp := pop_10 (ms R k)
    have ih := fun x y M => l_mig9 hN hW d (k + 1) n x y M
    rw [eX9_mightiest_6, hR.1, i_lt (by omega) (by omega), decide_eq_true (by omega), cond_true, i_inn (by omega), show xlen M (64 + 6) = 11 from rfl, decide_eq_true (by omega), cond_true, i_natn (by omega), show 64 + 6 = 70 from rfl, (hR.2.2.2.2.1 k (by omega)).2.2.2.2.2, b_z, f_mig, i_suc]
    cases R.lv.testBit k with
    | false => exact ih x y M hR h80 (by omega) (by omega) hy hx
    | true =>
      rw [cond_true, Bool.true_and]
      obtain ⟨M1, b1, b2⟩ := v_ms9 hN hW hR h80 (b := k) (by omega)
      have hR1 := mv_f8 hR b2
      have h801 : M1.1 80 0 = Int32.ofInt 0 := by rw [b2.2 _ _ (by omega) (by omega) (by omega) (by omega)]; exact h80
      rw [b1, e_bd]
      dsimp only
      rw [v_pop N (by have := ms_lt hW k; omega), e_bd]
      dsimp only
      rw [i_lt (by omega) (by omega)]
      cases decide (y < (pop (ms R k) : Int)) with
      | true =>
        obtain ⟨M', g1, g2⟩ := ih k (pop (ms R k)) M1 hR1 h801 (by omega) (by omega) (by omega) (by omega)
        exact ⟨M', g1, b2.tr g2⟩
      | false =>
        obtain ⟨M', g1, g2⟩ := ih x y M1 hR1 h801 (by omega) (by omega) hy hx
        exact ⟨M', g1, b2.tr g2⟩
theorem f_mig_0 {R : RV} (h : R.lv = 0) : ∀ d k x y, f_mig R d k x y = x
  | 0, _, _, _ => rfl
  | d + 1, k, x, y => by rw [f_mig, h, Nat.zero_testBit, Bool.false_and, cond_false, f_mig_0 h d]
theorem f_mig_n {R : RV} : ∀ (d k : Nat) (x y : Int), (0 ≤ x ∨ (x = -1 ∧ y = -1)) → (0 ≤ x ∨ ∃ b, k ≤ b ∧ b < k + d ∧ R.lv.testBit b = true) → 0 ≤ f_mig R d k x y
  | 0, k, x, y, h1, h2 => by
    rcases h2 with h2 | ⟨b, b1, b2, _⟩
    · exact h2
    · omega
  | d + 1, k, x, y, h1, h2 => by
    rw [f_mig]
    cases hl : R.lv.testBit k with
    | false =>
      rw [Bool.false_and, cond_false]
      refine f_mig_n d (k + 1) x y h1 ?_
      rcases h2 with h2 | ⟨b, b1, b2, b3⟩
      · exact .inl h2
      · refine .inr ⟨b, ?_, by omega, b3⟩
        by_cases e : b = k
        · rw [e, hl] at b3; cases b3
        · omega
    | true =>
      rw [Bool.true_and]
      by_cases e : y < (pop (ms R k) : Int)
      · rw [decide_eq_true e, cond_true]
        exact f_mig_n d (k + 1) _ _ (.inl (by omega)) (.inl (by omega))
      · rw [decide_eq_false e, cond_false]
        rcases h1 with h1 | ⟨h1, h3⟩
        · exact f_mig_n d (k + 1) x y (.inl h1) (.inl h1)
        · omega
set_option maxRecDepth 100000 in
theorem op_mightiest {t : Nat} {S : SV} (hW : WfS S) {N : Nat} (hN : big N) : both t S (fX8_mightiest N [.ref 0]) (fX9_mightiest N [.ref 64]) := by
  have hN' := hN
  unfold big at hN'
  have h10 := hW.1.1
  have hlv := lv_small hW.1
  by_cases h0 : S.R.lv = 0
  · refine both_refx hW 3 (by omega) N (fun M hM => ⟨M, ?_, hM, fr.rf⟩) (fun M hM => ?_)
    · rw [eX8_mightiest, show 0 + 1 = 1 from rfl, hM.1.2.1, h0]
      rfl
    · obtain ⟨M', g1, g2⟩ := l_mig9 hN hW.1 S.R.nb 0 N (-1) (-1) M hM.1 hM.2.2.2.2.2.2.2.1 (by omega) (by omega) (by omega) (by omega)
      rw [f_mig_0 h0] at g1
      refine ⟨M', ?_, g2⟩
      rw [eX9_mightiest]
      exact g1
  · have hex : ∃ b, 0 ≤ b ∧ b < 0 + S.R.nb ∧ S.R.lv.testBit b = true := by
      obtain ⟨b, hb⟩ := Nat.exists_testBit_of_ne_zero h0
      refine ⟨b, Nat.zero_le _, ?_, hb⟩
      by_cases e : b < S.R.nb
      · omega
      · rw [bits_of_lt hW.1.2.1 (by omega)] at hb
        cases hb
    have hpos := f_mig_n (R := S.R) S.R.nb 0 (-1) (-1) (.inr ⟨rfl, rfl⟩) (.inr hex)
    refine both_v hW (Int32.ofInt (f_mig S.R S.R.nb 0 (-1) (-1))) (fun M hM => ?_) (fun M hM => ?_)
    · obtain ⟨M', a1, a2, a3, a4⟩ := v_now hN hW hM
      refine ⟨M', ?_, a2, a4⟩
      rw [eX8_mightiest, show 0 + 1 = 1 from rfl, hM.1.2.1, show (0 : Int32) = Int32.ofInt 0 from rfl, i_eq (by omega) (by omega), decide_eq_false (by omega), cond_false, a1, e_bd, show 0 + 31 = 31 from rfl, eX1_mostMissed _ _ _ (by omega) (by omega)]
      have := l_mig8 hN hW.1 a2.1 a3 S.R.nb 0 N (-1) (-1) (by omega) (by omega) (by omega)
      have this : gX1_mostMissed N N 8 [.ref 31, .ref 1, .ref 22, .int (Int32.ofInt (-1)), .int (Int32.ofInt (-1)), .int (Int32.ofInt 0), .retAddr 0] [] M' = _ := this
      rw [this]
      rfl
    · obtain ⟨M', g1, g2⟩ := l_mig9 hN hW.1 S.R.nb 0 N (-1) (-1) M hM.1 hM.2.2.2.2.2.2.2.1 (by omega) (by omega) (by omega) (by omega)
      rw [decide_eq_false (by omega), cond_false] at g1
      refine ⟨M', ?_, g2⟩
      rw [eX9_mightiest]
      exact g1
