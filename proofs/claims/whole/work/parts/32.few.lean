theorem i_few {R : RV} (hW : Wf R) {m : Nat} (z : Int) : (VL (wR R) 5).find? (mzc R m false z) = none ↔ cm R m z = false := by
  unfold cm
  rw [List.find?_eq_none, List.any_eq_false]
  constructor
  · intro h q hq
    have := h q hq
    exact this
  · intro h q hq
    have := h q hq
    exact this
theorem v_unmet {N : Nat} (hN : big N) {R : RV} (hW : Wf R) {m : Nat} (hms : ∀ c, m.testBit c = true → R.lv.testBit c = true) {i : Nat} (hi : i < R.nn) {M : XM} (hR : mv R M) (h80 : M.1 80 0 = Int32.ofInt 0) : ∃ M', fX9_isUnmet N [.ref 64, .int (Int32.ofInt i), .int (Int32.ofInt m)] M = some (bi (!cm R m (R.nd i)), M') ∧ fe M M' := by
  have h8 := hW.2.2.1
  have hnd := hW.2.2.2.2 i hi
  rw [eX9_isUnmet, i_inn (by omega), show xlen M (64 + 7) = 8 from rfl, decide_eq_true (by omega), cond_true, i_natn (by omega), show 64 + 7 = 71 from rfl, hR.2.2.2.2.2 i hi]
  rcases v_sb hN hW hms (cf := false) (z := R.nd i) (by omega) (h := 5) (by omega) hR h80 with ⟨e1, M', e2, e3⟩ | ⟨q, e1, M', e2, e3, e4⟩
  · rw [(i_few hW _).mp e1]
    have e2 : fX9_shortestBy N [.ref 64, .int (Int32.ofInt (R.nd i)), .int (Int32.ofInt 5), .int (Int32.ofInt m), .int (Int32.ofInt 0)] M = _ := e2
    rw [e2, e_bd]
    dsimp only
    rw [show xeq (Int32.ofInt (-1)) (Int32.ofInt (-1)) = true by decide +kernel]
    exact ⟨M', rfl, e3⟩
  · have hc : cm R m (R.nd i) = true := by
      cases h : cm R m (R.nd i) with
      | true => rfl
      | false => rw [(i_few hW _).mpr h] at e1; cases e1
    have e2 : fX9_shortestBy N [.ref 64, .int (Int32.ofInt (R.nd i)), .int (Int32.ofInt 5), .int (Int32.ofInt m), .int (Int32.ofInt 0)] M = _ := e2
    have hq := (VL_row hW (List.mem_of_find?_eq_some e1)).2.1
    rw [e2, e_bd, hc]
    dsimp only
    rw [i_eq (by omega) (by omega), decide_eq_false (by omega)]
    exact ⟨M', rfl, e3⟩
def un (R : RV) (z : Int) (x : Nat) : Bool := !cm R (ndiff R.lv x) z
def f_f2 (R : RV) (z : Int) (x : Nat) : Nat → Nat → Option (List Nat) → Option (List Nat)
  | 0, _, o => o
  | d + 1, y, o => bif (R.lv.testBit x && R.lv.testBit y) && un R z (2 ^ x ||| 2 ^ y) then some [x, y] else f_f2 R z x d (y + 1) o
def f_f1 (R : RV) (z : Int) : Nat → Nat → Option (List Nat)
  | 0, _ => none
  | d + 1, x => f_f2 R z x d (x + 1) (f_f1 R z d (x + 1))
def f_f0 (R : RV) (z : Int) : Nat → Nat → Option (List Nat)
  | 0, _ => f_f1 R z R.nb 0
  | d + 1, b => bif R.lv.testBit b && un R z (2 ^ b) then some [b] else f_f0 R z d (b + 1)
def f_few (R : RV) (z : Int) : Option (List Nat) := bif un R z 0 then some [] else f_f0 R z R.nb 0
def cst (o : Option (List Nat)) : Int := match o with | none => -1 | some l => (ors 0 l : Int)
def cod (o : Option (List Nat)) : Int := match o with | none => -1 | some [] => 0 | some [b] => 10000 + 100 * b | some (x :: y :: _) => 20000 + 100 * x + y
def okf (o : Option (List Nat)) : Prop := o = none ∨ o = some [] ∨ (∃ b, b < 10 ∧ o = some [b]) ∨ ∃ x y, x < y ∧ y < 10 ∧ o = some [x, y]
theorem f_f2_ok {R : RV} {z : Int} {x : Nat} : ∀ d y o, x < y → y + d ≤ 10 → okf o → okf (f_f2 R z x d y o)
  | 0, y, o, _, _, h => h
  | d + 1, y, o, h1, h2, h => by
    rw [f_f2]
    cases (R.lv.testBit x && R.lv.testBit y) && un R z (2 ^ x ||| 2 ^ y) with
    | true => exact .inr (.inr (.inr ⟨x, y, h1, by omega, rfl⟩))
    | false => exact f_f2_ok d (y + 1) o (by omega) (by omega) h
theorem f_f1_ok {R : RV} {z : Int} : ∀ d x, x + d ≤ 10 → okf (f_f1 R z d x)
  | 0, _, _ => .inl rfl
  | d + 1, x, h => f_f2_ok d (x + 1) _ (by omega) (by omega) (f_f1_ok d (x + 1) (by omega))
theorem f_f0_ok {R : RV} (hW : Wf R) {z : Int} : ∀ d b, b + d ≤ 10 → okf (f_f0 R z d b)
  | 0, _, _ => f_f1_ok R.nb 0 (by have := hW.1; omega)
  | d + 1, b, h => by
    rw [f_f0]
    cases R.lv.testBit b && un R z (2 ^ b) with
    | true => exact .inr (.inr (.inl ⟨b, by omega, rfl⟩))
    | false => exact f_f0_ok hW d (b + 1) (by omega)
theorem f_few_ok {R : RV} (hW : Wf R) (z : Int) : okf (f_few R z) := by
  unfold f_few
  cases un R z 0 with
  | true => exact .inr (.inl rfl)
  | false => exact f_f0_ok hW R.nb 0 (by have := hW.1; omega)
theorem two_and {R : RV} (x y : Nat) : (ndiff (2 ^ x ||| 2 ^ y) R.lv = 0) ↔ (R.lv.testBit x && R.lv.testBit y) = true := by
  rw [Bool.and_eq_true]
  constructor
  · intro h
    have hx := congrArg (fun n => Nat.testBit n x) h
    have hy := congrArg (fun n => Nat.testBit n y) h
    simp only [ndiff_bit, Nat.testBit_or, Nat.testBit_two_pow, Nat.zero_testBit, decide_true, Bool.true_or, Bool.or_true, Bool.true_and, Bool.not_eq_false'] at hx hy
    exact ⟨hx, hy⟩
  · rintro ⟨hx, hy⟩
    apply Nat.eq_of_testBit_eq
    intro i
    rw [ndiff_bit, Nat.testBit_or, Nat.testBit_two_pow, Nat.testBit_two_pow, Nat.zero_testBit]
    by_cases e1 : x = i
    · subst e1; simp [hx]
    · by_cases e2 : y = i
      · subst e2; simp [hy]
      · simp [e1, e2]
theorem l_few8b {N : Nat} (hN : big N) {R : RV} (hW : Wf R) {M : XM} (hR : cv 1 R M) (hS : SYw 22 6 2400 (wR R) M) {z : Int} (hz : rg z) {x : Nat} (hx : x < R.nb) (o : Option (List Nat)) : ∀ (d y n : Nat), y + d = R.nb → gX1_fewestToMiss N n 60 [.retAddr 0, .ref 1, .ref 22, .int (Int32.ofInt z), .int (Int32.ofInt ((x + 1 : Nat) : Int)), .retAddr 0, .retAddr 0] [] M = some (Int32.ofInt (cst o), M) → gX1_fewestToMiss N (n + 1 + d) 75 [.retAddr 0, .ref 1, .ref 22, .int (Int32.ofInt z), .int (Int32.ofInt x), .int (Int32.ofInt y), .retAddr 0] [] M = some (Int32.ofInt (cst (f_f2 R z x d y o)), M)
  | 0, y, n, hy, ho => by
    have h10 := hW.1
    rw [Nat.add_zero, eX1_fewestToMiss_75 _ _ _ _ _ _ _ (by omega) (by omega), hR.1, i_lt (by omega) (by omega), decide_eq_false (by omega), cond_false, i_suc]
    exact ho
  | d + 1, y, n, hy, ho => by
    have h10 := hW.1
    have hlv := lv_small hW
    have hlt : 2 ^ x ||| 2 ^ y < 2 ^ 10 := Nat.or_lt_two_pow (Nat.pow_lt_pow_right (by omega) (by omega)) (Nat.pow_lt_pow_right (by omega) (by omega))
    have hnl : ndiff (2 ^ x ||| 2 ^ y) R.lv < 2 ^ 10 := ndiff_lt hlt
    have ih := l_few8b hN hW hR hS hz hx o d (y + 1) n (by omega) ho
    rw [show n + 1 + (d + 1) = n + 1 + d + 1 by omega, eX1_fewestToMiss_75 _ _ _ _ _ _ _ (by omega) (by omega), hR.1, i_lt (by omega) (by omega), decide_eq_true (by omega), cond_true, i_shl (by omega), i_shl (by omega), i_or, hR.2.1, i_andn, show (0 : Int32) = Int32.ofInt 0 from rfl, i_eq (by omega) (by omega), i_suc, f_f2, v_cmw hN hW hS hz, e_bd, show Int32.ofInt 0 = (0 : Int32) from rfl, b_z]
    by_cases e : ndiff (2 ^ x ||| 2 ^ y) R.lv = 0
    · rw [(two_and x y).mp e, decide_eq_true (by omega), cond_true, Bool.true_and]
      unfold un
      cases cm R (ndiff R.lv (2 ^ x ||| 2 ^ y)) z with
      | true => exact ih
      | false =>
        show some (Int32.ofInt ((2 ^ x ||| 2 ^ y : Nat) : Int), M) = some (Int32.ofInt ((0 ||| 2 ^ x ||| 2 ^ y : Nat) : Int), M)
        rw [Nat.zero_or]
    · have hf : (R.lv.testBit x && R.lv.testBit y) = false := by
        cases h : R.lv.testBit x && R.lv.testBit y with
        | false => rfl
        | true => exact absurd ((two_and x y).mpr h) e
      rw [hf, decide_eq_false (by omega), cond_false, Bool.false_and, cond_false]
      exact ih
theorem l_few8a {N : Nat} (hN : big N) {R : RV} (hW : Wf R) {M : XM} (hR : cv 1 R M) (hS : SYw 22 6 2400 (wR R) M) {z : Int} (hz : rg z) : ∀ (d x n : Nat), x + d = R.nb → 12 * d < n → gX1_fewestToMiss N n 60 [.retAddr 0, .ref 1, .ref 22, .int (Int32.ofInt z), .int (Int32.ofInt x), .retAddr 0, .retAddr 0] [] M = some (Int32.ofInt (cst (f_f1 R z d x)), M)
  | 0, x, n + 1, hx, hn => by
    have h10 := hW.1
    rw [eX1_fewestToMiss_60 _ _ _ _ _ _ (by omega) (by omega), hR.1, i_lt (by omega) (by omega), decide_eq_false (by omega)]
    rfl
  | d + 1, x, n + 1, hx, hn => by
    have h10 := hW.1
    obtain ⟨n, rfl⟩ : ∃ k, n = k + 1 + d := ⟨n - 1 - d, by omega⟩
    rw [eX1_fewestToMiss_60 _ _ _ _ _ _ (by omega) (by omega), hR.1, i_lt (by omega) (by omega), decide_eq_true (by omega), cond_true, i_suc, f_f1]
    exact l_few8b hN hW hR hS hz (by omega) _ d (x + 1) n (by omega) (l_few8a hN hW hR hS hz d (x + 1) n (by omega) (by omega))
theorem l_few8 {N : Nat} (hN : big N) {R : RV} (hW : Wf R) {M : XM} (hR : cv 1 R M) (hS : SYw 22 6 2400 (wR R) M) {z : Int} (hz : rg z) : ∀ (d b n : Nat), b + d = R.nb → d + 200 < n → gX1_fewestToMiss N n 15 [.retAddr 0, .ref 1, .ref 22, .int (Int32.ofInt z), .int (Int32.ofInt b), .retAddr 0, .retAddr 0] [] M = some (Int32.ofInt (cst (f_f0 R z d b)), M)
  | 0, b, n + 1, hb, hn => by
    have h10 := hW.1
    rw [eX1_fewestToMiss_15 _ _ _ _ _ _ (by omega) (by omega), hR.1, i_lt (by omega) (by omega), decide_eq_false (by omega), cond_false, f_f0]
    exact l_few8a hN hW hR hS hz R.nb 0 n (by omega) (by omega)
  | d + 1, b, n + 1, hb, hn => by
    have h10 := hW.1
    have ih := l_few8 hN hW hR hS hz d (b + 1) n (by omega) (by omega)
    rw [eX1_fewestToMiss_15 _ _ _ _ _ _ (by omega) (by omega), hR.1, i_lt (by omega) (by omega), decide_eq_true (by omega), cond_true, v_isLivingn (by omega) hR hW (by omega), e_bd, b_z, i_suc, f_f0]
    cases R.lv.testBit b with
    | false => exact ih
    | true =>
      rw [cond_true, Bool.true_and]
      dsimp only
      rw [i_shl (by omega), v_cmw hN hW hS hz, e_bd, b_z]
      unfold un
      cases cm R (ndiff R.lv (2 ^ b)) z with
      | true => exact ih
      | false =>
        show some (Int32.ofInt ((2 ^ b : Nat) : Int), M) = some (Int32.ofInt ((0 ||| 2 ^ b : Nat) : Int), M)
        rw [Nat.zero_or]
theorem v_few8 {N : Nat} (hN : big N) {R : RV} (hW : Wf R) {M : XM} (hR : cv 1 R M) (hS : SYw 22 6 2400 (wR R) M) {z : Int} (hz : rg z) : fX1_fewestToMiss N [.ref 31, .ref 1, .ref 22, .int (Int32.ofInt z)] M = some (Int32.ofInt (cst (f_few R z)), M) := by
  have hN' := hN
  unfold big at hN'
  have h10 := hW.1
  have h0 : fX4_canMeanWithout N [.ref 22, .int (Int32.ofInt z), .int (Int32.ofInt 5), .int (Int32.ofInt 0)] M = some (bi (cm R (ndiff R.lv 0) z), M) := v_cmw hN hW hS hz 0
  rw [eX1_fewestToMiss _ _ _ _ (by omega) (by omega), h0, e_bd, b_z]
  unfold f_few un
  cases cm R (ndiff R.lv 0) z with
  | true => exact l_few8 hN hW hR hS hz R.nb 0 N (by omega) (by omega)
  | false => rfl
theorem ndiff_2 (a x y : Nat) : ndiff (ndiff a (2 ^ x)) (2 ^ y) = ndiff a (2 ^ x ||| 2 ^ y) := by
  apply Nat.eq_of_testBit_eq
  intro i
  rw [ndiff_bit, ndiff_bit, ndiff_bit, Nat.testBit_or]
  cases a.testBit i <;> cases (2 ^ x).testBit i <;> cases (2 ^ y).testBit i <;> rfl
theorem l_few9b {N : Nat} (hN : big N) {R : RV} (hW : Wf R) {i : Nat} (hi : i < R.nn) {x : Nat} (hx : x < R.nb) (o : Option (List Nat)) : ∀ (d y n : Nat) (M : XM), mv R M → M.1 80 0 = Int32.ofInt 0 → y + d = R.nb → (∀ M, mv R M → M.1 80 0 = Int32.ofInt 0 → ∃ M', gX9_fewest N n 66 [.ref 64, .int (Int32.ofInt i), .int (Int32.ofInt R.lv), .int (Int32.ofInt ((x + 1 : Nat) : Int)), .retAddr 0] [] M = some (Int32.ofInt (cod o), M') ∧ f8 M M') → ∃ M', gX9_fewest N (n + 1 + d) 79 [.ref 64, .int (Int32.ofInt i), .int (Int32.ofInt R.lv), .int (Int32.ofInt x), .int (Int32.ofInt y)] [] M = some (Int32.ofInt (cod (f_f2 R (R.nd i) x d y o)), M') ∧ f8 M M'
  | 0, y, n, M, hR, h80, hy, ho => by
    have h10 := hW.1
    obtain ⟨M', g1, g2⟩ := ho M hR h80
    refine ⟨M', ?_, g2⟩
    rw [Nat.add_zero, eX9_fewest_79, hR.1, i_lt (by omega) (by omega), decide_eq_false (by omega), cond_false, i_suc]
    exact g1
  | d + 1, y, n, M, hR, h80, hy, ho => by
    have h10 := hW.1
    have hlv := lv_small hW
    have ih := fun M hR h80 => l_few9b hN hW hi hx o d (y + 1) n M hR h80 (by omega) ho
    rw [show n + 1 + (d + 1) = n + 1 + d + 1 by omega, eX9_fewest_79, hR.1, i_lt (by omega) (by omega), decide_eq_true (by omega), cond_true, m_lt (by omega) (by omega), e_bd, b_z, i_suc, f_f2]
    cases R.lv.testBit x with
    | false => exact ih M hR h80
    | true =>
      rw [cond_true, Bool.true_and]
      dsimp only
      rw [m_lt (by omega) (by omega), e_bd, b_z]
      cases R.lv.testBit y with
      | false => exact ih M hR h80
      | true =>
        rw [cond_true, Bool.true_and]
        dsimp only
        rw [i_clr2 (by omega), i_clr2 (by omega), ndiff_2]
        obtain ⟨M1, b1, b2⟩ := v_unmet hN hW (m := ndiff R.lv (2 ^ x ||| 2 ^ y)) (nd_sub _ _) hi hR h80
        rw [b1, e_bd, b_z]
        have hun : (!cm R (ndiff R.lv (2 ^ x ||| 2 ^ y)) (R.nd i)) = un R (R.nd i) (2 ^ x ||| 2 ^ y) := rfl
        rw [hun]
        cases un R (R.nd i) (2 ^ x ||| 2 ^ y) with
        | true =>
          refine ⟨M1, ?_, b2.f8⟩
          rw [cond_true, cond_true, i_mul, i_add, i_add, e_I]
          rfl
        | false =>
          obtain ⟨M', g1, g2⟩ := ih M1 (mv_fe hR b2) (by rw [b2.2 _ _ (by omega) (by omega) (by omega)]; exact h80)
          exact ⟨M', g1, b2.f8.tr g2⟩
theorem l_few9a {N : Nat} (hN : big N) {R : RV} (hW : Wf R) {i : Nat} (hi : i < R.nn) : ∀ (d x n : Nat), x + d = R.nb → 12 * d < n → ∀ M, mv R M → M.1 80 0 = Int32.ofInt 0 → ∃ M', gX9_fewest N n 66 [.ref 64, .int (Int32.ofInt i), .int (Int32.ofInt R.lv), .int (Int32.ofInt x), .retAddr 0] [] M = some (Int32.ofInt (cod (f_f1 R (R.nd i) d x)), M') ∧ f8 M M'
  | 0, x, n + 1, hx, hn, M, hR, h80 => by
    have h10 := hW.1
    refine ⟨M, ?_, f8.rf⟩
    rw [eX9_fewest_66, hR.1, i_lt (by omega) (by omega), decide_eq_false (by omega)]
    rfl
  | d + 1, x, n + 1, hx, hn, M, hR, h80 => by
    have h10 := hW.1
    obtain ⟨n, rfl⟩ : ∃ k, n = k + 1 + d := ⟨n - 1 - d, by omega⟩
    rw [eX9_fewest_66, hR.1, i_lt (by omega) (by omega), decide_eq_true (by omega), cond_true, i_suc, f_f1]
    exact l_few9b hN hW hi (by omega) _ d (x + 1) n M hR h80 (by omega) (l_few9a hN hW hi d (x + 1) n (by omega) (by omega))
theorem l_few9 {N : Nat} (hN : big N) {R : RV} (hW : Wf R) {i : Nat} (hi : i < R.nn) : ∀ (d b n : Nat) (M : XM), mv R M → M.1 80 0 = Int32.ofInt 0 → b + d = R.nb → d + 200 < n → ∃ M', gX9_fewest N n 18 [.ref 64, .int (Int32.ofInt i), .int (Int32.ofInt R.lv), .int (Int32.ofInt b), .retAddr 0] [] M = some (Int32.ofInt (cod (f_f0 R (R.nd i) d b)), M') ∧ f8 M M'
  | 0, b, n + 1, M, hR, h80, hb, hn => by
    have h10 := hW.1
    rw [eX9_fewest_18, hR.1, i_lt (by omega) (by omega), decide_eq_false (by omega), cond_false, f_f0]
    exact l_few9a hN hW hi R.nb 0 n (by omega) (by omega) M hR h80
  | d + 1, b, n + 1, M, hR, h80, hb, hn => by
    have h10 := hW.1
    have hlv := lv_small hW
    have ih := fun M hR h80 => l_few9 hN hW hi d (b + 1) n M hR h80 (by omega) (by omega)
    rw [eX9_fewest_18, hR.1, i_lt (by omega) (by omega), decide_eq_true (by omega), cond_true, m_lt (by omega) (by omega), e_bd, b_z, i_suc, f_f0]
    cases R.lv.testBit b with
    | false => exact ih M hR h80
    | true =>
      rw [cond_true, Bool.true_and]
      dsimp only
      rw [i_clr2 (by omega)]
      obtain ⟨M1, b1, b2⟩ := v_unmet hN hW (m := ndiff R.lv (2 ^ b)) (nd_sub _ _) hi hR h80
      rw [b1, e_bd, b_z]
      have hun : (!cm R (ndiff R.lv (2 ^ b)) (R.nd i)) = un R (R.nd i) (2 ^ b) := rfl
      rw [hun]
      cases un R (R.nd i) (2 ^ b) with
      | true =>
        refine ⟨M1, ?_, b2.f8⟩
        rw [cond_true, cond_true, i_mul, i_add, e_I]
        rfl
      | false =>
        obtain ⟨M', g1, g2⟩ := ih M1 (mv_fe hR b2) (by rw [b2.2 _ _ (by omega) (by omega) (by omega)]; exact h80)
        exact ⟨M', g1, b2.f8.tr g2⟩
theorem v_few9 {N : Nat} (hN : big N) {R : RV} (hW : Wf R) {i : Nat} (hi : i < R.nn) {M : XM} (hR : mv R M) (h80 : M.1 80 0 = Int32.ofInt 0) : ∃ M', fX9_fewest N [.ref 64, .int (Int32.ofInt i)] M = some (Int32.ofInt (cod (f_few R (R.nd i))), M') ∧ f8 M M' := by
  have hN' := hN
  unfold big at hN'
  have h10 := hW.1
  obtain ⟨M1, b1, b2⟩ := v_unmet hN hW (m := R.lv) (fun _ x => x) hi hR h80
  rw [eX9_fewest, v_living (by omega) hR hW, e_bd]
  dsimp only
  rw [b1, e_bd, b_z]
  unfold f_few
  have hun : (!cm R R.lv (R.nd i)) = un R (R.nd i) 0 := by unfold un; rw [ndiff_0]
  rw [hun]
  cases un R (R.nd i) 0 with
  | true => exact ⟨M1, rfl, b2.f8⟩
  | false =>
    obtain ⟨M', g1, g2⟩ := l_few9 hN hW hi R.nb 0 N M1 (mv_fe hR b2) (by rw [b2.2 _ _ (by omega) (by omega) (by omega)]; exact h80) (by omega) (by omega)
    exact ⟨M', g1, b2.f8.tr g2⟩
def mbf (s : Nat) : Nat → Nat → Nat → Int
  | 0, _, _ => -1
  | d + 1, k, i => bif s.testBit k then (if i = 0 then (k : Int) else mbf s d (k + 1) (i - 1)) else mbf s d (k + 1) i
theorem l_memb {N : Nat} {s : Nat} (hs : s < 1024) {M : XM} : ∀ (d k n i : Nat), k + d = 10 → d < n → i < 1000 → gX8_memberOf N n 4 [.int (Int32.ofInt s), .retAddr 0, .int (Int32.ofInt i), .int (Int32.ofInt k)] [] M = some (Int32.ofInt (mbf s d k i), M)
  | 0, k, n + 1, i, hk, hn, hi => by
    rw [eX8_memberOf_4, i_lt (by omega) (by omega), decide_eq_false (by omega)]
    rfl
  | d + 1, k, n + 1, i, hk, hn, hi => by
    have ih := fun i => l_memb (N := N) hs (M := M) d (k + 1) n i (by omega) (by omega)
    rw [eX8_memberOf_4, i_lt (by omega) (by omega), decide_eq_true (by omega), cond_true, i_bit (by omega) (by omega), i_nbit, b_z, i_suc, mbf]
    cases s.testBit k with
    | false => exact ih i hi
    | true =>
      rw [cond_true, cond_true, show (0 : Int32) = Int32.ofInt 0 from rfl, i_eq (by omega) (by omega)]
      by_cases e : i = 0
      · rw [if_pos e, decide_eq_true (by omega)]; rfl
      · rw [if_neg e, decide_eq_false (by omega), cond_false, i_add, show (i : Int) + -1 = ((i - 1 : Nat) : Int) by omega]
        exact ih (i - 1) (by omega)
theorem mbf_1 : ∀ b, b < 10 → mbf (ors 0 [b]) 10 0 0 = b := by decide
theorem mbf_2 : ∀ y, y < 10 → ∀ x, x < y → mbf (ors 0 [x, y]) 10 0 0 = x ∧ mbf (ors 0 [x, y]) 10 0 1 = y := by decide
theorem pop_1 : ∀ b, b < 10 → pop (ors 0 [b]) = 1 ∧ ors 0 [b] < 1024 := by decide
theorem pop_2 : ∀ y, y < 10 → ∀ x, x < y → pop (ors 0 [x, y]) = 2 ∧ ors 0 [x, y] < 1024 := by decide
