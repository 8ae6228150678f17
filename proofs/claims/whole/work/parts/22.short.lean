def VR (w : Nat → Nat) : Nat → Nat → List RW
  | 0, _ => []
  | d + 1, k => Vn w k ++ VR w d (k + 1)
theorem VR_VL (w : Nat → Nat) : ∀ d k, VL w k ++ VR w d (k + 1) = VL w (k + d)
  | 0, k => by rw [VR, List.append_nil]; rfl
  | d + 1, k => by
    rw [VR, ← List.append_assoc, ← VL_s, VR_VL w d (k + 1)]
    congr 1
    omega
theorem VR_1 (w : Nat → Nat) (n : Nat) : VR w n 1 = VL w n := by
  have h := VR_VL w n 0
  rw [show VL w 0 = [] from rfl, List.nil_append, Nat.zero_add, Nat.zero_add] at h
  exact h
def cndm (R : RV) (m : Nat) (cf : Bool) (q : RW) : Bool := cnd R cf q && allm m q.1
theorem rows_m {R : RV} {m : Nat} (hm : ∀ c, m.testBit c = true → R.lv.testBit c = true) (cf : Bool) (n : Nat) : rowsM R m cf n = ((Vn (wR R) n).filter (cndm R m cf)).map Prod.fst := by
  rw [rows_sub hm, rows_cf, List.filter_map, List.filter_filter]
  congr 1
  refine filter_congr' (fun q _ => ?_)
  rw [Bool.and_comm]
  rfl
theorem find_map (c : RW → Bool) (f : List Nat → Bool) : ∀ X : List RW, ((X.filter c).map Prod.fst).find? f = (X.find? (fun q => f q.1 && c q)).map Prod.fst
  | [] => rfl
  | q :: X => by
    rw [List.filter_cons, List.find?_cons]
    cases hc : c q with
    | false =>
      rw [if_neg Bool.false_ne_true, Bool.and_false]
      exact find_map c f X
    | true =>
      rw [if_pos rfl, Bool.and_true, List.map_cons, List.find?_cons]
      cases hf : f q.1 with
      | true => rfl
      | false => exact find_map c f X
def mez (R : RV) (z : Int) (l : List Nat) : Bool := decide (mean (wR R) l = z)
theorem l_sb18 {N : Nat} (hN : big N) {R : RV} (hW : Wf R) {m : Nat} (hms : ∀ c, m.testBit c = true → R.lv.testBit c = true) (hm : m < 1024) {cf : Bool} {many : Nat} (hmany : many ≤ 6) {z : Int} (hz : rg z) (x : Int32) : ∀ (Q : List (List Nat)) (n : Nat) (M : XM), mv R M → EN R m cf many Q M → (∀ l ∈ Q, okl R m l ∧ l.length = many) → (Q.find? (mez R z) = none ∧ ∃ M', gX9_shortestBy N (n + 1 + Q.length) 18 [.ref 64, .int (Int32.ofInt z), .int x, .int (Int32.ofInt m), .int (bi cf), .int (Int32.ofInt many)] [] M = gX9_shortestBy N n 3 [.ref 64, .int (Int32.ofInt z), .int x, .int (Int32.ofInt m), .int (bi cf), .int (Int32.ofInt ((many + 1 : Nat) : Int))] [] M' ∧ fe M M') ∨ (∃ l, Q.find? (mez R z) = some l ∧ ∃ M', gX9_shortestBy N (n + 1 + Q.length) 18 [.ref 64, .int (Int32.ofInt z), .int x, .int (Int32.ofInt m), .int (bi cf), .int (Int32.ofInt many)] [] M = some (Int32.ofInt many, M') ∧ fe M M' ∧ rowAt l M')
  | [], n, M, hR, hE, hQ => by
    obtain ⟨M', h1, h2⟩ := v_goes0 hN hW hm hmany hR hE
    refine .inl ⟨rfl, M', ?_, h2⟩
    rw [List.length_nil, Nat.add_zero, eX9_shortestBy_18, h1, e_bd]
    show gX9_shortestBy N n 3 [.ref 64, .int (Int32.ofInt z), .int x, .int (Int32.ofInt m), .int (bi cf), .int (Int32.ofInt many + Int32.ofInt 1)] [] M' = _
    rw [i_suc]
  | l :: Q, n, M, hR, hE, hQ => by
    have hN' := hN
    unfold big at hN'
    obtain ⟨M', h1, h2, h3, h4, _⟩ := v_goes1 hN hW hm hmany hR hE
    obtain ⟨k1, k2⟩ := hQ l List.mem_cons_self
    obtain ⟨k3, k4⟩ := okl_sub hms k1
    have hb := mean_b hW k1 (by omega)
    have hme := v_meaning9 (N := N) (by omega) hW (mv_fe hR h2) k1 (by omega) h4
    rw [k4] at hme hb
    rw [k2] at hme
    rw [List.length_cons, show n + 1 + (Q.length + 1) = n + 1 + Q.length + 1 by omega, eX9_shortestBy_18, h1, e_bd]
    dsimp only
    rw [show xeq (Int32.ofInt 1) 0 = false by decide +kernel, cond_false, hme, e_bd]
    dsimp only
    rw [i_eq (by omega) hz, List.find?_cons]
    have hmz : mez R z l = decide (mean (wR R) l = z) := rfl
    by_cases hq : mean (wR R) l = z
    · rw [hmz, decide_eq_true hq, cond_true]
      exact .inr ⟨l, rfl, M', rfl, h2, h4⟩
    · rw [hmz, decide_eq_false hq, cond_false]
      rcases l_sb18 hN hW hms hm hmany hz x Q n M' (mv_fe hR h2) h3 (fun y hy => hQ y (List.mem_cons_of_mem _ hy)) with ⟨e1, M2, e2, e3⟩ | ⟨y, e1, M2, e2, e3, e4⟩
      · exact .inl ⟨e1, M2, e2, h2.tr e3⟩
      · exact .inr ⟨y, e1, M2, e2, h2.tr e3, e4⟩
def mzc (R : RV) (m : Nat) (cf : Bool) (z : Int) (q : RW) : Bool := mez R z q.1 && cndm R m cf q
theorem l_sb3 {N : Nat} (hN : big N) {R : RV} (hW : Wf R) {m : Nat} (hms : ∀ c, m.testBit c = true → R.lv.testBit c = true) (hm : m < 1024) {cf : Bool} {z : Int} (hz : rg z) {h : Nat} (h6 : h ≤ 6) : ∀ (d k n : Nat) (M : XM), k + d = h + 1 → 0 < k → 1000010 * d < n → mv R M → M.1 80 0 = Int32.ofInt 0 → ((VR (wR R) d k).find? (mzc R m cf z) = none ∧ ∃ M', gX9_shortestBy N n 3 [.ref 64, .int (Int32.ofInt z), .int (Int32.ofInt h), .int (Int32.ofInt m), .int (bi cf), .int (Int32.ofInt k)] [] M = some (Int32.ofInt (-1), M') ∧ fe M M') ∨ (∃ q, (VR (wR R) d k).find? (mzc R m cf z) = some q ∧ ∃ M', gX9_shortestBy N n 3 [.ref 64, .int (Int32.ofInt z), .int (Int32.ofInt h), .int (Int32.ofInt m), .int (bi cf), .int (Int32.ofInt k)] [] M = some (Int32.ofInt q.1.length, M') ∧ fe M M' ∧ rowAt q.1 M')
  | 0, k, n, M, hk, h0, hn, hR, h80 => by
    obtain ⟨n, rfl⟩ : ∃ j, n = j + 1 := ⟨n - 1, by omega⟩
    refine .inl ⟨rfl, M, ?_, fe.rf⟩
    rw [eX9_shortestBy_3, i_lt (by omega) (by omega), decide_eq_true (by omega)]
    rfl
  | d + 1, k, n, M, hk, h0, hn, hR, h80 => by
    have hN' := hN
    unfold big at hN'
    have hlen := rowsM_len R m cf (many := k) (by omega)
    obtain ⟨n, rfl⟩ : ∃ j, n = (j + 1 + (rowsM R m cf k).length) + 1 := ⟨n - (rowsM R m cf k).length - 2, by omega⟩
    obtain ⟨M1, a1, a2, a3⟩ := v_begins (N := N) (R := R) (m := m) (cf := cf) (many := k) h0 h80
    rw [eX9_shortestBy_3, i_lt (by omega) (by omega), decide_eq_false (by omega), cond_false, a1, e_bd]
    have hfm := find_map (cndm R m cf) (mez R z) (Vn (wR R) k)
    rw [← rows_m hms] at hfm
    rw [VR, List.find?_append]
    rcases l_sb18 hN hW hms hm (many := k) (by omega) hz (Int32.ofInt h) _ n M1 (mv_fe hR a2) a3 (fun l hl => rowsM_ok hW hl) with ⟨e1, M2, e2, e3⟩ | ⟨l, e1, M2, e2, e3, e4⟩
    · rw [e1] at hfm
      have hv : (Vn (wR R) k).find? (mzc R m cf z) = none := by
        cases e : (Vn (wR R) k).find? (mzc R m cf z) with
        | none => rfl
        | some q => exact absurd (hfm.trans (congrArg (Option.map Prod.fst) e)) (by simp)
      have h80' : M2.1 80 0 = Int32.ofInt 0 := by
        rw [e3.2 _ _ (by omega) (by omega) (by omega), a2.2 _ _ (by omega) (by omega) (by omega)]
        exact h80
      rw [hv, Option.none_or, e2]
      rcases l_sb3 hN hW hms hm hz h6 d (k + 1) n M2 (by omega) (by omega) (by omega) (mv_fe (mv_fe hR a2) e3) h80' with ⟨f1, M3, f2, f3⟩ | ⟨q, f1, M3, f2, f3, f4⟩
      · exact .inl ⟨f1, M3, f2, (a2.tr e3).tr f3⟩
      · exact .inr ⟨q, f1, M3, f2, (a2.tr e3).tr f3, f4⟩
    · rw [e1] at hfm
      cases e : (Vn (wR R) k).find? (mzc R m cf z) with
      | none => exact absurd (hfm.trans (congrArg (Option.map Prod.fst) e)) (by simp)
      | some q =>
        have hl : some l = some q.1 := hfm.trans (congrArg (Option.map Prod.fst) e)
        cases hl
        have hql : q.1.length = k := Vn_len (List.mem_of_find?_eq_some e)
        refine .inr ⟨q, rfl, M2, ?_, a2.tr e3, e4⟩
        rw [e2, hql]
theorem v_sb {N : Nat} (hN : big N) {R : RV} (hW : Wf R) {m : Nat} (hms : ∀ c, m.testBit c = true → R.lv.testBit c = true) {cf : Bool} {z : Int} (hz : rg z) {h : Nat} (h6 : h ≤ 6) {M : XM} (hR : mv R M) (h80 : M.1 80 0 = Int32.ofInt 0) : ((VL (wR R) h).find? (mzc R m cf z) = none ∧ ∃ M', fX9_shortestBy N [.ref 64, .int (Int32.ofInt z), .int (Int32.ofInt h), .int (Int32.ofInt m), .int (bi cf)] M = some (Int32.ofInt (-1), M') ∧ fe M M') ∨ (∃ q, (VL (wR R) h).find? (mzc R m cf z) = some q ∧ ∃ M', fX9_shortestBy N [.ref 64, .int (Int32.ofInt z), .int (Int32.ofInt h), .int (Int32.ofInt m), .int (bi cf)] M = some (Int32.ofInt q.1.length, M') ∧ fe M M' ∧ rowAt q.1 M') := by
  have hN' := hN
  unfold big at hN'
  have hm : m < 1024 := by
    have h1 : R.lv < 2 ^ 10 := lv_small hW
    refine Nat.lt_pow_two_of_testBit (n := 10) m (fun i hi => ?_)
    cases e : m.testBit i with
    | false => rfl
    | true => have := hms i e; rw [bits_of_lt h1 hi] at this; cases this
  have := l_sb3 hN hW hms hm (cf := cf) hz h6 h 1 N M (by omega) (by omega) (by omega) hR h80
  rw [VR_1] at this
  rw [eX9_shortestBy]
  exact this
theorem l_find {N : Nat} (hN : 11 < N) {o L rm p : Nat} (ho : SO o L rm) (hp : PO p) {R : RV} (hW : Wf R) {M : XM} (hR : cv p R M) (hS : SYw o L rm (wR R) M) {h : Nat} (hh : h ≤ L) (cf : Bool) {z : Int} (hz : rg z) : ∀ (T : List RW) (i n : Nat), SM o (wR R) i T M → (∀ q ∈ T, q ∈ VL (wR R) L) → i + T.length = (VL (wR R) h).length → T.length < n → (T.find? (fun q => mez R z q.1 && cnd R cf q) = none ∧ gX4_find N n 3 [.ref o, .ref p, .int (Int32.ofInt z), .int (Int32.ofInt h), .int (bi cf), .int (Int32.ofInt i)] [] M = some (Int32.ofInt (-1), M)) ∨ (∃ j q, T[j]? = some q ∧ T.find? (fun q => mez R z q.1 && cnd R cf q) = some q ∧ gX4_find N n 3 [.ref o, .ref p, .int (Int32.ofInt z), .int (Int32.ofInt h), .int (bi cf), .int (Int32.ofInt i)] [] M = some (Int32.ofInt ((i + j : Nat) : Int), M))
  | [], i, n + 1, hT, hq, hi, hn => by
    have hL := ho.L
    have := VL_rm hS hh
    simp only [List.length_nil] at hi
    refine .inl ⟨rfl, ?_⟩
    rw [eX4_find_3 _ _ _ _ _ _ _ _ ho.o hp, v_upTo ho hS (by omega), e_bd, Nat.min_eq_left hh]
    dsimp only
    rw [i_lt (by omega) (by omega), decide_eq_false (by omega)]
    rfl
  | q :: T, i, n + 1, hT, hq, hi, hn => by
    have hL := ho.L
    have hrm := VL_rm hS hh
    simp only [List.length_cons] at hi hn
    obtain ⟨m1, m2, m3, m4, m5⟩ := SM_t hT
    have hqq := hq q List.mem_cons_self
    obtain ⟨v1, v2, v3, v4, v5⟩ := VL_row hW hqq
    have hb := mean_b hW v1 (by omega)
    rw [← wR_wM] at hb
    have ih := l_find (N := N) hN ho hp hW hR hS hh cf hz T (i + 1) n m5 (fun x hx => hq x (List.mem_cons_of_mem _ hx)) (by omega) (by omega)
    have nxt : (T.find? (fun q => mez R z q.1 && cnd R cf q) = none ∧ gX4_find N n 3 [.ref o, .ref p, .int (Int32.ofInt z), .int (Int32.ofInt h), .int (bi cf), .int (Int32.ofInt i + Int32.ofInt 1)] [] M = some (Int32.ofInt (-1), M)) ∨ (∃ j q', (q :: T)[j]? = some q' ∧ T.find? (fun q => mez R z q.1 && cnd R cf q) = some q' ∧ gX4_find N n 3 [.ref o, .ref p, .int (Int32.ofInt z), .int (Int32.ofInt h), .int (bi cf), .int (Int32.ofInt i + Int32.ofInt 1)] [] M = some (Int32.ofInt ((i + j : Nat) : Int), M)) := by
      rw [i_suc]
      rcases ih with ⟨e1, e2⟩ | ⟨j, q', e1, e2, e3⟩
      · exact .inl ⟨e1, e2⟩
      · exact .inr ⟨j + 1, q', by simpa using e1, e2, by rw [e3, show i + 1 + j = i + (j + 1) by omega]⟩
    rw [eX4_find_3 _ _ _ _ _ _ _ _ ho.o hp, v_upTo ho hS (by omega), e_bd, Nat.min_eq_left hh]
    dsimp only
    rw [i_lt (by omega) (by omega), decide_eq_true (by omega), cond_true, m4, e_bd]
    dsimp only
    rw [i_eq (by omega) hz, List.find?_cons]
    have hmz : mez R z q.1 = decide (mean (wR R) q.1 = z) := rfl
    rw [hmz]
    by_cases hqz : mean (wR R) q.1 = z
    · rw [decide_eq_true hqz, cond_true, b_z, Bool.true_and]
      cases cf with
      | false =>
        rw [cond_false]
        exact .inr ⟨0, q, rfl, rfl, rfl⟩
      | true =>
        rw [cond_true, v_isCalm hN ho hp hW hR hqq (by omega) m1 m2, e_bd, b_z, show cnd R true q = clm R q.1 from rfl]
        cases clm R q.1 with
        | true =>
          rw [cond_true]
          exact .inr ⟨0, q, rfl, rfl, rfl⟩
        | false =>
          rw [cond_false]
          exact nxt
    · rw [decide_eq_false hqz, cond_false, Bool.false_and]
      exact nxt
