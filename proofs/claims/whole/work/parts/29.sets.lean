theorem pop_c (a : Nat) : pop a = (List.range 10).countP (fun b => a.testBit b) := by
  unfold pop
  rw [List.countP_eq_length_filter]
theorem pop_or {a c : Nat} (hc : c < 10) (h : a.testBit c = false) : pop (a ||| 2 ^ c) = pop a + 1 := by
  rw [pop_c, pop_c]
  have e : (fun b => (a ||| 2 ^ c).testBit b) = fun b => a.testBit b || b == c := by
    funext b
    rw [Nat.testBit_or, Nat.testBit_two_pow]
    by_cases e : b = c
    · subst e; simp
    · have : ¬ c = b := fun h => e h.symm
      simp [e, this]
  rw [e, countP_or, if_pos ⟨hc, h⟩]
theorem pop_qof {R : RV} (hW : Wf R) {m : Nat} {cf : Bool} : ∀ {r : List Nat}, VA (exM R m cf) r → pop (qof (wM R m) r).2.2 = r.length
  | [], _ => by
    show pop 0 = 0
    rw [pop_c]
    exact List.countP_eq_zero.mpr (fun x _ => by simp)
  | c :: r, h => by
    obtain ⟨b1, b2, b3, b4⟩ := exM_w h.1
    have h10 := hW.1
    show pop ((qof (wM R m) r).2.2 ||| 2 ^ c) = r.length + 1
    rw [pop_or (by omega) b3, pop_qof hW (r := r) h.2]
theorem VL_pop {R : RV} (hW : Wf R) {L : Nat} {q : RW} (h : q ∈ VL (wR R) L) : pop q.2.2 = q.1.length := by
  obtain ⟨k, h1, h2, h3⟩ := VL_mem h
  obtain ⟨⟨r, rfl, hr⟩, hl⟩ := lvl_wf k q h2
  rw [wR_wM, pop_qof hW hr, qof_1, List.length_reverse]
theorem countP_sub (P Q : Nat → Bool) (h : ∀ x, P x = true → Q x = true) : ∀ n, (List.range n).countP P ≤ (List.range n).countP Q ∧ ((List.range n).countP P = (List.range n).countP Q → ∀ x, x < n → P x = Q x)
  | 0 => ⟨Nat.le_refl _, fun _ x hx => by omega⟩
  | n + 1 => by
    obtain ⟨h1, h2⟩ := countP_sub P Q h n
    rw [List.range_succ, List.countP_append, List.countP_append, List.countP_cons, List.countP_cons, List.countP_nil, List.countP_nil]
    have hn := h n
    cases hp : P n with
    | true =>
      rw [hn hp]
      refine ⟨by omega, fun e x hx => ?_⟩
      by_cases ex : x = n
      · rw [ex, hp, hn hp]
      · exact h2 (by omega) x (by omega)
    | false =>
      cases hq : Q n with
      | true => exact ⟨by simp; omega, fun e => by simp at e; omega⟩
      | false =>
        refine ⟨by omega, fun e x hx => ?_⟩
        by_cases ex : x = n
        · rw [ex, hp, hq]
        · exact h2 (by omega) x (by omega)
theorem set_eq {a b : Nat} (ha : a < 1024) (hb : b < 1024) (h : ∀ c, a.testBit c = true → b.testBit c = true) (hp : pop a = pop b) : a = b := by
  rw [pop_c, pop_c] at hp
  have := (countP_sub (fun x => a.testBit x) (fun x => b.testBit x) h 10).2 hp
  apply Nat.eq_of_testBit_eq
  intro i
  by_cases hi : i < 10
  · exact this i hi
  · rw [bits_of_lt (n := 10) ha (by omega), bits_of_lt (n := 10) hb (by omega)]
def FS (R : RV) (s : Nat) : List RW := (VL (wR R) 6).filter (fun q => q.2.2 == s)
theorem filter_nil' {α : Type} {P : α → Bool} {l : List α} (h : ∀ a ∈ l, P a = false) : l.filter P = [] := List.filter_eq_nil_iff.mpr (fun a ha => by rw [h a ha]; exact Bool.false_ne_true)
theorem FS_Vn {R : RV} (hW : Wf R) {s : Nat} (hs : s < 1024) {n : Nat} (hp : pop s = n + 1) (h6 : n + 1 ≤ 6) : (Vn (wR R) (n + 1)).filter (cndm R s false) = FS R s := by
  have hVL : VL (wR R) 6 = VL (wR R) n ++ (Vn (wR R) (n + 1) ++ VR (wR R) (6 - (n + 1)) (n + 2)) := by
    have := VR_VL (wR R) (6 - n) n
    rw [show n + (6 - n) = 6 by omega] at this
    rw [← this, show 6 - n = (6 - (n + 1)) + 1 by omega, VR]
  have hin : ∀ X : List RW, (∀ q ∈ X, q ∈ VL (wR R) 6) → (∀ q ∈ X, q.1.length ≠ n + 1) → X.filter (fun q => q.2.2 == s) = [] := by
    intro X h1 h2
    refine filter_nil' (fun q hq => ?_)
    cases e : q.2.2 == s with
    | false => rfl
    | true =>
      rw [beq_iff_eq] at e
      have := VL_pop hW (h1 q hq)
      rw [e, hp] at this
      exact absurd this.symm (h2 q hq)
  unfold FS
  rw [hVL, List.filter_append, List.filter_append]
  have hX3 : ∀ d k q, q ∈ VR (wR R) d k → k ≤ q.1.length := by
    intro d
    induction d with
    | zero => intro k q h; simp [VR] at h
    | succ d ih =>
      intro k q h
      rw [VR] at h
      rcases List.mem_append.mp h with h | h
      · rw [Vn_len h]; exact Nat.le_refl _
      · have := ih (k + 1) q h; omega
  rw [hin (VL (wR R) n) (fun q hq => by rw [hVL]; exact List.mem_append_left _ hq) (fun q hq => by have := VL_le hq; omega), hin (VR (wR R) (6 - (n + 1)) (n + 2)) (fun q hq => by rw [hVL]; exact List.mem_append_right _ (List.mem_append_right _ hq)) (fun q hq => by have := hX3 _ _ q hq; omega), List.nil_append, List.append_nil]
  refine filter_congr' (fun q hq => ?_)
  have hq6 : q ∈ VL (wR R) 6 := by rw [hVL]; exact List.mem_append_right _ (List.mem_append_left _ hq)
  obtain ⟨v1, v2, v3, v4, v5⟩ := VL_row hW hq6
  have hpq := VL_pop hW hq6
  have hl := Vn_len hq
  show (true && allm s q.1) = _
  rw [Bool.true_and, Bool.eq_iff_iff, beq_iff_eq]
  unfold allm
  rw [List.all_eq_true]
  constructor
  · intro h
    refine set_eq v4 hs (fun c hc => ?_) (by omega)
    rw [v5, decide_eq_true_eq] at hc
    exact h c hc
  · intro h c hc
    rw [← h, v5, decide_eq_true_eq]
    exact hc
theorem FS_0 {R : RV} (hW : Wf R) {s : Nat} (hp : pop s = 0) : FS R s = [] := filter_nil' (fun q hq => by
  cases e : q.2.2 == s with
  | false => rfl
  | true =>
    rw [beq_iff_eq] at e
    have := VL_pop hW hq
    have := (VL_row hW hq).2.2.1
    rw [e] at *
    omega)
theorem i_sub0 {x : Int32} {l : Nat} (hl : l < 1024) (h : xeq (x &&& (Int32.ofInt l ^^^ Int32.ofInt (-1))) (0 : Int32) = true) : ∃ s : Nat, x = Int32.ofInt s ∧ ∀ c, s.testBit c = true → l.testBit c = true := by
  unfold xeq at h
  rw [decide_eq_true_eq] at h
  have hb := congrArg Int32.toBitVec h
  rw [Int32.toBitVec_and, Int32.toBitVec_xor, i_bv, show (Int32.ofInt (-1)).toBitVec = BitVec.allOnes 32 from by decide, BitVec.xor_allOnes, show (0 : Int32).toBitVec = 0#32 from rfl] at hb
  refine ⟨x.toBitVec.toNat, ?_, fun c hc => ?_⟩
  · rw [← i_ofbv]
    exact (Int32.ofBitVec_toBitVec x).symm
  · have hc32 : c < 32 := by
      by_cases e : c < 32
      · exact e
      · have hlt : x.toBitVec.toNat < 2 ^ 32 := x.toBitVec.isLt
        rw [bits_of_lt hlt (by omega)] at hc
        cases hc
    have := congrArg (fun v : BitVec 32 => v.getLsbD c) hb
    have h1 : x.toBitVec.getLsbD c = true := hc
    simp only [BitVec.getLsbD_and, BitVec.getLsbD_not, BitVec.getLsbD_ofNat, BitVec.getLsbD_zero, Nat.zero_testBit, Bool.and_false] at this
    rw [h1, decide_eq_true hc32] at this
    cases e : l.testBit c with
    | true => rfl
    | false => rw [e] at this; cases this
theorem set_k {N : Nat} (hN : 11 < N) {R : RV} (hW : Wf R) (x : Int32) : (∃ s : Nat, x = Int32.ofInt s ∧ s < 1024 ∧ (∀ c, s.testBit c = true → R.lv.testBit c = true) ∧ pop s ≤ 6 ∧ (∀ M, cv 1 R M → fX8_canRun N [.ref 0, .int x] M = some (bi true, M)) ∧ ∀ M, mv R M → fX9_isSet N [.ref 64, .int x] M = some (bi true, M)) ∨ ((∀ M, cv 1 R M → fX8_canRun N [.ref 0, .int x] M = some (bi false, M)) ∧ ∀ M, mv R M → fX9_isSet N [.ref 64, .int x] M = some (bi false, M)) := by
  have hlv := lv_small hW
  have h10 := hW.1
  cases h : xeq (x &&& (Int32.ofInt R.lv ^^^ Int32.ofInt (-1))) (0 : Int32) with
  | false =>
    refine .inr ⟨fun M hM => ?_, fun M hM => ?_⟩
    · rw [eX8_canRun, show 0 + 1 = 1 from rfl, hM.2.1, h]
      rfl
    · rw [eX9_isSet, v_living hN hM hW, e_bd]
      dsimp only
      rw [h]
      cases xlt x 0 <;> cases xlt x (Int32.ofInt 1 <<< (M.1 64 0 &&& 31)) <;> rfl
  | true =>
    obtain ⟨s, rfl, hs⟩ := i_sub0 hlv h
    have hsl : s < 2 ^ R.nb := Nat.lt_pow_two_of_testBit s (fun i hi => by
      cases e : s.testBit i with
      | false => rfl
      | true => have := hs i e; rw [bits_of_lt hW.2.1 hi] at this; cases this)
    have hs10 : s < 1024 := Nat.lt_of_lt_of_le hsl (Nat.pow_le_pow_right (n := 2) (by omega) h10)
    have hp10 : pop s ≤ 10 := by
      rw [pop_c]
      exact Nat.le_trans List.countP_le_length (by simp)
    have hpow : 2 ^ R.nb ≤ 1024 := Nat.pow_le_pow_right (n := 2) (by omega) h10
    have cx : ∀ M, cv 1 R M → fX8_canRun N [.ref 0, .int (Int32.ofInt s)] M = some (bi (decide (pop s ≤ 6)), M) := by
      intro M hM
      rw [eX8_canRun, show 0 + 1 = 1 from rfl, hM.2.1, h, cond_true, v_pop N hs10, e_bd]
      dsimp only
      rw [i_lt (by omega) (by omega)]
      by_cases e : pop s ≤ 6
      · rw [decide_eq_true e, decide_eq_false (by omega)]; rfl
      · rw [decide_eq_false e, decide_eq_true (by omega)]; rfl
    have cm : ∀ M, mv R M → fX9_isSet N [.ref 64, .int (Int32.ofInt s)] M = some (bi (decide (pop s ≤ 6)), M) := by
      intro M hM
      rw [eX9_isSet, show (0 : Int32) = Int32.ofInt 0 from rfl, i_lt (by omega) (by omega), decide_eq_false (by omega), cond_false, hM.1, i_shl (by omega), i_lt (by omega) (by omega), decide_eq_true (by omega), cond_true, v_living hN hM hW, e_bd]
      dsimp only
      rw [show Int32.ofInt 0 = (0 : Int32) from rfl, h, cond_true, v_pop N hs10, e_bd]
      dsimp only
      rw [i_lt (by omega) (by omega)]
      by_cases e : pop s ≤ 6
      · rw [decide_eq_true e, decide_eq_true (by omega)]; rfl
      · rw [decide_eq_false e, decide_eq_false (by omega)]; rfl
    by_cases e : pop s ≤ 6
    · rw [decide_eq_true e] at cx cm
      exact .inl ⟨s, rfl, hs10, hs, e, cx, cm⟩
    · rw [decide_eq_false e] at cx cm
      exact .inr ⟨cx, cm⟩
theorem l_cntO {N : Nat} {t : Nat} {S : SV} (hW : WfS S) {M : XM} (hM : CX t S M) (hS : SYw 22 6 2400 (wR S.R) M) {s : Nat} (hs : s < 1024) : ∀ (T : List RW) (i n k : Nat), SM 22 (wR S.R) i T M → (∀ q ∈ T, q ∈ VL (wR S.R) 6) → i + T.length = (VL (wR S.R) 6).length → T.length < n → gX4_countOf N n 4 [.ref 22, .int (Int32.ofInt s), .int (Int32.ofInt k), .int (Int32.ofInt i)] [] M = some (Int32.ofInt ((k + (T.filter (fun q => q.2.2 == s)).length : Nat) : Int), M)
  | [], i, n + 1, k, hT, hq, hi, hn => by
    have so : SO 22 6 2400 := .inl ⟨rfl, rfl, rfl⟩
    have := VL_rm hS (n := 6) (by omega)
    simp only [List.length_nil] at hi
    rw [eX4_countOf_4 _ _ _ _ _ _ (by omega), hM.2.2.2.2.2.2.2.1.1]
    rw [v_upTo so hS (by omega), e_bd]
    dsimp only
    rw [Nat.min_self, i_lt (by omega) (by omega), decide_eq_false (by omega)]
    rfl
  | q :: T, i, n + 1, k, hT, hq, hi, hn => by
    have so : SO 22 6 2400 := .inl ⟨rfl, rfl, rfl⟩
    have hrm := VL_rm hS (n := 6) (by omega)
    simp only [List.length_cons] at hi hn
    obtain ⟨m1, m2, m3, m4, m5⟩ := SM_t hT
    have h24 := (VL_row hW.1 (hq q List.mem_cons_self)).2.2.2.1
    have ih := fun k => l_cntO (N := N) hW hM hS hs T (i + 1) n k m5 (fun x hx => hq x (List.mem_cons_of_mem _ hx)) (by omega) (by omega)
    rw [eX4_countOf_4 _ _ _ _ _ _ (by omega), hM.2.2.2.2.2.2.2.1.1]
    rw [v_upTo so hS (by omega), e_bd]
    dsimp only
    rw [Nat.min_self, i_lt (by omega) (by omega), decide_eq_true (by omega), cond_true, m3, e_bd]
    dsimp only
    rw [i_eq (by omega) (by omega)]
    simp only [i_suc, i_add]
    by_cases e : q.2.2 = s
    · rw [decide_eq_true (by omega), cond_true, List.filter_cons_of_pos (by rw [beq_iff_eq]; exact e), List.length_cons, show k + ((T.filter (fun q => q.2.2 == s)).length + 1) = k + 1 + (T.filter (fun q => q.2.2 == s)).length by omega]
      exact ih (k + 1)
    · rw [decide_eq_false (by omega), cond_false, List.filter_cons_of_neg (by rw [beq_iff_eq]; exact e), show (k : Int) + 0 = k by omega]
      exact ih k
theorem l_fstO {N : Nat} {t : Nat} {S : SV} (hW : WfS S) {M : XM} (hM : CX t S M) (hS : SYw 22 6 2400 (wR S.R) M) {s : Nat} (hs : s < 1024) : ∀ (T : List RW) (i n : Nat), SM 22 (wR S.R) i T M → (∀ q ∈ T, q ∈ VL (wR S.R) 6) → i + T.length = (VL (wR S.R) 6).length → T.length < n → (T.filter (fun q => q.2.2 == s) = [] ∧ gX4_firstOf N n 2 [.ref 22, .int (Int32.ofInt s), .int (Int32.ofInt i)] [] M = some (Int32.ofInt (-1), M)) ∨ (∃ (j : Nat) (q : RW), q ∈ T ∧ (T.filter (fun q => q.2.2 == s)).head? = some q ∧ j < 2400 ∧ (∀ N, fX4_rowOf N [.ref 22, .int (Int32.ofInt j)] M = some (Int32.ofInt (pack q.1 : Nat), M)) ∧ gX4_firstOf N n 2 [.ref 22, .int (Int32.ofInt s), .int (Int32.ofInt i)] [] M = some (Int32.ofInt j, M))
  | [], i, n + 1, hT, hq, hi, hn => by
    have so : SO 22 6 2400 := .inl ⟨rfl, rfl, rfl⟩
    have := VL_rm hS (n := 6) (by omega)
    simp only [List.length_nil] at hi
    refine .inl ⟨rfl, ?_⟩
    rw [eX4_firstOf_2 _ _ _ _ _ (by omega), hM.2.2.2.2.2.2.2.1.1]
    rw [v_upTo so hS (by omega), e_bd]
    dsimp only
    rw [Nat.min_self, i_lt (by omega) (by omega), decide_eq_false (by omega)]
    rfl
  | q :: T, i, n + 1, hT, hq, hi, hn => by
    have so : SO 22 6 2400 := .inl ⟨rfl, rfl, rfl⟩
    have hrm := VL_rm hS (n := 6) (by omega)
    simp only [List.length_cons] at hi hn
    obtain ⟨m1, m2, m3, m4, m5⟩ := SM_t hT
    have h24 := (VL_row hW.1 (hq q List.mem_cons_self)).2.2.2.1
    rw [eX4_firstOf_2 _ _ _ _ _ (by omega), hM.2.2.2.2.2.2.2.1.1]
    rw [v_upTo so hS (by omega), e_bd]
    dsimp only
    rw [Nat.min_self, i_lt (by omega) (by omega), decide_eq_true (by omega), cond_true, m3, e_bd]
    dsimp only
    rw [i_eq (by omega) (by omega), i_suc]
    by_cases e : q.2.2 = s
    · rw [decide_eq_true (by omega), cond_true]
      exact .inr ⟨i, q, List.mem_cons_self, by rw [List.filter_cons_of_pos (by rw [beq_iff_eq]; exact e)]; rfl, by omega, m1, rfl⟩
    · rw [decide_eq_false (by omega), cond_false, List.filter_cons_of_neg (by rw [beq_iff_eq]; exact e)]
      rcases l_fstO (N := N) hW hM hS hs T (i + 1) n m5 (fun x hx => hq x (List.mem_cons_of_mem _ hx)) (by omega) (by omega) with h | ⟨j, q', g1, g2⟩
      · exact .inl h
      · exact .inr ⟨j, q', List.mem_cons_of_mem _ g1, g2⟩
theorem l_mayM {N : Nat} {t : Nat} {S : SV} (hW : WfS S) {M : XM} (hM : CX t S M) (hS : SYw 22 6 2400 (wR S.R) M) {s : Nat} (hs : s < 1024) {z : Int} (hz : rg z) : ∀ (T : List RW) (i n : Nat), SM 22 (wR S.R) i T M → (∀ q ∈ T, q ∈ VL (wR S.R) 6) → i + T.length = (VL (wR S.R) 6).length → T.length < n → gX4_mayMean N n 2 [.ref 22, .int (Int32.ofInt s), .int (Int32.ofInt z), .int (Int32.ofInt i)] [] M = some (bi ((T.filter (fun q => q.2.2 == s)).any (fun q => mez S.R z q.1)), M)
  | [], i, n + 1, hT, hq, hi, hn => by
    have so : SO 22 6 2400 := .inl ⟨rfl, rfl, rfl⟩
    have := VL_rm hS (n := 6) (by omega)
    simp only [List.length_nil] at hi
    rw [eX4_mayMean_2 _ _ _ _ _ _ (by omega), hM.2.2.2.2.2.2.2.1.1]
    rw [v_upTo so hS (by omega), e_bd]
    dsimp only
    rw [Nat.min_self, i_lt (by omega) (by omega), decide_eq_false (by omega)]
    rfl
  | q :: T, i, n + 1, hT, hq, hi, hn => by
    have so : SO 22 6 2400 := .inl ⟨rfl, rfl, rfl⟩
    have hrm := VL_rm hS (n := 6) (by omega)
    simp only [List.length_cons] at hi hn
    obtain ⟨m1, m2, m3, m4, m5⟩ := SM_t hT
    have hqq := hq q List.mem_cons_self
    have h24 := (VL_row hW.1 hqq).2.2.2.1
    have hb := VL_b9 hW.1 (by omega) hqq
    unfold b9 at hb
    have ih := l_mayM (N := N) hW hM hS hs hz T (i + 1) n m5 (fun x hx => hq x (List.mem_cons_of_mem _ hx)) (by omega) (by omega)
    rw [eX4_mayMean_2 _ _ _ _ _ _ (by omega), hM.2.2.2.2.2.2.2.1.1]
    rw [v_upTo so hS (by omega), e_bd]
    dsimp only
    rw [Nat.min_self, i_lt (by omega) (by omega), decide_eq_true (by omega), cond_true, m3, e_bd]
    dsimp only
    rw [m4, e_bd]
    dsimp only
    rw [i_eq (by omega) (by omega), i_eq (by omega) hz, i_suc]
    by_cases e : q.2.2 = s
    · rw [decide_eq_true (by omega), cond_true, List.filter_cons_of_pos (by rw [beq_iff_eq]; exact e), List.any_cons, show mez S.R z q.1 = decide (mean (wR S.R) q.1 = z) from rfl]
      by_cases e2 : mean (wR S.R) q.1 = z
      · rw [decide_eq_true e2, cond_true]; rfl
      · rw [decide_eq_false e2, cond_false, Bool.false_or]
        exact ih
    · rw [decide_eq_false (by omega), cond_false, List.filter_cons_of_neg (by rw [beq_iff_eq]; exact e)]
      exact ih
