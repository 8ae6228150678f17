theorem l_am {N p : Nat} (hN : 9 < N) (hp : PO p) {R1 : RV} (hW : Wf R1) {m0 md : Int} (hz : ∀ j : Nat, j < 10 → rg (m0 + j * md)) (i nb : Int32) : ∀ (d a n : Nat) (f : Nat → Nat) (M : XM), cv p R1 M → a + d = 10 → d < n → (∀ j, j < 10 → M.1 41 j = Int32.ofInt (f j)) → ∃ M', gX1_guessMet N n 122 [.ref 31, .ref p, .int nb, .retAddr 0, .int i, .int (Int32.ofInt m0), .int (Int32.ofInt md), .int (Int32.ofInt a)] [] M = gX1_guessMet N (n - d - 1) 51 [.ref 31, .ref p, .int nb, .retAddr 0, .int (i + Int32.ofInt 1), .retAddr 0, .retAddr 0, .retAddr 0] [] M' ∧ fr 41 42 M M' ∧ ∀ j, j < 10 → M'.1 41 j = Int32.ofInt ((if a ≤ j then f j ||| nof R1 (m0 + j * md) else f j : Nat) : Int)
  | 0, a, n + 1, f, M, hR, ha, hn, hf => by
    refine ⟨M, ?_, fr.rf, fun j hj => by rw [if_neg (by omega)]; exact hf j hj⟩
    rw [eX1_guessMet_122 _ _ _ _ _ _ _ _ hp, i_lt (by omega) (by omega), decide_eq_false (by omega), cond_false]
    rfl
  | d + 1, a, n + 1, f, M, hR, ha, hn, hf => by
    have hR' : cv p R1 (xwi M 41 a (Int32.ofInt ((f a ||| nof R1 (m0 + a * md) : Nat) : Int))) := hR.fr (fr.rf.wi (lo := 41) (hi := 42) (by omega) (by omega)) (by rcases hp with rfl | rfl | rfl <;> omega)
    obtain ⟨M', g1, g2, g3⟩ := l_am (N := N) hN hp hW hz i nb d (a + 1) n (upn f a (f a ||| nof R1 (m0 + a * md))) (xwi M 41 a (Int32.ofInt ((f a ||| nof R1 (m0 + a * md) : Nat) : Int))) hR' (by omega) (by omega) (fun j hj => by
      by_cases e : j = a
      · rw [e, m_eq, upn_eq]
      · rw [m_ne _ (by omega), upn_ne _ _ e]
        exact hf j hj)
    refine ⟨M', ?_, (fr.rf.wi (by omega) (by omega)).tr g2, fun j hj => ?_⟩
    · rw [eX1_guessMet_122 _ _ _ _ _ _ _ _ hp, i_lt (by omega) (by omega), decide_eq_true (by omega), cond_true, show ∀ M, xlen M (31 + 10) = 10 from fun _ => rfl, i_inn (by omega), decide_eq_true (by omega), cond_true, i_mul, i_add, v_nof hN hp hW hR (hz a (by omega)), e_bd]
      dsimp only
      rw [show ∀ M, xlen M (31 + 10) = 10 from fun _ => rfl, i_inn (by omega), decide_eq_true (by omega), cond_true, i_natn (by omega), show 31 + 10 = 41 from rfl, hf a (by omega), i_or, i_suc, g1, show n + 1 - (d + 1) - 1 = n - d - 1 by omega]
    · rw [g3 j hj]
      by_cases e : j = a
      · rw [e, upn_eq, if_neg (by omega), if_pos (by omega)]
      · rw [upn_ne _ _ e]
        by_cases h : a + 1 ≤ j
        · rw [if_pos h, if_pos (by omega)]
        · rw [if_neg h, if_neg (by omega)]
theorem SYw_41 {w : Nat → Nat} {M M' : XM} (h : SYw 32 5 700 w M) (hf : fr 41 42 M M') : SYw 32 5 700 w M' := SYw_m h (fun a j h1 h2 => by rw [hf.i (by omega)]) (fun j => by rw [hf.l (by omega)])
theorem lin_rg {R : RV} (hW : Wf R) (hn : R.nb < 10) {K : Nat} (hK : K < 6) {q : RW} (hq : q ∈ VL (wR (R.add K 0 0)) 5) {a : Nat} (ha : a ≤ 9) : -900 ≤ lin R K a q.1 ∧ lin R K a q.1 ≤ 900 := by
  have hWa := wf_add hW hn hK ha (show cellok 0 by unfold cellok; omega)
  rw [VL_add hW (show 0 ≤ 9 by omega) ha] at hq
  obtain ⟨g, g2, g3, _, g5⟩ := VL_row hWa hq
  have hlin : mean (wR (R.add K a 0)) q.1 = lin R K a q.1 := mean_aff (nb := R.nb) ha (by rw [wR_add hW, if_pos rfl]) (by rw [wR_add hW, if_pos rfl]) (by rw [wR_add hW, if_pos rfl]) (fun b _ hb => by
    rw [wR_add hW, wR_add hW, wR_add hW, if_neg hb, if_neg hb, if_neg hb]
    exact ⟨rfl, rfl⟩) g.2.2
  rw [← hlin]
  exact mean_b hWa g (by omega)
theorem l_gr {N p : Nat} (hN : 11 < N) (hp : PO p) {R : RV} (hW : Wf R) (hn10 : R.nb < 10) {K : Nat} (hK : K < 6) : ∀ (T : List RW) (i n : Nat) (f : Nat → Nat) (M : XM), cv p (R.add K 1 0) M → SYw 32 5 700 (wR (R.add K 0 0)) M → SM 32 (wR (R.add K 0 0)) i T M → (∀ q ∈ T, q ∈ VL (wR (R.add K 0 0)) 5) → i + T.length = (VL (wR (R.add K 0 0)) 5).length → 20 * T.length < n → (∀ j, j < 10 → M.1 41 j = Int32.ofInt (f j)) → ∃ M', gX1_guessMet N n 51 [.ref 31, .ref p, .int (Int32.ofInt R.nb), .retAddr 0, .int (Int32.ofInt i), .retAddr 0, .retAddr 0, .retAddr 0] [] M = some M' ∧ fr 41 42 M M' ∧ ∀ j, j < 10 → M'.1 41 j = Int32.ofInt (mba R K j (f j) T : Nat)
  | [], i, n + 1, f, M, hR, hS, hT, hq, hi, hn, hf => by
    have := VL_rm hS (show 5 ≤ 5 by omega)
    simp only [List.length_nil] at hi
    refine ⟨M, ?_, fr.rf, hf⟩
    rw [eX1_guessMet_51 _ _ _ _ _ hp, show 31 + 1 = 32 from rfl, show Int32.ofInt 5 = Int32.ofInt ((5 : Nat) : Int) from rfl, v_upTo (.inr ⟨rfl, rfl, rfl⟩) hS (by omega), e_bd, Nat.min_eq_left (by omega)]
    dsimp only
    rw [i_lt (by omega) (by omega), decide_eq_false (by omega), cond_false]
    rfl
  | q :: T, i, n + 1, f, M, hR, hS, hT, hq, hi, hn, hf => by
    have hrm := VL_rm hS (show 5 ≤ 5 by omega)
    have hW0 := wf_add hW hn10 hK (show 0 ≤ 9 by omega) (show cellok 0 by unfold cellok; omega)
    have hW1 := wf_add hW hn10 hK (show 1 ≤ 9 by omega) (show cellok 0 by unfold cellok; omega)
    simp only [List.length_cons] at hi hn
    obtain ⟨m1, m2, m3, m4, m5⟩ := SM_t hT
    have hqv := hq q List.mem_cons_self
    obtain ⟨⟨g1, _, g0⟩, g2, g3, g4, g5⟩ := VL_row hW0 hqv
    have hpk : pack q.1 < 2147483648 := by have := pack_24 (l := q.1) (fun c hcc => by have := (g1 c hcc).1; have := hW0.1; omega) (by omega); omega
    have r0 := lin_rg hW hn10 hK hqv (show 0 ≤ 9 by omega)
    have r1 := lin_rg hW hn10 hK hqv (show 1 ≤ 9 by omega)
    have e0 : lin R K 0 q.1 = mean (wR (R.add K 0 0)) q.1 := by unfold lin; rw [show ((0 : Nat) : Int) = 0 from rfl, Int.zero_mul, Int.add_zero]
    have e1 : lin R K 1 q.1 = mean (wR (R.add K 1 0)) q.1 := by unfold lin; rw [show ((1 : Nat) : Int) = 1 from rfl, Int.one_mul]; omega
    rw [e0] at r0
    rw [e1] at r1
    rw [eX1_guessMet_51 _ _ _ _ _ hp, show 31 + 1 = 32 from rfl, show Int32.ofInt 5 = Int32.ofInt ((5 : Nat) : Int) from rfl, v_upTo (.inr ⟨rfl, rfl, rfl⟩) hS (by omega), e_bd, Nat.min_eq_left (by omega)]
    dsimp only
    rw [i_lt (by omega) (by omega), decide_eq_true (by omega), cond_true, m3, e_bd]
    dsimp only
    rw [i_bit (by omega) (by omega), i_nbit, b_z]
    cases hb : q.2.2.testBit R.nb with
    | false =>
      obtain ⟨M', h1, h2, h3⟩ := l_gr (N := N) hN hp hW hn10 hK T (i + 1) n f M hR hS m5 (fun x hx => hq x (List.mem_cons_of_mem _ hx)) (by omega) (by omega) hf
      refine ⟨M', ?_, h2, fun j hj => ?_⟩
      · rw [cond_false, i_suc]
        exact h1
      · rw [h3 j hj, mba, hb, if_neg Bool.false_ne_true]
    | true =>
      have hmean := v_mean8 (N := N) hN (o := p) hp hW1 (m := (R.add K 1 0).lv) hR (l := q.1) g1 (by omega)
      obtain ⟨M1, a1, a2, a3⟩ := l_am (N := N) (by omega) hp hW1 (m0 := mean (wR (R.add K 0 0)) q.1) (md := mean (wR (R.add K 1 0)) q.1 - mean (wR (R.add K 0 0)) q.1) (fun j hj => by
        have := lin_rg hW hn10 hK hqv (show j ≤ 9 by omega)
        unfold lin at this
        omega) (Int32.ofInt i) (Int32.ofInt R.nb) 10 0 n f M hR (by omega) (by omega) hf
      obtain ⟨M', h1, h2, h3⟩ := l_gr (N := N) hN hp hW hn10 hK T (i + 1) (n - 10 - 1) (fun j => f j ||| nof R (lin R K j q.1)) M1 (hR.fr a2 (by rcases hp with rfl | rfl | rfl <;> omega)) (SYw_41 hS a2) (SM_m m5 (fun a j h1 h2 => by rw [a2.i (by omega)]) (fun j => by rw [a2.l (by omega)])) (fun x hx => hq x (List.mem_cons_of_mem _ hx)) (by omega) (by omega) (fun j hj => by
          rw [a3 j hj, if_pos (by omega)]
          rfl)
      refine ⟨M', ?_, a2.tr h2, fun j hj => ?_⟩
      · rw [cond_true, m4, e_bd]
        dsimp only
        rw [m1, e_bd]
        dsimp only
        rw [m2, e_bd]
        dsimp only
        rw [i_64 hpk, hmean, e_bd]
        dsimp only
        rw [i_sub]
        have a1' : gX1_guessMet N n 122 [.ref 31, .ref p, .int (Int32.ofInt R.nb), .retAddr 0, .int (Int32.ofInt i), .int (Int32.ofInt (mean (wR (R.add K 0 0)) q.1)), .int (Int32.ofInt (mean (wR (R.add K 1 0)) q.1 - mean (wR (R.add K 0 0)) q.1)), .int (Int32.ofInt 0)] [] M = _ := a1
        refine Eq.trans a1' ?_
        rw [i_suc]
        exact h1
      · rw [h3 j hj, mba, hb, if_pos rfl]
