def f_cnt (R : RV) (c : Nat) : Nat → Nat → Nat → Nat
  | 0, _, x => x
  | d + 1, k, x => f_cnt R c d (k + 1) (bif R.lv.testBit k && decide (R.ce k = c) then x + 1 else x)
theorem f_cnt_b (R : RV) (c : Nat) : ∀ d k x, f_cnt R c d k x ≤ x + d
  | 0, _, x => Nat.le_refl _
  | d + 1, k, x => by
    rw [f_cnt]
    refine Nat.le_trans (f_cnt_b R c d (k + 1) _) ?_
    cases R.lv.testBit k && decide (R.ce k = c) with
    | true => rw [cond_true]; omega
    | false => rw [cond_false]; omega
def cnC (R : RV) (c : Nat) : Nat := f_cnt R c R.nb 0 0
theorem cnC_b {R : RV} (hW : Wf R) (c : Nat) : cnC R c ≤ 10 := by
  have := f_cnt_b R c R.nb 0 0
  have := hW.1
  unfold cnC
  omega
theorem ce_60 {R : RV} (hW : Wf R) {b : Nat} (hb : b < R.nb) : R.ce b < 60 := by
  have := (hW.2.2.2.1 b hb).2.2.1
  unfold cellok at this
  omega
theorem f_cnt_n {R : RV} (hW : Wf R) {c : Nat} (hc : ¬ cellok c) : ∀ d k x, k + d ≤ R.nb → f_cnt R c d k x = x
  | 0, _, _, _ => rfl
  | d + 1, k, x, h => by
    rw [f_cnt, decide_eq_false (fun e => hc (by rw [← e]; exact (hW.2.2.2.1 k (by omega)).2.2.1)), Bool.and_false, cond_false]
    exact f_cnt_n hW hc d (k + 1) x (by omega)
def cellOf (k : Nat) : Nat := k / 6 * 10 + k % 6
theorem i_cell {k : Nat} (hk : k < 36) : ((Int32.ofInt k / Int32.ofInt 6) * Int32.ofInt 10) + (Int32.ofInt k - Int32.ofInt k / Int32.ofInt 6 * Int32.ofInt 6) = Int32.ofInt (cellOf k : Nat) := by
  rw [i_div (by omega) (by omega), Int.tdiv_eq_ediv_of_nonneg (by omega), i_mul, i_mul, i_sub, i_add]
  congr 1
  unfold cellOf
  omega
theorem l_cnt8 {N : Nat} {M : XM} {R : RV} (hR : cv 1 R M) (hW : Wf R) (x1 x2 : Int) (h2 : -1 ≤ x2 ∧ x2 ≤ 10) {p c : Nat} (hc : c < 60) : ∀ (d n k x : Nat), k + d = R.nb → x ≤ k → gX3_fullestCell N (n + 1 + d) 32 [.ref 1, .int (Int32.ofInt x1), .int (Int32.ofInt x2), .int (Int32.ofInt p), .int (Int32.ofInt c), .int (Int32.ofInt x), .int (Int32.ofInt k)] [] M = (bif decide (x2 < (f_cnt R c d k x : Int)) then (gX3_fullestCell N n 6 [.ref 1, .int (Int32.ofInt c), .int (Int32.ofInt (f_cnt R c d k x)), .int (Int32.ofInt ((p + 1 : Nat) : Int)), .retAddr 0, .retAddr 0, .retAddr 0] [] M) else (gX3_fullestCell N n 6 [.ref 1, .int (Int32.ofInt x1), .int (Int32.ofInt x2), .int (Int32.ofInt ((p + 1 : Nat) : Int)), .retAddr 0, .retAddr 0, .retAddr 0] [] M))
  | 0, n, k, x, hk, hx => by
    have h10 := hW.1
    rw [Nat.add_zero, eX3_fullestCell_32 _ _ _ _ _ _ _ _ _ (by omega), hR.1, i_lt (by omega) (by omega), decide_eq_false (by omega), cond_false, i_lt (by omega) (by omega), i_suc]
    rfl
  | d + 1, n, k, x, hk, hx => by
    have h10 := hW.1
    have hce := ce_60 hW (b := k) (by omega)
    have ih := l_cnt8 (N := N) hR hW x1 x2 h2 (p := p) hc d n (k + 1)
    rw [show n + 1 + (d + 1) = n + 1 + d + 1 by omega, eX3_fullestCell_32 _ _ _ _ _ _ _ _ _ (by omega), hR.1, i_lt (by omega) (by omega), decide_eq_true (by omega), cond_true, v_isLivingn (by omega) hR hW (by omega), e_bd, b_z, i_suc, i_suc, f_cnt, i_add, show (x : Int) + 0 = x by omega]
    dsimp only
    rw [i_inn (by omega), show xlen M (1 + 3) = 16 from rfl, decide_eq_true (by omega), cond_true, i_natn (by omega), show 1 + 3 = 4 from rfl, (hR.2.2.2.2.2.1 k (by omega)).2.2.1, i_eq (by omega) (by omega)]
    cases R.lv.testBit k with
    | false => exact ih x (by omega) (by omega)
    | true =>
      rw [cond_true, Bool.true_and]
      by_cases e : R.ce k = c
      · rw [decide_eq_true e, decide_eq_true (by omega), cond_true]
        exact ih (x + 1) (by omega) (by omega)
      · rw [decide_eq_false e, decide_eq_false (by omega), cond_false]
        exact ih x (by omega) (by omega)
def stpC (R : RV) (s c : Nat) : Nat := if cnC R s < cnC R c then c else s
theorem cellOf_60 : ∀ k, k < 36 → cellOf k < 60 := by decide
theorem l_crw8 {N : Nat} {M : XM} {R : RV} (hR : cv 1 R M) (hW : Wf R) : ∀ (d k n s : Nat), k + d = 36 → 13 * d < n → s < 60 → gX3_fullestCell N n 6 [.ref 1, .int (Int32.ofInt s), .int (Int32.ofInt (cnC R s)), .int (Int32.ofInt k), .retAddr 0, .retAddr 0, .retAddr 0] [] M = some (Int32.ofInt (((List.range' k d).map cellOf).foldl (stpC R) s : Nat), M)
  | 0, k, n + 1, s, hk, hn, hs => by
    rw [eX3_fullestCell_6 _ _ _ _ _ _ (by omega), i_lt (by omega) (by omega), decide_eq_false (by omega)]
    rfl
  | d + 1, k, n + 1, s, hk, hn, hs => by
    have h10 := hW.1
    obtain ⟨n, rfl⟩ : ∃ j, n = j + 1 + R.nb := ⟨n - 1 - R.nb, by omega⟩
    have hcb := cnC_b hW s
    have hck := cnC_b hW (cellOf k)
    have hc60 := cellOf_60 k (by omega)
    have h := l_cnt8 (N := N) hR hW s (cnC R s) (by omega) (p := k) hc60 R.nb n 0 0 (by omega) (by omega)
    have h : gX3_fullestCell N (n + 1 + R.nb) 32 [.ref 1, .int (Int32.ofInt s), .int (Int32.ofInt (cnC R s)), .int (Int32.ofInt k), .int (Int32.ofInt (cellOf k : Nat)), .int (Int32.ofInt 0), .int (Int32.ofInt 0)] [] M = _ := h
    rw [eX3_fullestCell_6 _ _ _ _ _ _ (by omega), i_lt (by omega) (by omega), decide_eq_true (by omega), cond_true, show xeq (Int32.ofInt 6) 0 = false by decide +kernel, cond_false, cond_false, i_cell (by omega), h]
    have ec : f_cnt R (cellOf k) R.nb 0 0 = cnC R (cellOf k) := rfl
    rw [ec, List.range'_succ, List.map_cons, List.foldl_cons]
    unfold stpC
    by_cases e : cnC R s < cnC R (cellOf k)
    · rw [decide_eq_true (by omega), cond_true, if_pos e]
      exact l_crw8 hR hW d (k + 1) n (cellOf k) (by omega) (by omega) hc60
    · rw [decide_eq_false (by omega), cond_false, if_neg e]
      exact l_crw8 hR hW d (k + 1) n s (by omega) (by omega) hs
theorem l_cnt9 {N : Nat} {M : XM} {R : RV} (hR : mv R M) (hW : Wf R) {c : Nat} (hc : c < 60) : ∀ (d n k x : Nat), k + d = R.nb → d < n → gX9_manyOn N n 4 [.ref 64, .int (Int32.ofInt c), .int (Int32.ofInt x), .int (Int32.ofInt k)] [] M = some (Int32.ofInt (f_cnt R c d k x), M)
  | 0, n + 1, k, x, hk, _ => by
    have h10 := hW.1
    rw [eX9_manyOn_4, hR.1, i_lt (by omega) (by omega), decide_eq_false (by omega)]
    rfl
  | d + 1, n + 1, k, x, hk, hn => by
    have h10 := hW.1
    have hce := ce_60 hW (b := k) (by omega)
    have ih := l_cnt9 (N := N) hR hW hc d n (k + 1)
    rw [eX9_manyOn_4, hR.1, i_lt (by omega) (by omega), decide_eq_true (by omega), cond_true, show xlen M (64 + 6) = 11 from rfl, show xlen M (64 + 3) = 11 from rfl, i_inn (by omega), decide_eq_true (show k < 11 by omega), cond_true, cond_true, i_natn (by omega), show 64 + 6 = 70 from rfl, show 64 + 3 = 67 from rfl, (hR.2.2.2.2.1 k (by omega)).2.2.2.2.2, (hR.2.2.2.2.1 k (by omega)).2.2.1, b_z, i_eq (by omega) (by omega), i_suc, i_suc, f_cnt]
    cases R.lv.testBit k with
    | false => exact ih x (by omega) (by omega)
    | true =>
      rw [cond_true, Bool.true_and]
      by_cases e : R.ce k = c
      · rw [decide_eq_true e, decide_eq_true (by omega), cond_true]
        exact ih (x + 1) (by omega) (by omega)
      · rw [decide_eq_false e, decide_eq_false (by omega), cond_false]
        exact ih x (by omega) (by omega)
theorem l_crw9 {N : Nat} (hN : 11 < N) {M : XM} {R : RV} (hR : mv R M) (hW : Wf R) : ∀ (d k n s : Nat), k + d = 56 → d < n → s < 60 → gX9_crowd N n 4 [.ref 64, .int (Int32.ofInt s), .int (Int32.ofInt k)] [] M = some (Int32.ofInt ((List.range' k d).foldl (stpC R) s : Nat), M)
  | 0, k, n + 1, s, hk, hn, hs => by
    rw [eX9_crowd_4, i_lt (by omega) (by omega), decide_eq_false (by omega)]
    rfl
  | d + 1, k, n + 1, s, hk, hn, hs => by
    have h10 := hW.1
    have hcb := cnC_b hW s
    have hck := cnC_b hW k
    have m1 := l_cnt9 (N := N) hR hW (c := k) (by omega) R.nb N 0 0 (by omega) (by omega)
    have m2 := l_cnt9 (N := N) hR hW (c := s) (by omega) R.nb N 0 0 (by omega) (by omega)
    have m1 : gX9_manyOn N N 4 [.ref 64, .int (Int32.ofInt k), .int (Int32.ofInt 0), .int (Int32.ofInt 0)] [] M = some (Int32.ofInt (cnC R k), M) := m1
    have m2 : gX9_manyOn N N 4 [.ref 64, .int (Int32.ofInt s), .int (Int32.ofInt 0), .int (Int32.ofInt 0)] [] M = some (Int32.ofInt (cnC R s), M) := m2
    rw [eX9_crowd_4, i_lt (by omega) (by omega), decide_eq_true (by omega), cond_true, eX9_manyOn, m1, e_bd]
    dsimp only
    rw [eX9_manyOn, m2, e_bd]
    dsimp only
    rw [i_lt (by omega) (by omega), i_suc, List.range'_succ, List.foldl_cons]
    unfold stpC
    by_cases e : cnC R s < cnC R k
    · rw [decide_eq_true (by omega), cond_true, if_pos e]
      exact l_crw9 hN hR hW d (k + 1) n k (by omega) (by omega) (by omega)
    · rw [decide_eq_false (by omega), cond_false, if_neg e]
      exact l_crw9 hN hR hW d (k + 1) n s (by omega) (by omega) hs
theorem foldl_skip {f : Nat → Nat → Nat} (P : Nat → Bool) : ∀ (l : List Nat) (s : Nat), (∀ s c, c ∈ l → P c = false → f s c = s) → l.foldl f s = (l.filter P).foldl f s
  | [], _, _ => rfl
  | c :: l, s, h => by
    rw [List.foldl_cons, List.filter_cons]
    cases hc : P c with
    | true =>
      rw [if_pos rfl, List.foldl_cons]
      exact foldl_skip P l _ (fun s x hx => h s x (List.mem_cons_of_mem _ hx))
    | false =>
      rw [if_neg Bool.false_ne_true, h s c List.mem_cons_self hc]
      exact foldl_skip P l _ (fun s x hx => h s x (List.mem_cons_of_mem _ hx))
def cokN (c : Nat) : Bool := decide (c / 10 < 6) && decide (c % 10 < 6)
theorem cells_eq : (List.range' 1 55).filter cokN = (List.range' 1 35).map cellOf := by decide
theorem op_crowd {t : Nat} {S : SV} (hW : WfS S) {N : Nat} (hN : big N) : both t S (fX8_crowd N [.ref 0]) (fX9_crowd N [.ref 64]) := by
  have hN' := hN
  unfold big at hN'
  have h10 := hW.1.1
  refine both_same hW (Int32.ofInt (((List.range' 1 35).map cellOf).foldl (stpC S.R) 0 : Nat)) (fun M hM => ?_) (fun M hM => ?_)
  · obtain ⟨n, hn⟩ : ∃ n, N = (n + 1 + S.R.nb) + 1 := ⟨N - 2 - S.R.nb, by omega⟩
    have hcb := cnC_b hW.1 0
    have h := l_cnt8 (N := N) hM.1 hW.1 0 0 (by omega) (p := 0) (c := 0) (by omega) S.R.nb n 0 0 (by omega) (by omega)
    have hg : gX3_fullestCell N (n + 1 + S.R.nb) 32 [.ref 1, .int (Int32.ofInt 0), .int (Int32.ofInt 0), .int (Int32.ofInt 0), .int (Int32.ofInt (cellOf 0 : Nat)), .int (Int32.ofInt 0), .int (Int32.ofInt 0)] [] M = gX3_fullestCell N n 6 [.ref 1, .int (Int32.ofInt (0 : Nat)), .int (Int32.ofInt (cnC S.R 0)), .int (Int32.ofInt (1 : Nat)), .retAddr 0, .retAddr 0, .retAddr 0] [] M := by
      refine Eq.trans h ?_
      have ec : f_cnt S.R 0 S.R.nb 0 0 = cnC S.R 0 := rfl
      rw [ec]
      by_cases e : cnC S.R 0 = 0
      · rw [e]
        rfl
      · rw [decide_eq_true (by omega)]
        rfl
    rw [eX8_crowd, show 0 + 1 = 1 from rfl, eX3_fullestCell _ _ (by omega)]
    have hs : gX3_fullestCell N N 6 [.ref 1, .int (Int32.ofInt 0), .int (Int32.ofInt 0), .int (Int32.ofInt 0), .retAddr 0, .retAddr 0, .retAddr 0] [] M = some (Int32.ofInt (((List.range' 1 35).map cellOf).foldl (stpC S.R) 0 : Nat), M) := by
      have hc0 : ((Int32.ofInt 0 / Int32.ofInt 6) * Int32.ofInt 10) + (Int32.ofInt 0 - Int32.ofInt 0 / Int32.ofInt 6 * Int32.ofInt 6) = Int32.ofInt (cellOf 0 : Nat) := i_cell (k := 0) (by omega)
      have hst : gX3_fullestCell N ((n + 1 + S.R.nb) + 1) 6 [.ref 1, .int (Int32.ofInt 0), .int (Int32.ofInt 0), .int (Int32.ofInt 0), .retAddr 0, .retAddr 0, .retAddr 0] [] M = gX3_fullestCell N (n + 1 + S.R.nb) 32 [.ref 1, .int (Int32.ofInt 0), .int (Int32.ofInt 0), .int (Int32.ofInt 0), .int (Int32.ofInt (cellOf 0 : Nat)), .int (Int32.ofInt 0), .int (Int32.ofInt 0)] [] M := by
        rw [eX3_fullestCell_6 _ _ _ _ _ _ (by omega), i_lt (by omega) (by omega), decide_eq_true (by omega), cond_true, show xeq (Int32.ofInt 6) 0 = false by decide +kernel, cond_false, cond_false, hc0]
      rw [← hn] at hst
      rw [hst, hg]
      exact l_crw8 hM.1 hW.1 35 1 n 0 (by omega) (by omega) (by omega)
    rw [hs]
    rfl
  · rw [eX9_crowd]
    have := l_crw9 (N := N) (by omega) hM.1 hW.1 55 1 N 0 (by omega) (by omega) (by omega)
    have this : gX9_crowd N N 4 [.ref 64, .int (Int32.ofInt 0), .int (Int32.ofInt 1)] [] M = _ := this
    rw [this, foldl_skip cokN, cells_eq]
    intro s c _ hc
    unfold stpC
    have h0 : cnC S.R c = 0 := f_cnt_n hW.1 (fun h => by
      unfold cokN at hc
      unfold cellok at h
      rw [decide_eq_true h.1, decide_eq_true h.2] at hc
      cases hc) S.R.nb 0 0 (by omega)
    rw [h0, if_neg (by omega)]
def stp (a b : Nat) : Int := ab ((a / 10 : Nat) - (b / 10 : Nat) : Int) + ab ((a % 10 : Nat) - (b % 10 : Nat) : Int)
theorem td10 (a : Nat) : (a : Int).tdiv 10 = ((a / 10 : Nat) : Int) ∧ (a : Int) - (a : Int).tdiv 10 * 10 = ((a % 10 : Nat) : Int) := by
  rw [Int.tdiv_eq_ediv_of_nonneg (by omega)]
  omega
theorem ab_s {x k : Int} (h : -k ≤ x ∧ x ≤ k) : 0 ≤ ab x ∧ ab x ≤ k := by
  unfold ab
  split <;> omega
theorem stp_b {a b : Nat} (ha : a < 60) (hb : b < 60) : 0 ≤ stp a b ∧ stp a b ≤ 20 := by
  unfold stp
  have h1 := ab_s (x := (a / 10 : Nat) - (b / 10 : Nat)) (k := 6) (by omega)
  have h2 := ab_s (x := (a % 10 : Nat) - (b % 10 : Nat)) (k := 9) (by omega)
  omega
theorem v_steps {N : Nat} {a b : Nat} (ha : a < 60) (hb : b < 60) (M : XM) : fX3_steps N [.int (Int32.ofInt a), .int (Int32.ofInt b)] M = some (Int32.ofInt (stp a b), M) := by
  rw [eX3_steps, show xeq (Int32.ofInt 10) 0 = false by decide +kernel]
  simp only [cond_false]
  rw [i_div (by omega) (by omega), i_div (by omega) (by omega), i_sub, i_mul, i_mul, i_sub, i_sub, i_sub, (td10 a).2, (td10 b).2, (td10 a).1, (td10 b).1, i_abs (by omega), e_bd, i_abs (by omega), e_bd, i_add, e_I]
  rfl
def f_far (R : RV) (c : Nat) : Nat → Nat → Int → Int
  | 0, _, x => x
  | d + 1, k, x => f_far R c d (k + 1) (bif R.lv.testBit k then (if x < stp (R.ce k) c then stp (R.ce k) c else x) else x)
theorem f_far_b {R : RV} (hW : Wf R) {c : Nat} (hc : c < 60) : ∀ d k x, k + d ≤ R.nb → 0 ≤ x ∧ x ≤ 20 → 0 ≤ f_far R c d k x ∧ f_far R c d k x ≤ 20
  | 0, _, _, _, h => h
  | d + 1, k, x, hk, h => by
    have hs := stp_b (ce_60 hW (b := k) (by omega)) hc
    rw [f_far]
    refine f_far_b hW hc d (k + 1) _ (by omega) ?_
    cases R.lv.testBit k with
    | false => exact h
    | true =>
      rw [cond_true]
      split <;> omega
def farC (R : RV) (c : Nat) : Int := f_far R c R.nb 0 0
theorem l_far8 {N : Nat} {M : XM} {R : RV} (hR : cv 1 R M) (hW : Wf R) {c : Nat} (hc : c < 60) : ∀ (d n k : Nat) (x : Int), k + d = R.nb → d < n → 0 ≤ x ∧ x ≤ 20 → gX3_farthest N n 4 [.ref 1, .int (Int32.ofInt c), .int (Int32.ofInt x), .int (Int32.ofInt k)] [] M = some (Int32.ofInt (f_far R c d k x), M)
  | 0, n + 1, k, x, hk, _, _ => by
    have h10 := hW.1
    rw [eX3_farthest_4 _ _ _ _ _ _ (by omega), hR.1, i_lt (by omega) (by omega), decide_eq_false (by omega)]
    rfl
  | d + 1, n + 1, k, x, hk, hn, hx => by
    have h10 := hW.1
    have hce := ce_60 hW (b := k) (by omega)
    have hs := stp_b hce hc
    have ih := l_far8 (N := N) hR hW hc d n (k + 1)
    rw [eX3_farthest_4 _ _ _ _ _ _ (by omega), hR.1, i_lt (by omega) (by omega), decide_eq_true (by omega), cond_true, v_isLivingn (by omega) hR hW (by omega), e_bd, b_z, i_suc, f_far]
    dsimp only
    rw [i_inn (by omega), show xlen M (1 + 3) = 16 from rfl, decide_eq_true (by omega), cond_true, i_natn (by omega), show 1 + 3 = 4 from rfl, (hR.2.2.2.2.2.1 k (by omega)).2.2.1, v_steps hce hc, e_bd, i_max (by omega) (by omega), e_bd]
    cases R.lv.testBit k with
    | false => exact ih x (by omega) (by omega) hx
    | true =>
      refine ih _ (by omega) (by omega) ?_
      split <;> omega
theorem l_far9 {N : Nat} {M : XM} {R : RV} (hR : mv R M) (hW : Wf R) {c : Nat} (hc : c < 60) : ∀ (d n k : Nat) (x : Int), k + d = R.nb → d < n → 0 ≤ x ∧ x ≤ 20 → gX9_mostSteps N n 4 [.ref 64, .int (Int32.ofInt c), .int (Int32.ofInt x), .int (Int32.ofInt k)] [] M = some (Int32.ofInt (f_far R c d k x), M)
  | 0, n + 1, k, x, hk, _, _ => by
    have h10 := hW.1
    rw [eX9_mostSteps_4, hR.1, i_lt (by omega) (by omega), decide_eq_false (by omega)]
    rfl
  | d + 1, n + 1, k, x, hk, hn, hx => by
    have h10 := hW.1
    have hce := ce_60 hW (b := k) (by omega)
    have hs := stp_b hce hc
    have ih := l_far9 (N := N) hR hW hc d n (k + 1)
    rw [eX9_mostSteps_4, hR.1, i_lt (by omega) (by omega), decide_eq_true (by omega), cond_true, show xlen M (64 + 6) = 11 from rfl, show xlen M (64 + 3) = 11 from rfl, i_inn (by omega), decide_eq_true (show k < 11 by omega), cond_true, cond_true, i_natn (by omega), show 64 + 6 = 70 from rfl, show 64 + 3 = 67 from rfl, (hR.2.2.2.2.1 k (by omega)).2.2.2.2.2, (hR.2.2.2.2.1 k (by omega)).2.2.1, b_z, show xeq (Int32.ofInt 10) 0 = false by decide +kernel]
    simp only [cond_false]
    rw [i_div (by omega) (by omega), i_div (by omega) (by omega), i_sub, (td10 (R.ce k)).1, (td10 c).1, i_abs (by omega), e_bd]
    dsimp only
    rw [show xlen M 67 = 11 from rfl, i_inn (by omega), decide_eq_true (show k < 11 by omega), cond_true, (hR.2.2.2.2.1 k (by omega)).2.2.1, i_div (by omega) (by omega), (td10 (R.ce k)).1, i_mul, i_mul, i_sub, i_sub, i_sub, show (R.ce k : Int) - ((R.ce k / 10 : Nat) : Int) * 10 = ((R.ce k % 10 : Nat) : Int) by omega, show (c : Int) - ((c / 10 : Nat) : Int) * 10 = ((c % 10 : Nat) : Int) by omega, i_abs (by omega), e_bd, i_add]
    have es : ab ((R.ce k / 10 : Nat) - (c / 10 : Nat) : Int) + ab ((R.ce k % 10 : Nat) - (c % 10 : Nat) : Int) = stp (R.ce k) c := rfl
    rw [es, i_max (by omega) (by omega), e_bd, i_suc, f_far]
    cases R.lv.testBit k with
    | false => exact ih x (by omega) (by omega) hx
    | true =>
      refine ih _ (by omega) (by omega) ?_
      split <;> omega
def stpG (R : RV) (s c : Nat) : Nat := if farC R c < farC R s then c else s
theorem l_gat8 {N : Nat} (hN : 11 < N) {M : XM} {R : RV} (hR : cv 1 R M) (hW : Wf R) : ∀ (d k n s : Nat), k + d = 36 → d < n → s < 60 → gX3_middleCell N n 10 [.ref 1, .int (Int32.ofInt s), .int (Int32.ofInt (farC R s)), .int (Int32.ofInt k), .retAddr 0, .retAddr 0] [] M = some (Int32.ofInt (((List.range' k d).map cellOf).foldl (stpG R) s : Nat), M)
  | 0, k, n + 1, s, hk, hn, hs => by
    rw [eX3_middleCell_10 _ _ _ _ _ _ (by omega), i_lt (by omega) (by omega), decide_eq_false (by omega)]
    rfl
  | d + 1, k, n + 1, s, hk, hn, hs => by
    have h10 := hW.1
    have hc60 := cellOf_60 k (by omega)
    have b1 : 0 ≤ farC R s ∧ farC R s ≤ 20 := f_far_b hW hs R.nb 0 0 (by omega) (by omega)
    have b2 : 0 ≤ farC R (cellOf k) ∧ farC R (cellOf k) ≤ 20 := f_far_b hW hc60 R.nb 0 0 (by omega) (by omega)
    have hf := l_far8 (N := N) hR hW hc60 R.nb N 0 0 (by omega) (by omega) (by omega)
    have hf : gX3_farthest N N 4 [.ref 1, .int (Int32.ofInt (cellOf k : Nat)), .int (Int32.ofInt 0), .int (Int32.ofInt 0)] [] M = some (Int32.ofInt (farC R (cellOf k)), M) := hf
    rw [eX3_middleCell_10 _ _ _ _ _ _ (by omega), i_lt (by omega) (by omega), decide_eq_true (by omega), cond_true, show xeq (Int32.ofInt 6) 0 = false by decide +kernel, cond_false, cond_false, i_cell (by omega), eX3_farthest _ _ _ (by omega), hf, e_bd]
    dsimp only
    rw [i_lt (by omega) (by omega), i_suc, List.range'_succ, List.map_cons, List.foldl_cons]
    unfold stpG
    by_cases e : farC R (cellOf k) < farC R s
    · rw [decide_eq_true e, cond_true, if_pos e]
      exact l_gat8 hN hR hW d (k + 1) n (cellOf k) (by omega) (by omega) hc60
    · rw [decide_eq_false e, cond_false, if_neg e]
      exact l_gat8 hN hR hW d (k + 1) n s (by omega) (by omega) hs
theorem cokZ_n {c : Nat} : cokZ (c : Int) = cokN c := by
  unfold cokZ cokN
  rw [(td10 c).2, (td10 c).1, decide_eq_true (show (0 : Int) ≤ c by omega), Bool.true_and]
  congr 1
  · exact decide_eq_decide.mpr (by omega)
  · exact decide_eq_decide.mpr (by omega)
theorem l_gat9 {N : Nat} (hN : 11 < N) {M : XM} {R : RV} (hR : mv R M) (hW : Wf R) : ∀ (d k n s : Nat), k + d = 56 → d < n → s < 60 → gX9_gather N n 4 [.ref 64, .int (Int32.ofInt s), .int (Int32.ofInt k)] [] M = some (Int32.ofInt (((List.range' k d).filter cokN).foldl (stpG R) s : Nat), M)
  | 0, k, n + 1, s, hk, hn, hs => by
    rw [eX9_gather_4, i_lt (by omega) (by omega), decide_eq_false (by omega)]
    rfl
  | d + 1, k, n + 1, s, hk, hn, hs => by
    have h10 := hW.1
    have b1 : 0 ≤ farC R s ∧ farC R s ≤ 20 := f_far_b hW hs R.nb 0 0 (by omega) (by omega)
    have b2 : 0 ≤ farC R k ∧ farC R k ≤ 20 := f_far_b hW (by omega) R.nb 0 0 (by omega) (by omega)
    have m1 : gX9_mostSteps N N 4 [.ref 64, .int (Int32.ofInt k), .int (Int32.ofInt 0), .int (Int32.ofInt 0)] [] M = some (Int32.ofInt (farC R k), M) := l_far9 (N := N) hR hW (c := k) (by omega) R.nb N 0 0 (by omega) (by omega) (by omega)
    have m2 : gX9_mostSteps N N 4 [.ref 64, .int (Int32.ofInt s), .int (Int32.ofInt 0), .int (Int32.ofInt 0)] [] M = some (Int32.ofInt (farC R s), M) := l_far9 (N := N) hR hW (c := s) (by omega) R.nb N 0 0 (by omega) (by omega) (by omega)
    rw [eX9_gather_4, i_lt (by omega) (by omega), decide_eq_true (by omega), cond_true, (v_isCell (by omega)).2, e_bd, b_z, cokZ_n, i_suc, List.range'_succ, List.filter_cons]
    cases hc : cokN k with
    | false =>
      rw [cond_false, if_neg Bool.false_ne_true]
      exact l_gat9 hN hR hW d (k + 1) n s (by omega) (by omega) hs
    | true =>
      rw [cond_true, if_pos rfl, List.foldl_cons]
      dsimp only
      rw [eX9_mostSteps, m1, e_bd]
      dsimp only
      rw [eX9_mostSteps, m2, e_bd]
      dsimp only
      rw [i_lt (by omega) (by omega)]
      unfold stpG
      by_cases e : farC R k < farC R s
      · rw [decide_eq_true e, cond_true, if_pos e]
        exact l_gat9 hN hR hW d (k + 1) n k (by omega) (by omega) (by omega)
      · rw [decide_eq_false e, cond_false, if_neg e]
        exact l_gat9 hN hR hW d (k + 1) n s (by omega) (by omega) hs
theorem op_gather {t : Nat} {S : SV} (hW : WfS S) {N : Nat} (hN : big N) : both t S (fX8_gather N [.ref 0]) (fX9_gather N [.ref 64]) := by
  have hN' := hN
  unfold big at hN'
  have h10 := hW.1.1
  refine both_same hW (Int32.ofInt (((List.range' 1 35).map cellOf).foldl (stpG S.R) 0 : Nat)) (fun M hM => ?_) (fun M hM => ?_)
  · have h0 : gX3_farthest N N 4 [.ref 1, .int (Int32.ofInt 0), .int (Int32.ofInt 0), .int (Int32.ofInt 0)] [] M = some (Int32.ofInt (farC S.R 0), M) := l_far8 (N := N) hM.1 hW.1 (c := 0) (by omega) S.R.nb N 0 0 (by omega) (by omega) (by omega)
    rw [eX8_gather, show 0 + 1 = 1 from rfl, eX3_middleCell _ _ (by omega), eX3_farthest _ _ _ (by omega), h0, e_bd]
    have := l_gat8 (N := N) (by omega) hM.1 hW.1 35 1 N 0 (by omega) (by omega) (by omega)
    have this : gX3_middleCell N N 10 [.ref 1, .int (Int32.ofInt 0), .int (Int32.ofInt (farC S.R 0)), .int (Int32.ofInt 1), .retAddr 0, .retAddr 0] [] M = _ := this
    dsimp only
    rw [this]
    rfl
  · have := l_gat9 (N := N) (by omega) hM.1 hW.1 55 1 N 0 (by omega) (by omega) (by omega)
    have this : gX9_gather N N 4 [.ref 64, .int (Int32.ofInt 0), .int (Int32.ofInt 1)] [] M = _ := this
    rw [eX9_gather, this, cells_eq]
