theorem l_unlO {N : Nat} {R : RV} (hW : Wf R) {s : Nat} (hs : s < 1024) : ∀ (T : List RW) (i n : Nat) (Z : List Int) (M : XM), M.1 22 0 = Int32.ofInt (6 : Nat) → SYw 22 6 2400 (wR R) M → SM 22 (wR R) i T M → (∀ q ∈ T, q ∈ VL (wR R) 6) → i + T.length = (VL (wR R) 6).length → T.length < n → MKS 22 (hit Z) M → ∃ M', gX4_unlikeOf N n 8 [.ref 22, .int (Int32.ofInt s), .int (Int32.ofInt (unl Z)), .int (Int32.ofInt i)] [] M = some (Int32.ofInt (unl (Z ++ (T.filter (fun q => q.2.2 == s)).map (fun q => mean (wR R) q.1))), M') ∧ fk 22 M M' ∧ MKS 22 (hit (Z ++ (T.filter (fun q => q.2.2 == s)).map (fun q => mean (wR R) q.1))) M'
  | [], i, n + 1, Z, M, h0, hS, hT, hq, hi, hn, hM => by
    have so : SO 22 6 2400 := .inl ⟨rfl, rfl, rfl⟩
    have := VL_rm hS (n := 6) (by omega)
    simp only [List.length_nil] at hi
    rw [eX4_unlikeOf_8 _ _ _ _ _ _ (by omega), h0, v_upTo so hS (by omega), e_bd]
    dsimp only
    rw [Nat.min_self, i_lt (by omega) (by omega), decide_eq_false (by omega), List.filter_nil, List.map_nil, List.append_nil]
    exact ⟨M, rfl, fk.rf, hM⟩
  | q :: T, i, n + 1, Z, M, h0, hS, hT, hq, hi, hn, hM => by
    have so : SO 22 6 2400 := .inl ⟨rfl, rfl, rfl⟩
    have hrm := VL_rm hS (n := 6) (by omega)
    simp only [List.length_cons] at hi hn
    obtain ⟨m1, m2, m3, m4, m5⟩ := SM_t hT
    have hqq := hq q List.mem_cons_self
    have h24 := (VL_row hW hqq).2.2.2.1
    have hb := VL_b9 hW (by omega) hqq
    unfold b9 at hb
    obtain ⟨j, hj⟩ := Int.eq_ofNat_of_zero_le (show 0 ≤ mean (wR R) q.1 + 1000 by omega)
    have hz : mean (wR R) q.1 = (j : Int) - 1000 := by omega
    rw [eX4_unlikeOf_8 _ _ _ _ _ _ (by omega), h0, v_upTo so hS (by omega), e_bd]
    dsimp only
    rw [Nat.min_self, i_lt (by omega) (by omega), decide_eq_true (by omega), cond_true, m3, e_bd]
    dsimp only
    rw [m4, e_bd]
    dsimp only
    rw [i_eq (by omega) (by omega)]
    by_cases e : q.2.2 = s
    · obtain ⟨M1, e1, e2, e3⟩ := v_isNew (N := N) so hM hz (by omega)
      obtain ⟨M2, g1, g2, g3⟩ := l_unlO (N := N) hW hs T (i + 1) n (Z ++ [mean (wR R) q.1]) M1 (by rw [e2.1]; exact h0) (SYw_k hS e2) (SM_k m5 e2) (fun x hx => hq x (List.mem_cons_of_mem _ hx)) (by omega) (by omega) e3
      rw [List.append_assoc] at g1 g3
      rw [List.filter_cons_of_pos (by rw [beq_iff_eq]; exact e)]
      refine ⟨M2, ?_, e2.tr g2, g3⟩
      rw [decide_eq_true (by omega), cond_true, e1, e_bd, b_z]
      rw [unl_snoc hz (by omega)] at g1
      simp only [i_suc, i_add]
      rw [List.map_cons, show mean (wR R) q.1 :: (T.filter (fun q => q.2.2 == s)).map (fun q => mean (wR R) q.1) = [mean (wR R) q.1] ++ (T.filter (fun q => q.2.2 == s)).map (fun q => mean (wR R) q.1) from rfl, ← g1]
      cases hit Z j with
      | true => rfl
      | false => rfl
    · rw [decide_eq_false (by omega), cond_false, List.filter_cons_of_neg (by rw [beq_iff_eq]; exact e)]
      simp only [i_suc, i_add]
      rw [show ((unl Z : Nat) : Int) + 0 = (unl Z : Nat) by omega]
      exact l_unlO (N := N) hW hs T (i + 1) n Z M h0 hS m5 (fun x hx => hq x (List.mem_cons_of_mem _ hx)) (by omega) (by omega) hM
theorem v_unlO {N : Nat} (hN : big N) {t : Nat} (_ : t < 1000000) {S : SV} (hW : WfS S) {M : XM} (hM : CX t S M) (hS : SYw 22 6 2400 (wR S.R) M) {s : Nat} (hs : s < 1024) : ∃ M', fX4_unlikeOf N [.ref 22, .int (Int32.ofInt s)] M = some (Int32.ofInt (unl ((FS S.R s).map (fun q => mean (wR S.R) q.1))), M') ∧ CX (t + 1) S M' ∧ fr 0 64 M M' := by
  unfold big at hN
  have so : SO 22 6 2400 := .inl ⟨rfl, rfl, rfl⟩
  have hrm := VL_rm hS (n := 6) (by omega)
  obtain ⟨M1, a1, a2, a3⟩ := v_forg (N := N) (by omega) so M
  obtain ⟨M', g1, g2, g3⟩ := l_unlO (N := N) hW.1 hs (VL (wR S.R) 6) 0 N [] M1 (by rw [a2.1]; exact hM.2.2.2.2.2.2.2.1.1) (SYw_k hS a2) (SM_0 (SYw_k hS a2) (by omega)) (fun q hq => hq) (by omega) (by omega) a3
  rw [List.nil_append] at g1
  rw [unl_nil] at g1
  have hf : fk 22 M M' := a2.tr g2
  refine ⟨M', ?_, (CX_k hM hf).tick, hf.fr.wide (by omega) (by omega)⟩
  rw [eX4_unlikeOf _ _ _ (by omega), a1, e_bd]
  exact g1
theorem l_ran9 {N : Nat} (hN : big N) {R : RV} (hW : Wf R) {m : Nat} (hm : m < 1024) {many : Nat} (hmany : many ≤ 6) (h0 : 0 < many) {what : Nat} (hw : what = 0 ∨ what = 2) : ∀ (Q : List (List Nat)) (n k : Nat) (M : XM), mv R M → EN R m false many Q M → Q.length < n → ∃ M', gX9_ran N n 68 [.ref 64, .retAddr 0, .int (Int32.ofInt what), .retAddr 0, .int (Int32.ofInt k)] [] M = some (Int32.ofInt (if what = 0 then ((k + Q.length : Nat) : Int) else (match Q with | [] => -1 | l :: _ => (l.headD 0 : Int))), M') ∧ fe M M'
  | [], n + 1, k, M, hR, hE, hn => by
    obtain ⟨M', h1, h2⟩ := v_goes0 hN hW hm hmany hR hE
    refine ⟨M', ?_, h2⟩
    rw [eX9_ran_68, h1, e_bd]
    dsimp only
    rw [show xeq (Int32.ofInt 0) 0 = true from rfl, cond_true, i_eq (by omega) (by omega)]
    rcases hw with rfl | rfl
    · rw [decide_eq_false (by omega)]; rfl
    · rw [decide_eq_true (by omega)]; rfl
  | l :: Q, n + 1, k, M, hR, hE, hn => by
    simp only [List.length_cons] at hn
    obtain ⟨M', h1, h2, h3, h4, h5⟩ := v_goes1 hN hW hm hmany hR hE
    rw [eX9_ran_68, h1, e_bd]
    dsimp only
    rw [show xeq (Int32.ofInt 1) 0 = false by decide +kernel, cond_false, i_eq (by omega) (by omega)]
    rcases hw with rfl | rfl
    · obtain ⟨M2, g1, g2⟩ := l_ran9 hN hW hm hmany h0 (.inl rfl) Q n (k + 1) M' (mv_fe hR h2) h3 (by omega)
      rw [decide_eq_false (by omega), cond_false, i_suc, g1]
      refine ⟨M2, ?_, h2.tr g2⟩
      rw [if_pos rfl, if_pos rfl, List.length_cons, show k + 1 + Q.length = k + (Q.length + 1) by omega]
    · have hx := headD_0 (l := l) (by omega)
      refine ⟨M', ?_, h2⟩
      rw [decide_eq_true (by omega), cond_true, show xin (Int32.ofInt 0) (xlen M' (64 + 15)) = true from rfl, cond_true, show (Int32.ofInt 0).toNatClampNeg = 0 from rfl, show 64 + 15 = 79 from rfl, h4 _ _ hx, e_I, if_neg (by omega)]
theorem l_mea9 {N : Nat} (hN : big N) {R : RV} (hW : Wf R) {m : Nat} (hms : ∀ c, m.testBit c = true → R.lv.testBit c = true) (hm : m < 1024) {many : Nat} (hmany : many ≤ 6) {z : Int} (hz : rg z) : ∀ (Q : List (List Nat)) (n : Nat) (M : XM), mv R M → EN R m false many Q M → (∀ l ∈ Q, okl R m l ∧ l.length = many) → Q.length < n → ∃ M', gX9_meant N n 46 [.ref 64, .retAddr 0, .int (Int32.ofInt z), .int (Int32.ofInt many)] [] M = some (bi (Q.any (mez R z)), M') ∧ fe M M'
  | [], n + 1, M, hR, hE, hQ, hn => by
    obtain ⟨M', h1, h2⟩ := v_goes0 hN hW hm hmany hR hE
    refine ⟨M', ?_, h2⟩
    rw [eX9_meant_46, h1, e_bd]
    rfl
  | l :: Q, n + 1, M, hR, hE, hQ, hn => by
    have hN' := hN
    unfold big at hN'
    simp only [List.length_cons] at hn
    obtain ⟨M', h1, h2, h3, h4, _⟩ := v_goes1 hN hW hm hmany hR hE
    obtain ⟨k1, k2⟩ := hQ l List.mem_cons_self
    obtain ⟨k3, k4⟩ := okl_sub hms k1
    have hb := mean_b hW k1 (by omega)
    have hme := v_meaning9 (N := N) (by omega) hW (mv_fe hR h2) k1 (by omega) h4
    rw [k4] at hme hb
    rw [k2] at hme
    rw [eX9_meant_46, h1, e_bd]
    dsimp only
    rw [show xeq (Int32.ofInt 1) 0 = false by decide +kernel, cond_false, hme, e_bd]
    dsimp only
    rw [i_eq (by omega) hz, List.any_cons, show mez R z l = decide (mean (wR R) l = z) from rfl]
    by_cases e : mean (wR R) l = z
    · rw [decide_eq_true e, cond_true]
      exact ⟨M', rfl, h2⟩
    · rw [decide_eq_false e, cond_false, Bool.false_or]
      obtain ⟨M2, g1, g2⟩ := l_mea9 hN hW hms hm hmany hz Q n M' (mv_fe hR h2) h3 (fun y hy => hQ y (List.mem_cons_of_mem _ hy)) (by omega)
      exact ⟨M2, g1, h2.tr g2⟩
theorem rows_FS {R : RV} (hW : Wf R) {s : Nat} (hs : s < 1024) (hss : ∀ c, s.testBit c = true → R.lv.testBit c = true) {n : Nat} (hp : pop s = n + 1) (h6 : n + 1 ≤ 6) : rowsM R s false (n + 1) = (FS R s).map Prod.fst := by
  rw [rows_m hss, FS_Vn hW hs hp h6]
theorem any_fst (f : List Nat → Bool) : ∀ X : List RW, (X.map Prod.fst).any f = X.any (fun q => f q.1)
  | [] => rfl
  | q :: X => by rw [List.map_cons, List.any_cons, List.any_cons, any_fst f X]
set_option maxRecDepth 100000 in
theorem op_meant {t : Nat} {S : SV} (hW : WfS S) {N : Nat} (hN : big N) (a b : Int32) : both t S (fX8_meant N [.ref 0, .int a, .int b]) (fX9_meant N [.ref 64, .int a, .int b]) := by
  obtain ⟨z, hz, rfl⟩ := i_ex b
  have hN' := hN
  unfold big at hN'
  have so : SO 22 6 2400 := .inl ⟨rfl, rfl, rfl⟩
  rcases set_k (N := N) (by omega) hW.1 a with ⟨s, rfl, hs, hss, hp6, hc, hm⟩ | ⟨hc, hm⟩
  · by_cases h1 : -9999 ≤ z ∧ z ≤ 9999
    · refine both_v hW (bi ((FS S.R s).any (fun q => mez S.R z q.1))) (fun M hM => ?_) (fun M hM => ?_)
      · obtain ⟨M', a1, a2, a3, a4⟩ := v_now hN hW hM
        have hrm := VL_rm a3 (n := 6) (by omega)
        refine ⟨M', ?_, a2, a4⟩
        rw [eX8_meant, hc M hM.1, e_bd, b_z, cond_true]
        dsimp only
        rw [v_isTold hz, e_bd, b_z, decide_eq_true h1, cond_true]
        dsimp only
        rw [a1, e_bd, eX4_mayMean _ _ _ _ (by omega)]
        have := l_mayM (N := N) hW a2 a3 hs hz (VL (wR S.R) 6) 0 N (SM_0 a3 (by omega)) (fun q hq => hq) (by omega) (by omega)
        have this : gX4_mayMean N N 2 [.ref 22, .int (Int32.ofInt s), .int (Int32.ofInt z), .int (Int32.ofInt 0)] [] M' = some (bi ((FS S.R s).any (fun q => mez S.R z q.1)), M') := this
        rw [this, e_bd, b_z]
        cases (FS S.R s).any (fun q => mez S.R z q.1) <;> rfl
      · have hpc : fJ6_bitCount_0f7a4 N [.int (Int32.ofInt s)] M = some (Int32.ofInt (pop s), M) := v_pop N hs M
        have mdl : fX9_meant N [.ref 64, .int (Int32.ofInt s), .int (Int32.ofInt z)] M = (bif xeq (Int32.ofInt (pop s)) (0 : Int32) then (xrI (some (.int (Int32.ofInt 0))) M) else ((fX9_begins N [.ref 64, .int (Int32.ofInt (pop s)), .int (Int32.ofInt s), .int (bi false)] M).bind fun q3 => gX9_meant N N 46 [.ref 64, .retAddr 0, .int (Int32.ofInt z), .int (Int32.ofInt (pop s))] [] q3)) := by
          rw [eX9_meant, hm M hM.1, e_bd, b_z, cond_true]
          dsimp only
          rw [v_win hz (by omega) (by omega), e_bd, b_z, decide_eq_true h1, cond_true]
          dsimp only
          rw [hpc, e_bd]
          rfl
        rw [mdl]
        cases hp : pop s with
        | zero =>
          rw [FS_0 hW.1 hp]
          exact ⟨M, rfl, f8.rf⟩
        | succ n =>
          obtain ⟨M1, b1, b2, b3⟩ := v_begins (N := N) (R := S.R) (m := s) (cf := false) (many := n + 1) (by omega) hM.2.2.2.2.2.2.2.1
          have hrl := rowsM_len S.R s false (many := n + 1) (by omega)
          obtain ⟨M2, c1, c2⟩ := l_mea9 hN hW.1 hss hs (many := n + 1) (by omega) hz _ N M1 (mv_fe hM.1 b2) b3 (fun l hl => rowsM_ok hW.1 hl) (by omega)
          rw [rows_FS hW.1 hs hss hp (by omega), any_fst] at c1
          refine ⟨M2, ?_, (b2.tr c2).f8⟩
          rw [show (0 : Int32) = Int32.ofInt 0 from rfl, i_eq (by omega) (by omega), decide_eq_false (by omega), cond_false, b1, e_bd, c1]
    · refine both_ref' hW 0 (by omega) N (fun M hM => ?_) (fun M hM => ?_)
      · rw [eX8_meant, hc M hM.1, e_bd, b_z, cond_true]
        dsimp only
        rw [v_isTold hz, e_bd, b_z, decide_eq_false h1]; rfl
      · rw [eX9_meant, hm M hM.1, e_bd, b_z, cond_true]
        dsimp only
        rw [v_win hz (by omega) (by omega), e_bd, b_z, decide_eq_false h1]; rfl
  · refine both_ref' hW 0 (by omega) N (fun M hM => ?_) (fun M hM => ?_)
    · rw [eX8_meant, hc M hM.1, e_bd, b_z]; rfl
    · rw [eX9_meant, hm M hM.1, e_bd, b_z]; rfl
set_option maxRecDepth 100000 in
theorem op_ran {t : Nat} (ht : t < 1000000) {S : SV} (hW : WfS S) {N : Nat} (hN : big N) (a b : Int32) : both t S (fX8_ran N [.ref 0, .int a, .int b]) (fX9_ran N [.ref 64, .int a, .int b]) := by
  obtain ⟨y, hy, rfl⟩ := i_ex b
  have hN' := hN
  unfold big at hN'
  have so : SO 22 6 2400 := .inl ⟨rfl, rfl, rfl⟩
  rcases set_k (N := N) (by omega) hW.1 a with ⟨s, rfl, hs, hss, hp6, hc, hm⟩ | ⟨hc, hm⟩
  · by_cases h1 : 0 ≤ y ∧ y ≤ 2
    · obtain ⟨w, rfl⟩ := Int.eq_ofNat_of_zero_le h1.1
      have cls : ∀ M, CX t S M → fX8_ran N [.ref 0, .int (Int32.ofInt s), .int (Int32.ofInt w)] M = ((fX8_sayingsNow N [.ref 0] M).bind fun q1 => bif xeq (Int32.ofInt w) (0 : Int32) then ((fX4_countOf N [.ref 22, .int (Int32.ofInt s)] q1).bind fun q2 => xrI (some (.int q2.1)) q2.2) else (bif xeq (Int32.ofInt w) (Int32.ofInt 1) then ((fX4_unlikeOf N [.ref 22, .int (Int32.ofInt s)] q1).bind fun q2 => xrI (some (.int q2.1)) q2.2) else ((fX4_firstOf N [.ref 22, .int (Int32.ofInt s)] q1).bind fun q2 => bif xeq q2.1 (Int32.ofInt (-1)) then (xrI (some (.int (Int32.ofInt (-1)))) q2.2) else ((fX4_rowOf N [.ref 22, .int q2.1] q2.2).bind fun q3 => (fX2_at N [.long q3.1.toInt64, .int (Int32.ofInt 0)] q3.2).bind fun q4 => xrI (some (.int q4.1)) q4.2)))) := by
        intro M hM
        rw [eX8_ran, hc M hM.1, e_bd, b_z, cond_true, chk0 hy (by omega), decide_eq_true h1, cond_true]
      have mdl : ∀ M, CM S M → fX9_ran N [.ref 64, .int (Int32.ofInt s), .int (Int32.ofInt w)] M = (bif xeq (Int32.ofInt (pop s)) (0 : Int32) then (bif xeq (Int32.ofInt w) (Int32.ofInt 2) then (xrI (some (.int (Int32.ofInt (-1)))) M) else (xrI (some (.int (Int32.ofInt 0))) M)) else (bif xeq (Int32.ofInt w) (Int32.ofInt 1) then ((fX9_means N [.ref 64, .int (Int32.ofInt (pop s)), .int (Int32.ofInt (pop s)), .int (Int32.ofInt s), .int (Int32.ofInt 0)] M).bind fun q3 => xrI (some (.int q3.1)) q3.2) else ((fX9_begins N [.ref 64, .int (Int32.ofInt (pop s)), .int (Int32.ofInt s), .int (bi false)] M).bind fun q3 => gX9_ran N N 68 [.ref 64, .retAddr 0, .int (Int32.ofInt w), .retAddr 0, .int (Int32.ofInt 0)] [] q3))) := by
        intro M hM
        rw [eX9_ran, hm M hM.1, e_bd, b_z, cond_true]
        dsimp only
        rw [v_win hy (by omega) (by omega), e_bd, b_z, decide_eq_true h1, cond_true]
        dsimp only
        rw [v_pop N hs M, e_bd]
        rfl
      have go : ∀ w' : Nat, (w' = 0 ∨ w' = 2) → w = w' → ∀ n, pop s = n + 1 → ∀ M, CM S M → ∃ M', fX9_ran N [.ref 64, .int (Int32.ofInt s), .int (Int32.ofInt w)] M = some (Int32.ofInt (if w' = 0 then ((FS S.R s).length : Int) else (match (FS S.R s).map Prod.fst with | [] => -1 | l :: _ => (l.headD 0 : Int))), M') ∧ f8 M M' := by
        intro w' hw' hww n hp M hM
        subst hww
        obtain ⟨M1, b1, b2, b3⟩ := v_begins (N := N) (R := S.R) (m := s) (cf := false) (many := n + 1) (by omega) hM.2.2.2.2.2.2.2.1
        have hrl := rowsM_len S.R s false (many := n + 1) (by omega)
        obtain ⟨M2, c1, c2⟩ := l_ran9 hN hW.1 hs (many := n + 1) (by omega) (by omega) hw' _ N 0 M1 (mv_fe hM.1 b2) b3 (by omega)
        rw [rows_FS hW.1 hs hss hp (by omega), List.length_map, Nat.zero_add] at c1
        refine ⟨M2, ?_, (b2.tr c2).f8⟩
        rw [mdl M hM, hp, show (0 : Int32) = Int32.ofInt 0 from rfl, i_eq (by omega) (by omega), decide_eq_false (by omega), cond_false, i_eq (by omega) (by omega), decide_eq_false (by omega), cond_false, b1, e_bd]
        exact c1
      rcases (show w = 0 ∨ w = 1 ∨ w = 2 by omega) with hw | hw | hw
      · refine both_v hW (Int32.ofInt (FS S.R s).length) (fun M hM => ?_) (fun M hM => ?_)
        · obtain ⟨M', a1, a2, a3, a4⟩ := v_now hN hW hM
          have hrm := VL_rm a3 (n := 6) (by omega)
          have hk := l_cntO (N := N) hW a2 a3 hs (VL (wR S.R) 6) 0 N 0 (SM_0 a3 (by omega)) (fun q hq => hq) (by omega) (by omega)
          rw [Nat.zero_add] at hk
          have hk : gX4_countOf N N 4 [.ref 22, .int (Int32.ofInt s), .int (Int32.ofInt 0), .int (Int32.ofInt 0)] [] M' = some (Int32.ofInt (FS S.R s).length, M') := hk
          refine ⟨M', ?_, a2, a4⟩
          rw [cls M hM, a1, e_bd, hw, show xeq (Int32.ofInt (0 : Nat)) 0 = true from rfl, cond_true, eX4_countOf _ _ _ (by omega), hk]
          rfl
        · cases hp : pop s with
          | zero =>
            refine ⟨M, ?_, f8.rf⟩
            rw [mdl M hM, hp, hw, FS_0 hW.1 hp, show xeq (Int32.ofInt (0 : Nat)) 0 = true from rfl, cond_true, show xeq (Int32.ofInt (0 : Nat)) (Int32.ofInt 2) = false by decide +kernel]
            rfl
          | succ n =>
            obtain ⟨M', g1, g2⟩ := go 0 (.inl rfl) hw n hp M hM
            exact ⟨M', by rw [g1, if_pos rfl], g2⟩
      · refine ⟨S, Int32.ofInt (unl ((FS S.R s).map (fun q => mean (wR S.R) q.1))), hW, fun M hM => ?_, fun M hM => ?_⟩
        · obtain ⟨M', a1, a2, a3, a4⟩ := v_now hN hW hM
          obtain ⟨M2, b1, b2, b3⟩ := v_unlO hN ht hW a2 a3 hs
          refine ⟨M2, ?_, b2, a4.tr b3⟩
          rw [cls M hM, a1, e_bd, hw, show xeq (Int32.ofInt (1 : Nat)) 0 = false by decide +kernel, cond_false, show xeq (Int32.ofInt (1 : Nat)) (Int32.ofInt 1) = true from rfl, cond_true, b1]
          rfl
        · cases hp : pop s with
          | zero =>
            refine ⟨M, ?_, hM, fr.rf⟩
            rw [mdl M hM, hp, hw, FS_0 hW.1 hp, List.map_nil, unl_nil, show xeq (Int32.ofInt (0 : Nat)) 0 = true from rfl, cond_true, show xeq (Int32.ofInt (1 : Nat)) (Int32.ofInt 2) = false by decide +kernel]
            rfl
          | succ n =>
            obtain ⟨M', g1, g2, _⟩ := v_means hN hW.1 hss (lo := n + 1) (hi := n + 1) (what := 0) (by omega) (by omega) (by omega) (by omega) hM.1 hM.2.2.2.2.2.2.2.1
            have hzz : zs S.R s (VR (wR S.R) (n + 1 + 1 - (n + 1)) (n + 1)) = (FS S.R s).map (fun q => mean (wR S.R) q.1) := by
              rw [show n + 1 + 1 - (n + 1) = 0 + 1 by omega, VR, VR, List.append_nil]
              unfold zs
              rw [FS_Vn hW.1 hs hp (by omega)]
            rw [hzz, m80_unl] at g1
            refine ⟨M', ?_, CM_f8 hM g2, g2.fr⟩
            rw [mdl M hM, hp, hw, show (0 : Int32) = Int32.ofInt 0 from rfl, i_eq (by omega) (by omega), decide_eq_false (by omega), cond_false, show xeq (Int32.ofInt (1 : Nat)) (Int32.ofInt 1) = true from rfl, cond_true]
            have g1 : fX9_means N [.ref 64, .int (Int32.ofInt ((n + 1 : Nat) : Int)), .int (Int32.ofInt ((n + 1 : Nat) : Int)), .int (Int32.ofInt s), .int (Int32.ofInt 0)] M = _ := g1
            rw [g1]
            rfl
      · refine both_v hW (Int32.ofInt (match (FS S.R s).map Prod.fst with | [] => -1 | l :: _ => (l.headD 0 : Int))) (fun M hM => ?_) (fun M hM => ?_)
        · obtain ⟨M', a1, a2, a3, a4⟩ := v_now hN hW hM
          have hrm := VL_rm a3 (n := 6) (by omega)
          refine ⟨M', ?_, a2, a4⟩
          rw [cls M hM, a1, e_bd, hw, show xeq (Int32.ofInt (2 : Nat)) 0 = false by decide +kernel, cond_false, show xeq (Int32.ofInt (2 : Nat)) (Int32.ofInt 1) = false by decide +kernel, cond_false, eX4_firstOf _ _ _ (by omega)]
          rcases l_fstO (N := N) hW a2 a3 hs (VL (wR S.R) 6) 0 N (SM_0 a3 (by omega)) (fun q hq => hq) (by omega) (by omega) with ⟨e1, e2⟩ | ⟨j, q, e1, e2, e3, e4, e5⟩
          · have e2 : gX4_firstOf N N 2 [.ref 22, .int (Int32.ofInt s), .int (Int32.ofInt 0)] [] M' = some (Int32.ofInt (-1), M') := e2
            have e1 : FS S.R s = [] := e1
            rw [e2, e_bd, e1]
            dsimp only
            rw [show xeq (Int32.ofInt (-1)) (Int32.ofInt (-1)) = true by decide +kernel]
            rfl
          · have e5 : gX4_firstOf N N 2 [.ref 22, .int (Int32.ofInt s), .int (Int32.ofInt 0)] [] M' = some (Int32.ofInt j, M') := e5
            have e2 : (FS S.R s).head? = some q := e2
            have hx := headD_0 (VL_row hW.1 e1).2.2.1
            obtain ⟨r1, r2⟩ := row_x hW.1 (L := 6) (by omega) e1 hx M' N
            cases hF : FS S.R s with
            | nil => rw [hF] at e2; cases e2
            | cons q' X =>
              rw [hF] at e2
              cases e2
              rw [e5, e_bd]
              dsimp only
              rw [i_eq (by omega) (by omega), decide_eq_false (by omega), cond_false, e4, e_bd]
              dsimp only
              have r1 : fX2_at N [.long (Int32.ofInt (pack q.1 : Nat)).toInt64, .int (Int32.ofInt 0)] M' = _ := r1
              rw [r1]
              rfl
        · cases hp : pop s with
          | zero =>
            refine ⟨M, ?_, f8.rf⟩
            rw [mdl M hM, hp, hw, FS_0 hW.1 hp, show xeq (Int32.ofInt (0 : Nat)) 0 = true from rfl, cond_true, show xeq (Int32.ofInt (2 : Nat)) (Int32.ofInt 2) = true from rfl]
            rfl
          | succ n =>
            obtain ⟨M', g1, g2⟩ := go 2 (.inr rfl) hw n hp M hM
            exact ⟨M', by rw [g1, if_neg (by omega)], g2⟩
    · refine both_ref' hW 0 (by omega) N (fun M hM => ?_) (fun M hM => ?_)
      · rw [eX8_ran, hc M hM.1, e_bd, b_z, cond_true, chk0 hy (by omega), decide_eq_false h1]; rfl
      · rw [eX9_ran, hm M hM.1, e_bd, b_z, cond_true]
        dsimp only
        rw [v_win hy (by omega) (by omega), e_bd, b_z, decide_eq_false h1]; rfl
  · refine both_ref' hW 0 (by omega) N (fun M hM => ?_) (fun M hM => ?_)
    · rw [eX8_ran, hc M hM.1, e_bd, b_z]; rfl
    · rw [eX9_ran, hm M hM.1, e_bd, b_z]; rfl
