theorem v_isKind {N : Nat} {z : Int} {M : XM} (hz : rg z) : fX0_isKind N [.int (Int32.ofInt z)] M = some (bi (decide (0 ≤ z) && decide (z ≤ 5)), M) ∧ fX9_within N [.int (Int32.ofInt z), .int (Int32.ofInt 0), .int (Int32.ofInt 5)] M = some (bi (decide (0 ≤ z) && decide (z ≤ 5)), M) := by
  rw [v_within, eX0_isKind, show (0 : Int32) = Int32.ofInt 0 from rfl, i_lt hz (by omega), i_lt hz (by omega), i_lt (by omega) hz]
  by_cases h1 : z < 0 <;> by_cases h2 : z ≤ 5
  · rw [decide_eq_true h1, decide_eq_false (show ¬ 0 ≤ z by omega), decide_eq_false (show ¬ 5 < z by omega)]; exact ⟨rfl, rfl⟩
  · omega
  · rw [decide_eq_false h1, decide_eq_true (show 0 ≤ z by omega), decide_eq_true h2, decide_eq_true (show z < 6 by omega), decide_eq_false (show ¬ 5 < z by omega)]; exact ⟨rfl, rfl⟩
  · rw [decide_eq_false h1, decide_eq_true (show 0 ≤ z by omega), decide_eq_false h2, decide_eq_false (show ¬ z < 6 by omega), decide_eq_true (show 5 < z by omega)]; exact ⟨rfl, rfl⟩
theorem v_isAmount {N : Nat} {z : Int} {M : XM} (hz : rg z) : fX3_isAmount N [.int (Int32.ofInt z)] M = some (bi (decide (0 ≤ z) && decide (z ≤ 9)), M) ∧ fX9_within N [.int (Int32.ofInt z), .int (Int32.ofInt 0), .int (Int32.ofInt 9)] M = some (bi (decide (0 ≤ z) && decide (z ≤ 9)), M) := by
  rw [v_within, eX3_isAmount, show (0 : Int32) = Int32.ofInt 0 from rfl, i_lt hz (by omega), i_lt (by omega) hz]
  by_cases h1 : z < 0 <;> by_cases h2 : z ≤ 9
  · rw [decide_eq_true h1, decide_eq_false (show ¬ 0 ≤ z by omega), decide_eq_false (show ¬ 9 < z by omega)]; exact ⟨rfl, rfl⟩
  · omega
  · rw [decide_eq_false h1, decide_eq_true (show 0 ≤ z by omega), decide_eq_true h2, decide_eq_false (show ¬ 9 < z by omega)]; exact ⟨rfl, rfl⟩
  · rw [decide_eq_false h1, decide_eq_true (show 0 ≤ z by omega), decide_eq_false h2, decide_eq_true (show 9 < z by omega)]; exact ⟨rfl, rfl⟩
set_option maxRecDepth 100000 in
theorem op_brother {t : Nat} {S : SV} (hW : WfS S) (N : Nat) (a b c : Int32) : both t S (fX8_brother N [.ref 0, .int a, .int b, .int c]) (fX9_brother N [.ref 64, .int a, .int b, .int c]) := by
  obtain ⟨x, hx, rfl⟩ := i_ex a
  obtain ⟨y, hy, rfl⟩ := i_ex b
  obtain ⟨z, hz, rfl⟩ := i_ex c
  have hnb := hW.1.1
  cases h1 : (decide (0 ≤ x) && decide (x ≤ 5)) with
  | false =>
    refine both_ref' hW 0 (by omega) N (fun M hM => ?_) (fun M hM => ?_)
    · rw [eX8_brother, (v_isKind hx).1, e_bd, b_z, h1]; rfl
    · rw [eX9_brother, (v_isKind hx).2, e_bd, b_z, h1]; rfl
  | true =>
    cases h2 : (decide (0 ≤ y) && decide (y ≤ 9)) with
    | false =>
      refine both_ref' hW 0 (by omega) N (fun M hM => ?_) (fun M hM => ?_)
      · rw [eX8_brother, (v_isKind hx).1, e_bd, b_z, h1, cond_true, (v_isAmount hy).1, e_bd, b_z, h2]; rfl
      · rw [eX9_brother, (v_isKind hx).2, e_bd, b_z, h1, cond_true, (v_isAmount hy).2, e_bd, b_z, h2]; rfl
    | true =>
      cases h3 : cokZ z with
      | false =>
        refine both_ref' hW 0 (by omega) N (fun M hM => ?_) (fun M hM => ?_)
        · rw [eX8_brother, (v_isKind hx).1, e_bd, b_z, h1, cond_true, (v_isAmount hy).1, e_bd, b_z, h2, cond_true, (v_isCell hz).1, e_bd, b_z, h3]; rfl
        · rw [eX9_brother, (v_isKind hx).2, e_bd, b_z, h1, cond_true, (v_isAmount hy).2, e_bd, b_z, h2, cond_true, (v_isCell hz).2, e_bd, b_z, h3]; rfl
      | true =>
        by_cases h4 : S.R.nb < 10
        · simp only [Bool.and_eq_true, decide_eq_true_eq] at h1 h2
          obtain ⟨x, rfl⟩ := Int.eq_ofNat_of_zero_le h1.1
          obtain ⟨y, rfl⟩ := Int.eq_ofNat_of_zero_le h2.1
          obtain ⟨z, rfl, hz1, hz2⟩ := cok_of h3
          have g1 : (decide (0 ≤ (x : Int)) && decide ((x : Int) ≤ 5)) = true := by simp only [Bool.and_eq_true, decide_eq_true_eq]; exact h1
          have g2 : (decide (0 ≤ (y : Int)) && decide ((y : Int) ≤ 9)) = true := by simp only [Bool.and_eq_true, decide_eq_true_eq]; exact h2
          have hw := wf_add hW.1 h4 (k := x) (a := y) (c := z) (by omega) (by omega) hz1
          refine ⟨S.wR (S.R.add x y z), Int32.ofInt S.R.nb, ⟨hw, hW.2.1, hW.2.2.1, hW.2.2.2.1, fun s hs => ?_⟩, fun M hM => ?_, fun M hM => ?_⟩
          · have := hW.2.2.2.2 s hs
            refine ⟨⟨this.1.1, ?_, this.1.2.2⟩, this.2⟩
            show S.th s < 10 + ((S.R.nb + 1 : Nat) : Int)
            have := this.1.2.1
            omega
          · obtain ⟨M', e1, e2, e3⟩ := v_addBrother (N := N) (o := 1) (by omega) hM.1 h4 x y z
            refine ⟨M', ?_, CX_R hM e2 e3, e3.wide (by omega) (by omega)⟩
            rw [eX8_brother, (v_isKind hx).1, e_bd, b_z, g1, cond_true, (v_isAmount hy).1, e_bd, b_z, g2, cond_true, (v_isCell hz).1, e_bd, b_z, h3, cond_true, show 0 + 1 = 1 from rfl, v_hasRoom (by omega) hM.1 hnb, e_bd, b_z, decide_eq_true h4, cond_true, e1]
            rfl
          · obtain ⟨M', e1, e2, e3, e4, e5⟩ := v_newBrother (N := N) hM.1 h4 x y z
            refine ⟨M', ?_, CM_R hM e2 (e3.wide (by omega) (by omega)) e4 e5, e3.wide (by omega) (by omega)⟩
            rw [eX9_brother, (v_isKind hx).2, e_bd, b_z, g1, cond_true, (v_isAmount hy).2, e_bd, b_z, g2, cond_true, (v_isCell hz).2, e_bd, b_z, h3, cond_true]
            simp only [hM.1.1, i_eq (show rg (S.R.nb : Int) by omega) (show rg 10 by omega), decide_eq_false (show ¬ (S.R.nb : Int) = 10 by omega), cond_false]
            rw [e1]
            rfl
        · refine both_ref' hW 4 (by omega) N (fun M hM => ?_) (fun M hM => ?_)
          · rw [eX8_brother, (v_isKind hx).1, e_bd, b_z, h1, cond_true, (v_isAmount hy).1, e_bd, b_z, h2, cond_true, (v_isCell hz).1, e_bd, b_z, h3, cond_true, show 0 + 1 = 1 from rfl, v_hasRoom (by omega) hM.1 hnb, e_bd, b_z, decide_eq_false h4]; rfl
          · rw [eX9_brother, (v_isKind hx).2, e_bd, b_z, h1, cond_true, (v_isAmount hy).2, e_bd, b_z, h2, cond_true, (v_isCell hz).2, e_bd, b_z, h3, cond_true]
            simp only [hM.1.1, i_eq (show rg (S.R.nb : Int) by omega) (show rg 10 by omega), decide_eq_true (show (S.R.nb : Int) = 10 by omega)]
            rfl
set_option maxRecDepth 100000 in
theorem op_brotherOf {t : Nat} {S : SV} (hW : WfS S) (N : Nat) (a b : Int32) : both t S (fX8_brotherOf N [.ref 0, .int a, .int b]) (fX9_brotherOf N [.ref 64, .int a, .int b]) := by
  have hnb := hW.1.1
  cases h1 : xin a S.R.nb with
  | false =>
    refine both_ref' hW 0 (by omega) N (fun M hM => ?_) (fun M hM => ?_)
    · rw [eX8_brotherOf, v_has (by omega) hM.1.1 (by omega), e_bd, b_z, h1]; rfl
    · rw [eX9_brotherOf, v_isBrother hM.1.1 (by omega), e_bd, b_z, h1]; rfl
  | true =>
    obtain ⟨k, hk, rfl⟩ := xin_ex (by omega) h1
    obtain ⟨z, hz, rfl⟩ := i_ex b
    have hx : ∀ M, CX t S M → ∀ i, 1 ≤ i → i ≤ 5 → xlen M (1 + i) = 16 := fun M _ i hi hj => by match i, hi, hj with | 1, _, _ | 2, _, _ | 3, _, _ | 4, _, _ | 5, _, _ => rfl
    by_cases h0 : z = 0
    · subst h0
      refine both_same hW (Int32.ofInt (S.R.kd k)) (fun M hM => ?_) (fun M hM => ?_)
      · rw [eX8_brotherOf, v_has (by omega) hM.1.1 (by omega), e_bd, b_z, h1, cond_true, i_eq (by omega) (by omega), decide_eq_true rfl, cond_true, i_inn (by omega), show xlen M (0 + 1 + 1) = 16 from rfl, decide_eq_true (by omega), cond_true, e_I, i_natn (by omega)]
        show some (M.1 2 k, _) = _
        rw [(hM.1.2.2.2.2.2.1 k hk).1]
      · rw [eX9_brotherOf, v_isBrother hM.1.1 (by omega), e_bd, b_z, h1, cond_true, i_eq (by omega) (by omega), decide_eq_true rfl, cond_true, i_inn (by omega), show xlen M (64 + 1) = 11 from rfl, decide_eq_true (by omega), cond_true, e_I, i_natn (by omega)]
        show some (M.1 65 k, _) = _
        rw [(hM.1.2.2.2.2.1 k hk).1]
    by_cases h2 : z = 1
    · subst h2
      refine both_same hW (Int32.ofInt (S.R.am k)) (fun M hM => ?_) (fun M hM => ?_)
      · rw [eX8_brotherOf, v_has (by omega) hM.1.1 (by omega), e_bd, b_z, h1, cond_true, show xeq (Int32.ofInt 1) (Int32.ofInt 0) = false from rfl, cond_false, show xeq (Int32.ofInt 1) (Int32.ofInt 1) = true from rfl, cond_true, i_inn (by omega), show xlen M (0 + 1 + 2) = 16 from rfl, decide_eq_true (by omega), cond_true, e_I, i_natn (by omega)]
        show some (M.1 3 k, _) = _
        rw [(hM.1.2.2.2.2.2.1 k hk).2.1]
      · rw [eX9_brotherOf, v_isBrother hM.1.1 (by omega), e_bd, b_z, h1, cond_true, show xeq (Int32.ofInt 1) (Int32.ofInt 0) = false from rfl, cond_false, show xeq (Int32.ofInt 1) (Int32.ofInt 1) = true from rfl, cond_true, i_inn (by omega), show xlen M (64 + 2) = 11 from rfl, decide_eq_true (by omega), cond_true, e_I, i_natn (by omega)]
        show some (M.1 66 k, _) = _
        rw [(hM.1.2.2.2.2.1 k hk).2.1]
    by_cases h3 : z = 2
    · subst h3
      refine both_same hW (Int32.ofInt (S.R.ce k)) (fun M hM => ?_) (fun M hM => ?_)
      · rw [eX8_brotherOf, v_has (by omega) hM.1.1 (by omega), e_bd, b_z, h1, cond_true, show xeq (Int32.ofInt 2) (Int32.ofInt 0) = false from rfl, cond_false, show xeq (Int32.ofInt 2) (Int32.ofInt 1) = false from rfl, cond_false, show xeq (Int32.ofInt 2) (Int32.ofInt 2) = true from rfl, cond_true, i_inn (by omega), show xlen M (0 + 1 + 3) = 16 from rfl, decide_eq_true (by omega), cond_true, e_I, i_natn (by omega)]
        show some (M.1 4 k, _) = _
        rw [(hM.1.2.2.2.2.2.1 k hk).2.2.1]
      · rw [eX9_brotherOf, v_isBrother hM.1.1 (by omega), e_bd, b_z, h1, cond_true, show xeq (Int32.ofInt 2) (Int32.ofInt 0) = false from rfl, cond_false, show xeq (Int32.ofInt 2) (Int32.ofInt 1) = false from rfl, cond_false, show xeq (Int32.ofInt 2) (Int32.ofInt 2) = true from rfl, cond_true, i_inn (by omega), show xlen M (64 + 3) = 11 from rfl, decide_eq_true (by omega), cond_true, e_I, i_natn (by omega)]
        show some (M.1 67 k, _) = _
        rw [(hM.1.2.2.2.2.1 k hk).2.2.1]
    by_cases h4 : z = 3
    · subst h4
      refine both_same hW (Int32.ofInt (S.R.ag k)) (fun M hM => ?_) (fun M hM => ?_)
      · rw [eX8_brotherOf, v_has (by omega) hM.1.1 (by omega), e_bd, b_z, h1, cond_true, show xeq (Int32.ofInt 3) (Int32.ofInt 0) = false from rfl, cond_false, show xeq (Int32.ofInt 3) (Int32.ofInt 1) = false from rfl, cond_false, show xeq (Int32.ofInt 3) (Int32.ofInt 2) = false from rfl, cond_false, show xeq (Int32.ofInt 3) (Int32.ofInt 3) = true from rfl, cond_true, i_inn (by omega), show xlen M (0 + 1 + 4) = 16 from rfl, decide_eq_true (by omega), cond_true, e_I, i_natn (by omega)]
        show some (M.1 5 k, _) = _
        rw [(hM.1.2.2.2.2.2.1 k hk).2.2.2.1]
      · rw [eX9_brotherOf, v_isBrother hM.1.1 (by omega), e_bd, b_z, h1, cond_true, show xeq (Int32.ofInt 3) (Int32.ofInt 0) = false from rfl, cond_false, show xeq (Int32.ofInt 3) (Int32.ofInt 1) = false from rfl, cond_false, show xeq (Int32.ofInt 3) (Int32.ofInt 2) = false from rfl, cond_false, show xeq (Int32.ofInt 3) (Int32.ofInt 3) = true from rfl, cond_true, i_inn (by omega), show xlen M (64 + 4) = 11 from rfl, decide_eq_true (by omega), cond_true, e_I, i_natn (by omega)]
        show some (M.1 68 k, _) = _
        rw [(hM.1.2.2.2.2.1 k hk).2.2.2.1]
    by_cases h5 : z = 4
    · subst h5
      refine both_same hW (Int32.ofInt (S.R.fd k)) (fun M hM => ?_) (fun M hM => ?_)
      · rw [eX8_brotherOf, v_has (by omega) hM.1.1 (by omega), e_bd, b_z, h1, cond_true, show xeq (Int32.ofInt 4) (Int32.ofInt 0) = false from rfl, cond_false, show xeq (Int32.ofInt 4) (Int32.ofInt 1) = false from rfl, cond_false, show xeq (Int32.ofInt 4) (Int32.ofInt 2) = false from rfl, cond_false, show xeq (Int32.ofInt 4) (Int32.ofInt 3) = false from rfl, cond_false, show xeq (Int32.ofInt 4) (Int32.ofInt 4) = true from rfl, cond_true, i_inn (by omega), show xlen M (0 + 1 + 5) = 16 from rfl, decide_eq_true (by omega), cond_true, e_I, i_natn (by omega)]
        show some (M.1 6 k, _) = _
        rw [(hM.1.2.2.2.2.2.1 k hk).2.2.2.2]
      · rw [eX9_brotherOf, v_isBrother hM.1.1 (by omega), e_bd, b_z, h1, cond_true, show xeq (Int32.ofInt 4) (Int32.ofInt 0) = false from rfl, cond_false, show xeq (Int32.ofInt 4) (Int32.ofInt 1) = false from rfl, cond_false, show xeq (Int32.ofInt 4) (Int32.ofInt 2) = false from rfl, cond_false, show xeq (Int32.ofInt 4) (Int32.ofInt 3) = false from rfl, cond_false, show xeq (Int32.ofInt 4) (Int32.ofInt 4) = true from rfl, cond_true, i_inn (by omega), show xlen M (64 + 5) = 11 from rfl, decide_eq_true (by omega), cond_true, e_I, i_natn (by omega)]
        show some (M.1 69 k, _) = _
        rw [(hM.1.2.2.2.2.1 k hk).2.2.2.2.1]
    by_cases h6 : z = 5
    · subst h6
      refine both_same hW (bi (S.R.lv.testBit k)) (fun M hM => ?_) (fun M hM => ?_)
      · rw [eX8_brotherOf, v_has (by omega) hM.1.1 (by omega), e_bd, b_z, h1, cond_true, show xeq (Int32.ofInt 5) (Int32.ofInt 0) = false from rfl, cond_false, show xeq (Int32.ofInt 5) (Int32.ofInt 1) = false from rfl, cond_false, show xeq (Int32.ofInt 5) (Int32.ofInt 2) = false from rfl, cond_false, show xeq (Int32.ofInt 5) (Int32.ofInt 3) = false from rfl, cond_false, show xeq (Int32.ofInt 5) (Int32.ofInt 4) = false from rfl, cond_false, show xeq (Int32.ofInt 5) (Int32.ofInt 5) = true from rfl, cond_true, v_isLivingn (by omega) hM.1 hW.1 hk, e_bd, b_z]
        cases S.R.lv.testBit k <;> rfl
      · rw [eX9_brotherOf, v_isBrother hM.1.1 (by omega), e_bd, b_z, h1, cond_true, show xeq (Int32.ofInt 5) (Int32.ofInt 0) = false from rfl, cond_false, show xeq (Int32.ofInt 5) (Int32.ofInt 1) = false from rfl, cond_false, show xeq (Int32.ofInt 5) (Int32.ofInt 2) = false from rfl, cond_false, show xeq (Int32.ofInt 5) (Int32.ofInt 3) = false from rfl, cond_false, show xeq (Int32.ofInt 5) (Int32.ofInt 4) = false from rfl, cond_false, show xeq (Int32.ofInt 5) (Int32.ofInt 5) = true from rfl, cond_true, i_inn (by omega), show xlen M (64 + 6) = 11 from rfl, decide_eq_true (by omega), cond_true, i_natn (by omega), (hM.1.2.2.2.2.1 k hk).2.2.2.2.2, b_z]
        cases S.R.lv.testBit k <;> rfl
    refine both_ref' hW 0 (by omega) N (fun M hM => ?_) (fun M hM => ?_)
    · rw [eX8_brotherOf, v_has (by omega) hM.1.1 (by omega), e_bd, b_z, h1, cond_true, i_eq hz (by omega), i_eq hz (by omega), i_eq hz (by omega), i_eq hz (by omega), i_eq hz (by omega), i_eq hz (by omega), decide_eq_false h0, decide_eq_false h2, decide_eq_false h3, decide_eq_false h4, decide_eq_false h5, decide_eq_false h6]; rfl
    · rw [eX9_brotherOf, v_isBrother hM.1.1 (by omega), e_bd, b_z, h1, cond_true, i_eq hz (by omega), i_eq hz (by omega), i_eq hz (by omega), i_eq hz (by omega), i_eq hz (by omega), i_eq hz (by omega), decide_eq_false h0, decide_eq_false h2, decide_eq_false h3, decide_eq_false h4, decide_eq_false h5, decide_eq_false h6]; rfl
def SV.wS (S : SV) (th : Nat → Int) (ln : Nat → Nat) (el : Nat → Nat → Int64) : SV := (S.1, S.2.1, S.2.2.1, (th, ln, el), S.2.2.2.2)
theorem CX_S {t : Nat} {S : SV} {M M' : XM} {th : Nat → Int} {ln : Nat → Nat} {el : Nat → Nat → Int64} (h : CX t S M) (hs : ∀ s, s < 8 → M'.1 (48 + 2 * s) 0 = Int32.ofInt (th s) ∧ (0 ≤ th s → th s < 5 → M'.1 (48 + 2 * s) 1 = Int32.ofInt (ln s) ∧ ∀ i, i < 40 → M'.2 (49 + 2 * s) i = el s i)) (hf : fr 48 64 M M') : CX (t + 1) (S.wS th ln el) M' := by
  obtain ⟨a1, a2, a3, a4, a5, h6, h7, h8, h9, h10⟩ := h.tick
  exact ⟨a1.fr hf (by omega), by rw [hf.i (by omega)]; exact a2, fun h => (a3 h).fr hf (by omega), by rw [hf.i (by omega)]; exact a4, fun j hj => by rw [hf.i (by omega)]; exact a5 j hj, hs, fun k hk => by rw [hf.i (by omega)]; exact h7 k hk, h8.fr hf (by omega), h9.fr hf (by omega), h10.fr hf (by omega)⟩
theorem CM_S {S : SV} {M M' : XM} {th : Nat → Int} {ln : Nat → Nat} {el : Nat → Nat → Int64} (h : CM S M) (hs : ∀ s, s < 8 → M'.1 73 s = Int32.ofInt (th s) ∧ (0 ≤ th s → th s < 5 → M'.1 74 s = Int32.ofInt (ln s) ∧ ∀ i, i < 40 → M'.2 75 (40 * s + i) = el s i)) (hf : fr 73 76 M M') : CM (S.wS th ln el) M' := by
  obtain ⟨h1, h2, h3, h4, h5, h6, h7, h8, h10⟩ := h
  exact ⟨h1.fr hf (by omega), by rw [hf.i (by omega)]; exact h2, fun h => (h3 h).fr hf (by omega), by rw [hf.i (by omega)]; exact h4, fun j hj => by rw [hf.i (by omega)]; exact h5 j hj, hs, fun k hk => by rw [hf.i (by omega)]; exact h7 k hk, by rw [hf.i (by omega)]; exact h8, h10.fr hf (by omega)⟩
theorem sh_o {s : Nat} (hs : s < 8) : 48 + 2 * s = 48 ∨ 48 + 2 * s = 50 ∨ 48 + 2 * s = 52 ∨ 48 + 2 * s = 54 ∨ 48 + 2 * s = 56 ∨ 48 + 2 * s = 58 ∨ 48 + 2 * s = 60 ∨ 48 + 2 * s = 62 := by omega
theorem show_c {t : Nat} {S : SV} {M : XM} (hM : CX t S M) {k : Nat} (hk : k < 8) {z : Int} (hz : z < 0 ∨ 5 ≤ z) : CX (t + 1) (S.wS (upn S.th k z) S.ln S.el) (xwi (xwi M (48 + 2 * k) 0 (Int32.ofInt z)) (48 + 2 * k) 1 (Int32.ofInt 0)) := by
  refine CX_S hM (fun s hs => ?_) ((fr.rf.wi (by omega) (by omega)).wi (by omega) (by omega))
  by_cases e : s = k
  · subst e
    rw [upn_eq]
    refine ⟨by rw [m_wi, if_neg (by omega), m_wi, if_pos ⟨rfl, rfl⟩], fun h1 h2 => by omega⟩
  · rw [upn_ne _ _ e, m_wi, if_neg (by omega), m_wi, if_neg (by omega), m_wi, if_neg (by omega), m_wi, if_neg (by omega)]
    exact hM.2.2.2.2.2.1 s hs
theorem show_m {S : SV} {M : XM} (hM : CM S M) {k : Nat} (hk : k < 8) {z : Int} (hz : z < 0 ∨ 5 ≤ z) : CM (S.wS (upn S.th k z) S.ln S.el) (xwi M 73 k (Int32.ofInt z)) := by
  refine CM_S hM (fun s hs => ?_) (fr.rf.wi (by omega) (by omega))
  by_cases e : s = k
  · subst e
    rw [upn_eq]
    refine ⟨by rw [m_wi, if_pos ⟨rfl, rfl⟩], fun h1 h2 => by omega⟩
  · rw [upn_ne _ _ e, m_wi, if_neg (by omega), m_wi, if_neg (by omega)]
    exact hM.2.2.2.2.2.1 s hs
theorem wf_show {S : SV} (h : WfS S) {k : Nat} {z : Int} (hz : z = -1 ∨ (10 ≤ z ∧ z < 10 + S.R.nb)) : WfS (S.wS (upn S.th k z) S.ln S.el) := by
  refine ⟨h.1, h.2.1, h.2.2.1, h.2.2.2.1, fun s hs => ?_⟩
  show (-1 ≤ upn S.th k z s ∧ upn S.th k z s < 10 + (S.R.nb : Int) ∧ (upn S.th k z s < 5 ∨ 10 ≤ upn S.th k z s)) ∧ (0 ≤ upn S.th k z s → upn S.th k z s < 5 → S.ln s ≤ 40)
  by_cases e : s = k
  · subst e
    rw [upn_eq]
    omega
  · rw [upn_ne _ _ e]
    exact h.2.2.2.2 s hs
set_option maxRecDepth 100000 in
theorem op_show {t : Nat} {S : SV} (hW : WfS S) (N : Nat) (a b : Int32) : both t S (fX8_show N [.ref 0, .int a, .int b]) (fX9_show N [.ref 64, .int a, .int b]) := by
  have hnb := hW.1.1
  cases h1 : xin a 8 with
  | false =>
    refine both_ref' hW 0 (by omega) N (fun M hM => ?_) (fun M hM => ?_)
    · rw [eX8_show, v_isShelf.1, e_bd, b_z, h1]; rfl
    · rw [eX9_show, v_isShelf.2, e_bd, b_z, h1]; rfl
  | true =>
    obtain ⟨k, hk, rfl⟩ := xin_ex (by omega) h1
    cases h2 : xeq b (Int32.ofInt (-1)) with
    | true =>
      refine ⟨S.wS (upn S.th k (-1)) S.ln S.el, Int32.ofInt 1, wf_show hW (by omega), fun M hM => ⟨_, ?_, show_c hM hk (by omega), (fr.rf.wi (by omega) (by omega)).wi (by omega) (by omega)⟩, fun M hM => ⟨_, ?_, show_m hM hk (by omega), fr.rf.wi (by omega) (by omega)⟩⟩
      · rw [eX8_show, v_isShelf.1, e_bd, b_z, h1, cond_true, h2, cond_true, cond_true, i_inn (by omega), show xlen M (0 + 46) = 8 from rfl, decide_eq_true (by omega), cond_true, i_natn (by omega), (x_shelf hk).1, (x_shelf hk).2]
        show (fX5_hold N [.ref (48 + 2 * k), .int (Int32.ofInt (-1))] M).bind _ = _
        rw [eX5_hold _ _ _ (sh_o hk)]
        rfl
      · rw [eX9_show, v_isShelf.2, e_bd, b_z, h1, cond_true, h2, cond_true, cond_true, i_inn (by omega), show xlen M (64 + 9) = 8 from rfl, decide_eq_true (by omega), cond_true, i_natn (by omega)]
        rfl
    | false =>
      cases h3 : xin b S.R.nb with
      | false =>
        refine both_ref' hW 0 (by omega) N (fun M hM => ?_) (fun M hM => ?_)
        · rw [eX8_show, v_isShelf.1, e_bd, b_z, h1, cond_true, h2, cond_false, v_has (by omega) hM.1.1 (by omega), e_bd, b_z, h3]; rfl
        · rw [eX9_show, v_isShelf.2, e_bd, b_z, h1, cond_true, h2, cond_false, v_isBrother hM.1.1 (by omega), e_bd, b_z, h3]; rfl
      | true =>
        obtain ⟨j, hj, rfl⟩ := xin_ex (by omega) h3
        refine ⟨S.wS (upn S.th k (10 + j)) S.ln S.el, Int32.ofInt 1, wf_show hW (by omega), fun M hM => ⟨_, ?_, show_c hM hk (by omega), (fr.rf.wi (by omega) (by omega)).wi (by omega) (by omega)⟩, fun M hM => ⟨_, ?_, show_m hM hk (by omega), fr.rf.wi (by omega) (by omega)⟩⟩
        · rw [eX8_show, v_isShelf.1, e_bd, b_z, h1, cond_true, h2, cond_false, v_has (by omega) hM.1.1 (by omega), e_bd, b_z, h3, cond_true, i_inn (by omega), show xlen M (0 + 46) = 8 from rfl, decide_eq_true (by omega), cond_true, cond_false, i_natn (by omega), (x_shelf hk).1, (x_shelf hk).2]
          show (fX5_hold N [.ref (48 + 2 * k), .int (Int32.ofInt 10 + Int32.ofInt j)] M).bind _ = _
          rw [eX5_hold _ _ _ (sh_o hk), i_add]
          rfl
        · rw [eX9_show, v_isShelf.2, e_bd, b_z, h1, cond_true, h2, cond_false, v_isBrother hM.1.1 (by omega), e_bd, b_z, h3, cond_true, cond_false, i_inn (by omega), show xlen M (64 + 9) = 8 from rfl, decide_eq_true (by omega), cond_true, i_natn (by omega), i_add]
          rfl
def rtr (S : SV) (a : Int32) : Int := bif xin a 8 then (if S.th a.toNatClampNeg = -1 then -4 else if S.th a.toNatClampNeg < 5 then 0 else -3) else -2
theorem v_isEmpty {N k : Nat} {t : Nat} {S : SV} {M : XM} (hW : WfS S) (hM : CX t S M) (hk : k < 8) : fX5_isEmpty N [.ref (48 + 2 * k)] M = some (bi (decide (S.th k = -1)), M) := by
  have := hW.2.2.2.2 k hk
  have h10 := hW.1.1
  rw [eX5_isEmpty _ _ (sh_o hk), (hM.2.2.2.2.2.1 k hk).1, i_eq (by omega) (by omega)]
  cases decide (S.th k = -1) <;> rfl
theorem v_isRow5 {N k : Nat} {t : Nat} {S : SV} {M : XM} (hW : WfS S) (hM : CX t S M) (hk : k < 8) : fX5_isRow N [.ref (48 + 2 * k)] M = some (bi (decide (0 ≤ S.th k) && decide (S.th k < 5)), M) := by
  have := hW.2.2.2.2 k hk
  have h10 := hW.1.1
  rw [eX5_isRow _ _ (sh_o hk), eX5_isSort, (hM.2.2.2.2.2.1 k hk).1, show (0 : Int32) = Int32.ofInt 0 from rfl, i_lt (by omega) (by omega), i_lt (by omega) (by omega)]
  by_cases h1 : S.th k < 0
  · rw [decide_eq_true h1, decide_eq_false (show ¬ 0 ≤ S.th k by omega)]; rfl
  · rw [decide_eq_false h1, decide_eq_true (show 0 ≤ S.th k by omega)]
    by_cases h2 : S.th k < 5
    · rw [decide_eq_true h2, decide_eq_false (show ¬ 4 < S.th k by omega)]; rfl
    · rw [decide_eq_false h2, decide_eq_true (show 4 < S.th k by omega)]; rfl
theorem v_rowTrouble {N : Nat} {t : Nat} {S : SV} {M : XM} (hW : WfS S) (hM : CX t S M) (a : Int32) : fX8_rowTrouble N [.ref 0, .int a] M = some (Int32.ofInt (rtr S a), M) := by
  rw [eX8_rowTrouble, v_isShelf.1, e_bd, b_z]
  unfold rtr
  cases h1 : xin a 8 with
  | false => rfl
  | true =>
    obtain ⟨k, hk, rfl⟩ := xin_ex (by omega) h1
    have hw := hW.2.2.2.2 k hk
    rw [cond_true, i_inn (by omega), show xlen M (0 + 46) = 8 from rfl, decide_eq_true (by omega), cond_true, i_natn (by omega), (x_shelf hk).1, (x_shelf hk).2, cond_true]
    show (fX5_isEmpty N [.ref (48 + 2 * k)] M).bind _ = _
    rw [v_isEmpty hW hM hk, e_bd, b_z]
    by_cases h2 : S.th k = -1
    · rw [decide_eq_true h2, if_pos h2]; rfl
    · rw [decide_eq_false h2, if_neg h2, cond_false]
      show (bif xin (Int32.ofInt k) 8 then (fX5_isRow N [.ref (48 + 2 * k)] M).bind _ else none) = _
      rw [h1, cond_true]
      rw [v_isRow5 hW hM hk, e_bd, b_z]
      by_cases h3 : S.th k < 5
      · rw [decide_eq_true h3, decide_eq_true (show 0 ≤ S.th k by omega), if_pos h3]; rfl
      · rw [decide_eq_false h3, if_neg h3, Bool.and_false]; rfl
theorem v_isRow9 {N k : Nat} {S : SV} {M : XM} (hW : WfS S) (hM : CM S M) (hk : k < 8) : fX9_isRow N [.ref 64, .int (Int32.ofInt k)] M = some (bi (decide (0 ≤ S.th k) && decide (S.th k < 5)), M) := by
  have := hW.2.2.2.2 k hk
  have h10 := hW.1.1
  rw [eX9_isRow, i_inn (by omega), show xlen M (64 + 9) = 8 from rfl, decide_eq_true (by omega), cond_true, i_natn (by omega), show 64 + 9 = 73 from rfl, (hM.2.2.2.2.2.1 k hk).1, v_within, i_lt (by omega) (by omega), i_lt (by omega) (by omega)]
  by_cases h1 : S.th k < 0
  · rw [decide_eq_true h1, decide_eq_false (show ¬ 0 ≤ S.th k by omega)]; rfl
  · rw [decide_eq_false h1, decide_eq_true (show 0 ≤ S.th k by omega)]
    by_cases h2 : S.th k < 5
    · rw [decide_eq_true h2, decide_eq_false (show ¬ 4 < S.th k by omega)]; rfl
    · rw [decide_eq_false h2, decide_eq_true (show 4 < S.th k by omega)]; rfl
theorem v_noRow {N k : Nat} {S : SV} {M : XM} (hW : WfS S) (hM : CM S M) (hk : k < 8) (hr : S.th k < 0 ∨ 5 ≤ S.th k) : fX9_noRow N [.ref 64, .int (Int32.ofInt k)] M = some (Int32.ofInt (rtr S (Int32.ofInt k)), M) := by
  have hw := hW.2.2.2.2 k hk
  have h10 := hW.1.1
  unfold rtr
  rw [eX9_noRow, i_inn (by omega), i_inn (by omega), show xlen M (64 + 9) = 8 from rfl, decide_eq_true hk, cond_true, cond_true, i_natn (by omega), show 64 + 9 = 73 from rfl, (hM.2.2.2.2.2.1 k hk).1, show (0 : Int32) = Int32.ofInt 0 from rfl, i_lt (by omega) (by omega), i_lt (by omega) (by omega)]
  by_cases h1 : S.th k = -1
  · rw [decide_eq_true (show S.th k < 10 by omega), decide_eq_true (show S.th k < 0 by omega), if_pos h1]; rfl
  · rw [decide_eq_false (show ¬ S.th k < 10 by omega), if_neg h1, if_neg (by omega)]; rfl
theorem v_spans {N k : Nat} {t : Nat} {S : SV} {M : XM} (hW : WfS S) (hM : CX t S M) (hk : k < 8) (h0 : 0 ≤ S.th k) (h5 : S.th k < 5) {x n : Int} (hx : rg x) (hn : rg n) : fX5_spans N [.ref (48 + 2 * k), .int (Int32.ofInt x), .int (Int32.ofInt n)] M = some (bi (decide (0 ≤ x ∧ 0 ≤ n ∧ x + n ≤ S.ln k)), M) := by
  have h40 := (hW.2.2.2.2 k hk).2 h0 h5
  rw [eX5_spans _ _ _ _ (sh_o hk), ((hM.2.2.2.2.2.1 k hk).2 h0 h5).1, show (0 : Int32) = Int32.ofInt 0 from rfl, i_lt hx (by omega), i_lt hn (by omega), i_lt (by omega) hn, i_sub]
  by_cases h1 : x < 0
  · rw [decide_eq_true h1, decide_eq_false (show ¬ (0 ≤ x ∧ 0 ≤ n ∧ x + n ≤ S.ln k) by omega)]; rfl
  by_cases h2 : n < 0
  · rw [decide_eq_false h1, decide_eq_true h2, decide_eq_false (show ¬ (0 ≤ x ∧ 0 ≤ n ∧ x + n ≤ S.ln k) by omega)]; rfl
  by_cases h3 : (S.ln k : Int) < n
  · rw [decide_eq_false h1, decide_eq_false h2, decide_eq_true h3, decide_eq_false (show ¬ (0 ≤ x ∧ 0 ≤ n ∧ x + n ≤ S.ln k) by omega)]; rfl
  rw [decide_eq_false h1, decide_eq_false h2, decide_eq_false h3, i_lt (by omega) hx]
  by_cases h4 : (S.ln k : Int) - n < x
  · rw [decide_eq_true h4, decide_eq_false (show ¬ (0 ≤ x ∧ 0 ≤ n ∧ x + n ≤ S.ln k) by omega)]; rfl
  · rw [decide_eq_false h4, decide_eq_true (show (0 ≤ x ∧ 0 ≤ n ∧ x + n ≤ S.ln k) by omega)]; rfl
theorem v_in9 {N k : Nat} {S : SV} {M : XM} (hW : WfS S) (hk : k < 8) (h0 : 0 ≤ S.th k) (h5 : S.th k < 5) {x : Int} (hx : rg x) : fX9_within N [.int (Int32.ofInt x), .int (Int32.ofInt 0), .int (Int32.ofInt (S.ln k) - Int32.ofInt 1)] M = some (bi (decide (0 ≤ x ∧ 0 ≤ (1 : Int) ∧ x + 1 ≤ S.ln k)), M) := by
  have h40 := (hW.2.2.2.2 k hk).2 h0 h5
  rw [v_within, within_in hx (by omega), i_in hx]
  congr 3
  by_cases h1 : 0 ≤ x <;> by_cases h2 : x < S.ln k
  · rw [decide_eq_true h1, decide_eq_true h2, decide_eq_true (by omega)]; rfl
  · rw [decide_eq_true h1, decide_eq_false h2, decide_eq_false (by omega)]; rfl
  · rw [decide_eq_false h1, decide_eq_false (show ¬ (0 ≤ x ∧ 0 ≤ (1 : Int) ∧ x + 1 ≤ S.ln k) by omega)]; rfl
  · rw [decide_eq_false h1, decide_eq_false (show ¬ (0 ≤ x ∧ 0 ≤ (1 : Int) ∧ x + 1 ≤ S.ln k) by omega)]; rfl
theorem x_shelf2 {s : Nat} (hs : s < 8) : xak (48 + 2 * s + 1) = 2 ∧ ∀ M, xlen M (48 + 2 * s + 1) = 40 := by
  match s, hs with
  | 0, _ | 1, _ | 2, _ | 3, _ | 4, _ | 5, _ | 6, _ | 7, _ => exact ⟨rfl, fun _ => rfl⟩
set_option maxRecDepth 100000 in
theorem op_element {t : Nat} {S : SV} (hW : WfS S) (N : Nat) (a b : Int32) : both t S (fX8_element N [.ref 0, .int a, .int b]) (fX9_element N [.ref 64, .int a, .int b]) := by
  have hnb := hW.1.1
  obtain ⟨z, hz, rfl⟩ := i_ex b
  cases h1 : xin a 8 with
  | false =>
    have hr : rtr S a = -2 := by unfold rtr; rw [h1]; rfl
    refine both_same hW (Int64.ofNat 0) (fun M hM => ?_) (fun M hM => ?_)
    · rw [eX8_element, v_rowTrouble hW hM, hr, e_bd]; rfl
    · rw [eX9_element, v_isShelf.2, e_bd, b_z, h1]; rfl
  | true =>
    obtain ⟨k, hk, rfl⟩ := xin_ex (by omega) h1
    have hw := hW.2.2.2.2 k hk
    have hr : rtr S (Int32.ofInt k) = if S.th k = -1 then -4 else if S.th k < 5 then 0 else -3 := by unfold rtr; rw [h1, i_natn (by omega)]; rfl
    by_cases h2 : 0 ≤ S.th k ∧ S.th k < 5
    · have h40 := hw.2 h2.1 h2.2
      rw [if_neg (by omega), if_pos h2.2] at hr
      by_cases h3 : 0 ≤ z ∧ 0 ≤ (1 : Int) ∧ z + 1 ≤ S.ln k
      · obtain ⟨j, rfl⟩ := Int.eq_ofNat_of_zero_le h3.1
        refine both_same hW (S.el k j) (fun M hM => ?_) (fun M hM => ?_)
        · rw [eX8_element, v_rowTrouble hW hM, hr, e_bd, show xeq (Int32.ofInt 0) 0 = true from rfl, cond_true, i_inn (by omega), show xlen M (0 + 46) = 8 from rfl, decide_eq_true (by omega), cond_true, i_natn (by omega), (x_shelf hk).1, (x_shelf hk).2]
          show (fX5_spans N [.ref (48 + 2 * k), .int (Int32.ofInt j), .int (Int32.ofInt 1)] M).bind _ = _
          rw [v_spans hW hM hk h2.1 h2.2 hz (by omega), e_bd, b_z, decide_eq_true h3, cond_true, i_inn (show k < 2147483648 by omega), show xlen (bi true, M).snd (0 + 46) = 8 from rfl, decide_eq_true hk, cond_true, (x_shelf2 hk).1]
          show (bif xin (Int32.ofInt j) (xlen M (48 + 2 * k + 1)) then xrL (some (.long (M.2 (48 + 2 * k + 1) (Int32.ofInt (j : Nat)).toNatClampNeg))) M else none) = _
          rw [(x_shelf2 hk).2, i_inn (by omega), decide_eq_true (by omega), cond_true, i_natn (by omega), e_L, show 48 + 2 * k + 1 = 49 + 2 * k by omega, ((hM.2.2.2.2.2.1 k hk).2 h2.1 h2.2).2 j (by omega)]
        · rw [eX9_element, v_isShelf.2, e_bd, b_z, h1, cond_true, v_isRow9 hW hM hk, e_bd, b_z, decide_eq_true h2.1, decide_eq_true h2.2, Bool.and_self, cond_true, i_inn (by omega), show xlen M (64 + 10) = 8 from rfl, decide_eq_true hk, cond_true, i_natn (by omega), show 64 + 10 = 74 from rfl, ((hM.2.2.2.2.2.1 k hk).2 h2.1 h2.2).1, v_in9 hW hk h2.1 h2.2 hz, e_bd, b_z, decide_eq_true h3, cond_true, i_mul, i_add, show (40 * (k : Int) + (j : Int)) = ((40 * k + j : Nat) : Int) by omega, i_inn (by omega), show xlen M (64 + 11) = 320 from rfl, decide_eq_true (by omega), cond_true, i_natn (by omega), e_L, show 64 + 11 = 75 from rfl, ((hM.2.2.2.2.2.1 k hk).2 h2.1 h2.2).2 j (by omega)]
      · refine both_same hW (Int64.ofNat 0) (fun M hM => ?_) (fun M hM => ?_)
        · rw [eX8_element, v_rowTrouble hW hM, hr, e_bd, show xeq (Int32.ofInt 0) 0 = true from rfl, cond_true, i_inn (by omega), show xlen M (0 + 46) = 8 from rfl, decide_eq_true (by omega), cond_true, i_natn (by omega), (x_shelf hk).1, (x_shelf hk).2]
          show (fX5_spans N [.ref (48 + 2 * k), .int (Int32.ofInt z), .int (Int32.ofInt 1)] M).bind _ = _
          rw [v_spans hW hM hk h2.1 h2.2 hz (by omega), e_bd, b_z, decide_eq_false h3]; rfl
        · rw [eX9_element, v_isShelf.2, e_bd, b_z, h1, cond_true, v_isRow9 hW hM hk, e_bd, b_z, decide_eq_true h2.1, decide_eq_true h2.2, Bool.and_self, cond_true, i_inn (by omega), show xlen M (64 + 10) = 8 from rfl, decide_eq_true hk, cond_true, i_natn (by omega), show 64 + 10 = 74 from rfl, ((hM.2.2.2.2.2.1 k hk).2 h2.1 h2.2).1, v_in9 hW hk h2.1 h2.2 hz, e_bd, b_z, decide_eq_false h3]; rfl
    · refine both_same hW (Int64.ofNat 0) (fun M hM => ?_) (fun M hM => ?_)
      · have : xeq (Int32.ofInt (rtr S (Int32.ofInt k))) 0 = false := by
          rw [hr]
          by_cases h3 : S.th k = -1
          · rw [if_pos h3]; rfl
          · rw [if_neg h3, if_neg (by omega)]; rfl
        rw [eX8_element, v_rowTrouble hW hM, e_bd, this]; rfl
      · rw [eX9_element, v_isShelf.2, e_bd, b_z, h1, cond_true, v_isRow9 hW hM hk, e_bd, b_z, show (decide (0 ≤ S.th k) && decide (S.th k < 5)) = false by
          by_cases h3 : 0 ≤ S.th k
          · rw [decide_eq_false (show ¬ S.th k < 5 by omega), Bool.and_false]
          · rw [decide_eq_false h3, Bool.false_and]]; rfl
def knar (x : Int32) (v : Int64) : Int64 := bif xeq x (Int32.ofInt 0) then v.toInt32.toInt8.toInt32.toInt64 else bif xeq x (Int32.ofInt 1) then v.toInt32.toInt16.toInt32.toInt64 else bif xeq x (Int32.ofInt 2) then v.toInt32.toInt64 else bif xeq x (Int32.ofInt 3) then v else bif xeq (lg_cmp v (Int64.ofNat 0)) (0 : Int32) then Int64.ofNat 0 else Int64.ofNat 1
theorem v_kept {N : Nat} {x : Int32} {v : Int64} {M : XM} : fX9_kept N [.int x, .long v] M = some (knar x v, M) := by
  rw [eX9_kept]
  unfold knar
  cases xeq x (Int32.ofInt 0) <;> cases xeq x (Int32.ofInt 1) <;> cases xeq x (Int32.ofInt 2) <;> cases xeq x (Int32.ofInt 3) <;> cases xeq (lg_cmp v (Int64.ofNat 0)) (0 : Int32) <;> rfl
theorem v_narrow {N k : Nat} (hk : k < 8) {v : Int64} {M : XM} : fX5_narrow N [.ref (48 + 2 * k), .long v] M = some (knar (M.1 (48 + 2 * k) 0) v, M) := by
  rw [eX5_narrow _ _ _ (sh_o hk), ← eX9_kept N, v_kept]
def up2 {α : Type} (f : Nat → Nat → α) (k j : Nat) (v : α) : Nat → Nat → α := fun s i => if s = k ∧ i = j then v else f s i
theorem set_c {t : Nat} {S : SV} {M : XM} (hM : CX t S M) {k : Nat} (hk : k < 8) {j : Nat} {v : Int64} : CX (t + 1) (S.wS S.th S.ln (up2 S.el k j v)) (xwl M (49 + 2 * k) j v) := by
  refine CX_S hM (fun s hs => ?_) (fr.rf.wl (by omega) (by omega))
  rw [m_wl]
  refine ⟨(hM.2.2.2.2.2.1 s hs).1, fun h1 h2 => ⟨((hM.2.2.2.2.2.1 s hs).2 h1 h2).1, fun i hi => ?_⟩⟩
  rw [m_wl2]
  show _ = if s = k ∧ i = j then v else S.el s i
  by_cases e : s = k ∧ i = j
  · rw [if_pos (by omega), if_pos e]
  · rw [if_neg (by omega), if_neg e]
    exact ((hM.2.2.2.2.2.1 s hs).2 h1 h2).2 i hi
theorem set_m {S : SV} {M : XM} (hM : CM S M) {k : Nat} (hk : k < 8) {j : Nat} (hj : j < 40) {v : Int64} : CM (S.wS S.th S.ln (up2 S.el k j v)) (xwl M 75 (40 * k + j) v) := by
  refine CM_S hM (fun s hs => ?_) (fr.rf.wl (by omega) (by omega))
  rw [m_wl]
  refine ⟨(hM.2.2.2.2.2.1 s hs).1, fun h1 h2 => ⟨((hM.2.2.2.2.2.1 s hs).2 h1 h2).1, fun i hi => ?_⟩⟩
  rw [m_wl2]
  show _ = if s = k ∧ i = j then v else S.el s i
  by_cases e : s = k ∧ i = j
  · rw [if_pos (by omega), if_pos e]
  · rw [if_neg (by omega), if_neg e]
    exact ((hM.2.2.2.2.2.1 s hs).2 h1 h2).2 i hi
theorem rtr_k {S : SV} (hW : WfS S) {k : Nat} (hk : k < 8) (h : ¬ (0 ≤ S.th k ∧ S.th k < 5)) : ∃ j : Nat, j < 5 ∧ rtr S (Int32.ofInt k) = -2 - j ∧ xeq (Int32.ofInt (rtr S (Int32.ofInt k))) 0 = false := by
  have hw := hW.2.2.2.2 k hk
  have hr : rtr S (Int32.ofInt k) = if S.th k = -1 then -4 else if S.th k < 5 then 0 else -3 := by unfold rtr; rw [i_inn (by omega), decide_eq_true hk, i_natn (by omega)]; rfl
  by_cases h3 : S.th k = -1
  · rw [hr, if_pos h3]; exact ⟨2, by omega, rfl, rfl⟩
  · rw [hr, if_neg h3, if_neg (by omega)]; exact ⟨1, by omega, rfl, rfl⟩
theorem v_notrow {S : SV} {k : Nat} (h : ¬ (0 ≤ S.th k ∧ S.th k < 5)) : (decide (0 ≤ S.th k) && decide (S.th k < 5)) = false := by
  by_cases h3 : 0 ≤ S.th k
  · rw [decide_eq_false (show ¬ S.th k < 5 by omega), Bool.and_false]
  · rw [decide_eq_false h3, Bool.false_and]
theorem v_row {S : SV} {k : Nat} (h : 0 ≤ S.th k ∧ S.th k < 5) : (decide (0 ≤ S.th k) && decide (S.th k < 5)) = true := by
  rw [decide_eq_true h.1, decide_eq_true h.2]; rfl
theorem rtr_0 {S : SV} {k : Nat} (hk : k < 8) (h : 0 ≤ S.th k ∧ S.th k < 5) : rtr S (Int32.ofInt k) = 0 := by
  unfold rtr
  rw [i_inn (by omega), decide_eq_true hk, i_natn (by omega), cond_true, if_neg (by omega), if_pos h.2]
set_option maxRecDepth 100000 in
theorem op_set {t : Nat} {S : SV} (hW : WfS S) (N : Nat) (a b : Int32) (v : Int64) : both t S (fX8_set N [.ref 0, .int a, .int b, .long v]) (fX9_set N [.ref 64, .int a, .int b, .long v]) := by
  have hnb := hW.1.1
  obtain ⟨z, hz, rfl⟩ := i_ex b
  cases h1 : xin a 8 with
  | false =>
    have hr : rtr S a = -2 := by unfold rtr; rw [h1]; rfl
    refine both_ref' hW 0 (by omega) N (fun M hM => ?_) (fun M hM => ?_)
    · rw [eX8_set, v_rowTrouble hW hM, hr, e_bd, show xeq (Int32.ofInt (-2)) 0 = false by decide +kernel, cond_false, cond_false]; rfl
    · rw [eX9_set, v_isShelf.2, e_bd, b_z, h1]; rfl
  | true =>
    obtain ⟨k, hk, rfl⟩ := xin_ex (by omega) h1
    have hw := hW.2.2.2.2 k hk
    by_cases h2 : 0 ≤ S.th k ∧ S.th k < 5
    · have h40 := hw.2 h2.1 h2.2
      have hr := rtr_0 hk h2
      by_cases h3 : 0 ≤ z ∧ 0 ≤ (1 : Int) ∧ z + 1 ≤ S.ln k
      · obtain ⟨j, rfl⟩ := Int.eq_ofNat_of_zero_le h3.1
        refine ⟨S.wS S.th S.ln (up2 S.el k j (knar (Int32.ofInt (S.th k)) v)), Int32.ofInt 1, hW, fun M hM => ⟨_, ?_, set_c hM hk, fr.rf.wl (by omega) (by omega)⟩, fun M hM => ⟨_, ?_, set_m hM hk (j := j) (by omega), fr.rf.wl (by omega) (by omega)⟩⟩
        · rw [eX8_set, v_rowTrouble hW hM, hr, e_bd, show xeq (Int32.ofInt 0) 0 = true from rfl, cond_true, i_inn (by omega), show xlen M (0 + 46) = 8 from rfl, decide_eq_true (by omega), cond_true, i_natn (by omega), (x_shelf hk).1, (x_shelf hk).2]
          show (fX5_spans N [.ref (48 + 2 * k), .int (Int32.ofInt j), .int (Int32.ofInt 1)] M).bind _ = _
          rw [v_spans hW hM hk h2.1 h2.2 hz (by omega), e_bd, b_z, decide_eq_true h3, cond_true]
          show (bif xin (Int32.ofInt k) 8 then (fX5_put N [.ref (48 + 2 * k), .int (Int32.ofInt j), .long v] M).bind _ else none) = _
          rw [h1, cond_true, eX5_put _ _ _ _ (sh_o hk), v_spans hW hM hk h2.1 h2.2 hz (by omega), e_bd, b_z, decide_eq_true h3, cond_true, v_narrow hk, e_bd, (hM.2.2.2.2.2.1 k hk).1, (x_shelf2 hk).2, i_inn (by omega), decide_eq_true (by omega), cond_true, i_natn (by omega), show 48 + 2 * k + 1 = 49 + 2 * k by omega]
          rfl
        · rw [eX9_set, v_isShelf.2, e_bd, b_z, h1, cond_true, v_isRow9 hW hM hk, e_bd, b_z, v_row h2, cond_true, i_inn (by omega), show xlen M (64 + 10) = 8 from rfl, decide_eq_true hk, cond_true, i_natn (by omega), show 64 + 10 = 74 from rfl, ((hM.2.2.2.2.2.1 k hk).2 h2.1 h2.2).1, v_in9 hW hk h2.1 h2.2 hz, e_bd, b_z, decide_eq_true h3, cond_true, show xlen M (64 + 9) = 8 from rfl, h1, cond_true]
          show (fX9_kept N [.int (M.1 73 k), .long v] M).bind _ = _
          rw [(hM.2.2.2.2.2.1 k hk).1, v_kept, e_bd, i_mul, i_add, show (40 * (k : Int) + (j : Int)) = ((40 * k + j : Nat) : Int) by omega, i_inn (by omega), show xlen M (64 + 11) = 320 from rfl, decide_eq_true (by omega), cond_true, i_natn (by omega)]
          rfl
      · refine both_ref' hW 0 (by omega) N (fun M hM => ?_) (fun M hM => ?_)
        · rw [eX8_set, v_rowTrouble hW hM, hr, e_bd, show xeq (Int32.ofInt 0) 0 = true from rfl, cond_true, i_inn (by omega), show xlen M (0 + 46) = 8 from rfl, decide_eq_true (by omega), cond_true, i_natn (by omega), (x_shelf hk).1, (x_shelf hk).2]
          show (fX5_spans N [.ref (48 + 2 * k), .int (Int32.ofInt z), .int (Int32.ofInt 1)] M).bind _ = _
          rw [v_spans hW hM hk h2.1 h2.2 hz (by omega), e_bd, b_z, decide_eq_false h3]; rfl
        · rw [eX9_set, v_isShelf.2, e_bd, b_z, h1, cond_true, v_isRow9 hW hM hk, e_bd, b_z, v_row h2, cond_true, i_inn (by omega), show xlen M (64 + 10) = 8 from rfl, decide_eq_true hk, cond_true, i_natn (by omega), show 64 + 10 = 74 from rfl, ((hM.2.2.2.2.2.1 k hk).2 h2.1 h2.2).1, v_in9 hW hk h2.1 h2.2 hz, e_bd, b_z, decide_eq_false h3]; rfl
    · obtain ⟨j, hj, hr, he⟩ := rtr_k hW hk h2
      refine both_ref' hW j hj N (fun M hM => ?_) (fun M hM => ?_)
      · rw [eX8_set, v_rowTrouble hW hM, e_bd, he, cond_false, cond_false, hr]
      · rw [eX9_set, v_isShelf.2, e_bd, b_z, h1, cond_true, v_isRow9 hW hM hk, e_bd, b_z, v_notrow h2, cond_false, v_noRow hW hM hk (by omega), e_bd, hr]
theorem l_holdRow {N k : Nat} (hk : k < 8) : ∀ (d n j : Nat) (M : XM), j + d = 40 → d < n → ∃ M', gX5_holdRow N n 17 [.ref (48 + 2 * k), .retAddr 0, .retAddr 0, .int (Int32.ofInt j)] [] M = some M' ∧ M'.1 = M.1 ∧ ∀ a i, M'.2 a i = if a = 49 + 2 * k ∧ j ≤ i ∧ i < 40 then Int64.ofNat 0 else M.2 a i
  | 0, n + 1, j, M, hj, _ => by
    refine ⟨M, ?_, rfl, fun a i => ?_⟩
    · rw [eX5_holdRow_17 _ _ _ _ (sh_o hk), i_lt (by omega) (by omega), decide_eq_false (by omega)]; rfl
    · rw [if_neg (by omega)]
  | d + 1, n + 1, j, M, hj, hn => by
    obtain ⟨M', h1, h2, h3⟩ := l_holdRow (N := N) hk d n (j + 1) (xwl M (48 + 2 * k + 1) j (Int64.ofNat 0)) (by omega) (by omega)
    refine ⟨M', ?_, by rw [h2, m_wl], fun a i => ?_⟩
    · rw [eX5_holdRow_17 _ _ _ _ (sh_o hk), i_lt (by omega) (by omega), decide_eq_true (by omega), cond_true, (x_shelf2 hk).2, i_inn (by omega), decide_eq_true (by omega), cond_true, i_natn (by omega), i_add]
      exact h1
    · rw [h3, m_wl2]
      by_cases e : a = 49 + 2 * k ∧ i = j
      · rw [if_neg (by omega), if_pos (by omega), if_pos (by omega)]
      · by_cases e2 : a = 49 + 2 * k ∧ j + 1 ≤ i ∧ i < 40
        · rw [if_pos e2, if_pos (by omega)]
        · rw [if_neg e2, if_neg (by omega), if_neg (by omega)]
theorem l_row9 {N k : Nat} (hk : k < 8) : ∀ (d n j : Nat) (M : XM), j + d = 40 → d < n → ∃ M', gX9_row N n 50 [.ref 64, .int (Int32.ofInt k), .retAddr 0, .retAddr 0, .int (Int32.ofInt j)] [] M = some (Int32.ofInt 1, M') ∧ M'.1 = M.1 ∧ ∀ a i, M'.2 a i = if a = 75 ∧ 40 * k + j ≤ i ∧ i < 40 * k + 40 then Int64.ofNat 0 else M.2 a i
  | 0, n + 1, j, M, hj, _ => by
    refine ⟨M, ?_, rfl, fun a i => ?_⟩
    · rw [eX9_row_50, i_lt (by omega) (by omega), decide_eq_false (by omega)]; rfl
    · rw [if_neg (by omega)]
  | d + 1, n + 1, j, M, hj, hn => by
    obtain ⟨M', h1, h2, h3⟩ := l_row9 (N := N) hk d n (j + 1) (xwl M 75 (40 * k + j) (Int64.ofNat 0)) (by omega) (by omega)
    refine ⟨M', ?_, by rw [h2, m_wl], fun a i => ?_⟩
    · rw [eX9_row_50, i_lt (by omega) (by omega), decide_eq_true (by omega), cond_true, i_mul, i_add, show (40 * (k : Int) + (j : Int)) = ((40 * k + j : Nat) : Int) by omega, i_inn (by omega), show xlen M (64 + 11) = 320 from rfl, decide_eq_true (by omega), cond_true, i_natn (by omega), i_add]
      exact h1
    · rw [h3, m_wl2]
      by_cases e : a = 75 ∧ i = 40 * k + j
      · rw [if_neg (by omega), if_pos (by omega), if_pos (by omega)]
      · by_cases e2 : a = 75 ∧ 40 * k + (j + 1) ≤ i ∧ i < 40 * k + 40
        · rw [if_pos e2, if_pos (by omega)]
        · rw [if_neg e2, if_neg (by omega), if_neg (by omega)]
def SV.row (S : SV) (k s n : Nat) : SV := S.wS (upn S.th k s) (upn S.ln k n) (upn S.el k (fun _ => Int64.ofNat 0))
theorem v_isSort {N : Nat} {z : Int} {M : XM} (hz : rg z) : fX5_isSort N [.int (Int32.ofInt z)] M = some (bi (decide (0 ≤ z ∧ z ≤ 4)), M) ∧ fX9_within N [.int (Int32.ofInt z), .int (Int32.ofInt 0), .int (Int32.ofInt 4)] M = some (bi (decide (0 ≤ z ∧ z ≤ 4)), M) := by
  rw [v_within, eX5_isSort, show (0 : Int32) = Int32.ofInt 0 from rfl, i_lt hz (by omega), i_lt (by omega) hz]
  by_cases h1 : z < 0
  · rw [decide_eq_true h1, decide_eq_false (show ¬ (0 ≤ z ∧ z ≤ 4) by omega)]; exact ⟨rfl, rfl⟩
  · by_cases h2 : 4 < z
    · rw [decide_eq_false h1, decide_eq_true h2, decide_eq_false (show ¬ (0 ≤ z ∧ z ≤ 4) by omega)]; exact ⟨rfl, rfl⟩
    · rw [decide_eq_false h1, decide_eq_false h2, decide_eq_true (show (0 ≤ z ∧ z ≤ 4) by omega)]; exact ⟨rfl, rfl⟩
theorem row_c {t N : Nat} {S : SV} {M : XM} (hN : 41 < N) (hM : CX t S M) {k s n : Nat} (hk : k < 8) (hn : n ≤ 40) : ∃ M', fX5_holdRow N [.ref (48 + 2 * k), .int (Int32.ofInt s), .int (Int32.ofInt n)] M = some M' ∧ CX (t + 1) (S.row k s n) M' ∧ fr 0 64 M M' := by
  obtain ⟨M', h1, h2, h3⟩ := l_holdRow (N := N) hk 40 N 0 (xwi (xwi M (48 + 2 * k) 0 (Int32.ofInt s)) (48 + 2 * k) 1 (Int32.ofInt n)) (by omega) (by omega)
  have hf : fr 48 64 M M' := fun a ha => by
    refine ⟨?_, ?_⟩
    · rw [h2]
      funext j
      rw [m_wi, if_neg (by omega), m_wi, if_neg (by omega)]
    · funext j
      rw [h3, if_neg (by omega)]
      rfl
  refine ⟨M', ?_, CX_S hM (fun x hx => ?_) hf, hf.wide (by omega) (by omega)⟩
  · rw [eX5_holdRow _ _ _ _ (sh_o hk)]
    show (some ((if (Int32.ofInt 40 : Int32) < Int32.ofInt n then Int32.ofInt 40 else Int32.ofInt n), xwi M (48 + 2 * k) 0 (Int32.ofInt s)) : Option (Int32 × XM)).bind _ = _
    rw [if_neg (by rw [Int32.lt_iff_toInt_lt, i_toInt (by omega), i_toInt (by omega)]; omega), e_bd]
    exact h1
  · rw [h2]
    by_cases e : x = k
    · subst e
      rw [upn_eq, upn_eq, upn_eq]
      refine ⟨by rw [m_wi, if_neg (by omega), m_wi, if_pos ⟨rfl, rfl⟩], fun _ _ => ⟨by rw [m_wi, if_pos ⟨rfl, rfl⟩], fun i hi => by rw [h3, if_pos (by omega)]⟩⟩
    · rw [upn_ne _ _ e, upn_ne _ _ e, upn_ne _ _ e, m_wi, if_neg (by omega), m_wi, if_neg (by omega), m_wi, if_neg (by omega), m_wi, if_neg (by omega)]
      refine ⟨(hM.2.2.2.2.2.1 x hx).1, fun q1 q2 => ⟨((hM.2.2.2.2.2.1 x hx).2 q1 q2).1, fun i hi => ?_⟩⟩
      rw [h3, if_neg (by omega)]
      exact ((hM.2.2.2.2.2.1 x hx).2 q1 q2).2 i hi
theorem op_row0 {t : Nat} {S : SV} (hW : WfS S) {N : Nat} (hN : 41 < N) {k s n : Nat} (hk : k < 8) (hs : s ≤ 4) (hn : n ≤ 40) : WfS (S.row k s n) ∧ mop S (S.row k s n) (fun M => gX9_row N N 50 [.ref 64, .int (Int32.ofInt k), .retAddr 0, .retAddr 0, .int (Int32.ofInt (0 : Nat))] [] (xwi (xwi M 73 k (Int32.ofInt s)) 74 k (Int32.ofInt n))) (Int32.ofInt 1) := by
  refine ⟨⟨hW.1, hW.2.1, hW.2.2.1, hW.2.2.2.1, fun x hx => ?_⟩, fun M hM => ?_⟩
  · show (-1 ≤ upn S.th k (s : Int) x ∧ upn S.th k (s : Int) x < 10 + (S.R.nb : Int) ∧ (upn S.th k (s : Int) x < 5 ∨ 10 ≤ upn S.th k (s : Int) x)) ∧ (0 ≤ upn S.th k (s : Int) x → upn S.th k (s : Int) x < 5 → upn S.ln k n x ≤ 40)
    by_cases e : x = k
    · subst e
      rw [upn_eq, upn_eq]
      omega
    · rw [upn_ne _ _ e, upn_ne _ _ e]
      exact hW.2.2.2.2 x hx
  · obtain ⟨M', h1, h2, h3⟩ := l_row9 (N := N) hk 40 N 0 (xwi (xwi M 73 k (Int32.ofInt s)) 74 k (Int32.ofInt n)) (by omega) (by omega)
    have hf : fr 73 76 M M' := fun a ha => by
      refine ⟨?_, ?_⟩
      · rw [h2]
        funext j
        rw [m_wi, if_neg (by omega), m_wi, if_neg (by omega)]
      · funext j
        rw [h3, if_neg (by omega)]
        rfl
    refine ⟨M', h1, CM_S hM (fun x hx => ?_) hf, hf.wide (by omega) (by omega)⟩
    rw [h2]
    by_cases e : x = k
    · subst e
      rw [upn_eq, upn_eq, upn_eq]
      refine ⟨by rw [m_wi, if_neg (by omega), m_wi, if_pos ⟨rfl, rfl⟩], fun _ _ => ⟨by rw [m_wi, if_pos ⟨rfl, rfl⟩], fun i hi => by rw [h3, if_pos (by omega)]⟩⟩
    · rw [upn_ne _ _ e, upn_ne _ _ e, upn_ne _ _ e, m_wi, if_neg (by omega), m_wi, if_neg (by omega), m_wi, if_neg (by omega), m_wi, if_neg (by omega)]
      refine ⟨(hM.2.2.2.2.2.1 x hx).1, fun q1 q2 => ⟨((hM.2.2.2.2.2.1 x hx).2 q1 q2).1, fun i hi => ?_⟩⟩
      rw [h3, if_neg (by omega)]
      exact ((hM.2.2.2.2.2.1 x hx).2 q1 q2).2 i hi
set_option maxRecDepth 100000 in
theorem op_row {t : Nat} {S : SV} (hW : WfS S) {N : Nat} (hN : 41 < N) (a b c : Int32) : both t S (fX8_row N [.ref 0, .int a, .int b, .int c]) (fX9_row N [.ref 64, .int a, .int b, .int c]) := by
  obtain ⟨y, hy, rfl⟩ := i_ex b
  obtain ⟨z, hz, rfl⟩ := i_ex c
  cases h1 : xin a 8 with
  | false =>
    refine both_ref' hW 0 (by omega) N (fun M hM => ?_) (fun M hM => ?_)
    · rw [eX8_row, v_isShelf.1, e_bd, b_z, h1]; rfl
    · rw [eX9_row, v_isShelf.2, e_bd, b_z, h1]; rfl
  | true =>
    obtain ⟨k, hk, rfl⟩ := xin_ex (by omega) h1
    by_cases h2 : 0 ≤ y ∧ y ≤ 4
    · by_cases h3 : z < 0
      · refine both_ref' hW 0 (by omega) N (fun M hM => ?_) (fun M hM => ?_)
        · rw [eX8_row, v_isShelf.1, e_bd, b_z, h1, cond_true, (v_isSort hy).1, e_bd, b_z, decide_eq_true h2, cond_true, show (0 : Int32) = Int32.ofInt 0 from rfl, i_lt hz (by omega), decide_eq_true h3]; rfl
        · rw [eX9_row, v_isShelf.2, e_bd, b_z, h1, cond_true, (v_isSort hy).2, e_bd, b_z, decide_eq_true h2, cond_true, v_within, i_lt hz (by omega), decide_eq_true h3, e_bd, b_z]; rfl
      · by_cases h4 : 40 < z
        · refine both_ref' hW 0 (by omega) N (fun M hM => ?_) (fun M hM => ?_)
          · rw [eX8_row, v_isShelf.1, e_bd, b_z, h1, cond_true, (v_isSort hy).1, e_bd, b_z, decide_eq_true h2, cond_true, show (0 : Int32) = Int32.ofInt 0 from rfl, i_lt hz (by omega), decide_eq_false h3, cond_false, i_lt (by omega) hz, decide_eq_true h4]; rfl
          · rw [eX9_row, v_isShelf.2, e_bd, b_z, h1, cond_true, (v_isSort hy).2, e_bd, b_z, decide_eq_true h2, cond_true, v_within, i_lt hz (by omega), decide_eq_false h3, i_lt (by omega) hz, decide_eq_true h4, e_bd, b_z]; rfl
        · obtain ⟨s, rfl⟩ := Int.eq_ofNat_of_zero_le h2.1
          obtain ⟨n, rfl⟩ := Int.eq_ofNat_of_zero_le (show 0 ≤ z by omega)
          obtain ⟨hw, hm⟩ := op_row0 (t := t) hW hN hk (s := s) (n := n) (by omega) (by omega)
          refine ⟨S.row k s n, Int32.ofInt 1, hw, fun M hM => ?_, fun M hM => ?_⟩
          · obtain ⟨M', e1, e2, e3⟩ := row_c (N := N) hN hM (s := s) (n := n) hk (by omega)
            refine ⟨M', ?_, e2, e3⟩
            rw [eX8_row, v_isShelf.1, e_bd, b_z, h1, cond_true, (v_isSort hy).1, e_bd, b_z, decide_eq_true h2, cond_true, show (0 : Int32) = Int32.ofInt 0 from rfl, i_lt hz (by omega), decide_eq_false h3, cond_false, i_lt (by omega) hz, decide_eq_false h4, cond_false, i_inn (by omega), show xlen M (0 + 46) = 8 from rfl, decide_eq_true hk, cond_true, i_natn (by omega), (x_shelf hk).1, (x_shelf hk).2]
            show (fX5_holdRow N [.ref (48 + 2 * k), .int (Int32.ofInt s), .int (Int32.ofInt n)] M).bind _ = _
            rw [e1]; rfl
          · obtain ⟨M', e1, e2, e3⟩ := hm M hM
            refine ⟨M', ?_, e2, e3⟩
            rw [eX9_row, v_isShelf.2, e_bd, b_z, h1, cond_true, (v_isSort hy).2, e_bd, b_z, decide_eq_true h2, cond_true, v_within, i_lt hz (by omega), decide_eq_false h3, i_lt (by omega) hz, decide_eq_false h4, e_bd, b_z]
            show (bif xin (Int32.ofInt k) 8 then bif xin (Int32.ofInt k) 8 then gX9_row N N 50 [.ref 64, .int (Int32.ofInt k), .retAddr 0, .retAddr 0, .int (Int32.ofInt 0)] [] (xwi (xwi M 73 (Int32.ofInt k).toNatClampNeg (Int32.ofInt s)) 74 (Int32.ofInt k).toNatClampNeg (Int32.ofInt n)) else none else none) = _
            rw [h1, cond_true, cond_true, i_natn (by omega)]
            exact e1
    · refine both_ref' hW 0 (by omega) N (fun M hM => ?_) (fun M hM => ?_)
      · rw [eX8_row, v_isShelf.1, e_bd, b_z, h1, cond_true, (v_isSort hy).1, e_bd, b_z, decide_eq_false h2]; rfl
      · rw [eX9_row, v_isShelf.2, e_bd, b_z, h1, cond_true, (v_isSort hy).2, e_bd, b_z, decide_eq_false h2]; rfl
def f_alone (R : RV) : Nat → Nat → Int32 → Int32
  | 0, _, x => x
  | d + 1, k, x => f_alone R d (k + 1) (bif R.lv.testBit k && xeq (Int32.ofInt (R.fd k) &&& Int32.ofInt R.lv) (0 : Int32) then x ||| (Int32.ofInt 1 <<< (Int32.ofInt k &&& 31)) else x)
theorem l_alone8 {N : Nat} {M : XM} {R : RV} (hR : cv 1 R M) (hW : Wf R) : ∀ (d n k : Nat) (x : Int32), k + d = R.nb → d < n → gX8_alone N n 4 [.ref 0, .int x, .int (Int32.ofInt k)] [] M = some (f_alone R d k x, M)
  | 0, n + 1, k, x, hk, _ => by
    have h10 := hW.1
    rw [eX8_alone_4, show 0 + 1 = 1 from rfl, hR.1, i_lt (by omega) (by omega), decide_eq_false (by omega)]; rfl
  | d + 1, n + 1, k, x, hk, hn => by
    have h10 := hW.1
    have ih := l_alone8 (N := N) hR hW d n (k + 1)
    unfold f_alone
    rw [eX8_alone_4, show 0 + 1 = 1 from rfl, hR.1, i_lt (by omega) (by omega), decide_eq_true (by omega), cond_true, v_isLivingn (by omega) hR hW (by omega), e_bd, b_z, i_add]
    cases h : R.lv.testBit k with
    | false => exact ih x (by omega) (by omega)
    | true =>
      rw [cond_true, i_inn (by omega), show ∀ M, xlen M (1 + 5) = 16 from fun _ => rfl, decide_eq_true (by omega), cond_true, i_natn (by omega), Bool.true_and]
      show (bif xeq (M.1 6 k &&& M.1 1 1) 0 then _ else _) = _
      rw [(hR.2.2.2.2.2.1 k (by omega)).2.2.2.2, hR.2.1]
      cases xeq (Int32.ofInt (R.fd k) &&& Int32.ofInt R.lv) (0 : Int32) with
      | true => exact ih _ (by omega) (by omega)
      | false => exact ih _ (by omega) (by omega)
theorem l_alone9 {N : Nat} (hN : 11 < N) {M : XM} {R : RV} (hR : mv R M) (hW : Wf R) : ∀ (d n k : Nat) (x : Int32), k + d = R.nb → d < n → gX9_alone N n 4 [.ref 64, .int x, .int (Int32.ofInt k)] [] M = some (f_alone R d k x, M)
  | 0, n + 1, k, x, hk, _ => by
    have h10 := hW.1
    rw [eX9_alone_4, hR.1, i_lt (by omega) (by omega), decide_eq_false (by omega)]; rfl
  | d + 1, n + 1, k, x, hk, hn => by
    have h10 := hW.1
    have ih := l_alone9 (N := N) hN hR hW d n (k + 1)
    unfold f_alone
    rw [eX9_alone_4, hR.1, i_lt (by omega) (by omega), decide_eq_true (by omega), cond_true, i_inn (by omega), show xlen M (64 + 6) = 11 from rfl, show xlen M (64 + 5) = 11 from rfl, decide_eq_true (show k < 11 by omega), cond_true, i_natn (by omega), (hR.2.2.2.2.1 k (by omega)).2.2.2.2.2, b_z, i_add]
    cases h : R.lv.testBit k with
    | false => exact ih x (by omega) (by omega)
    | true =>
      rw [cond_true, i_inn (show k < 2147483648 by omega), decide_eq_true (show k < 11 by omega), cond_true, v_living hN hR hW, e_bd, (hR.2.2.2.2.1 k (by omega)).2.2.2.2.1, Bool.true_and]
      cases xeq (Int32.ofInt (R.fd k) &&& Int32.ofInt R.lv) (0 : Int32) with
      | true => exact ih _ (by omega) (by omega)
      | false => exact ih _ (by omega) (by omega)
theorem op_alone {t : Nat} {S : SV} (hW : WfS S) {N : Nat} (hN : 41 < N) : both t S (fX8_alone N [.ref 0]) (fX9_alone N [.ref 64]) := by
  have h10 := hW.1.1
  refine both_same hW (f_alone S.R S.R.nb 0 (Int32.ofInt 0)) (fun M hM => ?_) (fun M hM => ?_)
  · rw [eX8_alone]
    exact l_alone8 hM.1 hW.1 _ _ 0 _ (by omega) (by omega)
  · rw [eX9_alone]
    exact l_alone9 (by omega) hM.1 hW.1 _ _ 0 _ (by omega) (by omega)
def older (R : RV) (k : Nat) : Nat := if R.ag k + 1 < 99 then R.ag k + 1 else 99
theorem i_min1 {a : Nat} (ha : a ≤ 99) (M : XM) : xmin [.int (Int32.ofInt a + Int32.ofInt 1), .int (Int32.ofInt 99)] M = some (Int32.ofInt ((if a + 1 < 99 then a + 1 else 99 : Nat) : Int), M) ∧ xmin [.int (Int32.ofInt 99), .int (Int32.ofInt a + Int32.ofInt 1)] M = some (Int32.ofInt ((if a + 1 < 99 then a + 1 else 99 : Nat) : Int), M) := by
  have e1 : ∀ x y : Int, rg x → rg y → (Int32.ofInt x < Int32.ofInt y ↔ x < y) := fun x y hx hy => by rw [Int32.lt_iff_toInt_lt, i_toInt hx, i_toInt hy]
  rw [i_add]
  constructor
  · show some ((if Int32.ofInt 99 < Int32.ofInt ((a : Int) + 1) then Int32.ofInt 99 else Int32.ofInt ((a : Int) + 1)), M) = _
    by_cases h : a + 1 < 99
    · rw [if_pos h, if_neg (by rw [e1 _ _ (by omega) (by omega)]; omega)]; rfl
    · rw [if_neg h]
      by_cases h2 : (99 : Int) < (a : Int) + 1
      · rw [if_pos ((e1 _ _ (by omega) (by omega)).mpr h2)]; rfl
      · rw [if_neg (by rw [e1 _ _ (by omega) (by omega)]; omega), show (a : Int) + 1 = ((99 : Nat) : Int) by omega]
  · show some ((if Int32.ofInt ((a : Int) + 1) < Int32.ofInt 99 then Int32.ofInt ((a : Int) + 1) else Int32.ofInt 99), M) = _
    by_cases h : a + 1 < 99
    · rw [if_pos h, if_pos ((e1 _ _ (by omega) (by omega)).mpr (by omega))]; rfl
    · rw [if_neg h, if_neg (by rw [e1 _ _ (by omega) (by omega)]; omega)]; rfl
theorem v_olderBy1 {N o k : Nat} {M : XM} {R : RV} (ho : o = 1 ∨ o = 8 ∨ o = 15) (hR : cv o R M) (hW : Wf R) (hk : k < R.nb) : fX3_olderBy1 N [.ref o, .int (Int32.ofInt k)] M = some (Int32.ofInt (older R k), M) := by
  have h10 := hW.1
  have hl : ∀ M, xlen M (o + 4) = 16 := fun M => by rcases ho with rfl | rfl | rfl <;> rfl
  rw [eX3_olderBy1 _ _ _ ho, hl, i_inn (by omega), decide_eq_true (by omega), cond_true, i_natn (by omega), (hR.2.2.2.2.2.1 k hk).2.2.2.1, (i_min1 (hW.2.2.2.1 k hk).2.2.2.1 M).1, e_bd, e_I]
  rfl
def f_last (R : RV) : Nat → Nat → Int32 → Int32
  | 0, _, x => x
  | d + 1, k, x => f_last R d (k + 1) (bif R.lv.testBit k then (x * (Int32.ofInt 200 - Int32.ofInt (older R k))) / Int32.ofInt 200 else x)
theorem l_last8 {N : Nat} {M : XM} {R : RV} (hR : cv 1 R M) (hW : Wf R) : ∀ (d n k : Nat) (x : Int32), k + d = R.nb → d < n → gX3_chanceOfYear N n 5 [.ref 1, .int x, .int (Int32.ofInt k)] [] M = some (f_last R d k x, M)
  | 0, n + 1, k, x, hk, _ => by
    have h10 := hW.1
    rw [eX3_chanceOfYear_5 _ _ _ _ _ (by omega), hR.1, i_lt (by omega) (by omega), decide_eq_false (by omega)]; rfl
  | d + 1, n + 1, k, x, hk, hn => by
    have h10 := hW.1
    have ih := l_last8 (N := N) hR hW d n (k + 1)
    unfold f_last
    rw [eX3_chanceOfYear_5 _ _ _ _ _ (by omega), hR.1, i_lt (by omega) (by omega), decide_eq_true (by omega), cond_true, v_isLivingn (by omega) hR hW (by omega), e_bd, b_z, i_add]
    cases h : R.lv.testBit k with
    | false => exact ih x (by omega) (by omega)
    | true =>
      rw [cond_true, v_olderBy1 (by omega) hR hW (by omega), e_bd, show xeq (Int32.ofInt 200) 0 = false by decide +kernel, cond_false]
      exact ih _ (by omega) (by omega)
theorem l_last9 {N : Nat} {M : XM} {R : RV} (hR : mv R M) (hW : Wf R) : ∀ (d n k : Nat) (x : Int32), k + d = R.nb → d < n → gX9_lasting N n 6 [.ref 64, .int x, .int (Int32.ofInt k)] [] M = some (f_last R d k x, M)
  | 0, n + 1, k, x, hk, _ => by
    have h10 := hW.1
    rw [eX9_lasting_6, hR.1, i_lt (by omega) (by omega), decide_eq_false (by omega)]; rfl
  | d + 1, n + 1, k, x, hk, hn => by
    have h10 := hW.1
    have ih := l_last9 (N := N) hR hW d n (k + 1)
    unfold f_last
    rw [eX9_lasting_6, hR.1, i_lt (by omega) (by omega), decide_eq_true (by omega), cond_true, i_inn (by omega), show xlen M (64 + 6) = 11 from rfl, show xlen M (64 + 4) = 11 from rfl, decide_eq_true (show k < 11 by omega), cond_true, i_natn (by omega), (hR.2.2.2.2.1 k (by omega)).2.2.2.2.2, b_z, i_add]
    cases h : R.lv.testBit k with
    | false => exact ih x (by omega) (by omega)
    | true =>
      rw [cond_true, i_inn (show k < 2147483648 by omega), decide_eq_true (show k < 11 by omega), cond_true, (hR.2.2.2.2.1 k (by omega)).2.2.2.1, (i_min1 (hW.2.2.2.1 k (by omega)).2.2.2.1 M).2, e_bd, show xeq (Int32.ofInt 200) 0 = false by decide +kernel, cond_false]
      exact ih _ (by omega) (by omega)
theorem op_lasting {t : Nat} {S : SV} (hW : WfS S) {N : Nat} (hN : 41 < N) : both t S (fX8_lasting N [.ref 0]) (fX9_lasting N [.ref 64]) := by
  have h10 := hW.1.1
  refine both_same hW (f_last S.R S.R.nb 0 1000000) (fun M hM => ?_) (fun M hM => ?_)
  · rw [eX8_lasting, e_rI, show 0 + 1 = 1 from rfl, eX3_chanceOfYear _ _ (by omega)]
    exact l_last8 hM.1 hW.1 _ _ 0 _ (by omega) (by omega)
  · rw [eX9_lasting]
    exact l_last9 hM.1 hW.1 _ _ 0 _ (by omega) (by omega)
