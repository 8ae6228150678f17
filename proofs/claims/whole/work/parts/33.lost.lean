def lof (o : Option (List Nat)) : Nat := match o with | some l => l.length | none => 0
def eof (o : Option (List Nat)) (i : Nat) : Int := match o with | some [b] => b | some (x :: y :: _) => if i = 0 then x else y | _ => 0
theorem okf_c {o : Option (List Nat)} (h : okf o) (hn : o ≠ none) : 0 ≤ cst o ∧ cst o < 1024 ∧ (∃ s : Nat, cst o = s ∧ s < 1024 ∧ pop s = lof o ∧ ∀ i, i < lof o → mbf s 10 0 i = eof o i) := by
  rcases h with rfl | rfl | ⟨b, hb, rfl⟩ | ⟨x, y, hxy, hy, rfl⟩
  · exact absurd rfl hn
  · exact ⟨by decide, by decide, 0, rfl, by decide, by decide, fun i hi => absurd hi (by show ¬ i < 0; omega)⟩
  · obtain ⟨p1, p2⟩ := pop_1 b hb
    refine ⟨Int.natCast_nonneg _, by show ((ors 0 [b] : Nat) : Int) < 1024; omega, ors 0 [b], rfl, p2, p1, fun i hi => ?_⟩
    have hi : i < 1 := hi
    obtain rfl : i = 0 := by omega
    exact mbf_1 b hb
  · obtain ⟨p1, p2⟩ := pop_2 y hy x hxy
    obtain ⟨q1, q2⟩ := mbf_2 y hy x hxy
    refine ⟨Int.natCast_nonneg _, by show ((ors 0 [x, y] : Nat) : Int) < 1024; omega, ors 0 [x, y], rfl, p2, p1, fun i hi => ?_⟩
    have hi : i < 2 := hi
    rcases (show i = 0 ∨ i = 1 by omega) with rfl | rfl
    · exact q1
    · exact q2
theorem okf_m {o : Option (List Nat)} (h : okf o) (hn : o ≠ none) : 0 ≤ cod o ∧ cod o < 30000 ∧ (cod o).tdiv 10000 = lof o ∧ ∀ i, i < lof o → (if i = 0 then (cod o).tdiv 100 - ((cod o).tdiv 100).tdiv 100 * 100 else cod o - (cod o).tdiv 100 * 100) = eof o i := by
  rcases h with rfl | rfl | ⟨b, hb, rfl⟩ | ⟨x, y, hxy, hy, rfl⟩
  · exact absurd rfl hn
  · exact ⟨by decide, by decide, rfl, fun i hi => absurd hi (by show ¬ i < 0; omega)⟩
  · have e : cod (some [b]) = 10000 + 100 * (b : Int) := rfl
    have l : lof (some [b]) = 1 := rfl
    rw [e, l, Int.tdiv_eq_ediv_of_nonneg (by omega), Int.tdiv_eq_ediv_of_nonneg (by omega), Int.tdiv_eq_ediv_of_nonneg (by omega)]
    refine ⟨by omega, by omega, by omega, fun i hi => ?_⟩
    obtain rfl : i = 0 := by omega
    rw [if_pos rfl]
    show _ = (b : Int)
    omega
  · have e : cod (some [x, y]) = 20000 + 100 * (x : Int) + y := rfl
    have l : lof (some [x, y]) = 2 := rfl
    rw [e, l, Int.tdiv_eq_ediv_of_nonneg (by omega), Int.tdiv_eq_ediv_of_nonneg (by omega), Int.tdiv_eq_ediv_of_nonneg (by omega)]
    refine ⟨by omega, by omega, by omega, fun i hi => ?_⟩
    rcases (show i = 0 ∨ i = 1 by omega) with rfl | rfl
    · rw [if_pos rfl]
      show _ = (if 0 = 0 then (x : Int) else y)
      rw [if_pos rfl]
      omega
    · rw [if_neg (by omega)]
      show _ = (if 1 = 0 then (x : Int) else y)
      rw [if_neg (by omega)]
      omega
theorem okf_l {o : Option (List Nat)} (h : okf o) : lof o ≤ 2 := by
  rcases h with rfl | rfl | ⟨b, hb, rfl⟩ | ⟨x, y, hxy, hy, rfl⟩
  · show 0 ≤ 2; omega
  · show 0 ≤ 2; omega
  · show 1 ≤ 2; omega
  · show 2 ≤ 2; omega
set_option maxRecDepth 100000 in
theorem op_lost {t : Nat} {S : SV} (hW : WfS S) {N : Nat} (hN : big N) (a b : Int32) : both t S (fX8_lost N [.ref 0, .int a, .int b]) (fX9_lost N [.ref 64, .int a, .int b]) := by
  obtain ⟨i, hi, rfl⟩ := i_ex b
  have hN' := hN
  unfold big at hN'
  have h8 := hW.1.2.2.1
  have hm1 : xeq (Int32.ofInt (-1)) (Int32.ofInt (-1)) = true := by decide +kernel
  have hd1 : xeq (Int32.ofInt 10000) 0 = false := by decide +kernel
  have hd2 : xeq (Int32.ofInt 100) 0 = false := by decide +kernel
  cases h1 : xin a S.R.nn with
  | false =>
    refine both_ref' hW 0 (by omega) N (fun M hM => ?_) (fun M hM => ?_)
    · rw [eX8_lost, show 0 + 1 = 1 from rfl, v_hasNeed (by omega) hM.1.2.2.1 (by omega), e_bd, b_z, h1]; rfl
    · rw [eX9_lost, v_isNeed hM.1.2.1 (by omega), e_bd, b_z, h1]; rfl
  | true =>
    obtain ⟨k, hk, rfl⟩ := xin_ex (by omega) h1
    have hnd := hW.1.2.2.2.2 k hk
    by_cases h2 : i < -1
    · refine both_ref' hW 0 (by omega) N (fun M hM => ?_) (fun M hM => ?_)
      · rw [eX8_lost, show 0 + 1 = 1 from rfl, v_hasNeed (by omega) hM.1.2.2.1 (by omega), e_bd, b_z, h1, cond_true, i_lt hi (by omega), decide_eq_true h2]; rfl
      · rw [eX9_lost, v_isNeed hM.1.2.1 (by omega), e_bd, b_z, h1, cond_true, i_lt hi (by omega), decide_eq_true h2]; rfl
    · have cls : ∀ M, CX t S M → ∃ M', fX8_lost N [.ref 0, .int (Int32.ofInt k), .int (Int32.ofInt i)] M = (bif decide (cst (f_few S.R (S.R.nd k)) = -1) then (bif decide (i = -1) then (xrI (some (.int (Int32.ofInt (-1)))) M') else ((fX8_refuse N [.ref 0, .int (Int32.ofInt (-5))] M').bind fun q3 => xrI (some (.int q3.1)) q3.2)) else ((fJ6_bitCount_0f7a4 N [.int (Int32.ofInt (cst (f_few S.R (S.R.nd k))))] M').bind fun q3 => bif decide (i = -1) then (xrI (some (.int q3.1)) q3.2) else (bif xlt (Int32.ofInt i) q3.1 then ((fX8_memberOf N [.int (Int32.ofInt (cst (f_few S.R (S.R.nd k)))), .int (Int32.ofInt i)] q3.2).bind fun q4 => xrI (some (.int q4.1)) q4.2) else ((fX8_refuse N [.ref 0, .int (Int32.ofInt (-5))] q3.2).bind fun q4 => xrI (some (.int q4.1)) q4.2)))) ∧ CX t S M' ∧ fr 0 64 M M' := by
        intro M hM
        obtain ⟨M', a1, a2, a3, a4⟩ := v_now hN hW hM
        refine ⟨M', ?_, a2, a4⟩
        have hcs : rg (cst (f_few S.R (S.R.nd k))) := by
          by_cases e : f_few S.R (S.R.nd k) = none
          · rw [e]
            show rg (-1)
            omega
          · have := okf_c (f_few_ok hW.1 _) e
            omega
        rw [eX8_lost, show 0 + 1 = 1 from rfl, v_hasNeed (by omega) hM.1.2.2.1 (by omega), e_bd, b_z, h1, cond_true, i_lt hi (by omega), decide_eq_false h2, cond_false, a1, e_bd, i_inn (by omega), show xlen M' (1 + 6) = 8 from rfl, decide_eq_true (by omega), cond_true, i_natn (by omega), show 1 + 6 = 7 from rfl, a2.1.2.2.2.2.2.2 k hk, show 0 + 31 = 31 from rfl, v_few8 hN hW.1 a2.1 a3 (by omega), e_bd]
        dsimp only
        rw [i_eq hcs (by omega), i_eq hi (by omega), cond_false]
      have mdl : ∀ M, CM S M → ∃ M', fX9_lost N [.ref 64, .int (Int32.ofInt k), .int (Int32.ofInt i)] M = (bif decide (i = -1) then (bif decide (cod (f_few S.R (S.R.nd k)) = -1) then (xrI (some (.int (Int32.ofInt (-1)))) M') else xrI (some (.int (Int32.ofInt (cod (f_few S.R (S.R.nd k))) / Int32.ofInt 10000))) M') else (bif decide (cod (f_few S.R (S.R.nd k)) = -1) then ((fX9_no N [.ref 64, .int (Int32.ofInt (-5))] M').bind fun q2 => xrI (some (.int q2.1)) q2.2) else (bif xlt (Int32.ofInt i) (Int32.ofInt (cod (f_few S.R (S.R.nd k))) / Int32.ofInt 10000) then (bif xeq (Int32.ofInt i) (0 : Int32) then (xrI (some (.int ((Int32.ofInt (cod (f_few S.R (S.R.nd k))) / Int32.ofInt 100) - (Int32.ofInt (cod (f_few S.R (S.R.nd k))) / Int32.ofInt 100) / Int32.ofInt 100 * Int32.ofInt 100))) M') else (xrI (some (.int (Int32.ofInt (cod (f_few S.R (S.R.nd k))) - Int32.ofInt (cod (f_few S.R (S.R.nd k))) / Int32.ofInt 100 * Int32.ofInt 100))) M')) else ((fX9_no N [.ref 64, .int (Int32.ofInt (-5))] M').bind fun q2 => xrI (some (.int q2.1)) q2.2)))) ∧ f8 M M' := by
        intro M hM
        obtain ⟨M', b1, b2⟩ := v_few9 hN hW.1 hk hM.1 hM.2.2.2.2.2.2.2.1
        refine ⟨M', ?_, b2⟩
        have hcs : rg (cod (f_few S.R (S.R.nd k))) := by
          by_cases e : f_few S.R (S.R.nd k) = none
          · rw [e]
            show rg (-1)
            omega
          · have := okf_m (f_few_ok hW.1 _) e
            omega
        rw [eX9_lost, v_isNeed hM.1.2.1 (by omega), e_bd, b_z, h1, cond_true, i_lt hi (by omega), decide_eq_false h2, cond_false]
        dsimp only
        rw [b1, e_bd]
        dsimp only
        rw [hd1, hd2]
        simp only [cond_false]
        rw [i_eq hcs (by omega), i_eq hi (by omega)]
      by_cases hn : f_few S.R (S.R.nd k) = none
      · have hcst : cst (f_few S.R (S.R.nd k)) = -1 := by rw [hn]; rfl
        have hcod : cod (f_few S.R (S.R.nd k)) = -1 := by rw [hn]; rfl
        by_cases h4 : i = -1
        · refine both_v hW (Int32.ofInt (-1)) (fun M hM => ?_) (fun M hM => ?_)
          · obtain ⟨M', g1, g2, g3⟩ := cls M hM
            exact ⟨M', by rw [g1, decide_eq_true hcst, decide_eq_true h4]; rfl, g2, g3⟩
          · obtain ⟨M', g1, g2⟩ := mdl M hM
            exact ⟨M', by rw [g1, decide_eq_true hcod, decide_eq_true h4]; rfl, g2⟩
        · refine both_refx hW 3 (by omega) N (fun M hM => ?_) (fun M hM => ?_)
          · obtain ⟨M', g1, g2, g3⟩ := cls M hM
            exact ⟨M', by rw [g1, decide_eq_true hcst, decide_eq_false h4]; rfl, g2, g3⟩
          · obtain ⟨M', g1, g2⟩ := mdl M hM
            exact ⟨M', by rw [g1, decide_eq_true hcod, decide_eq_false h4]; rfl, g2⟩
      · obtain ⟨c1, c2, s, c3, c4, c5, c6⟩ := okf_c (f_few_ok hW.1 _) hn
        obtain ⟨m1, m2, m3, m4⟩ := okf_m (f_few_ok hW.1 _) hn
        have hL := okf_l (f_few_ok hW.1 (S.R.nd k))
        have ncs : ¬ cst (f_few S.R (S.R.nd k)) = -1 := by omega
        have ncm : ¬ cod (f_few S.R (S.R.nd k)) = -1 := by omega
        have dv : Int32.ofInt (cod (f_few S.R (S.R.nd k))) / Int32.ofInt 10000 = Int32.ofInt (lof (f_few S.R (S.R.nd k))) := by rw [i_div (by omega) (by omega), m3]
        by_cases h4 : i = -1
        · refine both_v hW (Int32.ofInt (lof (f_few S.R (S.R.nd k)))) (fun M hM => ?_) (fun M hM => ?_)
          · obtain ⟨M', g1, g2, g3⟩ := cls M hM
            refine ⟨M', ?_, g2, g3⟩
            rw [g1, decide_eq_false ncs, cond_false, c3, v_pop N c4, e_bd, decide_eq_true h4, c5]
            rfl
          · obtain ⟨M', g1, g2⟩ := mdl M hM
            refine ⟨M', ?_, g2⟩
            rw [g1, decide_eq_true h4, decide_eq_false ncm, dv]
            rfl
        · obtain ⟨i, rfl⟩ := Int.eq_ofNat_of_zero_le (show 0 ≤ i by omega)
          by_cases h5 : i < lof (f_few S.R (S.R.nd k))
          · refine both_v hW (Int32.ofInt (eof (f_few S.R (S.R.nd k)) i)) (fun M hM => ?_) (fun M hM => ?_)
            · obtain ⟨M', g1, g2, g3⟩ := cls M hM
              refine ⟨M', ?_, g2, g3⟩
              have hmb := l_memb (N := N) c4 (M := M') 10 0 N i (by omega) (by omega) (by omega)
              have hmb : gX8_memberOf N N 4 [.int (Int32.ofInt s), .retAddr 0, .int (Int32.ofInt i), .int (Int32.ofInt 0)] [] M' = _ := hmb
              rw [g1, decide_eq_false ncs, cond_false, c3, v_pop N c4, e_bd, decide_eq_false h4, cond_false, c5]
              dsimp only
              rw [i_lt (by omega) (by omega), decide_eq_true (by omega), cond_true, eX8_memberOf, hmb, c6 i h5]
              rfl
            · obtain ⟨M', g1, g2⟩ := mdl M hM
              refine ⟨M', ?_, g2⟩
              have h100 : 0 ≤ (cod (f_few S.R (S.R.nd k))).tdiv 100 ∧ (cod (f_few S.R (S.R.nd k))).tdiv 100 < 300 := by
                rw [Int.tdiv_eq_ediv_of_nonneg m1]
                omega
              rw [g1, decide_eq_false h4, decide_eq_false ncm, cond_false, cond_false, dv, i_lt (by omega) (by omega), decide_eq_true (by omega), cond_true, show (0 : Int32) = Int32.ofInt 0 from rfl, i_eq (by omega) (by omega), i_div (by omega) (by omega), i_div (by omega) (by omega), i_mul, i_sub, i_mul, i_sub, ← m4 i h5]
              by_cases e : i = 0
              · rw [if_pos e, decide_eq_true (by omega)]; rfl
              · rw [if_neg e, decide_eq_false (by omega)]; rfl
          · refine both_refx hW 3 (by omega) N (fun M hM => ?_) (fun M hM => ?_)
            · obtain ⟨M', g1, g2, g3⟩ := cls M hM
              refine ⟨M', ?_, g2, g3⟩
              rw [g1, decide_eq_false ncs, cond_false, c3, v_pop N c4, e_bd, decide_eq_false h4, cond_false, c5]
              dsimp only
              rw [i_lt (by omega) (by omega), decide_eq_false (by omega)]
              rfl
            · obtain ⟨M', g1, g2⟩ := mdl M hM
              refine ⟨M', ?_, g2⟩
              rw [g1, decide_eq_false h4, decide_eq_false ncm, cond_false, cond_false, dv, i_lt (by omega) (by omega), decide_eq_false (by omega)]
              rfl
