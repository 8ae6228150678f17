theorem xin_of {v : Int} {n : Nat} (hv : rg v) (h : 0 ≤ v ∧ v < n) : xin (Int32.ofInt v) n = true := by rw [i_in hv, decide_eq_true h.1, decide_eq_true h.2] <;> rfl
theorem xin_no {v : Int} {n : Nat} (hv : rg v) (h : ¬ (0 ≤ v ∧ v < n)) : xin (Int32.ofInt v) n = false := by
  rw [i_in hv, ← Bool.decide_and]
  exact decide_eq_false h
set_option maxRecDepth 100000 in
theorem b_two {N tz : Nat} (hN : big N) (htz : tz ≤ 250) (tb : Nat → Nat) {R : RV} (hW : Wf R) (is : Int32) {f e : Nat} (he : e ≤ tz) : sres tz tb R f e (fX6_readFeud N [.ref 44, .ref 15, .int is]) (fX9_two N [.ref 64, .int is]) := by
  have h10 := hW.1
  obtain ⟨v1, f1, e1, r1, i1, j1, k1, c1, m1⟩ := b_num hN htz tb he
  obtain ⟨v2, f2, e2, r2, i2, j2, k2, c2, m2⟩ := b_num hN htz tb k1
  have g1 : rg v1 := by omega
  have g2 : rg v2 := by omega
  by_cases h1 : 0 ≤ v1 ∧ v1 < R.nb
  · have d1 := xin_of g1 h1
    by_cases h2 : 0 ≤ v2 ∧ v2 < R.nb
    · have d2 := xin_of g2 h2
      by_cases h3 : v2 = v1
      · refine sres_no hW (show e ≤ e2 by omega) j2 k2 (fun M hR hT p3 p4 => ?_) (fun M hR hT p3 p4 => ?_)
        · obtain ⟨M1, a1, a2, a3, a4⟩ := c1 M hT p4
          obtain ⟨M2, b1, b2, b3, b4⟩ := c2 M1 (hT.ft a2) a4
          refine ⟨M2, ?_, a2.tr b2, b3, b4⟩
          rw [eX6_readFeud _ _ _ (.inr (.inr rfl)), a1, e_bd, v_has (.inr (.inr rfl)) (cv_ft hR a2).1 (by omega), e_bd, b_z, d1, cond_true, b1, e_bd, v_has (.inr (.inr rfl)) (cv_ft (cv_ft hR a2) b2).1 (by omega), e_bd, b_z, d2, cond_true, i_eq g2 g1, decide_eq_true h3, cond_true]
          all_goals rfl
        · obtain ⟨M1, a1, a2, a3, a4⟩ := m1 (R.nb - 1) M (by omega) hT p4
          obtain ⟨M2, b1, b2, b3, b4⟩ := m2 (R.nb - 1) M1 (by omega) (hT.fm a2) a4
          refine ⟨M2, ?_, a2.tr b2, b3, b4⟩
          rw [nlim_in (by omega)] at a1
          rw [nlim_in (by omega)] at b1
          rw [eX9_two, hR.1, i_sub, a1, e_bd, x_nm1 (by omega), cond_false]
          dsimp only
          rw [(mv_fm hR a2).1, i_sub, b1, e_bd, x_nm1 (by omega), cond_false]
          dsimp only
          rw [i_eq g1 g2, decide_eq_true h3.symm, cond_true]
          all_goals rfl
      · obtain ⟨x, rfl⟩ := Int.eq_ofNat_of_zero_le h1.1
        obtain ⟨y, rfl⟩ := Int.eq_ofNat_of_zero_le h2.1
        have hx : x < R.nb := by omega
        have hy : y < R.nb := by omega
        have hxy : x ≠ y := by omega
        refine ⟨true, R.sfd (fset R.fd x y (!xeq is 0)), f2, e2, wf_fd hW hx hy hxy _, Nat.le_refl _, by omega, j2, k2, fun M hR hT p3 p4 => ?_, fun M hR hT p3 p4 => ?_⟩
        · obtain ⟨M1, a1, a2, a3, a4⟩ := c1 M hT p4
          obtain ⟨M2, b1, b2, b3, b4⟩ := c2 M1 (hT.ft a2) a4
          have hR2 := cv_ft (cv_ft hR a2) b2
          refine ⟨_, ?_, cv_fset hR2 (!xeq is 0), q8_tr (q8_ft (a2.tr b2)) (q8_fr ((fr.rf.wi (by omega) (by omega)).wi (by omega) (by omega))), by rw [m_ne _ (by omega), m_ne _ (by omega)]; exact b3, by rw [m_ne _ (by omega), m_ne _ (by omega)]; exact b4⟩
          rw [eX6_readFeud _ _ _ (.inr (.inr rfl)), a1, e_bd, v_has (.inr (.inr rfl)) (cv_ft hR a2).1 (by omega), e_bd, b_z, d1, cond_true, b1, e_bd, v_has (.inr (.inr rfl)) hR2.1 (by omega), e_bd, b_z, d2, cond_true, i_eq g2 g1, decide_eq_false h3, cond_false]
          dsimp only
          rw [v_setFeud (.inr (.inr rfl)) hR2 hW hx hy hxy, e_bd]
          all_goals rfl
        · obtain ⟨M1, a1, a2, a3, a4⟩ := m1 (R.nb - 1) M (by omega) hT p4
          obtain ⟨M2, b1, b2, b3, b4⟩ := m2 (R.nb - 1) M1 (by omega) (hT.fm a2) a4
          have hR2 := mv_fm (mv_fm hR a2) b2
          refine ⟨_, ?_, mv_fset hR2 (!xeq is 0), q9_tr (q9_fm (a2.tr b2)) (q9_tr (q9_w (by omega)) (q9_w (by omega))), by rw [m_ne _ (by omega), m_ne _ (by omega)]; exact b3, by rw [m_ne _ (by omega), m_ne _ (by omega)]; exact b4⟩
          rw [nlim_in (by omega)] at a1
          rw [nlim_in (by omega)] at b1
          rw [eX9_two, hR.1, i_sub, a1, e_bd, x_nm1 (by omega), cond_false]
          dsimp only
          rw [(mv_fm hR a2).1, i_sub, b1, e_bd, x_nm1 (by omega), cond_false]
          dsimp only
          rw [i_eq g1 g2, decide_eq_false (by omega), cond_false, v_feudBe hR2 hW hx hy hxy, e_bd]
          all_goals rfl
    · have d2 := xin_no g2 h2
      refine sres_no hW (show e ≤ e2 by omega) j2 k2 (fun M hR hT p3 p4 => ?_) (fun M hR hT p3 p4 => ?_)
      · obtain ⟨M1, a1, a2, a3, a4⟩ := c1 M hT p4
        obtain ⟨M2, b1, b2, b3, b4⟩ := c2 M1 (hT.ft a2) a4
        refine ⟨M2, ?_, a2.tr b2, b3, b4⟩
        rw [eX6_readFeud _ _ _ (.inr (.inr rfl)), a1, e_bd, v_has (.inr (.inr rfl)) (cv_ft hR a2).1 (by omega), e_bd, b_z, d1, cond_true, b1, e_bd, v_has (.inr (.inr rfl)) (cv_ft (cv_ft hR a2) b2).1 (by omega), e_bd, b_z, d2, cond_false]
        all_goals rfl
      · obtain ⟨M1, a1, a2, a3, a4⟩ := m1 (R.nb - 1) M (by omega) hT p4
        obtain ⟨M2, b1, b2, b3, b4⟩ := m2 (R.nb - 1) M1 (by omega) (hT.fm a2) a4
        refine ⟨M2, ?_, a2.tr b2, b3, b4⟩
        rw [nlim_in (by omega)] at a1
        rw [nlim_out (by omega)] at b1
        rw [eX9_two, hR.1, i_sub, a1, e_bd, x_nm1 (by omega), cond_false]
        dsimp only
        rw [(mv_fm hR a2).1, i_sub, b1, e_bd, x_m1, cond_true]
        all_goals rfl
  · have d1 := xin_no g1 h1
    refine sres_no hW i1 j1 k1 (fun M hR hT p3 p4 => ?_) (fun M hR hT p3 p4 => ?_)
    · obtain ⟨M1, a1, a2, a3, a4⟩ := c1 M hT p4
      refine ⟨M1, ?_, a2, a3, a4⟩
      rw [eX6_readFeud _ _ _ (.inr (.inr rfl)), a1, e_bd, v_has (.inr (.inr rfl)) (cv_ft hR a2).1 (by omega), e_bd, b_z, d1, cond_false]
      all_goals rfl
    · obtain ⟨M1, a1, a2, a3, a4⟩ := m1 (R.nb - 1) M (by omega) hT p4
      refine ⟨M1, ?_, a2, a3, a4⟩
      rw [nlim_out (by omega)] at a1
      rw [eX9_two, hR.1, i_sub, a1, e_bd]
      dsimp only
      rw [x_m1, cond_true, cond_true]
      all_goals rfl
set_option maxRecDepth 100000 in
theorem b_need {N tz : Nat} (hN : big N) (htz : tz ≤ 250) (tb : Nat → Nat) {R : RV} (hW : Wf R) (ls : Bool) {f e : Nat} (hf : f ≤ tz) (he : e ≤ tz) : sres tz tb R f e (fX6_readNeed N [.ref 44, .ref 15, .int (Int32.ofInt (bif ls then -1 else 1))]) (fun M => gX9_statement N N 130 [.ref 64, .retAddr 0, .retAddr 0, .int (bi ls)] [] M) := by
  obtain ⟨n, hNn⟩ : ∃ n, N = n + 1 := ⟨N - 1, by unfold big at hN; omega⟩
  have s130 : ∀ M, gX9_statement N N 130 [.ref 64, .retAddr 0, .retAddr 0, .int (bi ls)] [] M = (bif xeq (M.1 64 7) (Int32.ofInt 8) then (xrZ (some (.int (Int32.ofInt 0))) M) else ((fX9_number N [.ref 64, .int (Int32.ofInt 0), .int (Int32.ofInt 999)] M).bind fun q0 => bif xeq q0.1 (Int32.ofInt (-1)) then (xrZ (some (.int (Int32.ofInt 0))) q0.2) else (bif xeq (bi ls) (0 : Int32) then ((fX9_newNeed N [.ref 64, .int q0.1] q0.2).bind fun q1 => xrZ (some (.int (Int32.ofInt 1))) q1.2) else ((fX9_newNeed N [.ref 64, .int (-q0.1)] q0.2).bind fun q1 => xrZ (some (.int (Int32.ofInt 1))) q1.2)))) := by
    subst hNn
    exact fun M => eX9_statement_130 _ n (bi ls) M
  have h8 := hW.2.2.1
  by_cases hn : R.nn < 8
  · obtain ⟨v, f1, e1, r1, i1, j1, k1, c1, m1⟩ := b_num hN htz tb he
    have g1 : rg v := by omega
    by_cases h1 : 0 ≤ v
    · have hz : -999 ≤ (bif ls then -v else v) ∧ (bif ls then -v else v) ≤ 999 := by cases ls <;> simp only [cond_true, cond_false] <;> omega
      refine ⟨true, R.snd_ (R.nn + 1) (upn R.nd R.nn (bif ls then -v else v)), f1, e1, wf_need hW hn hz, Nat.le_refl _, i1, j1, k1, fun M hR hT p3 p4 => ?_, fun M hR hT p3 p4 => ?_⟩
      · obtain ⟨M1, a1, a2, a3, a4⟩ := c1 M hT p4
        have hR1 := cv_ft hR a2
        refine ⟨_, ?_, cv_need hR1 (z := bif ls then -v else v), q8_tr (q8_ft a2) (q8_fr ((fr.rf.wi (by omega) (by omega)).wi (by omega) (by omega))), by rw [m_ne _ (by omega), m_ne _ (by omega)]; exact a3, by rw [m_ne _ (by omega), m_ne _ (by omega)]; exact a4⟩
        have hm : Int32.ofInt (bif ls then -1 else 1) * Int32.ofInt v = Int32.ofInt (bif ls then -v else v) := by
          rw [i_mul]
          cases ls with
          | true => rw [cond_true, cond_true, show (-1 : Int) * v = -v by omega]
          | false => rw [cond_false, cond_false, show (1 : Int) * v = v by omega]
        rw [eX6_readNeed _ _ _ (.inr (.inr rfl)), v_hasNeedRoom (.inr (.inr rfl)) hR h8, e_bd, b_z, decide_eq_true hn, cond_true, a1, e_bd, x_nm1 (by omega), cond_false]
        dsimp only
        rw [hm, v_addNeed (.inr (.inr rfl)) hR1 hn, e_bd]
        all_goals rfl
      · obtain ⟨M1, a1, a2, a3, a4⟩ := m1 999 M (by omega) hT p4
        have hR1 := mv_fm hR a2
        rw [nlim_in (by omega)] at a1
        refine ⟨_, ?_, mv_need hR1 (z := bif ls then -v else v), q9_tr (q9_fm a2) (q9_tr (q9_w (by omega)) (q9_w (by omega))), by rw [m_ne _ (by omega), m_ne _ (by omega)]; exact a3, by rw [m_ne _ (by omega), m_ne _ (by omega)]; exact a4⟩
        show gX9_statement N N 130 [.ref 64, .retAddr 0, .retAddr 0, .int (bi ls)] [] M = _
        rw [s130, hR.2.1, i_eq (by omega) (by omega), decide_eq_false (by omega), cond_false, a1, e_bd, x_nm1 (by omega), cond_false]
        dsimp only
        rw [b_z]
        cases ls with
        | true =>
          rw [cond_true, cond_true, i_neg, v_newNeed hR1 hn, e_bd]
          all_goals rfl
        | false =>
          rw [cond_false, cond_false, v_newNeed hR1 hn, e_bd]
          all_goals rfl
    · obtain rfl : v = -1 := by omega
      refine sres_no hW i1 j1 k1 (fun M hR hT p3 p4 => ?_) (fun M hR hT p3 p4 => ?_)
      · obtain ⟨M1, a1, a2, a3, a4⟩ := c1 M hT p4
        refine ⟨M1, ?_, a2, a3, a4⟩
        rw [eX6_readNeed _ _ _ (.inr (.inr rfl)), v_hasNeedRoom (.inr (.inr rfl)) hR h8, e_bd, b_z, decide_eq_true hn, cond_true, a1, e_bd, x_m1, cond_true]
        all_goals rfl
      · obtain ⟨M1, a1, a2, a3, a4⟩ := m1 999 M (by omega) hT p4
        refine ⟨M1, ?_, a2, a3, a4⟩
        rw [nlim_out (by omega)] at a1
        show gX9_statement N N 130 [.ref 64, .retAddr 0, .retAddr 0, .int (bi ls)] [] M = _
        rw [s130, hR.2.1, i_eq (by omega) (by omega), decide_eq_false (by omega), cond_false, a1, e_bd, x_m1, cond_true]
        all_goals rfl
  · refine sres_no hW (Nat.le_refl e) hf he (fun M hR hT p3 p4 => ⟨M, ?_, ft.rf, p3, p4⟩) (fun M hR hT p3 p4 => ⟨M, ?_, fm.rf, p3, p4⟩)
    · rw [eX6_readNeed _ _ _ (.inr (.inr rfl)), v_hasNeedRoom (.inr (.inr rfl)) hR h8, e_bd, b_z, decide_eq_false hn, cond_false]
      all_goals rfl
    · show gX9_statement N N 130 [.ref 64, .retAddr 0, .retAddr 0, .int (bi ls)] [] M = _
      rw [s130, hR.2.1, i_eq (by omega) (by omega), decide_eq_true (by omega), cond_true]
      all_goals rfl
theorem wfr_ag {R : RV} (h : Wf R) {b v : Nat} (hv : v ≤ 99) : Wf (R.sag (upn R.ag b v)) := by
  obtain ⟨h1, h2, h3, h4, h5⟩ := h
  refine ⟨h1, h2, h3, fun c hc => ?_, h5⟩
  obtain ⟨a1, a2, a3, a4, a5⟩ := h4 c hc
  refine ⟨a1, a2, a3, ?_, a5⟩
  show upn R.ag b v c ≤ 99
  rw [upn_at]
  split
  · exact hv
  · exact a4
def gage (N : Nat) (M : XM) : Option (Int32 × XM) := (fX9_number N [.ref 64, .int (Int32.ofInt 0), .int ((M.1 64 0) - (Int32.ofInt 1))] M).bind fun q6 => bif xeq q6.1 (Int32.ofInt (-1)) then (gX9_statement N N 211 [.ref 64, .int q6.1, .retAddr 0, .retAddr 0] [.int (Int32.ofInt (-1))] q6.2) else ((fX9_number N [.ref 64, .int (Int32.ofInt 0), .int (Int32.ofInt 99)] q6.2).bind fun q7 => gX9_statement N N 211 [.ref 64, .int q6.1, .retAddr 0, .retAddr 0] [.int q7.1] q7.2)
theorem v_isAge2 {N : Nat} {z : Int} {M : XM} (hz : rg z) : fX3_isAge N [.int (Int32.ofInt z)] M = some (bi (decide (0 ≤ z ∧ z ≤ 99)), M) := by
  rw [v_isAge, i_lt hz (by omega), i_lt (by omega) hz, show (!decide (z < 0) && !decide (99 < z)) = decide (0 ≤ z ∧ z ≤ 99) by
    rw [← decide_not, ← decide_not, ← Bool.decide_and]
    exact decide_eq_decide.mpr (by omega)]
set_option maxRecDepth 100000 in
theorem b_age {N tz : Nat} (hN : big N) (htz : tz ≤ 250) (tb : Nat → Nat) {R : RV} (hW : Wf R) {f e : Nat} (he : e ≤ tz) : sres tz tb R f e (fX6_readAge N [.ref 44, .ref 15]) (gage N) := by
  have hNb : 0 < N := by unfold big at hN; omega
  have h10 := hW.1
  obtain ⟨v1, f1, e1, r1, i1, j1, k1, c1, m1⟩ := b_num hN htz tb he
  obtain ⟨v2, f2, e2, r2, i2, j2, k2, c2, m2⟩ := b_num hN htz tb k1
  have g1 : rg v1 := by omega
  have g2 : rg v2 := by omega
  by_cases h1 : 0 ≤ v1 ∧ v1 < R.nb
  · have d1 := xin_of g1 h1
    by_cases h2 : 0 ≤ v2 ∧ v2 ≤ 99
    · obtain ⟨x, rfl⟩ := Int.eq_ofNat_of_zero_le h1.1
      obtain ⟨y, rfl⟩ := Int.eq_ofNat_of_zero_le h2.1
      refine ⟨true, R.sag (upn R.ag x y), f2, e2, wfr_ag hW (by omega), Nat.le_refl _, by omega, j2, k2, fun M hR hT p3 p4 => ?_, fun M hR hT p3 p4 => ?_⟩
      · obtain ⟨M1, a1, a2, a3, a4⟩ := c1 M hT p4
        obtain ⟨M2, b1, b2, b3, b4⟩ := c2 M1 (hT.ft a2) a4
        have hR2 := cv_ft (cv_ft hR a2) b2
        refine ⟨_, ?_, cv_ag hR2 (b := x) (v := y), q8_tr (q8_ft (a2.tr b2)) (q8_fr (fr.rf.wi (by omega) (by omega))), by rw [m_ne _ (by omega)]; exact b3, by rw [m_ne _ (by omega)]; exact b4⟩
        rw [eX6_readAge _ _ (.inr (.inr rfl)), a1, e_bd, v_has (.inr (.inr rfl)) (cv_ft hR a2).1 (by omega), e_bd, b_z, d1, cond_true, b1, e_bd, v_isAge2 g2, e_bd, b_z, decide_eq_true h2, cond_true]
        dsimp only
        rw [i_inn (by omega), show xlen M2 (15 + 4) = 16 from rfl, decide_eq_true (by omega), cond_true, i_natn (by omega)]
        all_goals rfl
      · obtain ⟨M1, a1, a2, a3, a4⟩ := m1 (R.nb - 1) M (by omega) hT p4
        obtain ⟨M2, b1, b2, b3, b4⟩ := m2 99 M1 (by omega) (hT.fm a2) a4
        have hR2 := mv_fm (mv_fm hR a2) b2
        refine ⟨_, ?_, mv_ag hR2 (b := x) (v := y), q9_tr (q9_fm (a2.tr b2)) (q9_w (by omega)), by rw [m_ne _ (by omega)]; exact b3, by rw [m_ne _ (by omega)]; exact b4⟩
        rw [nlim_in (by omega)] at a1
        rw [nlim_in (by omega)] at b1
        rw [gage, hR.1, i_sub, a1, e_bd, x_nm1 (by omega), cond_false, b1, e_bd]
        dsimp only
        rw [s211b hNb (by omega) _ (x_nm1 (by omega))]
        all_goals rfl
    · refine sres_no hW (show e ≤ e2 by omega) j2 k2 (fun M hR hT p3 p4 => ?_) (fun M hR hT p3 p4 => ?_)
      · obtain ⟨M1, a1, a2, a3, a4⟩ := c1 M hT p4
        obtain ⟨M2, b1, b2, b3, b4⟩ := c2 M1 (hT.ft a2) a4
        refine ⟨M2, ?_, a2.tr b2, b3, b4⟩
        rw [eX6_readAge _ _ (.inr (.inr rfl)), a1, e_bd, v_has (.inr (.inr rfl)) (cv_ft hR a2).1 (by omega), e_bd, b_z, d1, cond_true, b1, e_bd, v_isAge2 g2, e_bd, b_z, decide_eq_false h2, cond_false]
        all_goals rfl
      · obtain ⟨M1, a1, a2, a3, a4⟩ := m1 (R.nb - 1) M (by omega) hT p4
        obtain ⟨M2, b1, b2, b3, b4⟩ := m2 99 M1 (by omega) (hT.fm a2) a4
        refine ⟨M2, ?_, a2.tr b2, b3, b4⟩
        rw [nlim_in (by omega)] at a1
        rw [nlim_out h2] at b1
        rw [gage, hR.1, i_sub, a1, e_bd, x_nm1 (by omega), cond_false, b1, e_bd]
        exact s211a hNb _ _
  · have d1 := xin_no g1 h1
    refine sres_no hW i1 j1 k1 (fun M hR hT p3 p4 => ?_) (fun M hR hT p3 p4 => ?_)
    · obtain ⟨M1, a1, a2, a3, a4⟩ := c1 M hT p4
      refine ⟨M1, ?_, a2, a3, a4⟩
      rw [eX6_readAge _ _ (.inr (.inr rfl)), a1, e_bd, v_has (.inr (.inr rfl)) (cv_ft hR a2).1 (by omega), e_bd, b_z, d1, cond_false]
      all_goals rfl
    · obtain ⟨M1, a1, a2, a3, a4⟩ := m1 (R.nb - 1) M (by omega) hT p4
      refine ⟨M1, ?_, a2, a3, a4⟩
      rw [nlim_out (by omega)] at a1
      rw [gage, hR.1, i_sub, a1, e_bd, x_m1, cond_true]
      exact s211a hNb _ _
def gdie (N : Nat) (M : XM) : Option (Int32 × XM) := (fX9_number N [.ref 64, .int (Int32.ofInt 0), .int ((M.1 64 0) - (Int32.ofInt 1))] M).bind fun q7 => bif xeq q7.1 (Int32.ofInt (-1)) then (xrZ (some (.int (Int32.ofInt 0))) q7.2) else (bif xin q7.1 (xlen q7.2 (64 + 6)) then bif xeq (q7.2.1 (64 + 6) q7.1.toNatClampNeg) (0 : Int32) then (xrZ (some (.int (Int32.ofInt 0))) q7.2) else (bif xin q7.1 (xlen q7.2 (64 + 6)) then (bif xisb (Int32.ofInt 0) then xrZ (some (.int (Int32.ofInt 1))) (xwi q7.2 (64 + 6) q7.1.toNatClampNeg (Int32.ofInt 0)) else none) else none) else none)
set_option maxRecDepth 100000 in
theorem b_die {N tz : Nat} (hN : big N) (htz : tz ≤ 250) (tb : Nat → Nat) {R : RV} (hW : Wf R) {f e : Nat} (he : e ≤ tz) : sres tz tb R f e (fX6_readDeath N [.ref 44, .ref 15]) (gdie N) := by
  have h10 := hW.1
  obtain ⟨v1, f1, e1, r1, i1, j1, k1, c1, m1⟩ := b_num hN htz tb he
  have g1 : rg v1 := by omega
  by_cases h1 : 0 ≤ v1 ∧ v1 < R.nb
  · have d1 := xin_of g1 h1
    obtain ⟨x, rfl⟩ := Int.eq_ofNat_of_zero_le h1.1
    have hx : x < R.nb := by omega
    cases h2 : R.lv.testBit x with
    | false =>
      refine sres_no hW i1 j1 k1 (fun M hR hT p3 p4 => ?_) (fun M hR hT p3 p4 => ?_)
      · obtain ⟨M1, a1, a2, a3, a4⟩ := c1 M hT p4
        refine ⟨M1, ?_, a2, a3, a4⟩
        rw [eX6_readDeath _ _ (.inr (.inr rfl)), a1, e_bd, v_isLivingn (.inr (.inr rfl)) (cv_ft hR a2) hW hx, e_bd, b_z, h2, cond_false]
        all_goals rfl
      · obtain ⟨M1, a1, a2, a3, a4⟩ := m1 (R.nb - 1) M (by omega) hT p4
        refine ⟨M1, ?_, a2, a3, a4⟩
        rw [nlim_in (by omega)] at a1
        rw [gdie, hR.1, i_sub, a1, e_bd, x_nm1 (by omega), cond_false]
        dsimp only
        rw [i_inn (by omega), show xlen M1 (64 + 6) = 11 from rfl, decide_eq_true (by omega), cond_true, i_natn (by omega), show 64 + 6 = 70 from rfl, ((mv_fm hR a2).2.2.2.2.1 x hx).2.2.2.2.2, b_z, h2, cond_false]
        all_goals rfl
    | true =>
      refine ⟨true, R.slv (ndiff R.lv (2 ^ x)), f1, e1, ⟨hW.1, ndiff_lt hW.2.1, hW.2.2⟩, Nat.le_refl _, i1, j1, k1, fun M hR hT p3 p4 => ?_, fun M hR hT p3 p4 => ?_⟩
      · obtain ⟨M1, a1, a2, a3, a4⟩ := c1 M hT p4
        have hR1 := cv_ft hR a2
        refine ⟨_, ?_, cv_lv hR1 (v := ndiff R.lv (2 ^ x)), q8_tr (q8_ft a2) (q8_fr (fr.rf.wi (by omega) (by omega))), by rw [m_ne _ (by omega)]; exact a3, by rw [m_ne _ (by omega)]; exact a4⟩
        rw [eX6_readDeath _ _ (.inr (.inr rfl)), a1, e_bd, v_isLivingn (.inr (.inr rfl)) hR1 hW hx, e_bd, b_z, h2, cond_true]
        dsimp only
        rw [eX3_bury _ _ _ (.inr (.inr rfl)), e_V, e_bd, hR1.2.1, i_shl (show x < 31 by omega), i_andn]
        all_goals rfl
      · obtain ⟨M1, a1, a2, a3, a4⟩ := m1 (R.nb - 1) M (by omega) hT p4
        have hR1 := mv_fm hR a2
        rw [nlim_in (by omega)] at a1
        refine ⟨_, ?_, mv_die hR1 (b := x), q9_tr (q9_fm a2) (q9_w (by omega)), by rw [m_ne _ (by omega)]; exact a3, by rw [m_ne _ (by omega)]; exact a4⟩
        rw [gdie, hR.1, i_sub, a1, e_bd, x_nm1 (by omega), cond_false]
        dsimp only
        rw [i_inn (by omega), show xlen M1 (64 + 6) = 11 from rfl, decide_eq_true (by omega), cond_true, i_natn (by omega), show 64 + 6 = 70 from rfl, (hR1.2.2.2.2.1 x hx).2.2.2.2.2, b_z, h2, cond_true, cond_true, i_isb0, cond_true]
        all_goals rfl
  · have d1 := xin_no g1 h1
    refine sres_no hW i1 j1 k1 (fun M hR hT p3 p4 => ?_) (fun M hR hT p3 p4 => ?_)
    · obtain ⟨M1, a1, a2, a3, a4⟩ := c1 M hT p4
      refine ⟨M1, ?_, a2, a3, a4⟩
      rw [eX6_readDeath _ _ (.inr (.inr rfl)), a1, e_bd, v_isLiving (.inr (.inr rfl)) (cv_ft hR a2) hW, e_bd, b_z, d1, Bool.false_and, cond_false]
      all_goals rfl
    · obtain ⟨M1, a1, a2, a3, a4⟩ := m1 (R.nb - 1) M (by omega) hT p4
      refine ⟨M1, ?_, a2, a3, a4⟩
      rw [nlim_out (by omega)] at a1
      rw [gdie, hR.1, i_sub, a1, e_bd, x_m1, cond_true]
      all_goals rfl
