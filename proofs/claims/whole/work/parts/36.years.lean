def nse (s : Int32) : Int32 := s * 1103515245 + Int32.ofInt 12345
def drw (s : Int32) : Int32 := (s.toUInt32 >>> ((Int32.ofInt 16).toUInt32 &&& Int32.toUInt32 31)).toInt32 - (s.toUInt32 >>> ((Int32.ofInt 16).toUInt32 &&& Int32.toUInt32 31)).toInt32 / Int32.ofInt 200 * Int32.ofInt 200
def agd (R : RV) (k : Nat) : RV := (R.sag (upn R.ag k (older R k))).sse (nse R.se)
def yst (R : RV) (k : Nat) : RV := bif R.lv.testBit k then (bif xlt (drw (nse R.se)) (Int32.ofInt (older R k)) then (agd R k).slv (ndiff R.lv (2 ^ k)) else agd R k) else R
def yr : Nat → Nat → RV → RV
  | 0, _, R => R
  | d + 1, k, R => yr d (k + 1) (yst R k)
def yrs : Nat → RV → RV
  | 0, R => R
  | n + 1, R => yrs n (yr R.nb 0 R)
theorem older_b {R : RV} (hW : Wf R) {k : Nat} (hk : k < R.nb) : older R k ≤ 99 := by
  unfold older
  split <;> omega
theorem wf_agd {R : RV} (h : Wf R) {k : Nat} (hk : k < R.nb) : Wf (agd R k) := by
  have ho := older_b h hk
  obtain ⟨h1, h2, h3, h4, h5⟩ := h
  refine ⟨h1, h2, h3, fun c hc => ?_, h5⟩
  obtain ⟨a1, a2, a3, a4, a5⟩ := h4 c hc
  refine ⟨a1, a2, a3, ?_, a5⟩
  show upn R.ag k (older R k) c ≤ 99
  rw [upn_at]
  split
  · exact ho
  · exact a4
theorem wf_slv {R : RV} (h : Wf R) {v : Nat} (hv : v < 2 ^ R.nb) : Wf (R.slv v) := ⟨h.1, hv, h.2.2.1, h.2.2.2.1, h.2.2.2.2⟩
theorem yst_nb (R : RV) (k : Nat) : (yst R k).nb = R.nb := by
  unfold yst
  cases R.lv.testBit k with
  | false => rfl
  | true => cases xlt (drw (nse R.se)) (Int32.ofInt (older R k)) <;> rfl
theorem wf_yst {R : RV} (h : Wf R) {k : Nat} (hk : k < R.nb) : Wf (yst R k) := by
  unfold yst
  cases R.lv.testBit k with
  | false => exact h
  | true =>
    cases xlt (drw (nse R.se)) (Int32.ofInt (older R k)) with
    | false => exact wf_agd h hk
    | true => exact wf_slv (wf_agd h hk) (ndiff_lt h.2.1)
theorem yr_nb : ∀ (d k : Nat) (R : RV), (yr d k R).nb = R.nb
  | 0, _, _ => rfl
  | d + 1, k, R => by rw [yr, yr_nb d, yst_nb]
theorem wf_yr : ∀ (d k : Nat) (R : RV), Wf R → k + d ≤ R.nb → Wf (yr d k R)
  | 0, _, _, h, _ => h
  | d + 1, k, R, h, hk => wf_yr d (k + 1) (yst R k) (wf_yst h (by omega)) (by rw [yst_nb]; omega)
theorem yrs_nb : ∀ (n : Nat) (R : RV), (yrs n R).nb = R.nb
  | 0, _ => rfl
  | n + 1, R => by rw [yrs, yrs_nb n, yr_nb]
theorem wf_yrs : ∀ (n : Nat) (R : RV), Wf R → Wf (yrs n R)
  | 0, _, h => h
  | n + 1, R, h => wf_yrs n _ (wf_yr R.nb 0 R h (by omega))
theorem v_draw8 {N : Nat} {M : XM} {s : Int32} (h : M.1 1 10 = s) : fX3_draw N [.ref 1, .int (Int32.ofInt 200)] M = some (drw (nse s), xwi M 1 10 (nse s)) := by
  rw [eX3_draw _ _ _ (by omega), show xlt 0 (Int32.ofInt 200) = true from rfl, cond_true, show xeq (Int32.ofInt 200) 0 = false by decide +kernel, cond_false, e_I, h]
  simp only [m_wi, and_self, if_true]
  rfl
theorem v_draw9 {N : Nat} {M : XM} {s : Int32} (h : M.1 64 10 = s) : fX9_draw N [.ref 64, .int (Int32.ofInt 200)] M = some (drw (nse s), xwi M 64 10 (nse s)) := by
  rw [eX9_draw, show xeq (Int32.ofInt 200) 0 = false by decide +kernel, cond_false, e_I, h]
  simp only [m_wi, and_self, if_true]
  rfl
theorem l_year8 {N : Nat} : ∀ (d n k : Nat) (R : RV) (M : XM), cv 1 R M → Wf R → k + d = R.nb → d < n → ∃ M', gX3_passYear N n 2 [.ref 1, .int (Int32.ofInt k)] [] M = some M' ∧ cv 1 (yr d k R) M' ∧ fr 1 8 M M'
  | 0, n + 1, k, R, M, hR, hW, hk, _ => by
    have h10 := hW.1
    refine ⟨M, ?_, hR, fr.rf⟩
    rw [eX3_passYear_2 _ _ _ _ (by omega), hR.1, i_lt (by omega) (by omega), decide_eq_false (by omega)]
    rfl
  | d + 1, n + 1, k, R, M, hR, hW, hk, hn => by
    have h10 := hW.1
    have ih := fun R' M' h1 h2 h3 => l_year8 (N := N) d n (k + 1) R' M' h1 h2 h3 (by omega)
    have ho := older_b hW (k := k) (by omega)
    rw [eX3_passYear_2 _ _ _ _ (by omega), hR.1, i_lt (by omega) (by omega), decide_eq_true (by omega), cond_true, v_isLivingn (by omega) hR hW (by omega), e_bd, b_z, i_suc, yr]
    have hyst : yst R k = bif R.lv.testBit k then (bif xlt (drw (nse R.se)) (Int32.ofInt (older R k)) then (agd R k).slv (ndiff R.lv (2 ^ k)) else agd R k) else R := rfl
    cases hl : R.lv.testBit k with
    | false =>
      rw [hl, cond_false] at hyst
      rw [hyst, cond_false]
      exact ih R M hR hW (by omega)
    | true =>
      rw [hl, cond_true] at hyst
      rw [cond_true]
      dsimp only
      rw [v_olderBy1 (by omega) hR hW (by omega), e_bd]
      dsimp only
      rw [show xlen M (1 + 4) = 16 from rfl, i_inn (by omega), decide_eq_true (by omega), cond_true, i_natn (by omega), v_draw8 (s := R.se) (by rw [m_wi, if_neg (by omega)]; exact hR.2.2.2.2.1), e_bd]
      dsimp only
      have hR1 : cv 1 (agd R k) (xwi (xwi M 5 k (Int32.ofInt (older R k))) 1 10 (nse R.se)) := cv_se (cv_ag hR)
      have hf1 : fr 1 8 M (xwi (xwi M 5 k (Int32.ofInt (older R k))) 1 10 (nse R.se)) := (fr.rf.wi (by omega) (by omega)).wi (by omega) (by omega)
      have hw1 := wf_agd hW (k := k) (by omega)
      simp only [show 1 + 4 = 5 from rfl, show ∀ M, xlen M 5 = 16 from fun _ => rfl]
      rw [i_inn (by omega), decide_eq_true (by omega), cond_true, show (xwi (xwi M 5 k (Int32.ofInt (older R k))) 1 10 (nse R.se)).1 5 k = Int32.ofInt (older R k) by rw [m_wi, if_neg (by omega), m_wi, if_pos ⟨rfl, rfl⟩]]
      cases hx : xlt (drw (nse R.se)) (Int32.ofInt (older R k)) with
      | false =>
        rw [hx, cond_false] at hyst
        rw [hyst, cond_false]
        obtain ⟨M', g1, g2, g3⟩ := ih (agd R k) _ hR1 hw1 (by show k + 1 + d = R.nb; omega)
        exact ⟨M', g1, g2, hf1.tr g3⟩
      | true =>
        rw [hx, cond_true] at hyst
        rw [hyst, cond_true, eX3_bury _ _ _ (by omega), hR1.2.1, e_V, e_bd, show (agd R k).lv = R.lv from rfl, i_clr2 (by omega)]
        obtain ⟨M', g1, g2, g3⟩ := ih ((agd R k).slv (ndiff R.lv (2 ^ k))) _ (cv_lv hR1) (wf_slv hw1 (ndiff_lt hW.2.1)) (by show k + 1 + d = R.nb; omega)
        exact ⟨M', g1, g2, (hf1.wi (by omega) (by omega)).tr g3⟩
theorem l_yrs8 {N : Nat} (hN : 11 < N) {a : Nat} (ha : a ≤ 50) (x : Int) : ∀ (d n y : Nat) (R : RV) (M : XM), cv 1 R M → Wf R → y + d = a → d < n → ∃ M', gX8_years N n 31 [.ref 0, .int (Int32.ofInt a), .int (Int32.ofInt x), .int (Int32.ofInt y)] [] M = some (Int32.ofInt (x - (pop (yrs d R).lv : Int)), M') ∧ cv 1 (yrs d R) M' ∧ fr 1 8 M M'
  | 0, n + 1, y, R, M, hR, hW, hy, _ => by
    refine ⟨M, ?_, hR, fr.rf⟩
    rw [eX8_years_31, i_lt (by omega) (by omega), decide_eq_false (by omega), cond_false, show 0 + 1 = 1 from rfl, hR.2.1, v_pop N (lv_small hW), e_bd, i_sub, e_I]
    rfl
  | d + 1, n + 1, y, R, M, hR, hW, hy, hn => by
    have h10 := hW.1
    obtain ⟨M1, a1, a2, a3⟩ := l_year8 (N := N) R.nb N 0 R M hR hW (by omega) (by omega)
    have a1 : gX3_passYear N N 2 [.ref 1, .int (Int32.ofInt 0)] [] M = some M1 := a1
    obtain ⟨M2, b1, b2, b3⟩ := l_yrs8 hN ha x d n (y + 1) (yr R.nb 0 R) M1 a2 (wf_yr R.nb 0 R hW (by omega)) (by omega) (by omega)
    refine ⟨M2, ?_, b2, a3.tr b3⟩
    rw [eX8_years_31, i_lt (by omega) (by omega), decide_eq_true (by omega), cond_true, show 0 + 1 = 1 from rfl, eX3_passYear _ _ (by omega), a1, e_bd, i_suc]
    exact b1
theorem pop_die {R : RV} (hW : Wf R) {k : Nat} (h : R.lv.testBit k = true) : pop (ndiff R.lv (2 ^ k)) + 1 = pop R.lv := by
  have hk : k < 10 := by
    by_cases e : k < 10
    · exact e
    · have h1 : R.lv < 2 ^ 10 := lv_small hW
      rw [bits_of_lt h1 (by omega)] at h
      cases h
  have h2 : (ndiff R.lv (2 ^ k)).testBit k = false := by rw [clr_bit]; simp
  rw [← pop_or hk h2]
  congr 1
  apply Nat.eq_of_testBit_eq
  intro i
  rw [Nat.testBit_or, clr_bit, Nat.testBit_two_pow]
  by_cases e : k = i
  · subst e; simp [h]
  · simp [e]
theorem l_year9 {N : Nat} (a1 : Int32) (y : Nat) : ∀ (d n k x : Nat) (R : RV) (M : XM), mv R M → Wf R → k + d = R.nb → ∃ M' x', gX9_years N (n + 1 + d) 29 [.ref 64, .int a1, .int (Int32.ofInt x), .int (Int32.ofInt y), .int (Int32.ofInt k)] [] M = gX9_years N n 21 [.ref 64, .int a1, .int (Int32.ofInt (x' : Nat)), .int (Int32.ofInt ((y + 1 : Nat) : Int)), .retAddr 0] [] M' ∧ mv (yr d k R) M' ∧ fr 64 72 M M' ∧ M'.1 64 11 = M.1 64 11 ∧ M'.1 64 21 = M.1 64 21 ∧ x' + pop (yr d k R).lv = x + pop R.lv
  | 0, n, k, x, R, M, hR, hW, hk => by
    have h10 := hW.1
    refine ⟨M, x, ?_, hR, fr.rf, rfl, rfl, rfl⟩
    rw [Nat.add_zero, eX9_years_29, hR.1, i_lt (by omega) (by omega), decide_eq_false (by omega), cond_false, i_suc]
  | d + 1, n, k, x, R, M, hR, hW, hk => by
    have h10 := hW.1
    have ih := fun x R' M' h1 h2 h3 => l_year9 (N := N) a1 y d n (k + 1) x R' M' h1 h2 h3
    have ho := older_b hW (k := k) (by omega)
    have hm := hR.2.2.2.2.1 k (by omega)
    rw [show n + 1 + (d + 1) = n + 1 + d + 1 by omega, eX9_years_29, hR.1, i_lt (by omega) (by omega), decide_eq_true (by omega), cond_true, show xlen M (64 + 6) = 11 from rfl, show xlen M (64 + 4) = 11 from rfl, i_inn (by omega), decide_eq_true (show k < 11 by omega), cond_true, cond_true, i_natn (by omega), show 64 + 6 = 70 from rfl, show 64 + 4 = 68 from rfl, hm.2.2.2.2.2, hm.2.2.2.1, b_z, yr]
    simp only [i_suc]
    have hyst : yst R k = bif R.lv.testBit k then (bif xlt (drw (nse R.se)) (Int32.ofInt (older R k)) then (agd R k).slv (ndiff R.lv (2 ^ k)) else agd R k) else R := rfl
    cases hl : R.lv.testBit k with
    | false =>
      rw [hl, cond_false] at hyst
      rw [hyst, cond_false]
      exact ih x R M hR hW (by omega)
    | true =>
      rw [hl, cond_true] at hyst
      have hm1 := (i_min1 (hW.2.2.2.1 k (by omega)).2.2.2.1 M).2
      rw [i_suc] at hm1
      rw [cond_true, hm1, e_bd]
      dsimp only
      rw [show (if R.ag k + 1 < 99 then R.ag k + 1 else 99) = older R k from rfl, show xlen M 68 = 11 from rfl, i_inn (by omega), decide_eq_true (show k < 11 by omega), cond_true, v_draw9 (s := R.se) (by rw [m_wi, if_neg (by omega)]; exact hR.2.2.2.1), e_bd]
      dsimp only
      have hR1 : mv (agd R k) (xwi (xwi M 68 k (Int32.ofInt (older R k))) 64 10 (nse R.se)) := mv_se (mv_ag hR)
      have hf1 : fr 64 72 M (xwi (xwi M 68 k (Int32.ofInt (older R k))) 64 10 (nse R.se)) := (fr.rf.wi (by omega) (by omega)).wi (by omega) (by omega)
      have hw1 := wf_agd hW (k := k) (by omega)
      have g11 : (xwi (xwi M 68 k (Int32.ofInt (older R k))) 64 10 (nse R.se)).1 64 11 = M.1 64 11 := by rw [m_wi, if_neg (by omega), m_wi, if_neg (by omega)]
      have g21 : (xwi (xwi M 68 k (Int32.ofInt (older R k))) 64 10 (nse R.se)).1 64 21 = M.1 64 21 := by rw [m_wi, if_neg (by omega), m_wi, if_neg (by omega)]
      simp only [show ∀ M, xlen M 68 = 11 from fun _ => rfl, show ∀ M, xlen M 70 = 11 from fun _ => rfl]
      rw [i_inn (by omega), decide_eq_true (show k < 11 by omega)]
      simp only [cond_true, show xisb (Int32.ofInt 0) = true from i_isb0]
      rw [show (xwi (xwi M 68 k (Int32.ofInt (older R k))) 64 10 (nse R.se)).1 68 k = Int32.ofInt (older R k) by rw [m_wi, if_neg (by omega), m_wi, if_pos ⟨rfl, rfl⟩]]
      cases hx : xlt (drw (nse R.se)) (Int32.ofInt (older R k)) with
      | false =>
        rw [hx, cond_false] at hyst
        rw [hyst, cond_false]
        obtain ⟨M', x', g1, g2, g3, g4, g5, g6⟩ := ih x (agd R k) _ hR1 hw1 (by show k + 1 + d = R.nb; omega)
        exact ⟨M', x', g1, g2, hf1.tr g3, g4.trans g11, g5.trans g21, g6⟩
      | true =>
        rw [hx, cond_true] at hyst
        rw [hyst, cond_true]
        have hd := mv_die hR1 (b := k)
        obtain ⟨M', x', g1, g2, g3, g4, g5, g6⟩ := ih (x + 1) ((agd R k).slv (ndiff R.lv (2 ^ k))) _ hd (wf_slv hw1 (ndiff_lt hW.2.1)) (by show k + 1 + d = R.nb; omega)
        refine ⟨M', x', g1, g2, (hf1.wi (by omega) (by omega)).tr g3, (g4.trans (by rw [m_wi, if_neg (by omega)])).trans g11, (g5.trans (by rw [m_wi, if_neg (by omega)])).trans g21, ?_⟩
        have h1 := pop_die hW hl
        have h2 : pop ((agd R k).slv (ndiff R.lv (2 ^ k))).lv = pop (ndiff R.lv (2 ^ k)) := rfl
        omega
theorem l_yrs9 {N : Nat} {a : Nat} (ha : a ≤ 50) : ∀ (d n y x : Nat) (R : RV) (M : XM), mv R M → Wf R → y + d = a → 13 * d < n → ∃ M' x', gX9_years N n 21 [.ref 64, .int (Int32.ofInt a), .int (Int32.ofInt x), .int (Int32.ofInt y), .retAddr 0] [] M = some (Int32.ofInt (x' : Nat), M') ∧ mv (yrs d R) M' ∧ fr 64 72 M M' ∧ M'.1 64 11 = M.1 64 11 ∧ M'.1 64 21 = M.1 64 21 ∧ x' + pop (yrs d R).lv = x + pop R.lv
  | 0, n + 1, y, x, R, M, hR, hW, hy, _ => by
    refine ⟨M, x, ?_, hR, fr.rf, rfl, rfl, rfl⟩
    rw [eX9_years_21, i_lt (by omega) (by omega), decide_eq_false (by omega)]
    rfl
  | d + 1, n + 1, y, x, R, M, hR, hW, hy, hn => by
    have h10 := hW.1
    obtain ⟨n, rfl⟩ : ∃ j, n = j + 1 + R.nb := ⟨n - 1 - R.nb, by omega⟩
    obtain ⟨M1, x1, a1, a2, a3, a4, a5, a6⟩ := l_year9 (N := N) (Int32.ofInt a) y R.nb n 0 x R M hR hW (by omega)
    have a1 : gX9_years N (n + 1 + R.nb) 29 [.ref 64, .int (Int32.ofInt a), .int (Int32.ofInt x), .int (Int32.ofInt y), .int (Int32.ofInt 0)] [] M = _ := a1
    obtain ⟨M2, x2, b1, b2, b3, b4, b5, b6⟩ := l_yrs9 ha d n (y + 1) x1 (yr R.nb 0 R) M1 a2 (wf_yr R.nb 0 R hW (by omega)) (by omega) (by omega)
    refine ⟨M2, x2, ?_, b2, a3.tr b3, b4.trans a4, b5.trans a5, ?_⟩
    · rw [eX9_years_21, i_lt (by omega) (by omega), decide_eq_true (by omega), cond_true, a1, b1]
    · rw [yrs]
      omega
set_option maxRecDepth 100000 in
theorem op_years {t : Nat} {S : SV} (hW : WfS S) {N : Nat} (hN : big N) (a : Int32) : both t S (fX8_years N [.ref 0, .int a]) (fX9_years N [.ref 64, .int a]) := by
  obtain ⟨z, hz, rfl⟩ := i_ex a
  have hN' := hN
  unfold big at hN'
  by_cases h1 : 1 ≤ z ∧ z ≤ 50
  · obtain ⟨n, rfl⟩ := Int.eq_ofNat_of_zero_le (show 0 ≤ z by omega)
    refine ⟨S.wR (yrs n S.R), Int32.ofInt ((pop S.R.lv : Int) - (pop (yrs n S.R).lv : Int)), ⟨wf_yrs n S.R hW.1, hW.2.1, hW.2.2.1, hW.2.2.2.1, fun s hs => ?_⟩, fun M hM => ?_, fun M hM => ?_⟩
    · have := hW.2.2.2.2 s hs
      refine ⟨⟨this.1.1, ?_, this.1.2.2⟩, this.2⟩
      show S.th s < 10 + ((yrs n S.R).nb : Int)
      rw [yrs_nb]
      exact this.1.2.1
    · obtain ⟨M', g1, g2, g3⟩ := l_yrs8 (N := N) (by omega) (a := n) (by omega) (pop S.R.lv : Int) n N 0 S.R M hM.1 hW.1 (by omega) (by omega)
      refine ⟨M', ?_, CX_R hM g2 g3, g3.wide (by omega) (by omega)⟩
      rw [eX8_years, chk hz (by omega) (by omega), decide_eq_true h1, cond_true, show 0 + 1 = 1 from rfl, hM.1.2.1, v_pop N (lv_small hW.1), e_bd]
      exact g1
    · obtain ⟨M', x', g1, g2, g3, g4, g5, g6⟩ := l_yrs9 (N := N) (a := n) (by omega) n N 0 0 S.R M hM.1 hW.1 (by omega) (by omega)
      refine ⟨M', ?_, CM_R hM g2 g3 g4 g5, g3.wide (by omega) (by omega)⟩
      rw [eX9_years, v_win hz (by omega) (by omega), e_bd, b_z, decide_eq_true h1, cond_true, show (pop S.R.lv : Int) - (pop (yrs n S.R).lv : Int) = (x' : Int) by omega]
      exact g1
  · refine both_ref' hW 0 (by omega) N (fun M hM => ?_) (fun M hM => ?_)
    · rw [eX8_years, chk hz (by omega) (by omega), decide_eq_false h1]; rfl
    · rw [eX9_years, v_win hz (by omega) (by omega), e_bd, b_z, decide_eq_false h1]; rfl
