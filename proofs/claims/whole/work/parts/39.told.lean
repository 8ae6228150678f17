theorem l_cmp (v w : Int64) : xlt (lg_cmp v w) (0 : Int32) = decide (v.toInt < w.toInt) := by
  unfold lg_cmp
  by_cases h1 : v > w
  · rw [if_pos h1, show xlt 1 0 = false from rfl, eq_comm, decide_eq_false_iff_not]
    have : w.toInt < v.toInt := Int64.lt_iff_toInt_lt.mp h1
    omega
  · rw [if_neg h1]
    have h1' : ¬ w.toInt < v.toInt := fun h => h1 (Int64.lt_iff_toInt_lt.mpr h)
    by_cases h2 : v = w
    · rw [if_pos h2, show xlt 0 0 = false from rfl, h2, eq_comm, decide_eq_false_iff_not]
      omega
    · rw [if_neg h2, show xlt (-1) 0 = true by decide +kernel, eq_comm, decide_eq_true_eq]
      have : v.toInt ≠ w.toInt := fun h => h2 (Int64.toInt_inj.mp h)
      omega
theorem l_toInt {a : Nat} (h : a < 2147483648) : (Int64.ofInt (a : Int)).toInt = a := Int64.toInt_ofInt_of_le (by omega) (by omega)
theorem l_zero64 : (Int64.ofNat 0).toInt = 0 := by decide
def f_hr (R : RV) (z : Nat → Int) : Nat → List Nat → Int × List Nat
  | 0, r => (if wts (qof (wR R) r).2.1 = 0 then -1 else (r.length : Int), r)
  | d + 1, r => if 0 ≤ z r.length ∧ exM R R.lv false r (z r.length).toNat = true then f_hr R z d ((z r.length).toNat :: r) else ((r.length : Int), r)
theorem VA_10 {R : RV} (hW : Wf R) {r : List Nat} (h : VA (exM R R.lv false) r) : r.length ≤ 10 := by
  rw [← pop_qof hW h]
  exact pop_10 _
theorem f_hr_ok {R : RV} (hW : Wf R) {z : Nat → Int} : ∀ d r, VA (exM R R.lv false) r → VA (exM R R.lv false) (f_hr R z d r).2 ∧ ((f_hr R z d r).1 = -1 → (f_hr R z d r).2.length = r.length + d ∧ wts (qof (wR R) (f_hr R z d r).2).2.1 = 0) ∧ -1 ≤ (f_hr R z d r).1 ∧ (f_hr R z d r).1 ≤ r.length + d
  | 0, r, h => by
    refine ⟨h, fun h1 => ⟨rfl, ?_⟩, ?_, ?_⟩
    · by_cases e : wts (qof (wR R) r).2.1 = 0
      · exact e
      · have : (f_hr R z 0 r).1 = (r.length : Int) := by show (if _ then _ else _) = _; rw [if_neg e]
        omega
    · show -1 ≤ (if wts (qof (wR R) r).2.1 = 0 then (-1 : Int) else (r.length : Int))
      split <;> omega
    · show (if wts (qof (wR R) r).2.1 = 0 then (-1 : Int) else (r.length : Int)) ≤ _
      split <;> omega
  | d + 1, r, h => by
    rw [f_hr]
    by_cases e : 0 ≤ z r.length ∧ exM R R.lv false r (z r.length).toNat = true
    · rw [if_pos e]
      have := f_hr_ok hW (z := z) d ((z r.length).toNat :: r) ⟨e.2, h⟩
      simp only [List.length_cons] at this
      exact ⟨this.1, fun h1 => ⟨by rw [(this.2.1 h1).1]; omega, (this.2.1 h1).2⟩, this.2.2.1, by omega⟩
    · rw [if_neg e]
      exact ⟨h, fun h1 => by dsimp only at h1; omega, by dsimp only; omega, by dsimp only; omega⟩
theorem ex_iff {R : RV} (hW : Wf R) {r : List Nat} (h : VA (exM R R.lv false) r) {b : Nat} (hb : b < R.nb) : exM R R.lv false r b = (R.lv.testBit b && (!(qof (wR R) r).2.2.testBit b && (nx (qof (wR R) r).2.1 (R.kd b) != 7))) := by
  rw [exM_f]
  unfold exb
  cases hl : R.lv.testBit b with
  | false =>
    have : wM R R.lv b = 0 := by unfold wM; rw [if_neg (by rw [hl]; exact fun x => nomatch x.2)]
    rw [this]
    rfl
  | true =>
    obtain ⟨e1, e2, e3⟩ := wk_wM hW hb hl
    rw [e2, show (wM R R.lv b != 0) = true by rw [e1]; simp, wR_wM]
    simp
theorem CX_43 {t : Nat} {S : SV} {M M' : XM} (h : CX t S M) (hf : fr 43 44 M M') : CX t S M' := by
  obtain ⟨h1, h2, h3, h4, h5, h6, h7, h8, h9, h10⟩ := h
  refine ⟨h1.fr hf (by omega), by rw [hf.i (by omega)]; exact h2, fun h => (h3 h).fr hf (by omega), by rw [hf.i (by omega)]; exact h4, fun j hj => by rw [hf.i (by omega)]; exact h5 j hj, fun s hs => ?_, fun k hk => by rw [hf.i (by omega)]; exact h7 k hk, h8.fr hf (by omega), h9.fr hf (by omega), h10.fr hf (by omega)⟩
  rw [hf.i (by omega), hf.i (by omega)]
  exact ⟨(h6 s hs).1, fun a b => ⟨((h6 s hs).2 a b).1, fun i hi => by rw [hf.l (by omega)]; exact ((h6 s hs).2 a b).2 i hi⟩⟩
def tz (S : SV) (k : Nat) (i : Nat) : Int := (S.el k i).toInt
theorem t_32 {v : Int64} {b : Nat} (h : v.toInt = b) : v.toInt32 = Int32.ofInt b := by
  rw [← Int64.ofInt_toInt v, Int64.toInt32_ofInt, h]
theorem l_hear {N : Nat} {t : Nat} {S : SV} (hW : WfS S) {k m : Nat} (hk : k < 8) (h0 : 0 ≤ S.th k) (h5 : S.th k < 5) (hm : m ≤ S.ln k) : ∀ (d : Nat) (r : List Nat) (n : Nat) (M : XM), r.length + d = m → 2 * d < n → VA (exM S.R S.R.lv false) r → CX t S M → M.2 43 0 = Int64.ofInt (pack r.reverse : Nat) → ∃ M', gX7_hear N n 14 [.ref 43, .ref 1, .ref (48 + 2 * k), .int (Int32.ofInt m), .int (Int32.ofInt ((qof (wR S.R) r).2.2 : Nat)), .int (Int32.ofInt ((qof (wR S.R) r).2.1 : Nat)), .int (Int32.ofInt r.length), .retAddr 0, .retAddr 0, .retAddr 0] [] M = some M' ∧ fr 43 44 M M' ∧ M'.1 43 1 = Int32.ofInt (f_hr S.R (tz S k) d r).1 ∧ M'.2 43 0 = Int64.ofInt (pack (f_hr S.R (tz S k) d r).2.reverse : Nat)
  | 0, r, n + 1, M, hr, hn, hV, hM, hp => by
    have h40 := (hW.2.2.2.2 k hk).2 h0 h5
    obtain ⟨a1, a2, a3, a4⟩ := VA_f hW.1 hV
    rw [wR_wM] at *
    rw [eX7_hear_14 _ _ _ _ _ _ _ _ (by omega) (sh_o hk), i_lt (by omega) (by omega), decide_eq_false (by omega), cond_false, v_mayEnd hM.2.2.2.2.2.2.2.2.2 a1, e_bd]
    show ∃ M', (bif xeq (bi _) 0 then _ else _) = _ ∧ _
    rw [b_z]
    by_cases e : wts (qof (wM S.R S.R.lv) r).2.1 = 0
    · rw [decide_eq_true e, cond_true, e_V]
      refine ⟨_, rfl, fr.rf.wi (by omega) (by omega), ?_, hp⟩
      rw [m_eq]
      show _ = Int32.ofInt (if wts (qof (wR S.R) r).2.1 = 0 then -1 else (r.length : Int))
      rw [wR_wM, if_pos e]
    · rw [decide_eq_false e, cond_false, e_V]
      refine ⟨_, rfl, fr.rf.wi (by omega) (by omega), ?_, hp⟩
      rw [m_eq]
      show _ = Int32.ofInt (if wts (qof (wR S.R) r).2.1 = 0 then -1 else (r.length : Int))
      rw [wR_wM, if_neg e, show m = r.length by omega]
  | d + 1, r, n + 1, M, hr, hn, hV, hM, hp => by
    obtain ⟨n, rfl⟩ : ∃ j, n = j + 1 := ⟨n - 1, by omega⟩
    have h10 := hW.1.1
    have h40 := (hW.2.2.2.2 k hk).2 h0 h5
    have hr10 := VA_10 hW.1 hV
    obtain ⟨a1, a2, a3, a4⟩ := VA_f hW.1 hV
    rw [← wR_wM] at a1 a2 a4
    have hel := ((hM.2.2.2.2.2.1 k hk).2 h0 h5).2 r.length (by omega)
    rw [eX7_hear_14 _ _ _ _ _ _ _ _ (by omega) (sh_o hk), i_lt (by omega) (by omega), decide_eq_true (by omega), cond_true, v_spans hW hM hk h0 h5 (by omega) (by omega), decide_eq_true (by omega), e_bd]
    dsimp only
    rw [b_z, cond_true, (x_shelf2 hk).2, i_inn (by omega), decide_eq_true (by omega), cond_true, i_natn (by omega), show 48 + 2 * k + 1 = 49 + 2 * k by omega, hel, l_cmp, l_cmp, l_zero64, hM.1.1, i_64 (by omega), l_toInt (by omega)]
    have hz : (S.el k r.length).toInt = tz S k r.length := rfl
    rw [hz]
    have stop : f_hr S.R (tz S k) (d + 1) r = ((r.length : Int), r) → ∃ M', (xrV none (xwi M 43 1 (Int32.ofInt r.length))) = some M' ∧ fr 43 44 M M' ∧ M'.1 43 1 = Int32.ofInt (f_hr S.R (tz S k) (d + 1) r).1 ∧ M'.2 43 0 = Int64.ofInt (pack (f_hr S.R (tz S k) (d + 1) r).2.reverse : Nat) := by
      intro h
      rw [h]
      exact ⟨_, rfl, fr.rf.wi (by omega) (by omega), by rw [m_eq], hp⟩
    have nol : ∀ s0 : Int32, (xin s0 S.R.nb && S.R.lv.testBit s0.toNatClampNeg) = false → gX7_hear N (n + 1) 70 [.ref 43, .ref 1, .ref (48 + 2 * k), .int (Int32.ofInt m), .int (Int32.ofInt ((qof (wR S.R) r).2.2 : Nat)), .int (Int32.ofInt ((qof (wR S.R) r).2.1 : Nat)), .int (Int32.ofInt r.length), .retAddr 0, .retAddr 0, .retAddr 0] [.int s0] M = (xrV none (xwi M 43 1 (Int32.ofInt r.length))) := by
      intro s0 h
      rw [eX7_hear_70 _ _ _ _ _ _ _ _ _ (by omega) (sh_o hk), v_isLiving (by omega) hM.1 hW.1, e_bd, b_z, h]
      rfl
    have hm1 : (xin (Int32.ofInt (-1)) S.R.nb && S.R.lv.testBit (Int32.ofInt (-1)).toNatClampNeg) = false := by
      rw [i_in (by omega)]
      rfl
    by_cases e1 : tz S k r.length < 0
    · rw [decide_eq_true e1, cond_true, nol _ hm1]
      refine stop ?_
      rw [f_hr, if_neg (by omega)]
    · rw [decide_eq_false e1, cond_false]
      obtain ⟨b, hb⟩ := Int.eq_ofNat_of_zero_le (show 0 ≤ tz S k r.length by omega)
      rw [hb]
      by_cases e2 : b < S.R.nb
      · rw [decide_eq_true (by omega), cond_true, t_32 (v := S.el k r.length) (b := b) hb]
        have hex := ex_iff hW.1 hV e2
        have hfn : f_hr S.R (tz S k) (d + 1) r = if exM S.R S.R.lv false r b = true then f_hr S.R (tz S k) d (b :: r) else ((r.length : Int), r) := by
          rw [f_hr, hb, Int.toNat_natCast]
          by_cases e : exM S.R S.R.lv false r b = true
          · rw [if_pos ⟨by omega, e⟩, if_pos e]
          · rw [if_neg (fun x => e x.2), if_neg e]
        rw [eX7_hear_70 _ _ _ _ _ _ _ _ _ (by omega) (sh_o hk), v_isLivingn (by omega) hM.1 hW.1 e2, e_bd, b_z]
        cases hl : S.R.lv.testBit b with
        | false =>
          rw [hl, Bool.false_and] at hex
          rw [cond_false]
          refine stop ?_
          rw [hfn, hex, if_neg Bool.false_ne_true]
        | true =>
          rw [hl, Bool.true_and] at hex
          rw [cond_true, i_bit (by omega) (by omega), i_nbit, b_z]
          dsimp only
          cases hh : (qof (wR S.R) r).2.2.testBit b with
          | true =>
            rw [hh, Bool.not_true, Bool.false_and] at hex
            rw [cond_true]
            refine stop ?_
            rw [hfn, hex, if_neg Bool.false_ne_true]
          | false =>
            rw [hh, Bool.not_false, Bool.true_and] at hex
            have hkk := (hW.1.2.2.2.1 b e2).1
            rw [cond_false, show xlen M (1 + 1) = 16 from rfl, i_inn (by omega), decide_eq_true (by omega), cond_true, i_natn (by omega), show 1 + 1 = 2 from rfl, (hM.1.2.2.2.2.2.1 b e2).1, v_next hM.2.2.2.2.2.2.2.2.2 a1 hkk, e_bd]
            dsimp only
            by_cases h7 : nx (qof (wR S.R) r).2.1 (S.R.kd b) = 7
            · rw [h7] at hex
              rw [nxI, if_pos h7, show xeq (Int32.ofInt (-1)) (Int32.ofInt (-1)) = true by decide +kernel, cond_true]
              refine stop ?_
              rw [hfn, hex, if_neg (by decide)]
            · have hpl := nx_7 a1 hkk h7
              have hex : exM S.R S.R.lv false r b = true := by rw [hex]; simp [h7]
              have hV' : VA (exM S.R S.R.lv false) (b :: r) := ⟨hex, hV⟩
              have h11 := VA_10 hW.1 hV'
              simp only [List.length_cons] at h11
              rw [nxI_7 h7, i_eq (by omega) (by omega), decide_eq_false (by omega), cond_false, hp]
              have hw := l_with (N := N) (l := r.reverse) (b := b) (fun c hc => by have := a3 c (List.mem_reverse.mp hc); omega) (by rw [List.length_reverse]; omega) (by omega) M
              rw [List.length_reverse, ← List.reverse_cons] at hw
              rw [hw, e_bd, hfn, if_pos hex, i_or2 (by omega), i_suc]
              dsimp only
              have hff : fr 43 44 M (xwl M 43 0 (Int64.ofInt (pack (b :: r).reverse : Nat))) := fr.rf.wl (by omega) (by omega)
              obtain ⟨M', g1, g2, g3, g4⟩ := l_hear (N := N) hW hk h0 h5 hm d (b :: r) n (xwl M 43 0 (Int64.ofInt (pack (b :: r).reverse : Nat))) (by simp only [List.length_cons]; omega) (by omega) hV' (CX_43 hM hff) (by rw [m_wl2, if_pos ⟨rfl, rfl⟩])
              have e1 : (qof (wR S.R) (b :: r)).2.1 = nx (qof (wR S.R) r).2.1 (S.R.kd b) := by
                show nx _ (wk (wR S.R b)) = _
                rw [wR_wM, (wk_wM hW.1 e2 hl).2.1]
              have e3 : (qof (wR S.R) (b :: r)).2.2 = (qof (wR S.R) r).2.2 ||| 2 ^ b := rfl
              rw [e1, e3, List.length_cons] at g1
              exact ⟨M', g1, hff.tr g2, g3, g4⟩
      · rw [decide_eq_false (by omega), cond_false, nol _ hm1]
        refine stop ?_
        rw [f_hr, hb, Int.toNat_natCast, if_neg (fun x => e2 (exM_w x.2).1)]
theorem l_wrg9 {N : Nat} (hN : 0 < N) {S : SV} (hW : WfS S) {k m : Nat} (hk : k < 8) (h0 : 0 ≤ S.th k) (h5 : S.th k < 5) (hm : m ≤ S.ln k) : ∀ (d : Nat) (r : List Nat) (n : Nat) (M : XM), r.length + d = m → d < n → VA (exM S.R S.R.lv false) r → CM S M → rowAt r.reverse M → ∃ M', gX9_wrong N n 8 [.ref 64, .int (Int32.ofInt k), .int (Int32.ofInt m), .int (Int32.ofInt ((qof (wR S.R) r).2.1 : Nat)), .int (Int32.ofInt ((qof (wR S.R) r).2.2 : Nat)), .int (Int32.ofInt r.length), .retAddr 0, .retAddr 0] [] M = some (Int32.ofInt (f_hr S.R (tz S k) d r).1, M') ∧ fe M M' ∧ rowAt (f_hr S.R (tz S k) d r).2.reverse M'
  | 0, r, n + 1, M, hr, hn, hV, hM, hp => by
    have h40 := (hW.2.2.2.2 k hk).2 h0 h5
    obtain ⟨a1, a2, a3, a4⟩ := VA_f hW.1 hV
    rw [← wR_wM] at a1
    rw [eX9_wrong_8, i_lt (by omega) (by omega), decide_eq_false (by omega), cond_false, v_isEnd a1, e_bd]
    show ∃ M', (bif xeq (bi _) 0 then _ else _) = _ ∧ _
    rw [b_z]
    refine ⟨M, ?_, fe.rf, hp⟩
    show _ = some (Int32.ofInt (if wts (qof (wR S.R) r).2.1 = 0 then -1 else (r.length : Int)), M)
    by_cases e : wts (qof (wR S.R) r).2.1 = 0
    · rw [decide_eq_true e, if_pos e]; rfl
    · rw [decide_eq_false e, if_neg e, show m = r.length by omega]; rfl
  | d + 1, r, n + 1, M, hr, hn, hV, hM, hp => by
    have h10 := hW.1.1
    have h40 := (hW.2.2.2.2 k hk).2 h0 h5
    have hr10 := VA_10 hW.1 hV
    obtain ⟨a1, a2, a3, a4⟩ := VA_f hW.1 hV
    rw [← wR_wM] at a1 a2 a4
    have hel := ((hM.2.2.2.2.2.1 k hk).2 h0 h5).2 r.length (by omega)
    have hz : (S.el k r.length).toInt = tz S k r.length := rfl
    rw [eX9_wrong_8, i_lt (by omega) (by omega), decide_eq_true (by omega), cond_true, i_mul, i_add, show (40 * (k : Int) + (r.length : Int)) = ((40 * k + r.length : Nat) : Int) by omega, i_inn (by omega), show xlen M (64 + 11) = 320 from rfl, decide_eq_true (by omega), cond_true, i_natn (by omega), show 64 + 11 = 75 from rfl, hel, l_cmp, l_cmp, l_zero64, hM.1.1, i_64 (by omega), l_toInt (by omega), hz]
    have stop : f_hr S.R (tz S k) (d + 1) r = ((r.length : Int), r) → ∃ M', (xrI (some (.int (Int32.ofInt r.length))) M) = some (Int32.ofInt (f_hr S.R (tz S k) (d + 1) r).1, M') ∧ fe M M' ∧ rowAt (f_hr S.R (tz S k) (d + 1) r).2.reverse M' := by
      intro h
      rw [h]
      exact ⟨M, rfl, fe.rf, hp⟩
    by_cases e1 : tz S k r.length < 0
    · rw [decide_eq_true e1, cond_true]
      refine stop ?_
      rw [f_hr, if_neg (by omega)]
    · rw [decide_eq_false e1, cond_false]
      obtain ⟨b, hb⟩ := Int.eq_ofNat_of_zero_le (show 0 ≤ tz S k r.length by omega)
      rw [hb]
      by_cases e2 : b < S.R.nb
      · have hex := ex_iff hW.1 hV e2
        have hfn : f_hr S.R (tz S k) (d + 1) r = if exM S.R S.R.lv false r b = true then f_hr S.R (tz S k) d (b :: r) else ((r.length : Int), r) := by
          rw [f_hr, hb, Int.toNat_natCast]
          by_cases e : exM S.R S.R.lv false r b = true
          · rw [if_pos ⟨by omega, e⟩, if_pos e]
          · rw [if_neg (fun x => e x.2), if_neg e]
        rw [decide_eq_true (by omega), cond_true, t_32 (v := S.el k r.length) (b := b) hb, i_inn (by omega), show xlen M (64 + 6) = 11 from rfl, decide_eq_true (by omega), cond_true, i_natn (by omega), show 64 + 6 = 70 from rfl, (hM.1.2.2.2.2.1 b e2).2.2.2.2.2, b_z]
        cases hl : S.R.lv.testBit b with
        | false =>
          rw [hl, Bool.false_and] at hex
          rw [cond_false]
          refine stop ?_
          rw [hfn, hex, if_neg Bool.false_ne_true]
        | true =>
          rw [hl, Bool.true_and] at hex
          rw [cond_true, m_lt (by omega) (by omega), e_bd]
          dsimp only
          rw [b_z]
          cases hh : (qof (wR S.R) r).2.2.testBit b with
          | true =>
            rw [hh, Bool.not_true, Bool.false_and] at hex
            rw [cond_true]
            refine stop ?_
            rw [hfn, hex, if_neg Bool.false_ne_true]
          | false =>
            rw [hh, Bool.not_false, Bool.true_and] at hex
            have hkk := (hW.1.2.2.2.1 b e2).1
            rw [cond_false, i_inn (by omega), xl_65, decide_eq_true (by omega), cond_true, show 64 + 1 = 65 from rfl, (hM.1.2.2.2.2.1 b e2).1, v_step hN a1 hkk, e_bd]
            dsimp only
            by_cases h7 : nx (qof (wR S.R) r).2.1 (S.R.kd b) = 7
            · rw [h7] at hex
              rw [nxI, if_pos h7, show xeq (Int32.ofInt (-1)) (Int32.ofInt (-1)) = true by decide +kernel, cond_true]
              refine stop ?_
              rw [hfn, hex, if_neg (by decide)]
            · have hpl := nx_7 a1 hkk h7
              have hex : exM S.R S.R.lv false r b = true := by rw [hex]; simp [h7]
              have hV' : VA (exM S.R S.R.lv false) (b :: r) := ⟨hex, hV⟩
              have h11 := VA_10 hW.1 hV'
              simp only [List.length_cons] at h11
              rw [nxI_7 h7, i_eq (by omega) (by omega), decide_eq_false (by omega), cond_false, i_inn (by omega), xl_79, decide_eq_true (by omega), cond_true, i_natn (by omega), show 64 + 15 = 79 from rfl, hfn, if_pos hex, i_or2 (by omega), i_suc]
              have hff : fe M (xwi M 79 r.length (Int32.ofInt b)) := fe.rf.wi (by omega)
              obtain ⟨M', g1, g2, g3⟩ := l_wrg9 hN hW hk h0 h5 hm d (b :: r) n (xwi M 79 r.length (Int32.ofInt b)) (by simp only [List.length_cons]; omega) (by omega) hV' (CM_f8 hM hff.f8) (fun i x hx => by
                rw [List.reverse_cons] at hx
                by_cases ei : i < r.length
                · rw [List.getElem?_append_left (by simpa using ei)] at hx
                  rw [m_ne _ (by omega)]
                  exact hp i x hx
                · have hi' : i = r.length := by
                    have := (List.getElem?_eq_some_iff.mp hx).1
                    simp at this
                    omega
                  subst hi'
                  rw [List.getElem?_append_right (by simp)] at hx
                  simp at hx
                  rw [m_eq, hx])
              have e1 : (qof (wR S.R) (b :: r)).2.1 = nx (qof (wR S.R) r).2.1 (S.R.kd b) := by
                show nx _ (wk (wR S.R b)) = _
                rw [wR_wM, (wk_wM hW.1 e2 hl).2.1]
              have e3 : (qof (wR S.R) (b :: r)).2.2 = (qof (wR S.R) r).2.2 ||| 2 ^ b := rfl
              rw [e1, e3, List.length_cons] at g1
              exact ⟨M', g1, hff.tr g2, g3⟩
      · rw [decide_eq_false (by omega), cond_false]
        refine stop ?_
        rw [f_hr, hb, Int.toNat_natCast, if_neg (fun x => e2 (exM_w x.2).1)]
