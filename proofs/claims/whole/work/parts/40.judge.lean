def tt (S : SV) (a : Int32) (z : Int) : Int := if 0 ≤ z ∧ z ≤ 40 then (if rtr S a = 0 then (if (S.ln a.toNatClampNeg : Int) < z then -2 else 0) else rtr S a) else -2
theorem rtr_rg (S : SV) (a : Int32) : rtr S a = 0 ∨ rtr S a = -2 ∨ rtr S a = -3 ∨ rtr S a = -4 := by
  unfold rtr
  cases xin a 8 with
  | false => right; left; rfl
  | true =>
    rw [cond_true]
    split
    · right; right; right; rfl
    · split
      · left; rfl
      · right; right; left; rfl
theorem tt_rg (S : SV) (a : Int32) (z : Int) : tt S a z = 0 ∨ ∃ j : Nat, j < 5 ∧ tt S a z = -2 - j := by
  unfold tt
  have := rtr_rg S a
  split
  · split
    · split
      · exact .inr ⟨0, by omega, rfl⟩
      · exact .inl rfl
    · rcases this with h | h | h | h
      · exact .inl h
      · exact .inr ⟨0, by omega, by rw [h]; rfl⟩
      · exact .inr ⟨1, by omega, by rw [h]; rfl⟩
      · exact .inr ⟨2, by omega, by rw [h]; rfl⟩
  · exact .inr ⟨0, by omega, rfl⟩
theorem rtr_sh {S : SV} {a : Int32} (h : rtr S a = 0) : ∃ k : Nat, k < 8 ∧ a = Int32.ofInt k ∧ S.th k ≠ -1 ∧ S.th k < 5 := by
  unfold rtr at h
  cases h1 : xin a 8 with
  | false => rw [h1, cond_false] at h; omega
  | true =>
    obtain ⟨k, hk, rfl⟩ := xin_ex (by omega) h1
    rw [h1, cond_true, i_natn (by omega)] at h
    refine ⟨k, hk, rfl, ?_, ?_⟩
    · intro e; rw [if_pos e] at h; omega
    · by_cases e : S.th k = -1
      · omega
      · rw [if_neg e] at h
        by_cases e2 : S.th k < 5
        · exact e2
        · rw [if_neg e2] at h; omega
theorem v_tt {N : Nat} {t : Nat} {S : SV} {M : XM} (hW : WfS S) (hM : CX t S M) (a : Int32) {z : Int} (hz : rg z) : fX8_toldTrouble N [.ref 0, .int a, .int (Int32.ofInt z)] M = some (Int32.ofInt (tt S a z), M) := by
  rw [eX8_toldTrouble, chk0 hz (by omega)]
  unfold tt
  by_cases h1 : 0 ≤ z ∧ z ≤ 40
  · rw [decide_eq_true h1, cond_true, if_pos h1, v_rowTrouble hW hM, e_bd]
    dsimp only
    have hr := rtr_rg S a
    rw [show (0 : Int32) = Int32.ofInt 0 from rfl, i_eq (by omega) (by omega)]
    by_cases h2 : rtr S a = 0
    · obtain ⟨k, hk, rfl, h3, h4⟩ := rtr_sh h2
      have hw := hW.2.2.2.2 k hk
      have h0 : 0 ≤ S.th k := by omega
      have h40 := hw.2 h0 h4
      rw [decide_eq_true h2, cond_true, if_pos h2, i_inn (by omega), show xlen M (0 + 46) = 8 from rfl, decide_eq_true hk, cond_true, i_natn (by omega), (x_shelf hk).1, (x_shelf hk).2]
      show (bif xlt (M.1 (48 + 2 * k) 1) (Int32.ofInt z) then _ else _) = _
      rw [((hM.2.2.2.2.2.1 k hk).2 h0 h4).1, i_lt (by omega) hz, h2]
      by_cases h5 : (S.ln k : Int) < z
      · rw [decide_eq_true h5, if_pos h5]; rfl
      · rw [decide_eq_false h5, if_neg h5]; rfl
    · rw [decide_eq_false h2, cond_false, if_neg h2]; rfl
  · rw [decide_eq_false h1, cond_false, if_neg h1]; rfl
theorem v_ns {N k : Nat} {S : SV} {M : XM} (hW : WfS S) (hM : CM S M) (hk : k < 8) {z : Int} (hz : 0 ≤ z ∧ z ≤ 40) : fX9_noSaying N [.ref 64, .int (Int32.ofInt k), .int (Int32.ofInt z)] M = some (Int32.ofInt (tt S (Int32.ofInt k) z), M) := by
  have hw := hW.2.2.2.2 k hk
  rw [eX9_noSaying, v_isRow9 hW hM hk, e_bd, b_z]
  unfold tt
  rw [if_pos hz, i_natn (by omega)]
  by_cases h2 : 0 ≤ S.th k ∧ S.th k < 5
  · have h40 := hw.2 h2.1 h2.2
    rw [v_row h2, cond_true, rtr_0 hk h2, if_pos rfl, i_inn (by omega), show xlen M (64 + 10) = 8 from rfl, decide_eq_true hk, cond_true]
    dsimp only
    rw [show 64 + 10 = 74 from rfl, ((hM.2.2.2.2.2.1 k hk).2 h2.1 h2.2).1, i_lt (by omega) (by omega)]
    by_cases h5 : (S.ln k : Int) < z
    · rw [decide_eq_true h5, if_pos h5]; rfl
    · rw [decide_eq_false h5, if_neg h5]; rfl
  · obtain ⟨j, hj, hr, he⟩ := rtr_k hW hk h2
    rw [v_notrow h2, cond_false, v_noRow hW hM hk (by omega), e_bd, if_neg (by omega)]
    rfl
theorem told_c {S : SV} (a : Int32) {z : Int} : (tt S a z = -2 ∧ (xin a 8 = false ∨ ¬ (0 ≤ z ∧ z ≤ 40))) ∨ (∃ k : Nat, k < 8 ∧ a = Int32.ofInt k ∧ (0 ≤ z ∧ z ≤ 40)) := by
  by_cases h1 : 0 ≤ z ∧ z ≤ 40
  · cases h2 : xin a 8 with
    | false =>
      left
      refine ⟨?_, .inl rfl⟩
      unfold tt rtr
      rw [if_pos h1, h2]
      rfl
    | true =>
      obtain ⟨k, hk, rfl⟩ := xin_ex (by omega) h2
      exact .inr ⟨k, hk, rfl, h1⟩
  · left
    exact ⟨by unfold tt; rw [if_neg h1], .inr h1⟩
theorem tt_ok {S : SV} (hW : WfS S) {k : Nat} (hk : k < 8) {z : Int} (hz : 0 ≤ z ∧ z ≤ 40) (h : tt S (Int32.ofInt k) z = 0) : 0 ≤ S.th k ∧ S.th k < 5 ∧ z ≤ S.ln k := by
  have hw := hW.2.2.2.2 k hk
  unfold tt at h
  rw [if_pos hz, i_natn (by omega)] at h
  by_cases h2 : rtr S (Int32.ofInt k) = 0
  · obtain ⟨k', hk', e, h3, h4⟩ := rtr_sh h2
    have : k = k' := by
      have := (i_inj (x := (k : Int)) (y := (k' : Int)) (by omega) (by omega)).mp e
      omega
    subst this
    rw [if_pos h2] at h
    refine ⟨by omega, h4, ?_⟩
    by_cases h5 : (S.ln k : Int) < z
    · rw [if_pos h5] at h; omega
    · omega
  · rw [if_neg h2] at h; exact absurd h h2
theorem tt_ge {S : SV} {a : Int32} {z : Int} : -4 ≤ tt S a z ∧ tt S a z ≤ 0 := by
  unfold tt
  have := rtr_rg S a
  split
  · split
    · split <;> omega
    · omega
  · omega
def hrd (S : SV) (k m : Nat) : Int × List Nat := f_hr S.R (tz S k) m []
theorem v_hear {N : Nat} (hN : big N) {t : Nat} {S : SV} (hW : WfS S) {k m : Nat} (hk : k < 8) (h0 : 0 ≤ S.th k) (h5 : S.th k < 5) (hm : m ≤ S.ln k) {M : XM} (hM : CX t S M) : ∃ M', fX7_hear N [.ref 43, .ref 1, .ref (48 + 2 * k), .int (Int32.ofInt m)] M = some M' ∧ CX t S M' ∧ fr 0 64 M M' ∧ M'.1 43 1 = Int32.ofInt (hrd S k m).1 ∧ M'.2 43 0 = Int64.ofInt (pack (hrd S k m).2.reverse : Nat) := by
  unfold big at hN
  have h40 := (hW.2.2.2.2 k hk).2 h0 h5
  have hf : fr 43 44 M (xwl M 43 0 (Int64.ofNat 0)) := fr.rf.wl (by omega) (by omega)
  obtain ⟨M', g1, g2, g3, g4⟩ := l_hear (N := N) hW hk h0 h5 hm m [] N (xwl M 43 0 (Int64.ofNat 0)) (by simp) (by omega) trivial (CX_43 hM hf) (by rw [m_wl2, if_pos ⟨rfl, rfl⟩]; rfl)
  refine ⟨M', ?_, CX_43 hM (hf.tr g2), (hf.tr g2).wide (by omega) (by omega), g3, g4⟩
  rw [eX7_hear _ _ _ _ (by omega) (sh_o hk)]
  exact g1
theorem v_wrg {N : Nat} (hN : big N) {S : SV} (hW : WfS S) {k m : Nat} (hk : k < 8) (h0 : 0 ≤ S.th k) (h5 : S.th k < 5) (hm : m ≤ S.ln k) {M : XM} (hM : CM S M) : ∃ M', fX9_wrong N [.ref 64, .int (Int32.ofInt k), .int (Int32.ofInt m)] M = some (Int32.ofInt (hrd S k m).1, M') ∧ fe M M' ∧ rowAt (hrd S k m).2.reverse M' := by
  unfold big at hN
  have h40 := (hW.2.2.2.2 k hk).2 h0 h5
  rw [eX9_wrong]
  exact l_wrg9 (by omega) hW hk h0 h5 hm m [] N M (by simp) (by omega) trivial hM (fun i x hx => by simp at hx)
theorem hrd_rg {S : SV} (hW : WfS S) (k m : Nat) : -1 ≤ (hrd S k m).1 ∧ (hrd S k m).1 ≤ m := by
  have := f_hr_ok hW.1 (z := tz S k) m [] trivial
  refine ⟨this.2.2.1, ?_⟩
  have h : (hrd S k m).1 ≤ ((0 : Nat) : Int) + (m : Int) := this.2.2.2
  omega
theorem hrd_ok {S : SV} (hW : WfS S) {k m : Nat} (h : (hrd S k m).1 = -1) : okl S.R S.R.lv (hrd S k m).2.reverse ∧ (hrd S k m).2.reverse.length = m ∧ m ≤ 10 := by
  obtain ⟨h1, h2, _⟩ := f_hr_ok hW.1 (z := tz S k) m [] trivial
  obtain ⟨h3, h4⟩ := h2 h
  have h5 := VA_nd hW.1 h1
  have h6 := VA_10 hW.1 h1
  rw [wR_wM, qof_pl] at h4
  rw [List.length_nil, Nat.zero_add] at h3
  refine ⟨⟨fun c hc => h5.1 c (List.mem_reverse.mp hc), h4, ?_⟩, by rw [List.length_reverse]; exact h3, ?_⟩
  · exact List.pairwise_reverse.mpr (h5.2.imp (fun h => h.symm))
  · have : (f_hr S.R (tz S k) m []).2.length = m := h3
    omega
theorem xlt0 {z : Int} (hz : rg z) : xlt (Int32.ofInt z) (0 : Int32) = decide (z < 0) := i_lt (y := 0) hz (by omega)
theorem xeq0 {z : Int} (hz : rg z) : xeq (Int32.ofInt z) (0 : Int32) = decide (z = 0) := i_eq (y := 0) hz (by omega)
set_option maxRecDepth 100000 in
theorem op_judge {t : Nat} {S : SV} (hW : WfS S) {N : Nat} (hN : big N) (a b : Int32) : both t S (fX8_judge N [.ref 0, .int a, .int b]) (fX9_judge N [.ref 64, .int a, .int b]) := by
  obtain ⟨z, hz, rfl⟩ := i_ex b
  have htg := tt_ge (S := S) (a := a) (z := z)
  rcases tt_rg S a z with h | ⟨j, hj, h⟩
  · rcases told_c (S := S) a (z := z) with ⟨h1, _⟩ | ⟨k, hk, rfl, hz2⟩
    · omega
    · obtain ⟨h0, h5, hln⟩ := tt_ok hW hk hz2 h
      obtain ⟨m, rfl⟩ := Int.eq_ofNat_of_zero_le hz2.1
      refine both_v hW (Int32.ofInt (hrd S k m).1) (fun M hM => ?_) (fun M hM => ?_)
      · obtain ⟨M', g1, g2, g3, g4, g5⟩ := v_hear hN hW hk h0 h5 (m := m) (by omega) hM
        refine ⟨M', ?_, g2, g3⟩
        rw [eX8_judge, v_tt hW hM _ hz, h, e_bd]
        dsimp only
        rw [xeq0 (by omega), decide_eq_true rfl, cond_true, i_inn (by omega), show xlen M (0 + 46) = 8 from rfl, decide_eq_true hk, cond_true, i_natn (by omega), (x_shelf hk).1, show 0 + 43 = 43 from rfl, show 0 + 1 = 1 from rfl, g1, e_bd, g4, e_I]
      · obtain ⟨M', g1, g2, _⟩ := v_wrg hN hW hk h0 h5 (m := m) (by omega) hM
        refine ⟨M', ?_, g2.f8⟩
        rw [eX9_judge, v_isShelf.2, e_bd, b_z, i_inn (by omega), decide_eq_true hk, cond_true, v_win hz (by omega) (by omega), e_bd, b_z, decide_eq_true hz2, cond_true]
        dsimp only
        rw [v_ns hW hM hk hz2, h, e_bd]
        dsimp only
        rw [xlt0 (by omega), decide_eq_false (by omega), cond_false, g1]
        rfl
  · refine both_ref' hW j hj N (fun M hM => ?_) (fun M hM => ?_)
    · rw [eX8_judge, v_tt hW hM _ hz, e_bd]
      dsimp only
      rw [xeq0 (by omega), decide_eq_false (by omega), cond_false, h]
    · rcases told_c (S := S) a (z := z) with ⟨h1, h2⟩ | ⟨k, hk, rfl, hz2⟩
      · obtain rfl : j = 0 := by omega
        rw [eX9_judge, v_isShelf.2, e_bd, b_z]
        cases hx : xin a 8 with
        | false => rfl
        | true =>
          rw [cond_true, v_win hz (by omega) (by omega), e_bd, b_z, decide_eq_false (h2.resolve_left (by rw [hx]; decide))]
          rfl
      · rw [eX9_judge, v_isShelf.2, e_bd, b_z, i_inn (by omega), decide_eq_true hk, cond_true, v_win hz (by omega) (by omega), e_bd, b_z, decide_eq_true hz2, cond_true]
        dsimp only
        rw [v_ns hW hM hk hz2, e_bd]
        dsimp only
        rw [xlt0 (by omega), decide_eq_true (by omega), cond_true, h]
def wt (S : SV) (a : Int32) (z : Int) : Int := if tt S a z = 0 then (if (hrd S a.toNatClampNeg z.toNat).1 = -1 then 0 else -5) else tt S a z
theorem v_wt {N : Nat} (hN : big N) {t : Nat} {S : SV} (hW : WfS S) {M : XM} (hM : CX t S M) (a : Int32) {z : Int} (hz : rg z) : ∃ M', fX8_wrongTrouble N [.ref 0, .int a, .int (Int32.ofInt z)] M = some (Int32.ofInt (wt S a z), M') ∧ CX t S M' ∧ fr 0 64 M M' ∧ (tt S a z = 0 → M'.2 43 0 = Int64.ofInt (pack (hrd S a.toNatClampNeg z.toNat).2.reverse : Nat)) := by
  have htg := tt_ge (S := S) (a := a) (z := z)
  rw [eX8_wrongTrouble, v_tt hW hM _ hz, e_bd]
  dsimp only
  rw [xeq0 (by omega)]
  unfold wt
  by_cases h : tt S a z = 0
  · rcases told_c (S := S) a (z := z) with ⟨h1, _⟩ | ⟨k, hk, rfl, hz2⟩
    · omega
    · obtain ⟨h0, h5, hln⟩ := tt_ok hW hk hz2 h
      obtain ⟨m, rfl⟩ := Int.eq_ofNat_of_zero_le hz2.1
      obtain ⟨M', g1, g2, g3, g4, g5⟩ := v_hear hN hW hk h0 h5 (m := m) (by omega) hM
      have hrg := hrd_rg hW k m
      rw [i_natn (by omega), Int.toNat_natCast]
      refine ⟨M', ?_, g2, g3, fun _ => g5⟩
      rw [decide_eq_true h, cond_true, if_pos h, i_inn (by omega), show xlen M (0 + 46) = 8 from rfl, decide_eq_true hk, cond_true, (x_shelf hk).1, show 0 + 43 = 43 from rfl, show 0 + 1 = 1 from rfl, g1, e_bd, g4, i_eq (by omega) (by omega)]
      by_cases e : (hrd S k m).1 = -1
      · rw [if_pos e, decide_eq_true e]; rfl
      · rw [if_neg e, decide_eq_false e]; rfl
  · rw [decide_eq_false h, cond_false, if_neg h]
    exact ⟨M, rfl, hM, fr.rf, fun e => absurd e h⟩
theorem wt_ge {S : SV} {a : Int32} {z : Int} : -5 ≤ wt S a z ∧ wt S a z ≤ 0 := by
  unfold wt
  have := tt_ge (S := S) (a := a) (z := z)
  split
  · split <;> omega
  · omega
theorem wt_rg (S : SV) (a : Int32) (z : Int) : wt S a z = 0 ∨ ∃ j : Nat, j < 5 ∧ wt S a z = -2 - j := by
  unfold wt
  split
  · split
    · exact .inl rfl
    · exact .inr ⟨3, by omega, rfl⟩
  · exact tt_rg S a z
theorem told_9 {N : Nat} (hN : big N) {S : SV} (hW : WfS S) {a : Int32} {z : Int} (hz : rg z) : (∃ k m : Nat, k < 8 ∧ a = Int32.ofInt k ∧ z = m ∧ (0 ≤ (m : Int) ∧ (m : Int) ≤ 40) ∧ tt S (Int32.ofInt k) m = 0 ∧ wt S a z = (if (hrd S k m).1 = -1 then 0 else -5) ∧ ∀ M, CM S M → ∃ M', fX9_wrong N [.ref 64, .int (Int32.ofInt k), .int (Int32.ofInt m)] M = some (Int32.ofInt (hrd S k m).1, M') ∧ fe M M' ∧ rowAt (hrd S k m).2.reverse M') ∨ (tt S a z ≠ 0 ∧ wt S a z = tt S a z) := by
  by_cases h : tt S a z = 0
  · rcases told_c (S := S) a (z := z) with ⟨h1, _⟩ | ⟨k, hk, rfl, hz2⟩
    · omega
    · obtain ⟨h0, h5, hln⟩ := tt_ok hW hk hz2 h
      obtain ⟨m, rfl⟩ := Int.eq_ofNat_of_zero_le hz2.1
      refine .inl ⟨k, m, hk, rfl, rfl, hz2, h, ?_, fun M hM => v_wrg hN hW hk h0 h5 (m := m) (by omega) hM⟩
      unfold wt
      rw [if_pos h, i_natn (by omega), Int.toNat_natCast]
  · exact .inr ⟨h, by unfold wt; rw [if_neg h]⟩
theorem wM_lv (R : RV) : wM R R.lv = wR R := rfl
set_option maxRecDepth 100000 in
theorem op_means {t : Nat} {S : SV} (hW : WfS S) {N : Nat} (hN : big N) (a b : Int32) : both t S (fX8_means N [.ref 0, .int a, .int b]) (fX9_means_ N [.ref 64, .int a, .int b]) := by
  obtain ⟨z, hz, rfl⟩ := i_ex b
  have hN' := hN
  unfold big at hN'
  have hwg := wt_ge (S := S) (a := a) (z := z)
  have htg := tt_ge (S := S) (a := a) (z := z)
  have cls : ∀ M, CX t S M → wt S a z ≠ 0 → ∃ M', fX8_means N [.ref 0, .int a, .int (Int32.ofInt z)] M = ((fX8_refuse N [.ref 0, .int (Int32.ofInt (wt S a z))] M').bind fun q1 => xrI (some (.int ((-100000000) + q1.1))) q1.2) ∧ CX t S M' ∧ fr 0 64 M M' := by
    intro M hM hw
    obtain ⟨M', g1, g2, g3, g4⟩ := v_wt hN hW hM a hz
    refine ⟨M', ?_, g2, g3⟩
    rw [eX8_means, g1, e_bd]
    dsimp only
    rw [xeq0 (by omega), decide_eq_false hw, cond_false]
  rcases told_9 hN hW (a := a) hz with ⟨k, m, hk, rfl, rfl, hz2, h, hwt, hm⟩ | ⟨h, hwt⟩
  · have mdl : ∀ M, CM S M → ∃ M', fX9_means_ N [.ref 64, .int (Int32.ofInt k), .int (Int32.ofInt m)] M = (bif decide ((hrd S k m).1 = -1) then ((fX9_meaning N [.ref 64, .int (Int32.ofInt m)] M').bind fun q4 => xrI (some (.int q4.1)) q4.2) else ((fX9_noMeaning N [.ref 64, .int (Int32.ofInt (-5))] M').bind fun q4 => xrI (some (.int q4.1)) q4.2)) ∧ fe M M' ∧ rowAt (hrd S k m).2.reverse M' := by
      intro M hM
      obtain ⟨M', g1, g2, g3⟩ := hm M hM
      have hrg := hrd_rg hW k m
      refine ⟨M', ?_, g2, g3⟩
      rw [eX9_means_, v_isShelf.2, e_bd, b_z, i_inn (by omega), decide_eq_true hk, cond_true, v_win hz (by omega) (by omega), e_bd, b_z, decide_eq_true hz2, cond_true]
      dsimp only
      rw [v_ns hW hM hk hz2, h, e_bd]
      dsimp only
      rw [xlt0 (by omega), decide_eq_false (by omega), cond_false, g1, e_bd]
      dsimp only
      rw [i_eq (by omega) (by omega)]
    by_cases e : (hrd S k m).1 = -1
    · obtain ⟨k1, k2, k3⟩ := hrd_ok hW e
      rw [if_pos e] at hwt
      refine both_v hW (Int32.ofInt (mean (wR S.R) (hrd S k m).2.reverse)) (fun M hM => ?_) (fun M hM => ?_)
      · obtain ⟨M', g1, g2, g3, g4⟩ := v_wt hN hW hM (Int32.ofInt k) hz
        have g4 := g4 h
        rw [i_natn (by omega), Int.toNat_natCast] at g4
        have hme := v_mean8 (N := N) (o := 1) (by omega) (by omega) hW.1 g2.1 k1.1 (by omega)
        rw [k2] at hme
        refine ⟨M', ?_, g2, g3⟩
        rw [eX8_means, g1, e_bd]
        dsimp only
        rw [hwt, show xeq (Int32.ofInt 0) 0 = true from rfl, cond_true, show 0 + 1 = 1 from rfl, show 0 + 43 = 43 from rfl, g4, hme]
        rfl
      · obtain ⟨M', g1, g2, g3⟩ := mdl M hM
        have hme := v_meaning9 (N := N) (by omega) hW.1 (mv_fe hM.1 g2) k1 (by omega) g3
        rw [k2] at hme
        refine ⟨M', ?_, g2.f8⟩
        rw [g1, decide_eq_true e, cond_true, hme]
        rfl
    · rw [if_neg e] at hwt
      refine both_refy hW 3 (by omega) N (fun M hM => ?_) (fun M hM => ?_)
      · obtain ⟨M', g1, g2, g3⟩ := cls M hM (by omega)
        exact ⟨M', by rw [g1, hwt]; rfl, g2, g3⟩
      · obtain ⟨M', g1, g2, g3⟩ := mdl M hM
        exact ⟨M', by rw [g1, decide_eq_false e]; rfl, g2.f8⟩
  · obtain ⟨j, hj, hj2⟩ := (tt_rg S a z).resolve_left h
    refine both_refy hW j hj N (fun M hM => ?_) (fun M hM => ⟨M, ?_, f8.rf⟩)
    · obtain ⟨M', g1, g2, g3⟩ := cls M hM (by omega)
      exact ⟨M', by rw [g1, hwt, hj2], g2, g3⟩
    · rcases told_c (S := S) a (z := z) with ⟨h1, h2⟩ | ⟨k, hk, rfl, hz2⟩
      · obtain rfl : j = 0 := by omega
        rw [eX9_means_, v_isShelf.2, e_bd, b_z]
        cases hx : xin a 8 with
        | false => rfl
        | true =>
          rw [cond_true, v_win hz (by omega) (by omega), e_bd, b_z, decide_eq_false (h2.resolve_left (by rw [hx]; decide))]
          rfl
      · rw [eX9_means_, v_isShelf.2, e_bd, b_z, i_inn (by omega), decide_eq_true hk, cond_true, v_win hz (by omega) (by omega), e_bd, b_z, decide_eq_true hz2, cond_true]
        dsimp only
        rw [v_ns hW hM hk hz2, e_bd]
        dsimp only
        rw [xlt0 (by omega), decide_eq_true (by omega), cond_true, hj2]
