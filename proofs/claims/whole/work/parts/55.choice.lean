theorem fch_60 {R : RV} (hW : Wf R) (hn : R.nb < 10) : fch (vch R) 60 0 (0, -1) = fch (vch R) 50 10 (0, (pop (metW R R.lv) : Int)) := by
  rw [show 60 = 10 + 50 from rfl, fch_add]
  congr 1
  rw [show 10 = 9 + 1 from rfl, fch, vch_0 hW hn (show 0 < 10 by omega), if_pos (show (-1 : Int) < (pop (metW R R.lv) : Int) by omega)]
  exact fch_c 9 1 _ (fun i h1 h2 => by
    rw [vch_0 hW hn (show i < 10 by omega)]
    exact Int.le_refl _)
theorem v_choose8 {N : Nat} (hN : big N) {t : Nat} {S : SV} (hW : WfS S) (hn10 : S.R.nb < 10) {M : XM} (hM : CX t S M) (hS : SYw 22 6 2400 (wR S.R) M) : ∃ M', fX1_choose N [.ref 31, .ref 1, .ref 22, .ref 15] M = some M' ∧ CX t S M' ∧ fr 0 64 M M' ∧ M'.1 31 0 = Int32.ofInt (fch (vch S.R) 60 0 (0, -1)).1 ∧ M'.1 31 1 = Int32.ofInt (fch (vch S.R) 60 0 (0, -1)).2 := by
  have hNb := hN
  unfold big at hNb
  have h := v_met8 hN hW.1 hM.1 hS 0
  rw [ndiff_0] at h
  have h : fX1_metWithout N [.ref 31, .ref 1, .ref 22, .int (Int32.ofInt 0)] M = _ := h
  have hm8 := metW_lt hW.1 S.R.lv
  have hp10 := pop_10 (metW S.R S.R.lv)
  have hf : fr 31 32 M (xwi (xwi M 31 0 (Int32.ofInt 0)) 31 1 (Int32.ofInt (pop (metW S.R S.R.lv)))) := (fr.rf.wi (by omega) (by omega)).wi (by omega) (by omega)
  obtain ⟨-, -, -, -, -, -, -, -, ⟨-, -, ⟨w, cs⟩⟩, -⟩ := id hM
  have hM1 : CX t S (xwi (xwi M 31 0 (Int32.ofInt 0)) 31 1 (Int32.ofInt (pop (metW S.R S.R.lv)))) := CX_gz hM (gz_fr hf (by omega)) ⟨w, SYw_m cs (fun a j h1 h2 => by rw [hf.i (by omega)]) (fun j => by rw [hf.l (by omega)])⟩
  obtain ⟨M2, r1, r2, r3, r4, r5⟩ := l_26 (N := N) hN hW hn10 5 1 N (0, (pop (metW S.R S.R.lv) : Int)) _ hM1 (by omega) (by omega) ⟨by show (0 : Int) ≤ 0; omega, by show (0 : Int) < 100; omega, by show (-1 : Int) ≤ (pop (metW S.R S.R.lv) : Int); omega, by show (pop (metW S.R S.R.lv) : Int) ≤ 10; omega⟩ (by rw [m_ne _ (by omega), m_eq]) (by rw [m_eq])
  refine ⟨M2, ?_, r2, (hf.wide (by omega) (by omega)).tr r3, ?_, ?_⟩
  · rw [eX1_choose _ _ _ _ (by omega) (by omega) (by omega), h, e_bd]
    dsimp only
    rw [v_pop N (by omega), e_bd]
    exact r1
  · rw [fch_60 hW.1 hn10]; exact r4
  · rw [fch_60 hW.1 hn10]; exact r5
set_option maxRecDepth 100000 in
theorem op_choice {t : Nat} {S : SV} (hW : WfS S) {N : Nat} (hN : big N) (a : Int32) : both t S (fX8_choice N [.ref 0, .int a]) (fX9_choice N [.ref 64, .int a]) := by
  obtain ⟨x, hx, rfl⟩ := i_ex a
  have hN' := hN
  unfold big at hN'
  have h10 := hW.1.1
  by_cases h1 : 0 ≤ x ∧ x ≤ 1
  · by_cases hn : S.R.nb < 10
    · have c8 : ∀ M, CX t S M → ∃ M', fX8_choice N [.ref 0, .int (Int32.ofInt x)] M = some (Int32.ofInt (if x = 0 then (fch (vch S.R) 60 0 (0, -1)).1 else (fch (vch S.R) 60 0 (0, -1)).2), M') ∧ CX t S M' ∧ fr 0 64 M M' := by
        intro M hM
        obtain ⟨M1, a1, a2, a3, a4⟩ := v_now hN hW hM
        obtain ⟨M2, b1, b2, b3, b4, b5⟩ := v_choose8 hN hW hn a2 a3
        refine ⟨M2, ?_, b2, a4.tr b3⟩
        rw [eX8_choice, chk0 hx (by omega), decide_eq_true h1, cond_true, show 0 + 1 = 1 from rfl, v_hasRoom (by omega) hM.1 h10, e_bd, b_z, decide_eq_true hn, cond_true]
        dsimp only
        rw [a1, e_bd, show 0 + 31 = 31 from rfl, show 0 + 15 = 15 from rfl, b1, e_bd, xeq0 hx, b4, b5]
        by_cases e : x = 0
        · rw [decide_eq_true e, cond_true, if_pos e, e_I]
        · rw [decide_eq_false e, cond_false, if_neg e, e_I]
      have c9 : ∀ M, CM S M → ∃ M', fX9_choice N [.ref 64, .int (Int32.ofInt x)] M = some (Int32.ofInt (if x = 0 then (fch (vch S.R) 60 0 (0, -1)).1 else (fch (vch S.R) 60 0 (0, -1)).2), M') ∧ CM S M' ∧ fr 64 82 M M' := by
        intro M hM
        obtain ⟨M', r1, r2, r3⟩ := l_c9 hN hW hn (Int32.ofInt x) 60 0 N (0, -1) M hM (by omega) (by omega) ⟨by show (0 : Int) ≤ 0; omega, by show (0 : Int) < 100; omega, by show (-1 : Int) ≤ -1; omega, by show (-1 : Int) ≤ 10; omega⟩
        refine ⟨M', ?_, r2, r3⟩
        rw [eX9_choice, v_win hx (by omega) (by omega), e_bd, b_z, decide_eq_true h1, cond_true]
        dsimp only
        rw [hM.1.1, i_eq (by omega) (by omega), decide_eq_false (by omega), cond_false]
        refine Eq.trans r1 ?_
        rw [xeq0 hx]
        by_cases e : x = 0
        · rw [decide_eq_true e, cond_true, if_pos e, e_I]
        · rw [decide_eq_false e, cond_false, if_neg e, e_I]
      exact ⟨S, _, hW, fun M hM => by
        obtain ⟨M', g1, g2, g3⟩ := c8 M hM
        exact ⟨M', g1, g2.tick, g3⟩, fun M hM => c9 M hM⟩
    · refine both_ref' hW 4 (by omega) N (fun M hM => ?_) (fun M hM => ?_)
      · rw [eX8_choice, chk0 hx (by omega), decide_eq_true h1, cond_true, show 0 + 1 = 1 from rfl, v_hasRoom (by omega) hM.1 h10, e_bd, b_z, decide_eq_false hn, cond_false]
        rfl
      · rw [eX9_choice, v_win hx (by omega) (by omega), e_bd, b_z, decide_eq_true h1, cond_true]
        dsimp only
        rw [hM.1.1, i_eq (by omega) (by omega), decide_eq_true (by omega), cond_true]
        rfl
  · refine both_ref' hW 0 (by omega) N (fun M hM => ?_) (fun M hM => ?_)
    · rw [eX8_choice, chk0 hx (by omega), decide_eq_false h1, cond_false]
      rfl
    · rw [eX9_choice, v_win hx (by omega) (by omega), e_bd, b_z, decide_eq_false h1, cond_false]
      rfl
