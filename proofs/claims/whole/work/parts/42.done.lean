def f_std (c : Nat) : List Nat → Nat → RV → RV
  | [], _, R => R
  | b :: l, i, R => f_std c l (i + 1) (R.sce (upn R.ce b (c + i)))
theorem f_std_nb (c : Nat) : ∀ l i R, (f_std c l i R).nb = R.nb
  | [], _, _ => rfl
  | b :: l, i, R => by rw [f_std, f_std_nb c l]; rfl
theorem f_std_sd (c : Nat) : ∀ l i R, (f_std c l i R).sd = R.sd
  | [], _, _ => rfl
  | b :: l, i, R => by rw [f_std, f_std_sd c l]; rfl
theorem wf_cel {R : RV} (h : Wf R) {b v : Nat} (hv : cellok v) : Wf (R.sce (upn R.ce b v)) := by
  obtain ⟨h1, h2, h3, h4, h5⟩ := h
  refine ⟨h1, h2, h3, fun c hc => ?_, h5⟩
  obtain ⟨a1, a2, a3, a4⟩ := h4 c hc
  refine ⟨a1, a2, ?_, a4⟩
  show cellok (upn R.ce b v c)
  rw [upn_at]
  split
  · exact hv
  · exact a3
theorem wf_std {c : Nat} : ∀ l i R, Wf R → c + i + l.length ≤ 6 → Wf (f_std c l i R)
  | [], _, _, h, _ => h
  | b :: l, i, R, h, hc => by
    simp only [List.length_cons] at hc
    exact wf_std l (i + 1) _ (wf_cel h (by unfold cellok; omega)) (by omega)
theorem l_std8 {N : Nat} {l : List Nat} {c : Nat} (hc : c + l.length ≤ 6) : ∀ (u : List Nat) (j n : Nat) (R : RV) (M : XM), Wf R → cv 1 R M → (∀ b ∈ l, b < R.nb) → l.drop j = u → j + u.length = l.length → u.length < n → ∃ M', gX2_stand N n 3 [.ref 1, .long (Int64.ofInt (pack l : Nat)), .retAddr 0, .int (Int32.ofInt l.length), .int (Int32.ofInt c), .int (Int32.ofInt j)] [] M = some M' ∧ cv 1 (f_std c u j R) M' ∧ fr 1 8 M M'
  | [], j, n + 1, R, M, hW, hR, hl, ht, hj, hn => by
    simp only [List.length_nil] at hj
    refine ⟨M, ?_, hR, fr.rf⟩
    rw [eX2_stand_3 _ _ _ _ _ _ _ (by omega), i_lt (by omega) (by omega), decide_eq_false (by omega)]
    rfl
  | b :: u, j, n + 1, R, M, hW, hR, hl, ht, hj, hn => by
    simp only [List.length_cons] at hj hn
    have h10 := hW.1
    have hja : l[j]? = some b := by rw [← List.head?_drop, ht]; rfl
    have ht' : l.drop (j + 1) = u := by rw [← List.drop_drop, ht]; rfl
    have hb := hl b (List.mem_of_getElem? hja)
    obtain ⟨M', g1, g2, g3⟩ := l_std8 (N := N) hc u (j + 1) n (R.sce (upn R.ce b (c + j))) (xwi M 4 b (Int32.ofInt ((c + j : Nat) : Int))) (wf_cel hW (by unfold cellok; omega)) (cv_ce hR) hl ht' (by omega) (by omega)
    refine ⟨M', ?_, g2, (fr.rf.wi (by omega) (by omega)).tr g3⟩
    rw [eX2_stand_3 _ _ _ _ _ _ _ (by omega), i_lt (by omega) (by omega), decide_eq_true (by omega), cond_true, v_at (fun y hy => by have := hl y hy; omega) (by omega) hja, e_bd]
    dsimp only
    rw [i_inn (by omega), show xlen M (1 + 3) = 16 from rfl, decide_eq_true (by omega), cond_true, i_natn (by omega), i_plus, i_suc]
    exact g1
theorem l_std9 {N : Nat} {l : List Nat} {c : Nat} (hc : c + l.length ≤ 6) : ∀ (u : List Nat) (j n : Nat) (R : RV) (M : XM), Wf R → mv R M → rowAt l M → (∀ b ∈ l, b < R.nb) → l.drop j = u → j + u.length = l.length → u.length < n → ∃ M', gX9_done N n 74 [.ref 64, .retAddr 0, .int (Int32.ofInt l.length), .retAddr 0, .int (Int32.ofInt c), .int (Int32.ofInt j)] [] M = some (R.sd + Int32.ofInt 1, M') ∧ mv ((f_std c u j R).ssd (R.sd + Int32.ofInt 1)) M' ∧ fr 64 72 M M' ∧ M'.1 64 11 = M.1 64 11 ∧ M'.1 64 21 = M.1 64 21
  | [], j, n + 1, R, M, hW, hR, hr, hl, ht, hj, hn => by
    simp only [List.length_nil] at hj
    refine ⟨xwi M 64 9 (R.sd + Int32.ofInt 1), ?_, mv_sd hR, fr.rf.wi (by omega) (by omega), by rw [m_ne _ (by omega)], by rw [m_ne _ (by omega)]⟩
    rw [eX9_done_74, i_lt (by omega) (by omega), decide_eq_false (by omega), cond_false, hR.2.2.1, e_I]
  | b :: u, j, n + 1, R, M, hW, hR, hr, hl, ht, hj, hn => by
    simp only [List.length_cons] at hj hn
    have h10 := hW.1
    have hja : l[j]? = some b := by rw [← List.head?_drop, ht]; rfl
    have ht' : l.drop (j + 1) = u := by rw [← List.drop_drop, ht]; rfl
    have hb := hl b (List.mem_of_getElem? hja)
    obtain ⟨M', g1, g2, g3, g4, g5⟩ := l_std9 (N := N) hc u (j + 1) n (R.sce (upn R.ce b (c + j))) (xwi M 67 b (Int32.ofInt ((c + j : Nat) : Int))) (wf_cel hW (by unfold cellok; omega)) (mv_ce hR) (fun i x hx => by rw [m_ne _ (by omega)]; exact hr i x hx) hl ht' (by omega) (by omega)
    refine ⟨M', ?_, g2, (fr.rf.wi (by omega) (by omega)).tr g3, g4.trans (by rw [m_ne _ (by omega)]), g5.trans (by rw [m_ne _ (by omega)])⟩
    rw [eX9_done_74, i_lt (by omega) (by omega), decide_eq_true (by omega), cond_true]
    simp (disch := omega) only [Nat.reduceAdd, xl_79', i_inn, i_natn, decide_eq_true, cond_true, hr j b hja, show ∀ M, xlen M 67 = 11 from fun _ => rfl, i_plus, i_suc]
    exact g1
theorem bf2 {w : Int32} {M : XM} (hx : xeq w 0 = false) (F G H : Int32 × XM → Option (Int32 × XM)) : ((some (w, M)).bind fun q0 => bif xeq q0.1 0 then F q0 else bif xeq q0.1 0 then G q0 else H q0) = H (w, M) := by
  rw [e_bd]
  show (bif xeq w 0 then F (w, M) else bif xeq w 0 then G (w, M) else H (w, M)) = _
  rw [hx]
  rfl
set_option maxRecDepth 100000 in
theorem d_crf {N : Nat} (hN : big N) {t : Nat} {S : SV} (hW : WfS S) {a : Int32} {z : Int} (hz : -2147483648 ≤ z ∧ z < 2147483648) {M : XM} (hM : CX t S M) (hne : wt S a z ≠ 0) : ∃ M', fX8_done N [.ref 0, .int a, .int (Int32.ofInt z)] M = ((fX8_refuse N [.ref 0, .int (Int32.ofInt (wt S a z))] M').bind fun q1 => xrI (some (.int q1.1)) q1.2) ∧ CX t S M' ∧ fr 0 64 M M' := by
  have hwg := wt_ge (S := S) (a := a) (z := z)
  obtain ⟨M', g1, g2, g3, g4⟩ := v_wt hN hW hM a hz
  refine ⟨M', ?_, g2, g3⟩
  have hx : xeq (Int32.ofInt (wt S a z)) 0 = false := by rw [xeq0 (by omega)]; exact decide_eq_false hne
  clear g4 hM hW hN hwg hne
  generalize Int32.ofInt (wt S a z) = w at g1 hx ⊢
  generalize Int32.ofInt z = y at g1 ⊢
  rw [eX8_done, g1]
  exact bf2 hx _ _ _
set_option maxRecDepth 100000 in
theorem d_cok {N : Nat} (hN : big N) {t : Nat} {S : SV} (hW : WfS S) {k m : Nat} (hk : k < 8) (hz2 : m ≤ 40) (h : tt S (Int32.ofInt k) m = 0) (hwt : wt S (Int32.ofInt k) m = 0) {M : XM} (hM : CX t S M) : ∃ M', fX8_done N [.ref 0, .int (Int32.ofInt k), .int (Int32.ofInt m)] M = (bif decide (6 < m) then ((fX8_refuse N [.ref 0, .int (Int32.ofInt (-5))] M').bind fun q1 => xrI (some (.int q1.1)) q1.2) else ((fX2_bestColumn N [.ref 1, .long (Int64.ofInt (pack (hrd S k m).2.reverse : Nat)), .int (Int32.ofInt m)] M').bind fun q1 => (fX2_stand N [.ref 1, .long (Int64.ofInt (pack (hrd S k m).2.reverse : Nat)), .int (Int32.ofInt m), .int q1.1] q1.2).bind fun q2 => xrI (some (.int ((xwi q2 1 9 ((q2.1 1 9) + (Int32.ofInt 1))).1 1 9))) (xwi q2 1 9 ((q2.1 1 9) + (Int32.ofInt 1))))) ∧ CX t S M' ∧ fr 0 64 M M' := by
  have hm5 : xeq (Int32.ofInt (-5)) 0 = false := by decide +kernel
  obtain ⟨M', g1, g2, g3, g4⟩ := v_wt hN hW hM (Int32.ofInt k) (z := (m : Int)) (by omega)
  have g4 := g4 h
  rw [i_natn (by omega), Int.toNat_natCast] at g4
  refine ⟨M', ?_, g2, g3⟩
  rw [eX8_done, g1, e_bd]
  dsimp only
  rw [hwt, show xeq (Int32.ofInt 0) 0 = true from rfl, hm5, i_lt (by omega) (by omega), show decide ((6 : Int) < (m : Int)) = decide (6 < m) from decide_eq_decide.mpr (by omega), show 0 + 1 = 1 from rfl, show 0 + 43 = 43 from rfl, g4]
  simp only [cond_true, cond_false]
set_option maxRecDepth 100000 in
theorem op_done {t : Nat} {S : SV} (hW : WfS S) {N : Nat} (hN : big N) (a b : Int32) : both t S (fX8_done N [.ref 0, .int a, .int b]) (fX9_done N [.ref 64, .int a, .int b]) := by
  obtain ⟨z, hz, rfl⟩ := i_ex b
  have hN' := hN
  unfold big at hN'
  have hwg := wt_ge (S := S) (a := a) (z := z)
  have htg := tt_ge (S := S) (a := a) (z := z)
  rcases told_9 hN hW (a := a) hz with ⟨k, m, hk, rfl, rfl, hz2, h, hwt, hm⟩ | ⟨h, hwt⟩
  · have mdl : ∀ M, CM S M → ∃ M', fX9_done N [.ref 64, .int (Int32.ofInt k), .int (Int32.ofInt m)] M = (bif decide ((hrd S k m).1 = -1) then (bif decide (6 < m) then ((fX9_no N [.ref 64, .int (Int32.ofInt (-5))] M').bind fun q5 => xrI (some (.int q5.1)) q5.2) else ((fX9_bestColumn N [.ref 64, .int (Int32.ofInt m)] M').bind fun q4 => gX9_done N N 74 [.ref 64, .retAddr 0, .int (Int32.ofInt m), .retAddr 0, .int q4.1, .int (Int32.ofInt 0)] [] q4.2)) else ((fX9_no N [.ref 64, .int (Int32.ofInt (-5))] M').bind fun q5 => xrI (some (.int q5.1)) q5.2)) ∧ fe M M' ∧ rowAt (hrd S k m).2.reverse M' := by
      intro M hM
      obtain ⟨M', g1, g2, g3⟩ := hm M hM
      have hrg := hrd_rg hW k m
      refine ⟨M', ?_, g2, g3⟩
      rw [eX9_done, v_isShelf.2, e_bd, b_z, i_inn (by omega), decide_eq_true hk, cond_true, v_win hz (by omega) (by omega), e_bd, b_z, decide_eq_true hz2, cond_true]
      dsimp only
      rw [v_ns hW hM hk hz2, h, e_bd]
      dsimp only
      rw [xlt0 (by omega), decide_eq_false (by omega), cond_false, g1, e_bd]
      dsimp only
      rw [i_eq (by omega) (by omega), i_lt (by omega) (by omega), show decide ((6 : Int) < (m : Int)) = decide (6 < m) from decide_eq_decide.mpr (by omega)]
    by_cases e : (hrd S k m).1 = -1
    · obtain ⟨k1, k2, k3⟩ := hrd_ok hW e
      rw [if_pos e] at hwt
      have hl : ∀ c ∈ (hrd S k m).2.reverse, c < S.R.nb := fun c hc => (k1.1 c hc).1
      have cok := fun M (hM : CX t S M) => d_cok hN hW hk (by omega) h hwt hM
      by_cases e6 : 6 < m
      · refine both_refx hW 3 (by omega) N (fun M hM => ?_) (fun M hM => ?_)
        · obtain ⟨M', g1, g2, g3⟩ := cok M hM
          exact ⟨M', by rw [g1, decide_eq_true e6, cond_true]; rfl, g2, g3⟩
        · obtain ⟨M', g1, g2, g3⟩ := mdl M hM
          exact ⟨M', by rw [g1, decide_eq_true e, decide_eq_true e6, cond_true, cond_true]; rfl, g2.f8⟩
      · have hbb := bst_b (R := S.R) (l := (hrd S k m).2.reverse) (by omega)
        have hnb := f_std_nb (bst S.R (hrd S k m).2.reverse) (hrd S k m).2.reverse 0 S.R
        have hsd := f_std_sd (bst S.R (hrd S k m).2.reverse) (hrd S k m).2.reverse 0 S.R
        have hwf := wf_std (c := bst S.R (hrd S k m).2.reverse) (hrd S k m).2.reverse 0 S.R hW.1 (by omega)
        refine ⟨S.wR ((f_std (bst S.R (hrd S k m).2.reverse) (hrd S k m).2.reverse 0 S.R).ssd (S.R.sd + Int32.ofInt 1)), S.R.sd + Int32.ofInt 1, ⟨⟨hwf.1, hwf.2.1, hwf.2.2.1, hwf.2.2.2.1, hwf.2.2.2.2⟩, hW.2.1, hW.2.2.1, hW.2.2.2.1, fun s hs => ?_⟩, fun M hM => ?_, fun M hM => ?_⟩
        · have := hW.2.2.2.2 s hs
          refine ⟨⟨this.1.1, ?_, this.1.2.2⟩, this.2⟩
          show S.th s < 10 + ((f_std (bst S.R (hrd S k m).2.reverse) (hrd S k m).2.reverse 0 S.R).nb : Int)
          rw [hnb]
          exact this.1.2.1
        · obtain ⟨M1, g1, g2, g3⟩ := cok M hM
          have b8 := v_bst8 (N := N) (by omega) hW.1 g2.1 hl (by omega)
          rw [k2] at b8
          obtain ⟨M2, s1, s2, s3⟩ := l_std8 (N := N) (l := (hrd S k m).2.reverse) (c := bst S.R (hrd S k m).2.reverse) (by omega) (hrd S k m).2.reverse 0 N S.R M1 hW.1 g2.1 hl rfl (by omega) (by omega)
          rw [k2] at s1
          have s1 : gX2_stand N N 3 [.ref 1, .long (Int64.ofInt (pack (hrd S k m).2.reverse : Nat)), .retAddr 0, .int (Int32.ofInt m), .int (Int32.ofInt (bst S.R (hrd S k m).2.reverse)), .int (Int32.ofInt 0)] [] M1 = some M2 := s1
          have h9 : M2.1 1 9 = S.R.sd := by rw [s2.2.2.2.1, hsd]
          refine ⟨xwi M2 1 9 (S.R.sd + Int32.ofInt 1), ?_, CX_R g2 (cv_sd s2) (s3.wi (by omega) (by omega)), g3.tr ((s3.wi (by omega) (by omega)).wide (by omega) (by omega))⟩
          rw [g1, decide_eq_false e6, cond_false, b8, e_bd]
          dsimp only
          rw [eX2_stand _ _ _ _ _ (by omega), s1, e_bd, h9, m_eq, e_I]
        · obtain ⟨M1, g1, g2, g3⟩ := mdl M hM
          have b9 := v_bst9 (N := N) (by omega) hW.1 (mv_fe hM.1 g2) hl g3 (by omega)
          rw [k2] at b9
          obtain ⟨M2, s1, s2, s3, s4, s5⟩ := l_std9 (N := N) (l := (hrd S k m).2.reverse) (c := bst S.R (hrd S k m).2.reverse) (by omega) (hrd S k m).2.reverse 0 N S.R M1 hW.1 (mv_fe hM.1 g2) g3 hl rfl (by omega) (by omega)
          rw [k2] at s1
          refine ⟨M2, ?_, CM_R (CM_f8 hM g2.f8) s2 s3 s4 s5, g2.f8.fr.tr (s3.wide (by omega) (by omega))⟩
          rw [g1, decide_eq_true e, cond_true, decide_eq_false e6, cond_false, b9, e_bd]
          exact s1
    · rw [if_neg e] at hwt
      refine both_refx hW 3 (by omega) N (fun M hM => ?_) (fun M hM => ?_)
      · obtain ⟨M', g1, g2, g3⟩ := d_crf (a := Int32.ofInt k) hN hW hz hM (by omega)
        exact ⟨M', by rw [g1, hwt]; rfl, g2, g3⟩
      · obtain ⟨M', g1, g2, g3⟩ := mdl M hM
        exact ⟨M', by rw [g1, decide_eq_false e, cond_false]; rfl, g2.f8⟩
  · obtain ⟨j, hj, hj2⟩ := (tt_rg S a z).resolve_left h
    refine both_refx hW j hj N (fun M hM => ?_) (fun M hM => ⟨M, ?_, f8.rf⟩)
    · obtain ⟨M', g1, g2, g3⟩ := d_crf (a := a) hN hW hz hM (by omega)
      exact ⟨M', by rw [g1, hwt, hj2], g2, g3⟩
    · rcases told_c (S := S) a (z := z) with ⟨h1, h2⟩ | ⟨k, hk, rfl, hz2⟩
      · obtain rfl : j = 0 := by omega
        rw [eX9_done, v_isShelf.2, e_bd, b_z]
        cases hx : xin a 8 with
        | false =>
          rw [cond_false]
          rfl
        | true =>
          rw [cond_true, v_win hz (by omega) (by omega), e_bd, b_z, decide_eq_false (h2.resolve_left (by rw [hx]; decide)), cond_false]
          rfl
      · rw [eX9_done, v_isShelf.2, e_bd, b_z, i_inn (by omega), decide_eq_true hk, cond_true, v_win hz (by omega) (by omega), e_bd, b_z, decide_eq_true hz2, cond_true]
        dsimp only
        rw [v_ns hW hM hk hz2, e_bd]
        dsimp only
        rw [xlt0 (by omega), decide_eq_true (by omega), cond_true, hj2]
