theorem nx_0 : ∀ p, nx p 0 = 7 := fun p => by
  by_cases h : p < 7
  · exact (show ∀ p, p < 7 → nx p 0 = 7 by decide) p h
  · unfold nx
    rw [List.getD_eq_getElem?_getD, List.getElem?_eq_none (by show 42 ≤ p * 6 + 0; omega)]
    rfl
theorem lvl_k0 {w : Nat → Nat} : ∀ n q, q ∈ lvl w n → ∀ b ∈ q.1, wk (w b) ≠ 0
  | 0, q, h, b, hb => by
    rw [lvl, List.mem_singleton] at h
    subst h
    cases hb
  | n + 1, q, h, b, hb => by
    rw [lvl, List.mem_flatMap] at h
    obtain ⟨q', h1, h2⟩ := h
    unfold exts at h2
    rw [List.mem_map] at h2
    obtain ⟨c, h3, rfl⟩ := h2
    have h4 := (List.mem_filter.mp h3).2
    have hb : b ∈ q'.1 ++ [c] := hb
    rcases List.mem_append.mp hb with hb | hb
    · exact lvl_k0 n q' h1 b hb
    · rw [List.mem_singleton] at hb
      subst hb
      intro e
      unfold exb at h4
      rw [e, nx_0] at h4
      simp at h4
theorem VL_k0 {w : Nat → Nat} {L : Nat} {q : RW} (h : q ∈ VL w L) : ∀ b ∈ q.1, wk (w b) ≠ 0 := by
  unfold VL at h
  rw [List.mem_flatMap] at h
  obtain ⟨n, _, h⟩ := h
  exact lvl_k0 n q (List.mem_filter.mp h).1
theorem mba_no {R : RV} {K a : Nat} : ∀ (T : List RW) (l : Nat), (∀ q ∈ T, q.2.2.testBit R.nb = false) → mba R K a l T = l
  | [], _, _ => rfl
  | q :: T, l, h => by
    rw [mba, h q List.mem_cons_self, if_neg Bool.false_ne_true]
    exact mba_no T l (fun x hx => h x (List.mem_cons_of_mem _ hx))
theorem vch_0 {R : RV} (hW : Wf R) (hn : R.nb < 10) {k : Nat} (hk : k < 10) : vch R k = pop (metW R R.lv) := by
  have hW0 := wf_add hW hn (show 0 < 6 by omega) (show 0 ≤ 9 by omega) (show cellok 0 by unfold cellok; omega)
  unfold vch
  rw [show k / 10 = 0 by omega, mba_no _ _ (fun q hq => ?_)]
  obtain ⟨_, _, _, _, g5⟩ := VL_row hW0 hq
  rw [g5, decide_eq_false (fun h => ?_)]
  have := VL_k0 hq _ h
  rw [wR_add hW, if_pos rfl] at this
  exact this rfl
theorem vch_met {R : RV} (hW : Wf R) (hn : R.nb < 10) {k : Nat} (hk : k < 60) : vch R k = pop (metW (R.add (k / 10) (k % 10) 0) (R.add (k / 10) (k % 10) 0).lv) := by
  rw [met_add hW hn (by omega) (by omega)]
  rfl
theorem i_d60 : ∀ k, k < 60 → Int32.ofInt ((k : Nat) : Int) / Int32.ofInt 10 = Int32.ofInt ((k / 10 : Nat) : Int) ∧ Int32.ofInt ((k : Nat) : Int) - Int32.ofInt ((k / 10 : Nat) : Int) * Int32.ofInt 10 = Int32.ofInt ((k % 10 : Nat) : Int) := fun k hk => i_d10 k (by omega)
theorem mv_drop {R : RV} {K a : Nat} {M : XM} (h : mv (R.add K a 0) M) : mv R (xwi M 64 0 (Int32.ofInt R.nb)) := by
  obtain ⟨h1, h2, h3, h4, h5, h6⟩ := h
  refine ⟨by rw [m_eq], by rw [m_ne _ (by omega)]; exact h2, by rw [m_ne _ (by omega)]; exact h3, by rw [m_ne _ (by omega)]; exact h4, fun b hb => ?_, fun i hi => by rw [m_ne _ (by omega)]; exact h6 i hi⟩
  have e : b ≠ R.nb := by omega
  obtain ⟨a1, a2, a3, a4, a5, a6⟩ := h5 b (by show b < R.nb + 1; omega)
  have a1 : M.1 65 b = Int32.ofInt ((upn R.kd R.nb K b : Nat) : Int) := a1
  have a2 : M.1 66 b = Int32.ofInt ((upn R.am R.nb a b : Nat) : Int) := a2
  have a3 : M.1 67 b = Int32.ofInt ((upn R.ce R.nb 0 b : Nat) : Int) := a3
  have a4 : M.1 68 b = Int32.ofInt ((upn R.ag R.nb 20 b : Nat) : Int) := a4
  have a5 : M.1 69 b = Int32.ofInt ((upn R.fd R.nb 0 b : Nat) : Int) := a5
  have a6 : M.1 70 b = bi ((R.lv ||| 2 ^ R.nb).testBit b) := a6
  rw [upn_ne _ _ e] at a1 a2 a3 a4 a5
  rw [Nat.testBit_or, Nat.testBit_two_pow, decide_eq_false (fun x => e x.symm), Bool.or_false] at a6
  refine ⟨by rw [m_ne _ (by omega)]; exact a1, by rw [m_ne _ (by omega)]; exact a2, by rw [m_ne _ (by omega)]; exact a3, by rw [m_ne _ (by omega)]; exact a4, by rw [m_ne _ (by omega)]; exact a5, by rw [m_ne _ (by omega)]; exact a6⟩
theorem l_c9 {N : Nat} (hN : big N) {S : SV} (hW : WfS S) (hn10 : S.R.nb < 10) (a1 : Int32) : ∀ (d k n : Nat) (s : Int × Int) (M : XM), CM S M → k + d = 60 → d < n → sok s → ∃ M', gX9_choice N n 39 [.ref 64, .int a1, .int (Int32.ofInt s.1), .int (Int32.ofInt s.2), .int (Int32.ofInt k), .retAddr 0] [] M = (bif xeq a1 (0 : Int32) then (xrI (some (.int (Int32.ofInt (fch (vch S.R) d k s).1))) M') else (xrI (some (.int (Int32.ofInt (fch (vch S.R) d k s).2))) M')) ∧ CM S M' ∧ fr 64 82 M M'
  | 0, k, n + 1, s, M, hM, hk, hn, hs => by
    refine ⟨M, ?_, hM, fr.rf⟩
    rw [eX9_choice_39, i_lt (by omega) (by omega), decide_eq_false (by omega), cond_false]
    rfl
  | d + 1, k, n + 1, s, M, hM, hk, hn, hs => by
    obtain ⟨s1, s2, s3, s4⟩ := hs
    have hNb := hN
    unfold big at hNb
    have hw := hW.1
    obtain ⟨q1, q2⟩ := i_d60 k (by omega)
    have z10 : xeq (Int32.ofInt 10) 0 = false := by decide +kernel
    have hWa := wf_add hw hn10 (show k / 10 < 6 by omega) (show k % 10 ≤ 9 by omega) (show cellok 0 by unfold cellok; omega)
    obtain ⟨M1, b1, b2, b3, b4, b5⟩ := v_newBrother (N := N) hM.1 hn10 (k / 10) (k % 10) 0
    have b1 : fX9_newBrother N [.ref 64, .int (Int32.ofInt ((k / 10 : Nat) : Int)), .int (Int32.ofInt ((k % 10 : Nat) : Int)), .int (Int32.ofInt 0)] M = some (Int32.ofInt S.R.nb, M1) := b1
    have hM1 : CM (S.wR (S.R.add (k / 10) (k % 10) 0)) M1 := CM_R hM b2 (b3.wide (by omega) (by omega)) b4 b5
    obtain ⟨M2, c1, c2⟩ := v_met9 hN hWa (m := (S.R.add (k / 10) (k % 10) 0).lv) (fun _ x => x) b2 hM1.2.2.2.2.2.2.2.1
    have hM2 : CM (S.wR (S.R.add (k / 10) (k % 10) 0)) M2 := CM_f8 hM1 c2
    have hmet : fX9_met N [.ref 64] M1 = some (Int32.ofInt (metW (S.R.add (k / 10) (k % 10) 0) (S.R.add (k / 10) (k % 10) 0).lv), M2) := by
      rw [eX9_met, v_living (by omega) b2 hWa, e_bd, c1]
      rfl
    have hpop := v_pop (a := metW (S.R.add (k / 10) (k % 10) 0) (S.R.add (k / 10) (k % 10) 0).lv) N (by have := metW_lt hWa (S.R.add (k / 10) (k % 10) 0).lv; omega) M2
    rw [← vch_met hw hn10 (show k < 60 by omega)] at hpop
    have hp10 : vch S.R k ≤ 10 := pop_10 _
    have h64 : M2.1 64 0 = Int32.ofInt ((S.R.nb + 1 : Nat) : Int) := (mv_f8 b2 c2).1
    have hM3 : CM ((S.wR (S.R.add (k / 10) (k % 10) 0)).wR S.R) (xwi M2 64 0 (Int32.ofInt S.R.nb)) := CM_R hM2 (mv_drop (mv_f8 b2 c2)) (fr.rf.wi (by omega) (by omega)) (by rw [m_ne _ (by omega)]) (by rw [m_ne _ (by omega)])
    have hM3 : CM S (xwi M2 64 0 (Int32.ofInt S.R.nb)) := hM3
    have hf : fr 64 82 M (xwi M2 64 0 (Int32.ofInt S.R.nb)) := ((b3.wide (by omega) (by omega)).tr c2.fr).tr (fr.rf.wi (by omega) (by omega))
    have st : gX9_choice N (n + 1) 39 [.ref 64, .int a1, .int (Int32.ofInt s.1), .int (Int32.ofInt s.2), .int (Int32.ofInt k), .retAddr 0] [] M = bif decide (s.2 < (vch S.R k : Int)) then gX9_choice N n 39 [.ref 64, .int a1, .int (Int32.ofInt k), .int (Int32.ofInt (vch S.R k)), .int (Int32.ofInt ((k + 1 : Nat) : Int)), .retAddr 0] [] (xwi M2 64 0 (Int32.ofInt S.R.nb)) else gX9_choice N n 39 [.ref 64, .int a1, .int (Int32.ofInt s.1), .int (Int32.ofInt s.2), .int (Int32.ofInt ((k + 1 : Nat) : Int)), .retAddr 0] [] (xwi M2 64 0 (Int32.ofInt S.R.nb)) := by
      rw [eX9_choice_39, i_lt (by omega) (by omega), decide_eq_true (by omega), cond_true, z10, cond_false, cond_false, q1, q2, b1, e_bd]
      dsimp only
      rw [hmet, e_bd]
      dsimp only
      rw [hpop, e_bd]
      dsimp only
      rw [h64, i_lt (by omega) (by omega), i_suc, i_sub, show ((S.R.nb + 1 : Nat) : Int) - 1 = (S.R.nb : Int) by omega]
    rw [st, fch]
    by_cases e : s.2 < (vch S.R k : Int)
    · obtain ⟨M', r1, r2, r3⟩ := l_c9 hN hW hn10 a1 d (k + 1) n ((k : Int), (vch S.R k : Int)) _ hM3 (by omega) (by omega) ⟨by show (0 : Int) ≤ (k : Int); omega, by show (k : Int) < 100; omega, by show (-1 : Int) ≤ (vch S.R k : Int); omega, by show (vch S.R k : Int) ≤ 10; omega⟩
      refine ⟨M', ?_, r2, hf.tr r3⟩
      rw [decide_eq_true e, cond_true, if_pos e]
      exact r1
    · obtain ⟨M', r1, r2, r3⟩ := l_c9 hN hW hn10 a1 d (k + 1) n s _ hM3 (by omega) (by omega) ⟨s1, s2, s3, s4⟩
      refine ⟨M', ?_, r2, hf.tr r3⟩
      rw [decide_eq_false e, cond_false, if_neg e]
      exact r1
