def nInv (Z : List Int) (y x : Int) (j : Int) : Prop := (x = -100000000 ∧ ∀ z ∈ Z, ¬ z < j - 1000) ∨ (x ∈ Z ∧ x < j - 1000 ∧ ∀ z ∈ Z, z < j - 1000 → ab (x - y) < ab (z - y) ∨ (ab (x - y) = ab (z - y) ∧ x ≤ z))
set_option maxRecDepth 100000 in
theorem l_near {N : Nat} {Z : List Int} (hb : ∀ z ∈ Z, b9 z) {M : XM} (h81 : mk81 M (hit Z)) {y : Int} (hy : -9999 ≤ y ∧ y ≤ 9999) : ∀ (d j n : Nat) (x : Int), j + d = 2001 → d < n → nInv Z y x j → ∃ r, gX9_nearest N n 52 [.ref 64, .int (Int32.ofInt y), .int (Int32.ofInt x), .int (Int32.ofInt j)] [] M = some (Int32.ofInt r, M) ∧ nInv Z y r 2001
  | 0, j, n + 1, x, hj, hn, hI => by
    obtain rfl : j = 2001 := by omega
    rw [eX9_nearest_52, i_lt (by omega) (by omega), decide_eq_false (by omega), cond_false, e_I]
    exact ⟨x, rfl, hI⟩
  | d + 1, j, n + 1, x, hj, hn, hI => by
    have ih := fun x => l_near (N := N) hb h81 hy d (j + 1) n x (by omega) (by omega)
    have hF : (-100000000 : Int32) = Int32.ofInt (-100000000) := rfl
    rw [eX9_nearest_52, i_lt (by omega) (by omega), decide_eq_true (by omega), cond_true, i_inn (by omega), xl_81, decide_eq_true (by omega), cond_true, i_natn (by omega), show 64 + 17 = 81 from rfl, h81 j (by omega), b_z, i_suc]
    by_cases hz : (j : Int) - 1000 ∈ Z
    · rw [show hit Z j = true from decide_eq_true hz, cond_true, hF]
      have hz9 := hb _ hz
      unfold b9 at hz9
      rcases hI with ⟨rfl, h2⟩ | ⟨h1, h2, h3⟩
      · rw [i_eq (by omega) (by omega), decide_eq_true rfl, cond_true, i_sub]
        refine ih _ (.inr ⟨hz, by omega, fun z hzz hlt => ?_⟩)
        have := h2 z hzz
        have e : z = (j : Int) - 1000 := by omega
        rw [e]
        exact .inr ⟨rfl, Int.le_refl _⟩
      · have hx9 := hb _ h1
        unfold b9 at hx9
        have c1 := ab_b (x := (j : Int) - 1000 - y) (by omega)
        have c2 := ab_b (x := x - y) (by omega)
        rw [i_eq (by omega) (by omega), decide_eq_false (by omega), cond_false, i_sub, i_sub, i_abs (by omega), e_bd, i_sub, i_abs (by omega), e_bd]
        dsimp only
        rw [i_lt (by omega) (by omega)]
        by_cases e : ab ((j : Int) - 1000 - y) < ab (x - y)
        · rw [decide_eq_true e, cond_true]
          refine ih _ (.inr ⟨hz, by omega, fun z hzz hlt => ?_⟩)
          by_cases e2 : z = (j : Int) - 1000
          · rw [e2]; exact .inr ⟨rfl, Int.le_refl _⟩
          · have := h3 z hzz (by omega)
            omega
        · rw [decide_eq_false e, cond_false]
          refine ih _ (.inr ⟨h1, by omega, fun z hzz hlt => ?_⟩)
          by_cases e2 : z = (j : Int) - 1000
          · rw [e2]; omega
          · exact h3 z hzz (by omega)
    · rw [show hit Z j = false from decide_eq_false hz, cond_false]
      refine ih x ?_
      rcases hI with ⟨h1, h2⟩ | ⟨h1, h2, h3⟩
      · refine .inl ⟨h1, fun z hzz hlt => ?_⟩
        have := h2 z hzz
        have e : z = (j : Int) - 1000 := by omega
        rw [e] at hzz
        exact hz hzz
      · refine .inr ⟨h1, by omega, fun z hzz hlt => ?_⟩
        by_cases e2 : z = (j : Int) - 1000
        · rw [e2] at hzz; exact absurd hzz hz
        · exact h3 z hzz (by omega)
set_option maxRecDepth 100000 in
theorem op_nearest {t : Nat} {S : SV} (hW : WfS S) {N : Nat} (hN : big N) (a : Int32) : both t S (fX8_nearest N [.ref 0, .int a]) (fX9_nearest N [.ref 64, .int a]) := by
  obtain ⟨y, hy, rfl⟩ := i_ex a
  have hN' := hN
  unfold big at hN'
  have so : SO 22 6 2400 := .inl ⟨rfl, rfl, rfl⟩
  by_cases h1 : -9999 ≤ y ∧ y ≤ 9999
  · have mdl : ∀ M, CM S M → ∃ M', fX9_nearest N [.ref 64, .int (Int32.ofInt y)] M = (bif !(VL (wR S.R) 5).isEmpty then ((fX9_living N [.ref 64] M').bind fun q2 => (fX9_means N [.ref 64, .int (Int32.ofInt 1), .int (Int32.ofInt 5), .int q2.1, .int (Int32.ofInt 0)] q2.2).bind fun q3 => gX9_nearest N N 52 [.ref 64, .int (Int32.ofInt y), .int (-100000000), .int (Int32.ofInt 0)] [] q3.2) else ((fX9_noMeaning N [.ref 64, .int (Int32.ofInt (-5))] M').bind fun q3 => xrI (some (.int q3.1)) q3.2)) ∧ f8 M M' := by
      intro M hM
      obtain ⟨M', c1, c2⟩ := v_any hN hW.1 (h := 5) (by omega) hM.1 hM.2.2.2.2.2.2.2.1
      have c1 : fX9_isAny N [.ref 64, .int (Int32.ofInt 5)] M = some (bi (!(VL (wR S.R) 5).isEmpty), M') := c1
      refine ⟨M', ?_, c2.f8⟩
      rw [eX9_nearest, v_win hy (by omega) (by omega), e_bd, b_z, decide_eq_true h1, cond_true, c1, e_bd]
      show (bif xeq (bi _) 0 then _ else _) = _
      rw [b_z]
    by_cases hne : VL (wR S.R) 5 = []
    · refine both_refy hW 3 (by omega) N (fun M hM => ?_) (fun M hM => ?_)
      · obtain ⟨M', a1, a2, a3, a4⟩ := v_now hN hW hM
        refine ⟨M', ?_, a2, a4⟩
        rw [eX8_nearest, v_isTold hy, e_bd, b_z, decide_eq_true h1, cond_true]
        dsimp only
        rw [a1, e_bd, show (5 : Int) = ((5 : Nat) : Int) from rfl, v_upTo so a3 (by omega), e_bd, Nat.min_eq_left (by omega), hne]
        rfl
      · obtain ⟨M', g1, g2⟩ := mdl M hM
        refine ⟨M', ?_, g2⟩
        rw [g1, hne]
        rfl
    · have hemp : (!(VL (wR S.R) 5).isEmpty) = true := by
        cases e : VL (wR S.R) 5 with
        | nil => exact absurd e hne
        | cons a X => rfl
      have hb : ∀ z ∈ (VL (wR S.R) 5).map (fun q => mean (wR S.R) q.1), b9 z := by
        intro z hz
        rw [List.mem_map] at hz
        obtain ⟨q, hq, rfl⟩ := hz
        exact VL_b9 hW.1 (L := 5) (by omega) hq
      obtain ⟨v, hv⟩ := near_ex y ((VL (wR S.R) 5).map (fun q => mean (wR S.R) q.1)) (fun x => hne (List.map_eq_nil_iff.mp x))
      refine both_v hW (Int32.ofInt v) (fun M hM => ?_) (fun M hM => ?_)
      · obtain ⟨M', a1, a2, a3, a4⟩ := v_now hN hW hM
        refine ⟨M', ?_, a2, a4⟩
        have hrm := VL_rm a3 (n := 5) (by omega)
        have hpos : 0 < (VL (wR S.R) 5).length := List.length_pos_iff.mpr hne
        cases he : VL (wR S.R) 5 with
        | nil => exact absurd he hne
        | cons q T =>
          obtain ⟨X, hX, _⟩ := VL_app (wR S.R) (j := 5) (L := 6) (by omega)
          have hsub : ∀ x ∈ q :: T, x ∈ VL (wR S.R) 6 := fun x hx => by rw [hX, he]; exact List.mem_append_left _ hx
          obtain ⟨c1, c2⟩ := VL_cons (N := N) a3 (h := 5) (by omega) he
          have hlen : 1 + T.length = (VL (wR S.R) 5).length := by rw [he]; simp; omega
          obtain ⟨r, r1, r2⟩ := l_clos (N := N) so hW.1 a3 (h := 5) (by omega) h1 T 1 N (mean (wR S.R) q.1) [mean (wR S.R) q.1] (VL_b9 hW.1 (L := 6) (by omega) (hsub q List.mem_cons_self)) ⟨List.mem_cons_self, fun z hz => by simp at hz; subst hz; exact .inr ⟨rfl, Int.le_refl _⟩⟩ c2 (fun x hx => hsub x (List.mem_cons_of_mem _ hx)) hlen (by omega)
          have hrv : r = v := by
            rw [he] at hv
            exact near_u r2 hv
          rw [eX8_nearest, v_isTold hy, e_bd, b_z, decide_eq_true h1, cond_true]
          dsimp only
          rw [a1, e_bd, show (5 : Int) = ((5 : Nat) : Int) from rfl, v_upTo so a3 (by omega), e_bd, Nat.min_eq_left (by omega)]
          dsimp only
          rw [show (0 : Int32) = Int32.ofInt 0 from rfl, i_eq (by omega) (by omega), decide_eq_false (by omega), cond_false, eX4_closest _ _ _ _ (by omega), v_upTo so a3 (by omega), e_bd, Nat.min_eq_left (by omega)]
          dsimp only
          rw [show (0 : Int32) = Int32.ofInt 0 from rfl, i_lt (by omega) (by omega), decide_eq_true (by omega), cond_true, c1, e_bd]
          dsimp only
          have r1 : gX4_closest N N 21 [.ref 22, .int (Int32.ofInt (5 : Nat)), .int (Int32.ofInt y), .int (Int32.ofInt (mean (wR S.R) q.1)), .int (Int32.ofInt 1), .retAddr 0, .retAddr 0] [] M' = some (Int32.ofInt r, M') := r1
          rw [r1, hrv]
          rfl
      · obtain ⟨M', g1, g2⟩ := mdl M hM
        have hM' := CM_f8 hM g2
        obtain ⟨M2, f1, f2, f3⟩ := v_means1 hN hW.1 (h := 5) (what := 0) (by omega) (by omega) hM'.1 hM'.2.2.2.2.2.2.2.1
        have f1 : fX9_means N [.ref 64, .int (Int32.ofInt 1), .int (Int32.ofInt 5), .int (Int32.ofInt S.R.lv), .int (Int32.ofInt 0)] M' = _ := f1
        refine ⟨M2, ?_, g2.tr f2⟩
        obtain ⟨r, r1, r2⟩ := l_near (N := N) hb f3 h1 2001 0 N (-100000000) (by omega) (by omega) (.inl ⟨rfl, fun z hz => by have := hb z hz; unfold b9 at this; omega⟩)
        have hrv : r = v := by
          refine near_u ?_ hv
          rcases r2 with ⟨_, r4⟩ | ⟨r3, r4, r5⟩
          · have := r4 v hv.1
            have := hb v hv.1
            unfold b9 at this
            omega
          · exact ⟨r3, fun z hz => r5 z hz (by have := hb z hz; unfold b9 at this; omega)⟩
        rw [g1, hemp, cond_true, v_living (by omega) hM'.1 hW.1, e_bd, f1, e_bd]
        have r1 : gX9_nearest N N 52 [.ref 64, .int (Int32.ofInt y), .int (-100000000), .int (Int32.ofInt 0)] [] M2 = some (Int32.ofInt r, M2) := r1
        rw [r1, hrv]
  · refine both_refy hW 0 (by omega) N (fun M hM => ⟨M, ?_, hM, fr.rf⟩) (fun M hM => ⟨M, ?_, f8.rf⟩)
    · rw [eX8_nearest, v_isTold hy, e_bd, b_z, decide_eq_false h1]; rfl
    · rw [eX9_nearest, v_win hy (by omega) (by omega), e_bd, b_z, decide_eq_false h1]; rfl
