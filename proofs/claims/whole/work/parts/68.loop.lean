theorem tkk_lt {tz f : Nat} {tb : Nat → Nat} (h : tkk tz tb f ≠ 0) : f < tz := by
  unfold tkk at h
  by_cases c : f < tz
  · exact c
  · rw [if_neg c] at h; exact absurd rfl h
theorem tke_lt {tz f : Nat} {tb : Nat → Nat} (h : f < tz) : f + 1 ≤ tke tz tb f := by
  unfold tke
  rw [if_pos h]
  split
  · exact (rn_rg tb _ _ (f + 1)).1
  · omega
def lgoal (N tz : Nat) (tb : Nat → Nat) (e c : Nat) (R : RV) : Prop := ∃ (ok : Bool) (cnt f' : Nat) (R' : RV), Wf R' ∧ R.nb ≤ R'.nb ∧ f' ≤ tz ∧ (∀ n M, tz - e + 2 < n → cv 15 R M → tpc tz tb M → fgn M → M.1 44 4 = Int32.ofInt e → ∃ M', gX6_read N n 7 [.ref 44, .ref 15, .int (Int32.ofInt ((c + 1 : Nat) : Int)), .retAddr 0] [] M = some (Int32.ofInt ((bif ok then cnt else 0 : Nat) : Int), M') ∧ q8 M M' ∧ M'.1 44 2 = Int32.ofInt (bif ok then -1 else (f' : Int)) ∧ (ok = true → cv 15 R' M')) ∧ (∀ n M, tz - e + 2 < n → mv R M → tpm tz tb M → fgn M → M.1 64 14 = Int32.ofInt e → ∃ (M' : XM) (n' : Nat) (c' : Int32), q9 M M' ∧ 0 < n' ∧ (ok = true → gX9_rock N n 17 [.ref 64, .int (Int32.ofInt (c : Int)), .int (Int32.ofInt 1)] [] M = some (Int32.ofInt (cnt : Int), xwi M' 64 11 (Int32.ofInt 0)) ∧ mv R' M') ∧ (ok = false → gX9_rock N n 17 [.ref 64, .int (Int32.ofInt (c : Int)), .int (Int32.ofInt 1)] [] M = gX9_rock N n' 17 [.ref 64, .int c', .int (Int32.ofInt 0)] [] M' ∧ M'.1 64 13 = Int32.ofInt f'))
theorem bi_f : xeq (bi false) (0 : Int32) = true := rfl
theorem bi_t : xeq (bi true) (0 : Int32) = false := by decide +kernel
set_option maxRecDepth 100000 in
theorem b_loop1 {N tz : Nat} (hN : big N) (htz : tz ≤ 250) (tb : Nat → Nat) {e c : Nat} {R : RV} (he : e ≤ tz) (hc : 2 * c ≤ e) (hW : Wf R) (ih : ∀ e' c' R', e + 2 ≤ e' → e' ≤ tz → 2 * c' ≤ e' → Wf R' → lgoal N tz tb e' c' R') : lgoal N tz tb e c R := by
  have hs := sk_rg tb (tz - e) e
  have hf : sk tb (tz - e) e ≤ tz := by omega
  obtain ⟨ok, R1, f1, e1, g1, g2, g3, g4, g5, gw, gc, gm⟩ := b_stmt hN htz tb hW hf
  have ht := tke_rg (tz := tz) (tb := tb) hf
  have A8 : ∀ M, cv 15 R M → tpc tz tb M → fgn M → M.1 44 4 = Int32.ofInt e → ∃ M2, fX6_readStatement N [.ref 44, .ref 15] M = some (bi ok, M2) ∧ cv 15 R1 M2 ∧ q8 M M2 ∧ M2.1 44 3 = Int32.ofInt f1 ∧ M2.1 44 4 = Int32.ofInt e1 := fun M hR hT hg h4 => by
    obtain ⟨M1, a1, a2, a3⟩ := v_step8 hN hT he h4
    obtain ⟨M2, b1, b2, b3, b4, b5⟩ := gc M1 (cv_ft hR a2) (hT.ft a2) (fgn_q8 hg (q8_ft a2)) a3
    refine ⟨M2, ?_, b2, q8_tr (q8_ft a2) b3, b4, b5⟩
    rw [rst_eq, a1, e_bd]
    exact b1
  have A9 : ∀ M, mv R M → tpm tz tb M → fgn M → M.1 64 14 = Int32.ofInt e → ∃ M1 M2, fX9_next N [.ref 64] M = some M1 ∧ fX9_statement N [.ref 64] M1 = some (bi ok, M2) ∧ mv R1 M2 ∧ q9 M M2 ∧ M2.1 64 13 = Int32.ofInt f1 ∧ M2.1 64 14 = Int32.ofInt e1 := fun M hR hT hg h4 => by
    obtain ⟨M1, a1, a2, a3, a4, a5, a6⟩ := v_next9 hN hT he h4
    obtain ⟨M2, b1, b2, b3, b4, b5⟩ := gm M1 (mv_fm hR a2) (hT.fm a2) (fgn_q9 hg (q9_fm a2)) ⟨a3, a4, a5⟩
    exact ⟨M1, M2, a1, b1, b2, q9_tr (q9_fm a2) b3, b4, b5⟩
  have x10 : xeq (Int32.ofInt 1) (0 : Int32) = false := by decide +kernel
  cases ok with
  | false =>
    refine ⟨false, 0, f1, R, hW, Nat.le_refl _, g4, fun n M hn hR hT hg h4 => ?_, fun n M hn hR hT hg h4 => ?_⟩
    · obtain ⟨n, rfl⟩ : ∃ n', n = n' + 1 := ⟨n - 1, by omega⟩
      obtain ⟨M2, b1, b2, b3, b4, b5⟩ := A8 M hR hT hg h4
      refine ⟨xwi M2 44 2 (M2.1 44 3), ?_, ⟨fun a ha => b3.1 a ha, fun a j k1 k2 => by rw [m_ne _ (by omega)]; exact b3.2 a j k1 k2⟩, by rw [m_eq]; exact b4, fun h => absurd h Bool.false_ne_true⟩
      rw [eX6_read_7 _ _ _ _ (.inr (.inr rfl)), i_lt (by omega) (by omega), decide_eq_false (by omega), cond_false, b1, e_bd]
      dsimp only
      rw [bi_f, cond_true, cond_true]
      all_goals rfl
    · obtain ⟨n, rfl⟩ : ∃ n', n = n' + 1 := ⟨n - 1, by omega⟩
      obtain ⟨M1, M2, a1, b1, b2, b3, b4, b5⟩ := A9 M hR hT hg h4
      refine ⟨M2, n, Int32.ofInt (c : Int), b3, by omega, fun h => absurd h Bool.false_ne_true, fun _ => ⟨?_, b4⟩⟩
      rw [eX9_rock_17, x10, cond_false, a1, e_bd, b1, e_bd]
      dsimp only
      rw [bi_f, cond_true]
      all_goals rfl
  | true =>
    have hk := gw rfl
    have hlt := tkk_lt (tz := tz) (tb := tb) (f := sk tb (tz - e) e) (by omega)
    have hle := tke_lt (tb := tb) hlt
    have hs2 := sk_rg tb (tz - e1) e1
    have hf2 : sk tb (tz - e1) e1 ≤ tz := by omega
    have ht2 := tke_rg (tz := tz) (tb := tb) hf2
    have hk2 := tkk_rg tz tb (sk tb (tz - e1) e1)
    have hm2 := mk9_rg tz tb (sk tb (tz - e1) e1)
    have hme := mk9_e tz tb (sk tb (tz - e1) e1)
    have hms := mk9_s tz tb (sk tb (tz - e1) e1)
    have B8 : ∀ M, cv 15 R M → tpc tz tb M → fgn M → M.1 44 4 = Int32.ofInt e → ∃ M2 M3, fX6_readStatement N [.ref 44, .ref 15] M = some (bi true, M2) ∧ fX6_step N [.ref 44] M2 = some M3 ∧ cv 15 R1 M3 ∧ q8 M M3 ∧ tk8 tz tb (sk tb (tz - e1) e1) M3 := fun M hR hT hg h4 => by
      obtain ⟨M2, b1, b2, b3, b4, b5⟩ := A8 M hR hT hg h4
      obtain ⟨M3, d1, d2, d3⟩ := v_step8 hN (tpc_q8 hT b3) g5 b5
      exact ⟨M2, M3, b1, d1, cv_ft b2 d2, q8_tr b3 (q8_ft d2), d3⟩
    have B9 : ∀ M, mv R M → tpm tz tb M → fgn M → M.1 64 14 = Int32.ofInt e → ∃ M1 M2 M3, fX9_next N [.ref 64] M = some M1 ∧ fX9_statement N [.ref 64] M1 = some (bi true, M2) ∧ fX9_next N [.ref 64] M2 = some M3 ∧ mv R1 M3 ∧ q9 M M3 ∧ tk9 tz tb (sk tb (tz - e1) e1) M3 := fun M hR hT hg h4 => by
      obtain ⟨M1, M2, a1, b1, b2, b3, b4, b5⟩ := A9 M hR hT hg h4
      obtain ⟨M3, d1, d2, d3, d4, d5, d6⟩ := v_next9 hN (tpm_q9 hT b3) g5 b5
      exact ⟨M1, M2, M3, a1, b1, d1, mv_fm b2 d2, q9_tr b3 (q9_fm d2), d3, d4, d5⟩
    generalize sk tb (tz - e1) e1 = f2 at hs2 hf2 ht2 hk2 hm2 hme hms B8 B9
    by_cases k0 : tkk tz tb f2 = 0
    · refine ⟨true, c + 1, 0, R1, g1, g2, by omega, fun n M hn hR hT hg h4 => ?_, fun n M hn hR hT hg h4 => ?_⟩
      · obtain ⟨n, rfl⟩ : ∃ n', n = n' + 1 := ⟨n - 1, by omega⟩
        obtain ⟨M2, M3, b1, b2, b3, b4, b5, b6, b7⟩ := B8 M hR hT hg h4
        refine ⟨xwi M3 44 2 (Int32.ofInt (-1)), ?_, ⟨fun a ha => b4.1 a ha, fun a j k1 k2 => by rw [m_ne _ (by omega)]; exact b4.2 a j k1 k2⟩, by rw [m_eq] <;> rfl, fun _ => b3.fr (lo := 44) (hi := 45) (fr.rf.wi (by omega) (by omega)) (by omega)⟩
        rw [eX6_read_7 _ _ _ _ (.inr (.inr rfl)), i_lt (by omega) (by omega), decide_eq_false (by omega), cond_false, b1, e_bd]
        dsimp only
        rw [bi_t, cond_false, b2, e_bd, b7, k0, show xeq (Int32.ofInt ((0 : Nat) : Int)) (0 : Int32) = true by decide +kernel, cond_true]
        all_goals rfl
      · obtain ⟨n, rfl⟩ : ∃ n', n = n' + 1 := ⟨n - 1, by omega⟩
        obtain ⟨M1, M2, M3, a1, b1, b2, b3, b4, b5, b6, b7⟩ := B9 M hR hT hg h4
        refine ⟨M3, n, Int32.ofInt (c : Int), b4, by omega, fun _ => ⟨?_, b3⟩, fun h => absurd h (by decide)⟩
        rw [eX9_rock_17, x10, cond_false, a1, e_bd, b1, e_bd]
        dsimp only
        rw [bi_t, cond_false, b2, e_bd, b7, hme.mpr k0, show xeq (Int32.ofInt ((101 : Nat) : Int)) (Int32.ofInt 101) = true by decide +kernel, cond_true, i_suc]
        all_goals rfl
    · by_cases k3 : tkk tz tb f2 = 3
      · have hlt2 := tkk_lt (tz := tz) (tb := tb) (f := f2) (by omega)
        have hle2 := tke_lt (tb := tb) hlt2
        obtain ⟨ok, cnt, f', R', i1, i2, i3, i4, i5⟩ := ih (tke tz tb f2) (c + 1) R1 (by omega) ht2.2 (by omega) g1
        refine ⟨ok, cnt, f', R', i1, by omega, i3, fun n M hn hR hT hg h4 => ?_, fun n M hn hR hT hg h4 => ?_⟩
        · obtain ⟨n, rfl⟩ : ∃ n', n = n' + 1 := ⟨n - 1, by omega⟩
          obtain ⟨M2, M3, b1, b2, b3, b4, b5, b6, b7⟩ := B8 M hR hT hg h4
          obtain ⟨M', r1, r2, r3, r4⟩ := i4 n M3 (by omega) b3 (tpc_q8 hT b4) (fgn_q8 hg b4) b6
          refine ⟨M', ?_, q8_tr b4 r2, r3, r4⟩
          rw [eX6_read_7 _ _ _ _ (.inr (.inr rfl)), i_lt (by omega) (by omega), decide_eq_false (by omega), cond_false, b1, e_bd]
          dsimp only
          rw [bi_t, cond_false, b2, e_bd, b7, k3, show xeq (Int32.ofInt ((3 : Nat) : Int)) (0 : Int32) = false by decide +kernel, cond_false, cond_false, show xeq (Int32.ofInt ((3 : Nat) : Int)) (Int32.ofInt 3) = true by decide +kernel, cond_true, i_suc]
          exact r1
        · obtain ⟨n, rfl⟩ : ∃ n', n = n' + 1 := ⟨n - 1, by omega⟩
          obtain ⟨M1, M2, M3, a1, b1, b2, b3, b4, b5, b6, b7⟩ := B9 M hR hT hg h4
          obtain ⟨M', n', c', r1, r2, r3, r4⟩ := i5 n M3 (by omega) b3 (tpm_q9 hT b4) (fgn_q9 hg b4) b6
          have st : gX9_rock N (n + 1) 17 [.ref 64, .int (Int32.ofInt (c : Int)), .int (Int32.ofInt 1)] [] M = gX9_rock N n 17 [.ref 64, .int (Int32.ofInt ((c + 1 : Nat) : Int)), .int (Int32.ofInt 1)] [] M3 := by
            rw [eX9_rock_17, x10, cond_false, a1, e_bd, b1, e_bd]
            dsimp only
            rw [bi_t, cond_false, b2, e_bd, b7, hms.mpr k3, show xeq (Int32.ofInt ((59 : Nat) : Int)) (Int32.ofInt 101) = false by decide +kernel, cond_false, show xeq (Int32.ofInt ((59 : Nat) : Int)) (Int32.ofInt 59) = true by decide +kernel, cond_true, i_suc]
          rw [st]
          exact ⟨M', n', c', q9_tr b4 r1, r2, r3, r4⟩
      · refine ⟨false, 0, f2, R, hW, Nat.le_refl _, hf2, fun n M hn hR hT hg h4 => ?_, fun n M hn hR hT hg h4 => ?_⟩
        · obtain ⟨n, rfl⟩ : ∃ n', n = n' + 1 := ⟨n - 1, by omega⟩
          obtain ⟨M2, M3, b1, b2, b3, b4, b5, b6, b7⟩ := B8 M hR hT hg h4
          refine ⟨xwi M3 44 2 (M3.1 44 3), ?_, ⟨fun a ha => b4.1 a ha, fun a j k1 k2 => by rw [m_ne _ (by omega)]; exact b4.2 a j k1 k2⟩, by rw [m_eq]; exact b5, fun h => absurd h Bool.false_ne_true⟩
          rw [eX6_read_7 _ _ _ _ (.inr (.inr rfl)), i_lt (by omega) (by omega), decide_eq_false (by omega), cond_false, b1, e_bd]
          dsimp only
          rw [bi_t, cond_false, b2, e_bd, b7, show (0 : Int32) = Int32.ofInt 0 from rfl, i_eq (x := ((tkk tz tb f2 : Nat) : Int)) (y := 0) (by omega) (by omega), decide_eq_false (by omega), cond_false, cond_false, i_eq (x := ((tkk tz tb f2 : Nat) : Int)) (y := 3) (by omega) (by omega), decide_eq_false (by omega), cond_false]
          all_goals rfl
        · obtain ⟨n, rfl⟩ : ∃ n', n = n' + 1 := ⟨n - 1, by omega⟩
          obtain ⟨M1, M2, M3, a1, b1, b2, b3, b4, b5, b6, b7⟩ := B9 M hR hT hg h4
          refine ⟨M3, n, Int32.ofInt ((c + 1 : Nat) : Int), b4, by omega, fun h => absurd h Bool.false_ne_true, fun _ => ⟨?_, b5⟩⟩
          rw [eX9_rock_17, x10, cond_false, a1, e_bd, b1, e_bd]
          dsimp only
          rw [bi_t, cond_false, b2, e_bd, b7, i_eq (x := ((mk9 tz tb f2 : Nat) : Int)) (y := 101) (by omega) (by omega), decide_eq_false (by omega), cond_false, i_eq (x := ((mk9 tz tb f2 : Nat) : Int)) (y := 59) (by omega) (by omega), decide_eq_false (by omega), cond_false, i_suc]
theorem b_loop {N tz : Nat} (hN : big N) (htz : tz ≤ 250) (tb : Nat → Nat) : ∀ (d e c : Nat) (R : RV), e ≤ tz → tz ≤ e + d → 2 * c ≤ e → Wf R → lgoal N tz tb e c R
  | 0, e, c, R, he, hd, hc, hW => b_loop1 hN htz tb he hc hW (fun e' c' R' h1 h2 _ _ => absurd h2 (by omega))
  | d + 1, e, c, R, he, hd, hc, hW => b_loop1 hN htz tb he hc hW (fun e' c' R' h1 h2 h3 h4 => b_loop hN htz tb d e' c' R' h2 (by omega) h3 h4)
