theorem mk9_w (tz : Nat) (tb : Nat → Nat) (f : Nat) : mk9 tz tb f = 119 ↔ tkk tz tb f = 1 := by
  unfold mk9
  by_cases h1 : tkk tz tb f = 1
  · rw [if_pos h1]; exact ⟨fun _ => h1, fun _ => rfl⟩
  · rw [if_neg h1]
    refine ⟨fun h => ?_, fun h => absurd h h1⟩
    split at h
    · split at h <;> omega
    · split at h
      · omega
      · split at h <;> omega
theorem mk9_e (tz : Nat) (tb : Nat → Nat) (f : Nat) : mk9 tz tb f = 101 ↔ tkk tz tb f = 0 := by
  have hk := tkk_rg tz tb f
  unfold mk9
  by_cases h1 : tkk tz tb f = 0
  · rw [h1]; exact ⟨fun _ => rfl, fun _ => rfl⟩
  · refine ⟨fun h => ?_, fun h => absurd h h1⟩
    split at h
    · omega
    · split at h
      · split at h <;> omega
      · split at h
        · omega
        · split at h
          · omega
          · omega
theorem mk9_s (tz : Nat) (tb : Nat → Nat) (f : Nat) : mk9 tz tb f = 59 ↔ tkk tz tb f = 3 := by
  unfold mk9
  by_cases h1 : tkk tz tb f = 3
  · rw [h1]; exact ⟨fun _ => rfl, fun _ => rfl⟩
  · refine ⟨fun h => ?_, fun h => absurd h h1⟩
    split at h
    · omega
    · split at h
      · split at h <;> omega
      · split at h
        · omega
        · first | omega | (split at h <;> omega)
theorem mk9_n (tz : Nat) (tb : Nat → Nat) (f : Nat) : mk9 tz tb f = 48 ↔ (tkk tz tb f = 2 ∧ ¬ f + 3 < tke tz tb f) := by
  unfold mk9
  by_cases h2 : tkk tz tb f = 2
  · rw [if_neg (by omega), if_pos h2]
    by_cases h3 : f + 3 < tke tz tb f
    · rw [if_pos h3]; exact ⟨fun h => absurd h (by omega), fun h => absurd h3 h.2⟩
    · rw [if_neg h3]; exact ⟨fun _ => ⟨h2, h3⟩, fun _ => rfl⟩
  · refine ⟨fun h => ?_, fun h => absurd h.1 h2⟩
    split at h
    · omega
    · split at h
      · omega
      · split at h
        · omega
        · first | omega | (split at h <;> omega)
theorem mk9_rg (tz : Nat) (tb : Nat → Nat) (f : Nat) : mk9 tz tb f ≤ 120 := by
  unfold mk9
  split
  · omega
  · split
    · split <;> omega
    · split
      · omega
      · split <;> omega
theorem l_w9 {N tz f i : Nat} {tb : Nat → Nat} (hi : i < 7) {M : XM} (hT : tpm tz tb M) (hg : fgn M) (h3 : M.1 64 13 = Int32.ofInt f) (hf : f + wlen i ≤ tz) : ∀ (d j n : Nat), j + d = wlen i → d < n → gX9_isWord N n 29 [.ref 64, .ref (210 + i), .int (Int32.ofInt j)] [] M = some (bi (weq tb f i d j), M)
  | 0, j, n + 1, hj, hn => by
    have h7 := (wlen_xal i hi).2
    rw [eX9_isWord_29 _ _ _ _ (by omega), v_wlen hi, e_bd]
    dsimp only
    rw [i_lt (by omega) (by omega), decide_eq_false (by omega), cond_false]
    all_goals rfl
  | d + 1, j, n + 1, hj, hn => by
    have h250 := hT.1
    have h7 := (wlen_xal i hi).2
    obtain ⟨t1, t2⟩ := hT.2.2 (f + j) (by omega)
    obtain ⟨-, -, c3⟩ := wby_ch i hi j (by omega)
    rw [eX9_isWord_29 _ _ _ _ (by omega), v_wlen hi, e_bd]
    dsimp only
    rw [i_lt (by omega) (by omega), decide_eq_true (by omega), cond_true, h3, i_add, show (f : Int) + (j : Int) = ((f + j : Nat) : Int) by omega, show xlen M (64 + 8) = 250 from rfl, i_inn (by omega), decide_eq_true (by omega), cond_true, v_wchar hi (by omega) hg, e_bd]
    dsimp only
    rw [i_natn (by omega), show 64 + 8 = 72 from rfl, t1, i_eq (by omega) (by omega), weq, i_suc]
    by_cases e : tb (f + j) = wby i j
    · rw [decide_eq_true (by omega), cond_true, decide_eq_true e, Bool.true_and]
      exact l_w9 hi hT hg h3 hf d (j + 1) n (by omega) (by omega)
    · rw [decide_eq_false (by omega), cond_false, decide_eq_false e, Bool.false_and]
      all_goals rfl
theorem v_isW9 {N tz f i : Nat} {tb : Nat → Nat} (hN : 8 < N) (hi : i < 7) {M : XM} (hT : tpm tz tb M) (hg : fgn M) (hf : f ≤ tz) (h3 : M.1 64 13 = Int32.ofInt f) (h4 : M.1 64 14 = Int32.ofInt (tke tz tb f : Nat)) (h5 : M.1 64 15 = Int32.ofInt (mk9 tz tb f : Nat)) : fX9_isWord N [.ref 64, .ref (210 + i)] M = some (bi (isW tz tb f i), M) := by
  have h250 := hT.1
  have h7 := (wlen_xal i hi).2
  have hk := mk9_rg tz tb f
  have hw := mk9_w tz tb f
  have ht := tke_rg (tz := tz) (tb := tb) (f := f) hf
  rw [eX9_isWord _ _ (by omega), h5, i_eq (x := ((mk9 tz tb f : Nat) : Int)) (y := 119) (by omega) (by omega)]
  unfold isW
  by_cases e1 : tkk tz tb f = 1
  · rw [decide_eq_true (by omega), cond_true, v_wlen hi, e_bd, decide_eq_true e1, Bool.true_and]
    dsimp only
    rw [h4, h3, i_sub, i_eq (by omega) (by omega)]
    by_cases e2 : tke tz tb f - f = wlen i
    · rw [decide_eq_true (by omega), cond_true, decide_eq_true e2, Bool.true_and]
      exact l_w9 hi hT hg h3 (by omega) (wlen i) 0 N (by omega) (by omega)
    · rw [decide_eq_false (by omega), cond_false, decide_eq_false e2, Bool.false_and]
      all_goals rfl
  · rw [decide_eq_false (by omega), cond_false, decide_eq_false e1, Bool.false_and]
    all_goals rfl
theorem rn_all (tb : Nat → Nat) (k : Nat) : ∀ d i j, i ≤ j → j < rn tb k d i → kof (tb j) = k
  | 0, i, j, h1, h2 => by rw [rn] at h2; omega
  | d + 1, i, j, h1, h2 => by
    rw [rn] at h2
    by_cases e : kof (tb i) = k
    · rw [if_pos e] at h2
      by_cases e2 : j = i
      · rw [e2]; exact e
      · exact rn_all tb k d (i + 1) j (by omega) h2
    · rw [if_neg e] at h2
      omega
theorem kof_dig {c : Nat} (h : kof c = 2) : 48 ≤ c ∧ c ≤ 57 := by
  have h1 := kof_2 c
  rw [decide_eq_true h] at h1
  unfold isD at h1
  exact of_decide_eq_true h1
theorem nmf_rg (tz : Nat) (tb : Nat → Nat) (f : Nat) : (-1 ≤ nmf tz tb f ∧ nmf tz tb f ≤ 999) ∧ (mk9 tz tb f = 48 → 0 ≤ nmf tz tb f) ∧ (mk9 tz tb f ≠ 48 → nmf tz tb f = -1) := by
  have hm := mk9_n tz tb f
  unfold nmf
  by_cases h2 : tkk tz tb f = 2
  · rw [if_pos h2]
    by_cases h3 : f + 3 < tke tz tb f
    · rw [if_pos h3]; omega
    · rw [if_neg h3]
      have hf : f < tz := by
        unfold tkk at h2
        by_cases c : f < tz
        · exact c
        · rw [if_neg c] at h2; omega
      have hk : kof (tb f) = 2 := by
        unfold tkk at h2
        rw [if_pos hf] at h2
        exact h2
      have ht : tke tz tb f = rn tb 2 (tz - (f + 1)) (f + 1) := by
        unfold tke
        rw [if_pos hf, if_pos (.inr hk), hk]
      have hd : ∀ j, f ≤ j → j < tke tz tb f → 48 ≤ tb j ∧ tb j ≤ 57 := fun j j1 j2 => by
        by_cases e : j = f
        · rw [e]; exact kof_dig hk
        · rw [ht] at j2
          exact kof_dig (rn_all tb 2 _ (f + 1) j (by omega) j2)
      have hr := rn_rg tb 2 (tz - (f + 1)) (f + 1)
      rw [← ht] at hr
      have d0 := hd f (by omega) (by omega)
      have hc : tke tz tb f - f = 1 ∨ tke tz tb f - f = 2 ∨ tke tz tb f - f = 3 := by omega
      have key : 0 ≤ val tb (tke tz tb f - f) f 0 ∧ val tb (tke tz tb f - f) f 0 ≤ 999 := by
        rcases hc with e | e | e
        · rw [e]
          show 0 ≤ 10 * 0 + (tb f : Int) - 48 ∧ 10 * 0 + (tb f : Int) - 48 ≤ 999
          omega
        · have d1 := hd (f + 1) (by omega) (by omega)
          rw [e]
          show 0 ≤ 10 * (10 * 0 + (tb f : Int) - 48) + (tb (f + 1) : Int) - 48 ∧ 10 * (10 * 0 + (tb f : Int) - 48) + (tb (f + 1) : Int) - 48 ≤ 999
          omega
        · have d1 := hd (f + 1) (by omega) (by omega)
          have d2 := hd (f + 1 + 1) (by omega) (by omega)
          rw [e]
          show 0 ≤ 10 * (10 * (10 * 0 + (tb f : Int) - 48) + (tb (f + 1) : Int) - 48) + (tb (f + 1 + 1) : Int) - 48 ∧ 10 * (10 * (10 * 0 + (tb f : Int) - 48) + (tb (f + 1) : Int) - 48) + (tb (f + 1 + 1) : Int) - 48 ≤ 999
          omega
      exact ⟨⟨by omega, key.2⟩, fun _ => key.1, fun h => absurd (hm.mpr ⟨h2, h3⟩) h⟩
  · rw [if_neg h2]
    omega
def nlim (hi v : Int) : Int := if 0 ≤ v ∧ v ≤ hi then v else -1
theorem b_num {N tz : Nat} (hN : big N) (htz : tz ≤ 250) (tb : Nat → Nat) {e : Nat} (he : e ≤ tz) : ∃ (v : Int) (f' e' : Nat), (-1 ≤ v ∧ v ≤ 999) ∧ e ≤ e' ∧ f' ≤ tz ∧ e' ≤ tz ∧ (∀ M, tpc tz tb M → M.1 44 4 = Int32.ofInt e → ∃ M', fX6_stepToNumber N [.ref 44] M = some (Int32.ofInt v, M') ∧ ft M M' ∧ M'.1 44 3 = Int32.ofInt f' ∧ M'.1 44 4 = Int32.ofInt e') ∧ (∀ (hi : Int) M, rg hi → tpm tz tb M → M.1 64 14 = Int32.ofInt e → ∃ M', fX9_number N [.ref 64, .int (Int32.ofInt 0), .int (Int32.ofInt hi)] M = some (Int32.ofInt (nlim hi v), M') ∧ fm M M' ∧ M'.1 64 13 = Int32.ofInt f' ∧ M'.1 64 14 = Int32.ofInt e') := by
  have hs := sk_rg tb (tz - e) e
  have ht := tke_rg (tz := tz) (tb := tb) (f := sk tb (tz - e) e) (by omega)
  have hr := nmf_rg tz tb (sk tb (tz - e) e)
  have hk := mk9_rg tz tb (sk tb (tz - e) e)
  refine ⟨nmf tz tb (sk tb (tz - e) e), sk tb (tz - e) e, tke tz tb (sk tb (tz - e) e), hr.1, by omega, by omega, by omega, fun M hT h4 => ?_, fun hi M hh hT h4 => ?_⟩
  · obtain ⟨M', r1, r2, r3, r4, r5⟩ := v_num8 hN hT he h4
    exact ⟨M', r1, r2, r3, r4⟩
  · obtain ⟨M', r1, r2, r3, r4, r5, r6⟩ := v_next9 hN hT he h4
    refine ⟨M', ?_, r2, r3, r4⟩
    generalize sk tb (tz - e) e = f at hr hk r5 r6 ⊢
    rw [eX9_number, r1, e_bd, r5, i_eq (x := ((mk9 tz tb f : Nat) : Int)) (y := 48) (by omega) (by omega)]
    unfold nlim
    by_cases c : mk9 tz tb f = 48
    · have h0 := hr.2.1 c
      rw [decide_eq_true (by omega), cond_true, r6 c, v_within, e_bd, b_z]
      dsimp only
      rw [i_lt (by omega) (by omega), i_lt hh (by omega), decide_eq_false (by omega), Bool.not_false, Bool.true_and, r6 c]
      by_cases c2 : nmf tz tb f ≤ hi
      · rw [decide_eq_false (by omega), Bool.not_false, cond_true, if_pos ⟨h0, c2⟩, e_I]
      · rw [decide_eq_true (by omega), Bool.not_true, cond_false, if_neg (by omega), e_I]
    · have h0 := hr.2.2 c
      rw [decide_eq_false (by omega), cond_false, if_neg (by omega), e_I]
