def val (tb : Nat → Nat) : Nat → Nat → Int → Int
  | 0, _, a => a
  | d + 1, i, a => val tb d (i + 1) (10 * a + (tb i : Int) - 48)
theorem l_val8 {N tz e : Nat} {tb : Nat → Nat} {M : XM} (hT : tpc tz tb M) (he : e ≤ tz) (h4 : M.1 44 4 = Int32.ofInt e) : ∀ (d i n : Nat) (a : Int), i + d = e → d < n → gX6_stepToNumber N n 34 [.ref 44, .int (Int32.ofInt a), .int (Int32.ofInt i)] [] M = some (Int32.ofInt (val tb d i a), M)
  | 0, i, n + 1, a, hi, hn => by
    have h250 := hT.1
    rw [eX6_stepToNumber_34, h4, i_lt (by omega) (by omega), decide_eq_false (by omega), cond_false, e_I]
    rfl
  | d + 1, i, n + 1, a, hi, hn => by
    have h250 := hT.1
    obtain ⟨t1, t2⟩ := hT.2.2 i (by omega)
    rw [eX6_stepToNumber_34, h4, i_lt (by omega) (by omega), decide_eq_true (by omega), cond_true, show xlen M (44 + 1) = 250 from rfl, i_inn (by omega), decide_eq_true (by omega), cond_true, i_natn (by omega), show 44 + 1 = 45 from rfl, t1, i_mul, i_add, i_sub, i_suc]
    exact l_val8 hT he h4 d (i + 1) n _ (by omega) (by omega)
def nmf (tz : Nat) (tb : Nat → Nat) (f : Nat) : Int := if tkk tz tb f = 2 then (if f + 3 < tke tz tb f then -1 else val tb (tke tz tb f - f) f 0) else -1
theorem tke_rg {tz : Nat} {tb : Nat → Nat} {f : Nat} (hf : f ≤ tz) : f ≤ tke tz tb f ∧ tke tz tb f ≤ tz := by
  unfold tke
  by_cases h : f < tz
  · rw [if_pos h]
    split
    · have := rn_rg tb (kof (tb f)) (tz - (f + 1)) (f + 1)
      omega
    · omega
  · rw [if_neg h]
    omega
theorem tkk_rg (tz : Nat) (tb : Nat → Nat) (f : Nat) : tkk tz tb f ≤ 4 := by
  unfold tkk
  have := kof_rg (tb f)
  split <;> omega
theorem v_num8 {N tz : Nat} (hN : big N) {tb : Nat → Nat} {M : XM} {e : Nat} (hT : tpc tz tb M) (he : e ≤ tz) (h4 : M.1 44 4 = Int32.ofInt e) : ∃ M', fX6_stepToNumber N [.ref 44] M = some (Int32.ofInt (nmf tz tb (sk tb (tz - e) e)), M') ∧ ft M M' ∧ M'.1 44 3 = Int32.ofInt (sk tb (tz - e) e : Nat) ∧ M'.1 44 4 = Int32.ofInt (tke tz tb (sk tb (tz - e) e) : Nat) ∧ M'.1 44 5 = Int32.ofInt (tkk tz tb (sk tb (tz - e) e) : Nat) := by
  have hNb := hN
  unfold big at hNb
  have h250 := hT.1
  obtain ⟨M', r1, r2, r3, r4, r5⟩ := v_step8 hN hT he h4
  have hs := sk_rg tb (tz - e) e
  generalize sk tb (tz - e) e = f at r3 r4 r5 hs ⊢
  have hk := tkk_rg tz tb f
  have ht := tke_rg (tz := tz) (tb := tb) (f := f) (by omega)
  refine ⟨M', ?_, r2, r3, r4, r5⟩
  rw [eX6_stepToNumber, r1, e_bd, r5, i_eq (x := ((tkk tz tb f : Nat) : Int)) (y := 2) (by omega) (by omega)]
  unfold nmf
  by_cases h2 : tkk tz tb f = 2
  · rw [decide_eq_true (by omega), cond_true, if_pos h2, r3, r4, i_sub, i_lt (by omega) (by omega)]
    by_cases h3 : f + 3 < tke tz tb f
    · rw [decide_eq_true (by omega), cond_true, if_pos h3, e_I]
    · rw [decide_eq_false (by omega), cond_false, if_neg h3]
      exact l_val8 (hT.ft r2) ht.2 r4 (tke tz tb f - f) f N 0 (by omega) (by omega)
  · rw [decide_eq_false (by omega), cond_false, if_neg h2, e_I]
