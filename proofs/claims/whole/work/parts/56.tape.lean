def isL (c : Nat) : Bool := decide (97 ≤ c ∧ c ≤ 122)
def isD (c : Nat) : Bool := decide (48 ≤ c ∧ c ≤ 57)
def kof (c : Nat) : Nat := if isL c = true then 1 else if isD c = true then 2 else if c = 59 then 3 else 4
theorem v_tokenOf {N c : Nat} (hc : c < 256) (M : XM) : fX6_tokenOf N [.int (Int32.ofInt c)] M = some (Int32.ofInt (kof c), M) := by
  rw [eX6_tokenOf, i_lt (by omega) (by omega), i_lt (by omega) (by omega), i_lt (by omega) (by omega), i_lt (by omega) (by omega), i_eq (by omega) (by omega)]
  unfold kof isL isD
  by_cases h1 : (c : Int) < 97
  · rw [decide_eq_true h1, cond_true, decide_eq_false (show ¬ (97 ≤ c ∧ c ≤ 122) by omega), if_neg Bool.false_ne_true]
    by_cases h2 : (c : Int) < 48
    · rw [decide_eq_true h2, cond_true, decide_eq_false (show ¬ (48 ≤ c ∧ c ≤ 57) by omega), if_neg Bool.false_ne_true, decide_eq_false (show ¬ (c : Int) = 59 by omega), if_neg (by omega)]
      rfl
    · rw [decide_eq_false h2, cond_false]
      by_cases h3 : (57 : Int) < (c : Int)
      · rw [decide_eq_true h3, cond_true, decide_eq_false (show ¬ (48 ≤ c ∧ c ≤ 57) by omega), if_neg Bool.false_ne_true]
        by_cases h4 : (c : Int) = 59
        · rw [decide_eq_true h4, if_pos (by omega)]; rfl
        · rw [decide_eq_false h4, if_neg (by omega)]; rfl
      · rw [decide_eq_false h3, cond_false, decide_eq_true (show (48 ≤ c ∧ c ≤ 57) by omega), if_pos rfl]; rfl
  · rw [decide_eq_false h1, cond_false]
    by_cases h2 : (122 : Int) < (c : Int)
    · rw [decide_eq_true h2, cond_true, decide_eq_false (show ¬ (97 ≤ c ∧ c ≤ 122) by omega), if_neg Bool.false_ne_true, decide_eq_false (show ¬ (c : Int) < 48 by omega), cond_false, decide_eq_true (show (57 : Int) < (c : Int) by omega), cond_true, decide_eq_false (show ¬ (48 ≤ c ∧ c ≤ 57) by omega), if_neg Bool.false_ne_true, decide_eq_false (show ¬ (c : Int) = 59 by omega), if_neg (by omega)]
      rfl
    · rw [decide_eq_false h2, cond_false, decide_eq_true (show (97 ≤ c ∧ c ≤ 122) by omega), if_pos rfl]; rfl
theorem v_isLet {N c : Nat} (hc : c < 256) (M : XM) : fX9_isLetter N [.int (Int32.ofInt c)] M = some (bi (isL c), M) := by
  rw [eX9_isLetter, i_lt (by omega) (by omega), i_lt (by omega) (by omega)]
  unfold isL
  by_cases h1 : (c : Int) < 97
  · rw [decide_eq_true h1, decide_eq_false (show ¬ (97 ≤ c ∧ c ≤ 122) by omega)]; rfl
  · by_cases h2 : (122 : Int) < (c : Int)
    · rw [decide_eq_false h1, decide_eq_true h2, decide_eq_false (show ¬ (97 ≤ c ∧ c ≤ 122) by omega)]; rfl
    · rw [decide_eq_false h1, decide_eq_false h2, decide_eq_true (show (97 ≤ c ∧ c ≤ 122) by omega)]; rfl
theorem v_isDig {N c : Nat} (hc : c < 256) (M : XM) : fX9_isDigit N [.int (Int32.ofInt c)] M = some (bi (isD c), M) := by
  rw [eX9_isDigit, i_lt (by omega) (by omega), i_lt (by omega) (by omega)]
  unfold isD
  by_cases h1 : (c : Int) < 48
  · rw [decide_eq_true h1, decide_eq_false (show ¬ (48 ≤ c ∧ c ≤ 57) by omega)]; rfl
  · by_cases h2 : (57 : Int) < (c : Int)
    · rw [decide_eq_false h1, decide_eq_true h2, decide_eq_false (show ¬ (48 ≤ c ∧ c ≤ 57) by omega)]; rfl
    · rw [decide_eq_false h1, decide_eq_false h2, decide_eq_true (show (48 ≤ c ∧ c ≤ 57) by omega)]; rfl
theorem kof_rg (c : Nat) : 1 ≤ kof c ∧ kof c ≤ 4 := by
  unfold kof
  split
  · omega
  · split
    · omega
    · split <;> omega
def sk (tb : Nat → Nat) : Nat → Nat → Nat
  | 0, i => i
  | d + 1, i => if tb i = 32 then sk tb d (i + 1) else i
def rn (tb : Nat → Nat) (k : Nat) : Nat → Nat → Nat
  | 0, i => i
  | d + 1, i => if kof (tb i) = k then rn tb k d (i + 1) else i
theorem sk_rg (tb : Nat → Nat) : ∀ d i, i ≤ sk tb d i ∧ sk tb d i ≤ i + d
  | 0, i => ⟨Nat.le_refl _, Nat.le_refl _⟩
  | d + 1, i => by
    have := sk_rg tb d (i + 1)
    rw [sk]
    split <;> omega
theorem rn_rg (tb : Nat → Nat) (k : Nat) : ∀ d i, i ≤ rn tb k d i ∧ rn tb k d i ≤ i + d
  | 0, i => ⟨Nat.le_refl _, Nat.le_refl _⟩
  | d + 1, i => by
    have := rn_rg tb k d (i + 1)
    rw [rn]
    split <;> omega
def tpc (tz : Nat) (tb : Nat → Nat) (M : XM) : Prop := tz ≤ 250 ∧ M.1 44 1 = Int32.ofInt tz ∧ ∀ j, j < tz → M.1 45 j = Int32.ofInt (tb j) ∧ tb j < 256
def ft (M M' : XM) : Prop := M'.2 = M.2 ∧ ∀ a j, ¬ (a = 44 ∧ 3 ≤ j ∧ j ≤ 5) → M'.1 a j = M.1 a j
theorem ft.rf {M : XM} : ft M M := ⟨rfl, fun _ _ _ => rfl⟩
theorem ft.tr {M M' M'' : XM} (h : ft M M') (h' : ft M' M'') : ft M M'' := ⟨h'.1.trans h.1, fun a j h1 => (h'.2 a j h1).trans (h.2 a j h1)⟩
theorem ft_w {M : XM} {j : Nat} {v : Int32} (h : 3 ≤ j ∧ j ≤ 5) : ft M (xwi M 44 j v) := ⟨rfl, fun a i h1 => by rw [m_ne _ (by omega)]⟩
theorem tpc.ft {tz : Nat} {tb : Nat → Nat} {M M' : XM} (h : tpc tz tb M) (hf : ft M M') : tpc tz tb M' := ⟨h.1, by rw [hf.2 _ _ (by omega)]; exact h.2.1, fun j hj => by rw [hf.2 _ _ (by omega)]; exact h.2.2 j hj⟩
theorem l_run8 {N tz : Nat} {tb : Nat → Nat} {k : Nat} (hk : k = 1 ∨ k = 2) : ∀ (d e n : Nat) (M : XM), tpc tz tb M → e + d = tz → d < n → M.1 44 4 = Int32.ofInt e → M.1 44 5 = Int32.ofInt k → ∃ M', gX6_step N n 97 [.ref 44] [] M = some M' ∧ ft M M' ∧ M'.1 44 3 = M.1 44 3 ∧ M'.1 44 4 = Int32.ofInt (rn tb k d e : Nat) ∧ M'.1 44 5 = Int32.ofInt k
  | 0, e, n + 1, M, hT, he, hn, h4, h5 => by
    have h250 := hT.1
    refine ⟨M, ?_, ft.rf, rfl, h4, h5⟩
    rw [eX6_step_97, h4, hT.2.1, i_lt (by omega) (by omega), decide_eq_false (by omega), cond_false]
    rfl
  | d + 1, e, n + 1, M, hT, he, hn, h4, h5 => by
    have h250 := hT.1
    obtain ⟨t1, t2⟩ := hT.2.2 e (by omega)
    have hkr := kof_rg (tb e)
    have st : gX6_step N (n + 1) 97 [.ref 44] [] M = bif decide (kof (tb e) = k) then gX6_step N n 97 [.ref 44] [] (xwi M 44 4 (Int32.ofInt ((e + 1 : Nat) : Int))) else some M := by
      rcases hk with rfl | rfl
      · rw [eX6_step_97, h4, hT.2.1, i_lt (by omega) (by omega), decide_eq_true (by omega), cond_true, h5, show xeq (Int32.ofInt ((1 : Nat) : Int)) (Int32.ofInt 1) = true from rfl, cond_true, show xlen M (44 + 1) = 250 from rfl, i_inn (by omega), decide_eq_true (by omega), cond_true, i_natn (by omega), show 44 + 1 = 45 from rfl, t1, v_tokenOf t2, e_bd]
        dsimp only
        rw [h5, h4, i_eq (by omega) (by omega), i_suc, show decide (((kof (tb e) : Nat) : Int) = ((1 : Nat) : Int)) = decide (kof (tb e) = 1) from decide_eq_decide.mpr (by omega)]
        rfl
      · rw [eX6_step_97, h4, hT.2.1, i_lt (by omega) (by omega), decide_eq_true (by omega), cond_true, h5, show xeq (Int32.ofInt ((2 : Nat) : Int)) (Int32.ofInt 1) = false by decide +kernel, cond_false, show xeq (Int32.ofInt ((2 : Nat) : Int)) (Int32.ofInt 2) = true from rfl, cond_true, show xlen M (44 + 1) = 250 from rfl, i_inn (by omega), decide_eq_true (by omega), cond_true, i_natn (by omega), show 44 + 1 = 45 from rfl, t1, v_tokenOf t2, e_bd]
        dsimp only
        rw [h5, h4, i_eq (by omega) (by omega), i_suc, show decide (((kof (tb e) : Nat) : Int) = ((2 : Nat) : Int)) = decide (kof (tb e) = 2) from decide_eq_decide.mpr (by omega)]
        rfl
    rw [st, rn]
    by_cases e1 : kof (tb e) = k
    · have hf := ft_w (M := M) (j := 4) (v := Int32.ofInt ((e + 1 : Nat) : Int)) (by omega)
      obtain ⟨M', r1, r2, r3, r4, r5⟩ := l_run8 (N := N) hk d (e + 1) n (xwi M 44 4 (Int32.ofInt ((e + 1 : Nat) : Int))) (hT.ft hf) (by omega) (by omega) (by rw [m_eq]) (by rw [m_ne _ (by omega)]; exact h5)
      refine ⟨M', ?_, hf.tr r2, by rw [r3, m_ne _ (by omega)], ?_, r5⟩
      · rw [decide_eq_true e1, cond_true, r1]
      · rw [if_pos e1]; exact r4
    · refine ⟨M, ?_, ft.rf, rfl, ?_, h5⟩
      · rw [decide_eq_false e1, cond_false]
      · rw [if_neg e1]; exact h4
