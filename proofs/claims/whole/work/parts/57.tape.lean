def tkk (tz : Nat) (tb : Nat → Nat) (f : Nat) : Nat := if f < tz then kof (tb f) else 0
def tke (tz : Nat) (tb : Nat → Nat) (f : Nat) : Nat := if f < tz then (if kof (tb f) = 1 ∨ kof (tb f) = 2 then rn tb (kof (tb f)) (tz - (f + 1)) (f + 1) else f + 1) else f
theorem l_one8 {N tz : Nat} {tb : Nat → Nat} {k e n : Nat} {M : XM} (hk : k = 3 ∨ k = 4) (hT : tpc tz tb M) (he : e ≤ tz) (h4 : M.1 44 4 = Int32.ofInt e) (h5 : M.1 44 5 = Int32.ofInt k) : gX6_step N (n + 1) 97 [.ref 44] [] M = some M := by
  have h250 := hT.1
  rw [eX6_step_97, h4, hT.2.1, i_lt (by omega) (by omega)]
  by_cases h : (e : Int) < tz
  · rw [decide_eq_true h, cond_true, h5, i_eq (x := (k : Int)) (y := 1) (by omega) (by omega), decide_eq_false (by omega), cond_false, i_eq (x := (k : Int)) (y := 2) (by omega) (by omega), decide_eq_false (by omega), cond_false]
    rfl
  · rw [decide_eq_false h, cond_false]
    rfl
theorem l_step8 {N tz : Nat} {tb : Nat → Nat} : ∀ (d f n : Nat) (M : XM), tpc tz tb M → f + d = tz → d + 252 < n → M.1 44 3 = Int32.ofInt f → ∃ M', gX6_step N n 8 [.ref 44] [] M = some M' ∧ ft M M' ∧ M'.1 44 3 = Int32.ofInt (sk tb d f : Nat) ∧ M'.1 44 4 = Int32.ofInt (tke tz tb (sk tb d f) : Nat) ∧ M'.1 44 5 = Int32.ofInt (tkk tz tb (sk tb d f) : Nat)
  | 0, f, n + 1, M, hT, hf, hn, h3 => by
    have h250 := hT.1
    refine ⟨xwi (xwi M 44 5 (Int32.ofInt 0)) 44 4 (Int32.ofInt f), ?_, (ft_w (by omega)).tr (ft_w (by omega)), ?_, ?_, ?_⟩
    · rw [eX6_step_8, h3, hT.2.1, i_lt (by omega) (by omega), decide_eq_false (by omega), cond_false, cond_false, m_ne _ (by omega), h3]
      rfl
    · rw [m_ne _ (by omega), m_ne _ (by omega)]; exact h3
    · rw [m_eq, sk, tke, if_neg (by omega)]
    · rw [m_ne _ (by omega), m_eq, sk, tkk, if_neg (by omega)]
      rfl
  | d + 1, f, n + 1, M, hT, hf, hn, h3 => by
    have h250 := hT.1
    obtain ⟨t1, t2⟩ := hT.2.2 f (by omega)
    have hkr := kof_rg (tb f)
    by_cases hb : tb f = 32
    · have hw := ft_w (M := M) (j := 3) (v := Int32.ofInt ((f + 1 : Nat) : Int)) (by omega)
      obtain ⟨M', r1, r2, r3, r4, r5⟩ := l_step8 (N := N) d (f + 1) n (xwi M 44 3 (Int32.ofInt ((f + 1 : Nat) : Int))) (hT.ft hw) (by omega) (by omega) (by rw [m_eq])
      have e : sk tb (d + 1) f = sk tb d (f + 1) := by rw [sk, if_pos hb]
      rw [e]
      refine ⟨M', ?_, hw.tr r2, r3, r4, r5⟩
      rw [eX6_step_8, h3, hT.2.1, i_lt (by omega) (by omega), decide_eq_true (by omega), cond_true, show xlen M (44 + 1) = 250 from rfl, i_inn (by omega), decide_eq_true (by omega), cond_true, i_natn (by omega), show 44 + 1 = 45 from rfl, t1, i_eq (by omega) (by omega), decide_eq_true (by omega), cond_true, i_suc]
      exact r1
    · have e : sk tb (d + 1) f = f := by rw [sk, if_neg hb]
      rw [e]
      have hw : ft M (xwi (xwi M 44 5 (Int32.ofInt (kof (tb f)))) 44 4 (Int32.ofInt ((f + 1 : Nat) : Int))) := (ft_w (by omega)).tr (ft_w (by omega))
      have st : gX6_step N (n + 1) 8 [.ref 44] [] M = gX6_step N n 97 [.ref 44] [] (xwi (xwi M 44 5 (Int32.ofInt (kof (tb f)))) 44 4 (Int32.ofInt ((f + 1 : Nat) : Int))) := by
        rw [eX6_step_8, h3, hT.2.1, i_lt (by omega) (by omega), decide_eq_true (by omega), cond_true, show xlen M (44 + 1) = 250 from rfl, i_inn (by omega), decide_eq_true (by omega), cond_true, i_natn (by omega), show 44 + 1 = 45 from rfl, t1, i_eq (by omega) (by omega), decide_eq_false (by omega), cond_false, cond_true, cond_true, v_tokenOf t2, e_bd]
        dsimp only
        rw [m_ne _ (by omega), h3, i_suc]
      rw [st, tke, tkk, if_pos (show f < tz by omega), if_pos (show f < tz by omega)]
      by_cases hk : kof (tb f) = 1 ∨ kof (tb f) = 2
      · obtain ⟨M', r1, r2, r3, r4, r5⟩ := l_run8 (N := N) hk d (f + 1) n _ (hT.ft hw) (by omega) (by omega) (by rw [m_eq]) (by rw [m_ne _ (by omega), m_eq])
        refine ⟨M', r1, hw.tr r2, by rw [r3, m_ne _ (by omega), m_ne _ (by omega)]; exact h3, ?_, r5⟩
        rw [if_pos hk, show tz - (f + 1) = d by omega]
        exact r4
      · obtain ⟨n', rfl⟩ : ∃ n', n = n' + 1 := ⟨n - 1, by omega⟩
        refine ⟨_, l_one8 (k := kof (tb f)) (e := f + 1) (by omega) (hT.ft hw) (by omega) (by rw [m_eq]) (by rw [m_ne _ (by omega), m_eq]), hw, by rw [m_ne _ (by omega), m_ne _ (by omega)]; exact h3, ?_, by rw [m_ne _ (by omega), m_eq]⟩
        rw [if_neg hk, m_eq]
theorem v_step8 {N tz : Nat} (hN : big N) {tb : Nat → Nat} {M : XM} {e : Nat} (hT : tpc tz tb M) (he : e ≤ tz) (h4 : M.1 44 4 = Int32.ofInt e) : ∃ M', fX6_step N [.ref 44] M = some M' ∧ ft M M' ∧ M'.1 44 3 = Int32.ofInt (sk tb (tz - e) e : Nat) ∧ M'.1 44 4 = Int32.ofInt (tke tz tb (sk tb (tz - e) e) : Nat) ∧ M'.1 44 5 = Int32.ofInt (tkk tz tb (sk tb (tz - e) e) : Nat) := by
  unfold big at hN
  have h250 := hT.1
  have hw := ft_w (M := M) (j := 3) (v := Int32.ofInt e) (by omega)
  obtain ⟨M', r1, r2, r3, r4, r5⟩ := l_step8 (N := N) (tz - e) e N (xwi M 44 3 (Int32.ofInt e)) (hT.ft hw) (by omega) (by omega) (by rw [m_eq])
  refine ⟨M', ?_, hw.tr r2, r3, r4, r5⟩
  rw [eX6_step, h4]
  exact r1
