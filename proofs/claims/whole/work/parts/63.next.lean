def tpm (tz : Nat) (tb : Nat → Nat) (M : XM) : Prop := tz ≤ 250 ∧ M.1 64 11 = Int32.ofInt tz ∧ ∀ j, j < tz → M.1 72 j = Int32.ofInt (tb j) ∧ tb j < 256
def fm (M M' : XM) : Prop := M'.2 = M.2 ∧ ∀ a j, ¬ (a = 64 ∧ 13 ≤ j ∧ j ≤ 16) → M'.1 a j = M.1 a j
theorem fm.rf {M : XM} : fm M M := ⟨rfl, fun _ _ _ => rfl⟩
theorem fm.tr {M M' M'' : XM} (h : fm M M') (h' : fm M' M'') : fm M M'' := ⟨h'.1.trans h.1, fun a j h1 => (h'.2 a j h1).trans (h.2 a j h1)⟩
theorem fm_w {M : XM} {j : Nat} {v : Int32} (h : 13 ≤ j ∧ j ≤ 16) : fm M (xwi M 64 j v) := ⟨rfl, fun a i h1 => by rw [m_ne _ (by omega)]⟩
theorem tpm.fm {tz : Nat} {tb : Nat → Nat} {M M' : XM} (h : tpm tz tb M) (hf : fm M M') : tpm tz tb M' := ⟨h.1, by rw [hf.2 _ _ (by omega)]; exact h.2.1, fun j hj => by rw [hf.2 _ _ (by omega)]; exact h.2.2 j hj⟩
theorem kof_1 (c : Nat) : isL c = decide (kof c = 1) := by
  unfold kof
  by_cases h : isL c = true
  · rw [if_pos h, h] <;> rfl
  · rw [if_neg h, Bool.eq_false_iff.mpr h]
    by_cases h2 : isD c = true
    · rw [if_pos h2] <;> rfl
    · rw [if_neg h2]
      split <;> rfl
theorem kof_2 (c : Nat) : isD c = decide (kof c = 2) := by
  unfold kof
  by_cases h : isL c = true
  · rw [if_pos h]
    unfold isL at h
    have h := of_decide_eq_true h
    unfold isD
    exact decide_eq_decide.mpr (by omega)
  · rw [if_neg h]
    by_cases h2 : isD c = true
    · rw [if_pos h2, h2] <;> rfl
    · rw [if_neg h2, Bool.eq_false_iff.mpr h2]
      split <;> rfl
theorem kof_3 (c : Nat) : (c = 59) ↔ kof c = 3 := by
  unfold kof isL isD
  constructor
  · rintro rfl
    all_goals rfl
  · intro h
    split at h
    · omega
    · split at h
      · omega
      · split at h
        · assumption
        · omega
theorem l_word9 {N tz : Nat} {tb : Nat → Nat} : ∀ (d e n : Nat) (M : XM), tpm tz tb M → e + d = tz → d < n → M.1 64 14 = Int32.ofInt e → ∃ M', gX9_next N n 96 [.ref 64, .retAddr 0] [] M = some M' ∧ fm M M' ∧ M'.1 64 13 = M.1 64 13 ∧ M'.1 64 14 = Int32.ofInt (rn tb 1 d e : Nat) ∧ M'.1 64 15 = Int32.ofInt 119
  | 0, e, n + 1, M, hT, he, hn, h4 => by
    have h250 := hT.1
    refine ⟨xwi M 64 15 (Int32.ofInt 119), ?_, fm_w (by omega), by rw [m_ne _ (by omega)], by rw [m_ne _ (by omega)]; exact h4, by rw [m_eq]⟩
    rw [eX9_next_96, h4, hT.2.1, i_lt (by omega) (by omega), decide_eq_false (by omega), cond_false, e_V]
  | d + 1, e, n + 1, M, hT, he, hn, h4 => by
    have h250 := hT.1
    obtain ⟨t1, t2⟩ := hT.2.2 e (by omega)
    have st : gX9_next N (n + 1) 96 [.ref 64, .retAddr 0] [] M = bif decide (kof (tb e) = 1) then gX9_next N n 96 [.ref 64, .retAddr 0] [] (xwi M 64 14 (Int32.ofInt ((e + 1 : Nat) : Int))) else some (xwi M 64 15 (Int32.ofInt 119)) := by
      rw [eX9_next_96, h4, hT.2.1, i_lt (by omega) (by omega), decide_eq_true (by omega), cond_true, show xlen M (64 + 8) = 250 from rfl, i_inn (by omega), decide_eq_true (by omega), cond_true, i_natn (by omega), show 64 + 8 = 72 from rfl, t1, v_isLet t2, e_bd]
      dsimp only
      rw [b_z, kof_1, h4, i_suc, e_V]
    rw [st, rn]
    by_cases e1 : kof (tb e) = 1
    · have hf := fm_w (M := M) (j := 14) (v := Int32.ofInt ((e + 1 : Nat) : Int)) (by omega)
      obtain ⟨M', r1, r2, r3, r4, r5⟩ := l_word9 (N := N) d (e + 1) n (xwi M 64 14 (Int32.ofInt ((e + 1 : Nat) : Int))) (hT.fm hf) (by omega) (by omega) (by rw [m_eq])
      refine ⟨M', ?_, hf.tr r2, by rw [r3, m_ne _ (by omega)], ?_, r5⟩
      · rw [decide_eq_true e1, cond_true, r1]
      · rw [if_pos e1]; exact r4
    · refine ⟨xwi M 64 15 (Int32.ofInt 119), ?_, fm_w (by omega), by rw [m_ne _ (by omega)], ?_, by rw [m_eq]⟩
      · rw [decide_eq_false e1, cond_false]
      · rw [if_neg e1, m_ne _ (by omega)]; exact h4
theorem n9_end {e f : Nat} (h : e ≤ 250) (h2 : f ≤ 250) (M : XM) : (bif xlt (Int32.ofInt 3) (Int32.ofInt (e : Int) - Int32.ofInt (f : Int)) then xrV none (xwi M 64 15 (Int32.ofInt 120)) else xrV none (xwi M 64 15 (Int32.ofInt 48))) = some (xwi M 64 15 (Int32.ofInt ((if f + 3 < e then 120 else 48 : Nat) : Int))) := by
  rw [i_sub, i_lt (by omega) (by omega)]
  by_cases c : f + 3 < e
  · rw [decide_eq_true (by omega), cond_true, if_pos c, e_V] <;> rfl
  · rw [decide_eq_false (by omega), cond_false, if_neg c, e_V] <;> rfl
theorem l_num9 {N tz f : Nat} {tb : Nat → Nat} : ∀ (d e n : Nat) (a : Int) (M : XM), tpm tz tb M → e + d = tz → d < n → f < e → M.1 64 13 = Int32.ofInt f → M.1 64 14 = Int32.ofInt e → M.1 64 16 = Int32.ofInt a → ∃ M', gX9_next N n 159 [.ref 64, .retAddr 0] [] M = some M' ∧ fm M M' ∧ M'.1 64 13 = M.1 64 13 ∧ M'.1 64 14 = Int32.ofInt (rn tb 2 d e : Nat) ∧ M'.1 64 15 = Int32.ofInt ((if f + 3 < rn tb 2 d e then 120 else 48 : Nat) : Int) ∧ (rn tb 2 d e ≤ f + 3 → M'.1 64 16 = Int32.ofInt (val tb (rn tb 2 d e - e) e a))
  | 0, e, n + 1, a, M, hT, he, hn, hfe, h3, h4, h6 => by
    have h250 := hT.1
    rw [rn]
    refine ⟨xwi M 64 15 (Int32.ofInt ((if f + 3 < e then 120 else 48 : Nat) : Int)), ?_, fm_w (by omega), by rw [m_ne _ (by omega)], by rw [m_ne _ (by omega)]; exact h4, by rw [m_eq], fun _ => ?_⟩
    · rw [eX9_next_159, h4, hT.2.1, h3, i_lt (by omega) (by omega), decide_eq_false (by omega), cond_false]
      exact n9_end (by omega) (by omega) M
    · rw [m_ne _ (by omega), Nat.sub_self, val]; exact h6
  | d + 1, e, n + 1, a, M, hT, he, hn, hfe, h3, h4, h6 => by
    have h250 := hT.1
    obtain ⟨t1, t2⟩ := hT.2.2 e (by omega)
    rw [eX9_next_159, h4, hT.2.1, i_lt (by omega) (by omega), decide_eq_true (by omega), cond_true, show xlen M (64 + 8) = 250 from rfl, i_inn (by omega), decide_eq_true (by omega), cond_true, i_natn (by omega), show 64 + 8 = 72 from rfl, t1, v_isDig t2, e_bd]
    dsimp only
    rw [b_z, kof_2, rn]
    by_cases e1 : kof (tb e) = 2
    · rw [decide_eq_true e1, cond_true, if_pos e1, h4, h3, i_sub, i_lt (by omega) (by omega)]
      have hr := rn_rg tb 2 d (e + 1)
      by_cases e2 : e < f + 3
      · rw [decide_eq_true (by omega), cond_true, show xlen M 72 = 250 from rfl, i_inn (by omega), decide_eq_true (by omega), cond_true, i_natn (by omega), t1, h6, m_ne (a := 64) (j := 14) _ (by omega), h4, i_mul, i_add, i_sub, i_suc]
        have hf : fm M (xwi (xwi M 64 16 (Int32.ofInt (10 * a + (tb e : Int) - 48))) 64 14 (Int32.ofInt ((e + 1 : Nat) : Int))) := (fm_w (by omega)).tr (fm_w (by omega))
        obtain ⟨M', r1, r2, r3, r4, r5, r6⟩ := l_num9 (N := N) (f := f) d (e + 1) n (10 * a + (tb e : Int) - 48) _ (hT.fm hf) (by omega) (by omega) (by omega) (by rw [m_ne _ (by omega), m_ne _ (by omega)]; exact h3) (by rw [m_eq]) (by rw [m_ne _ (by omega), m_eq])
        refine ⟨M', r1, hf.tr r2, by rw [r3, m_ne _ (by omega), m_ne _ (by omega)]; exact h3, r4, r5, fun h => ?_⟩
        rw [r6 h, show rn tb 2 d (e + 1) - e = (rn tb 2 d (e + 1) - (e + 1)) + 1 by omega, val]
      · rw [decide_eq_false (by omega), cond_false, i_suc]
        have hf : fm M (xwi M 64 14 (Int32.ofInt ((e + 1 : Nat) : Int))) := fm_w (by omega)
        obtain ⟨M', r1, r2, r3, r4, r5, r6⟩ := l_num9 (N := N) (f := f) d (e + 1) n a _ (hT.fm hf) (by omega) (by omega) (by omega) (by rw [m_ne _ (by omega)]; exact h3) (by rw [m_eq]) (by rw [m_ne _ (by omega)]; exact h6)
        exact ⟨M', r1, hf.tr r2, by rw [r3, m_ne _ (by omega)]; exact h3, r4, r5, fun h => absurd h (by omega)⟩
    · rw [decide_eq_false e1, cond_false, if_neg e1, h4, h3]
      refine ⟨xwi M 64 15 (Int32.ofInt ((if f + 3 < e then 120 else 48 : Nat) : Int)), n9_end (by omega) (by omega) M, fm_w (by omega), by rw [m_ne _ (by omega)]; exact h3, by rw [m_ne _ (by omega)]; exact h4, by rw [m_eq], fun _ => ?_⟩
      rw [m_ne _ (by omega), Nat.sub_self, val]; exact h6
def mk9 (tz : Nat) (tb : Nat → Nat) (f : Nat) : Nat := if tkk tz tb f = 1 then 119 else if tkk tz tb f = 2 then (if f + 3 < tke tz tb f then 120 else 48) else if tkk tz tb f = 3 then 59 else if tkk tz tb f = 4 then 120 else 101
theorem l_next9 {N tz : Nat} {tb : Nat → Nat} : ∀ (d f n : Nat) (M : XM), tpm tz tb M → f + d = tz → d + 252 < n → M.1 64 13 = Int32.ofInt f → ∃ M', gX9_next N n 8 [.ref 64, .retAddr 0] [] M = some M' ∧ fm M M' ∧ M'.1 64 13 = Int32.ofInt (sk tb d f : Nat) ∧ M'.1 64 14 = Int32.ofInt (tke tz tb (sk tb d f) : Nat) ∧ M'.1 64 15 = Int32.ofInt (mk9 tz tb (sk tb d f) : Nat) ∧ (mk9 tz tb (sk tb d f) = 48 → M'.1 64 16 = Int32.ofInt (nmf tz tb (sk tb d f)))
  | 0, f, n + 1, M, hT, hf, hn, h3 => by
    have h250 := hT.1
    have hk : tkk tz tb f = 0 := by unfold tkk; rw [if_neg (by omega)]
    have hm : mk9 tz tb f = 101 := by unfold mk9; rw [hk] <;> rfl
    have ht : tke tz tb f = f := by unfold tke; rw [if_neg (by omega)]
    have hw : fm M (xwi (xwi M 64 14 (Int32.ofInt f)) 64 15 (Int32.ofInt 101)) := (fm_w (by omega)).tr (fm_w (by omega))
    rw [sk, hm, ht]
    refine ⟨_, ?_, hw, by rw [m_ne _ (by omega), m_ne _ (by omega)]; exact h3, by rw [m_ne _ (by omega), m_eq], by rw [m_eq] <;> rfl, fun h => absurd h (by omega)⟩
    have q1 : (xwi M 64 14 (Int32.ofInt (f : Int))).1 64 13 = Int32.ofInt (f : Int) := by rw [m_ne _ (by omega)]; exact h3
    have q2 : (xwi M 64 14 (Int32.ofInt (f : Int))).1 64 11 = Int32.ofInt (tz : Int) := by rw [m_ne _ (by omega)]; exact hT.2.1
    rw [eX9_next_8, h3, hT.2.1, i_lt (by omega) (by omega), decide_eq_false (by omega), cond_false, q1, q2, i_eq (by omega) (by omega), decide_eq_true (by omega), cond_true, e_V]
  | d + 1, f, n + 1, M, hT, hf, hn, h3 => by
    have h250 := hT.1
    obtain ⟨t1, t2⟩ := hT.2.2 f (by omega)
    by_cases hb : tb f = 32
    · have hw := fm_w (M := M) (j := 13) (v := Int32.ofInt ((f + 1 : Nat) : Int)) (by omega)
      obtain ⟨M', r1, r2, r3, r4, r5, r6⟩ := l_next9 (N := N) d (f + 1) n (xwi M 64 13 (Int32.ofInt ((f + 1 : Nat) : Int))) (hT.fm hw) (by omega) (by omega) (by rw [m_eq])
      have e : sk tb (d + 1) f = sk tb d (f + 1) := by rw [sk, if_pos hb]
      rw [e]
      refine ⟨M', ?_, hw.tr r2, r3, r4, r5, r6⟩
      rw [eX9_next_8, h3, hT.2.1, i_lt (by omega) (by omega), decide_eq_true (by omega), cond_true, show xlen M (64 + 8) = 250 from rfl, i_inn (by omega), decide_eq_true (by omega), cond_true, i_natn (by omega), show 64 + 8 = 72 from rfl, t1, i_eq (by omega) (by omega), decide_eq_true (by omega), cond_true, i_suc]
      exact r1
    · have e : sk tb (d + 1) f = f := by rw [sk, if_neg hb]
      rw [e]
      have hw1 : fm M (xwi M 64 14 (Int32.ofInt (f : Int))) := fm_w (by omega)
      have hw : fm M (xwi (xwi M 64 14 (Int32.ofInt (f : Int))) 64 14 (Int32.ofInt ((f + 1 : Nat) : Int))) := hw1.tr (fm_w (by omega))
      have q1 : (xwi M 64 14 (Int32.ofInt (f : Int))).1 64 13 = Int32.ofInt (f : Int) := by rw [m_ne _ (by omega)]; exact h3
      have q2 : (xwi M 64 14 (Int32.ofInt (f : Int))).1 64 11 = Int32.ofInt (tz : Int) := by rw [m_ne _ (by omega)]; exact hT.2.1
      have q3 : (xwi M 64 14 (Int32.ofInt (f : Int))).1 64 14 = Int32.ofInt (f : Int) := by rw [m_eq]
      have q4 : (xwi (xwi M 64 14 (Int32.ofInt (f : Int))) 64 14 (Int32.ofInt ((f + 1 : Nat) : Int))).1 72 f = Int32.ofInt (tb f : Int) := by rw [m_ne _ (by omega), m_ne _ (by omega)]; exact t1
      have st : gX9_next N (n + 1) 8 [.ref 64, .retAddr 0] [] M = bif isL (tb f) then gX9_next N n 96 [.ref 64, .retAddr 0] [] (xwi (xwi M 64 14 (Int32.ofInt (f : Int))) 64 14 (Int32.ofInt ((f + 1 : Nat) : Int))) else bif isD (tb f) then gX9_next N n 159 [.ref 64, .retAddr 0] [] (xwi (xwi (xwi M 64 14 (Int32.ofInt (f : Int))) 64 14 (Int32.ofInt ((f + 1 : Nat) : Int))) 64 16 (Int32.ofInt ((tb f : Int) - 48))) else some (xwi (xwi (xwi M 64 14 (Int32.ofInt (f : Int))) 64 14 (Int32.ofInt ((f + 1 : Nat) : Int))) 64 15 (Int32.ofInt ((if tb f = 59 then 59 else 120 : Nat) : Int))) := by
        rw [eX9_next_8, h3, hT.2.1, i_lt (by omega) (by omega), decide_eq_true (by omega), cond_true, show xlen M (64 + 8) = 250 from rfl, i_inn (by omega), decide_eq_true (by omega), cond_true, i_natn (by omega), show 64 + 8 = 72 from rfl, t1, i_eq (by omega) (by omega), decide_eq_false (by omega), cond_false, q1, q2, q3, i_eq (by omega) (by omega), decide_eq_false (by omega), cond_false, i_suc, show ∀ M, xlen M 72 = 250 from fun _ => rfl, i_inn (by omega), decide_eq_true (by omega), cond_true, i_natn (by omega), q4, v_isLet t2, e_bd]
        dsimp only
        rw [b_z]
        cases h1 : isL (tb f) with
        | true => rfl
        | false =>
          rw [cond_false, cond_false, v_isDig t2, e_bd]
          dsimp only
          rw [b_z]
          cases h2 : isD (tb f) with
          | true => rw [cond_true, cond_true, i_sub]
          | false =>
            rw [cond_false, cond_false, i_eq (by omega) (by omega)]
            by_cases h5 : tb f = 59
            · rw [decide_eq_true (by omega), cond_true, if_pos h5, e_V] <;> rfl
            · rw [decide_eq_false (by omega), cond_false, if_neg h5, e_V] <;> rfl
      rw [st]
      have kr := kof_rg (tb f)
      have k1 : tkk tz tb f = kof (tb f) := by unfold tkk; rw [if_pos (by omega)]
      have p3 : (xwi (xwi M 64 14 (Int32.ofInt (f : Int))) 64 14 (Int32.ofInt ((f + 1 : Nat) : Int))).1 64 13 = Int32.ofInt (f : Int) := by rw [m_ne _ (by omega)]; exact q1
      have p4 : (xwi (xwi M 64 14 (Int32.ofInt (f : Int))) 64 14 (Int32.ofInt ((f + 1 : Nat) : Int))).1 64 14 = Int32.ofInt ((f + 1 : Nat) : Int) := by rw [m_eq]
      generalize xwi (xwi M 64 14 (Int32.ofInt (f : Int))) 64 14 (Int32.ofInt ((f + 1 : Nat) : Int)) = M2 at hw p3 p4 ⊢
      have hT2 := hT.fm hw
      by_cases c1 : kof (tb f) = 1
      · have ht : tke tz tb f = rn tb 1 d (f + 1) := by unfold tke; rw [if_pos (by omega), c1, if_pos (Or.inl rfl), show tz - (f + 1) = d by omega]
        have hm : mk9 tz tb f = 119 := by unfold mk9; rw [k1, if_pos c1]
        rw [kof_1, decide_eq_true c1, cond_true, ht, hm]
        obtain ⟨M', r1, r2, r3, r4, r5⟩ := l_word9 (N := N) d (f + 1) n M2 hT2 (by omega) (by omega) p4
        exact ⟨M', r1, hw.tr r2, r3.trans p3, r4, r5, fun h => absurd h (by omega)⟩
      · by_cases c2 : kof (tb f) = 2
        · have hr := rn_rg tb 2 d (f + 1)
          have ht : tke tz tb f = rn tb 2 d (f + 1) := by unfold tke; rw [if_pos (by omega), c2, if_pos (Or.inr rfl), show tz - (f + 1) = d by omega]
          have hm : mk9 tz tb f = if f + 3 < rn tb 2 d (f + 1) then 120 else 48 := by unfold mk9; rw [k1, if_neg c1, if_pos c2, ht]
          rw [kof_1, decide_eq_false c1, cond_false, kof_2, decide_eq_true c2, cond_true, hm]
          obtain ⟨M', r1, r2, r3, r4, r5, r6⟩ := l_num9 (N := N) (f := f) d (f + 1) n ((tb f : Int) - 48) (xwi M2 64 16 (Int32.ofInt ((tb f : Int) - 48))) (hT2.fm (fm_w (by omega))) (by omega) (by omega) (by omega) (by rw [m_ne _ (by omega)]; exact p3) (by rw [m_ne _ (by omega)]; exact p4) (by rw [m_eq])
          refine ⟨M', r1, (hw.tr (fm_w (by omega))).tr r2, ?_, by rw [ht]; exact r4, r5, fun h => ?_⟩
          · rw [r3, m_ne _ (by omega)]; exact p3
          · have h3 : ¬ f + 3 < rn tb 2 d (f + 1) := fun h' => by rw [if_pos h'] at h; omega
            rw [r6 (by omega)]
            unfold nmf
            rw [k1, if_pos c2, ht, if_neg h3, show rn tb 2 d (f + 1) - f = (rn tb 2 d (f + 1) - (f + 1)) + 1 by omega, val, show (10 * 0 + (tb f : Int) - 48) = (tb f : Int) - 48 by omega]
        · have ht : tke tz tb f = f + 1 := by unfold tke; rw [if_pos (by omega), if_neg (by omega)]
          have hm : mk9 tz tb f = if tb f = 59 then 59 else 120 := by
            unfold mk9
            rw [k1, if_neg c1, if_neg c2]
            by_cases c3 : kof (tb f) = 3
            · rw [if_pos c3, if_pos ((kof_3 _).mpr c3)]
            · rw [if_neg c3, if_pos (by omega), if_neg (fun h => c3 ((kof_3 _).mp h))]
          rw [kof_1, decide_eq_false c1, cond_false, kof_2, decide_eq_false c2, cond_false, hm]
          refine ⟨_, rfl, hw.tr (fm_w (by omega)), by rw [m_ne _ (by omega)]; exact p3, by rw [m_ne _ (by omega), ht]; exact p4, by rw [m_eq], fun h => ?_⟩
          split at h <;> omega
theorem v_next9 {N tz : Nat} (hN : big N) {tb : Nat → Nat} {M : XM} {e : Nat} (hT : tpm tz tb M) (he : e ≤ tz) (h4 : M.1 64 14 = Int32.ofInt e) : ∃ M', fX9_next N [.ref 64] M = some M' ∧ fm M M' ∧ M'.1 64 13 = Int32.ofInt (sk tb (tz - e) e : Nat) ∧ M'.1 64 14 = Int32.ofInt (tke tz tb (sk tb (tz - e) e) : Nat) ∧ M'.1 64 15 = Int32.ofInt (mk9 tz tb (sk tb (tz - e) e) : Nat) ∧ (mk9 tz tb (sk tb (tz - e) e) = 48 → M'.1 64 16 = Int32.ofInt (nmf tz tb (sk tb (tz - e) e))) := by
  unfold big at hN
  have h250 := hT.1
  have hw := fm_w (M := M) (j := 13) (v := Int32.ofInt e) (by omega)
  obtain ⟨M', r1, r2, r3⟩ := l_next9 (N := N) (tz - e) e N (xwi M 64 13 (Int32.ofInt e)) (hT.fm hw) (by omega) (by omega) (by rw [m_eq])
  refine ⟨M', ?_, hw.tr r2, r3⟩
  rw [eX9_next, h4]
  exact r1
