theorem SY_q {c L rm t : Nat} {M M' : XM} (h : SY c L rm t M) (hq : ∀ a j, c ≤ a → a ≤ c + 8 → M'.1 a j = M.1 a j) (hl : ∀ j, M'.2 (c + 1) j = M.2 (c + 1) j) : SY c L rm t M' := by
  obtain ⟨h1, h2, w, h3⟩ := h
  exact ⟨by rw [hq _ _ (by omega) (by omega)]; exact h1, by rw [hq _ _ (by omega) (by omega)]; exact h2, w, SYw_m h3 (fun a j h1 h2 => hq a j h1 (by omega)) hl⟩
theorem cv_q {o : Nat} {R : RV} {M M' : XM} (h : cv o R M) (hq : ∀ a j, o ≤ a → a ≤ o + 6 → M'.1 a j = M.1 a j) : cv o R M' := by
  obtain ⟨h1, h2, h3, h4, h5, h6, h7⟩ := h
  refine ⟨by rw [hq _ _ (by omega) (by omega)]; exact h1, by rw [hq _ _ (by omega) (by omega)]; exact h2, by rw [hq _ _ (by omega) (by omega)]; exact h3, by rw [hq _ _ (by omega) (by omega)]; exact h4, by rw [hq _ _ (by omega) (by omega)]; exact h5, fun b hb => ?_, fun i hi => by rw [hq _ _ (by omega) (by omega)]; exact h7 i hi⟩
  rw [hq (o + 1) _ (by omega) (by omega), hq (o + 2) _ (by omega) (by omega), hq (o + 3) _ (by omega) (by omega), hq (o + 4) _ (by omega) (by omega), hq (o + 5) _ (by omega) (by omega)]
  exact h6 b hb
theorem CX_q8 {t : Nat} {S : SV} {M M' : XM} (h : CX t S M) (hq : q8 M M') : CX t S M' := by
  obtain ⟨h1, h2, h3, h4, h5, h6, h7, h8, h9, h10⟩ := h
  have g := hq.2
  refine ⟨cv_q h1 (fun a j _ _ => g a j (by omega) (by omega)), by rw [g _ _ (by omega) (by omega)]; exact h2, fun h => cv_q (h3 h) (fun a j _ _ => g a j (by omega) (by omega)), by rw [g _ _ (by omega) (by omega)]; exact h4, fun j hj => by rw [g _ _ (by omega) (by omega)]; exact h5 j hj, fun s hs => ?_, fun k hk => by rw [g _ _ (by omega) (by omega)]; exact h7 k hk, SY_q h8 (fun a j _ _ => g a j (by omega) (by omega)) (fun j => by rw [hq.1 _ (by omega)]), SY_q h9 (fun a j _ _ => g a j (by omega) (by omega)) (fun j => by rw [hq.1 _ (by omega)]), fgn_q8 h10 hq⟩
  rw [g (48 + 2 * s) 0 (by omega) (by omega), g (48 + 2 * s) 1 (by omega) (by omega)]
  exact ⟨(h6 s hs).1, fun a b => ⟨((h6 s hs).2 a b).1, fun i hi => by rw [hq.1 _ (by omega)]; exact ((h6 s hs).2 a b).2 i hi⟩⟩
theorem CX_T0 {t : Nat} {S : SV} {M M' : XM} {n : Nat} {f : Nat → Nat} (h : CX t S M) (h1 : M'.1 44 1 = Int32.ofInt n) (h2 : ∀ j, j < n → M'.1 45 j = Int32.ofInt (f j)) (hf : fr 44 46 M M') : CX t (S.wT n f) M' := by
  obtain ⟨a1, a2, a3, a4, a5, h6, h7, h8, h9, h10⟩ := h
  refine ⟨a1.fr hf (by omega), by rw [hf.i (by omega)]; exact a2, fun h => (a3 h).fr hf (by omega), h1, h2, fun s hs => ?_, fun k hk => by rw [hf.i (by omega)]; exact h7 k hk, h8.fr hf (by omega), h9.fr hf (by omega), h10.fr hf (by omega)⟩
  rw [hf.i (by omega), hf.i (by omega)]
  exact ⟨(h6 s hs).1, fun a b => ⟨((h6 s hs).2 a b).1, fun i hi => by rw [hf.l (by omega)]; exact ((h6 s hs).2 a b).2 i hi⟩⟩
theorem CM_78 {S : SV} {M M' : XM} (h : CM S M) (hf : fr 78 79 M M') : CM S M' := by
  obtain ⟨h1, h2, h3, h4, h5, h6, h7, h8, h10⟩ := h
  refine ⟨h1.fr hf (by omega), by rw [hf.i (by omega)]; exact h2, fun h => (h3 h).fr hf (by omega), by rw [hf.i (by omega)]; exact h4, fun j hj => by rw [hf.i (by omega)]; exact h5 j hj, fun s hs => ?_, fun k hk => by rw [hf.i (by omega)]; exact h7 k hk, by rw [hf.i (by omega)]; exact h8, h10.fr hf (by omega)⟩
  rw [hf.i (by omega), hf.i (by omega)]
  exact ⟨(h6 s hs).1, fun a b => ⟨((h6 s hs).2 a b).1, fun i hi => by rw [hf.l (by omega)]; exact ((h6 s hs).2 a b).2 i hi⟩⟩
theorem CM_clr {S : SV} {M : XM} (h : CM S M) : CM (S.wT 0 S.tb) (xwi M 64 11 (Int32.ofInt 0)) := CM_T h (by rw [m_eq] <;> rfl) (fun j hj => absurd hj (by omega)) (fun j hj => by rw [m_ne _ (by omega)]) (fun a h1 h2 => funext fun j => by rw [m_ne _ (by omega)]) rfl
set_option maxRecDepth 100000 in
theorem op_rock {t : Nat} {S : SV} (hW : WfS S) {N : Nat} (hN : big N) : both t S (fX8_rock N [.ref 0]) (fX9_rock N [.ref 64]) := by
  have hN' := hN
  unfold big at hN'
  have htz := hW.2.2.1
  obtain ⟨ok, cnt, f', R', w1, w2, w3, lc, lm⟩ := b_loop hN htz S.tb 250 0 0 S.R (by omega) (by omega) (by omega) hW.1
  have C8 : ∀ M, CX t S M → ∃ M2, (∀ k : (Int32 × XM) → Option (Int32 × XM), ((fX3_takeFrom N [.ref 15, .ref 1] M).bind fun q0 => (fX6_read N [.ref 44, .ref 15] q0).bind k) = k (Int32.ofInt ((bif ok then cnt else 0 : Nat) : Int), M2)) ∧ q8 M M2 ∧ M2.1 44 2 = Int32.ofInt (bif ok then -1 else (f' : Int)) ∧ (ok = true → cv 15 R' M2) := fun M hM => by
    obtain ⟨M1, a1, a2, a3⟩ := v_take (N := N) (o := 15) (p := 1) (.inr (.inr rfl)) (.inl rfl) (by omega) hM.1 hW.1
    have q1 : q8 M M1 := q8_fr a3
    have hw : ft M1 (xwi M1 44 4 (Int32.ofInt 0)) := ft_w (by omega)
    have hT : tpc S.tz S.tb M1 := ⟨htz, by rw [a3.i (by omega)]; exact hM.2.2.2.1, fun j hj => ⟨by rw [a3.i (by omega)]; exact hM.2.2.2.2.1 j hj, hW.2.2.2.1 j hj⟩⟩
    have hg : fgn M1 := fgn_q8 hM.2.2.2.2.2.2.2.2.2 q1
    obtain ⟨M2, b1, b2, b3, b4⟩ := lc N (xwi M1 44 4 (Int32.ofInt 0)) (by omega) (cv_ft a2 hw) (hT.ft hw) (fgn_q8 hg (q8_ft hw)) (by rw [m_eq] <;> rfl)
    refine ⟨M2, fun k => ?_, q8_tr q1 (q8_tr (q8_ft hw) b2), b3, b4⟩
    have b1 : gX6_read N N 7 [.ref 44, .ref 15, .int (Int32.ofInt 1), .retAddr 0] [] (xwi M1 44 4 (Int32.ofInt 0)) = _ := b1
    rw [a1, e_bd, eX6_read _ _ (.inr (.inr rfl)), b1, e_bd]
  have C9 : ∀ M, CM S M → ∃ (M1 M2 : XM) (n' : Nat) (c' : Int32), CM S M1 ∧ ov 78 S.R M1 ∧ fr 64 82 M M1 ∧ q9 M1 M2 ∧ 0 < n' ∧ (ok = true → fX9_rock N [.ref 64] M = some (Int32.ofInt (cnt : Int), xwi M2 64 11 (Int32.ofInt 0)) ∧ mv R' M2) ∧ (ok = false → fX9_rock N [.ref 64] M = gX9_rock N n' 17 [.ref 64, .int c', .int (Int32.ofInt 0)] [] M2 ∧ M2.1 64 13 = Int32.ofInt f') := fun M hM => by
    obtain ⟨M1, a1, a2, a3, a4⟩ := v_keep9 (N := N) (p := 78) (by omega) (.inr rfl) hM.1 hW.1
    have hf : fr 78 79 M M1 := fun a ha => ⟨a3 a (by omega), by rw [a4]⟩
    have hM1 := CM_78 hM hf
    have hw : fm M1 (xwi M1 64 14 (Int32.ofInt 0)) := fm_w (by omega)
    have hT : tpm S.tz S.tb M1 := ⟨htz, hM1.2.2.2.1, fun j hj => ⟨hM1.2.2.2.2.1 j hj, hW.2.2.2.1 j hj⟩⟩
    obtain ⟨M2, n', c', b1, b2, b3, b4⟩ := lm N (xwi M1 64 14 (Int32.ofInt 0)) (by omega) (mv_fm hM1.1 hw) (hT.fm hw) (fgn_q9 hM1.2.2.2.2.2.2.2.2 (q9_fm hw)) (by rw [m_eq] <;> rfl)
    have st : fX9_rock N [.ref 64] M = gX9_rock N N 17 [.ref 64, .int (Int32.ofInt ((0 : Nat) : Int)), .int (Int32.ofInt 1)] [] (xwi M1 64 14 (Int32.ofInt 0)) := by
      rw [eX9_rock, show 64 + 14 = 78 from rfl, a1, e_bd]
      all_goals rfl
    rw [st]
    exact ⟨M1, M2, n', c', hM1, a2, hf.wide (by omega) (by omega), q9_tr (q9_fm hw) b1, b2, b3, b4⟩
  have sh : ∀ s, s < 8 → (-1 ≤ S.th s ∧ S.th s < 10 + (R'.nb : Int) ∧ (S.th s < 5 ∨ 10 ≤ S.th s)) ∧ (0 ≤ S.th s → S.th s < 5 → S.ln s ≤ 40) := fun s hs => by
    have h := hW.2.2.2.2 s hs
    exact ⟨⟨h.1.1, by omega, h.1.2.2⟩, h.2⟩
  cases ok with
  | true =>
    refine ⟨(S.wT 0 S.tb).wR R', Int32.ofInt (cnt : Int), ⟨w1, hW.2.1, Nat.zero_le 250, fun j hj => absurd hj (Nat.not_lt_zero j), sh⟩, fun M hM => ?_, fun M hM => ?_⟩
    · obtain ⟨M2, b1, b2, b3, b4⟩ := C8 M hM
      have hM2 := CX_q8 hM b2
      have hf3 : fr 44 46 M2 (xwi M2 44 1 (Int32.ofInt 0)) := fr.rf.wi (by omega) (by omega)
      have hM3 : CX t (S.wT 0 S.tb) (xwi M2 44 1 (Int32.ofInt 0)) := CX_T0 hM2 (by rw [m_eq] <;> rfl) (fun j hj => absurd hj (by omega)) hf3
      have hR3 : cv 15 R' (xwi M2 44 1 (Int32.ofInt 0)) := (b4 rfl).fr hf3 (by omega)
      obtain ⟨M4, d1, d2, d3⟩ := v_take (N := N) (o := 1) (p := 15) (.inl rfl) (.inr (.inr rfl)) (by omega) hR3 w1
      refine ⟨M4, ?_, CX_R hM3 d2 d3, ?_⟩
      · rw [eX8_rock, show 0 + 15 = 15 from rfl, show 0 + 1 = 1 from rfl, show 0 + 44 = 44 from rfl, b1, eX6_clear, e_I, e_bd]
        dsimp only
        rw [m_ne (a := 44) (j := 2) _ (by omega), b3, cond_true, x_m1, cond_true, d1, e_bd]
        all_goals rfl
      · intro a ha
        exact ⟨funext fun j => by rw [d3.i (by omega), hf3.i (by omega), b2.2 _ _ (by omega) (by omega)], by rw [(d3 a (by omega)).2, (hf3 a (by omega)).2, b2.1 _ (by omega)]⟩
    · obtain ⟨M1, M2, n', c', b1, b2, b3, b4, b5, b6, b7⟩ := C9 M hM
      obtain ⟨b6, b8⟩ := b6 rfl
      have hM2 : CM (S.wR R') M2 := CM_R b1 b8 b4.1 b4.2.1 b4.2.2
      exact ⟨_, b6, CM_clr hM2, (b3.tr (b4.1.wide (by omega) (by omega))).tr (fr.rf.wi (by omega) (by omega))⟩
  | false =>
    refine ⟨rfu (S.wT 0 S.tb) 0, Int32.ofInt (-20 - (f' : Int)), ⟨hW.1, hW.2.1, Nat.zero_le 250, fun j hj => absurd hj (Nat.not_lt_zero j), hW.2.2.2.2⟩, fun M hM => ?_, fun M hM => ?_⟩
    · obtain ⟨M2, b1, b2, b3, b4⟩ := C8 M hM
      have hM2 := CX_q8 hM b2
      have hf3 : fr 44 46 M2 (xwi M2 44 1 (Int32.ofInt 0)) := fr.rf.wi (by omega) (by omega)
      have hM3 : CX t (S.wT 0 S.tb) (xwi M2 44 1 (Int32.ofInt 0)) := CX_T0 hM2 (by rw [m_eq] <;> rfl) (fun j hj => absurd hj (by omega)) hf3
      have e44 : (xwi M2 44 1 (Int32.ofInt 0)).1 44 2 = Int32.ofInt (f' : Int) := by rw [m_ne _ (by omega)]; exact b3
      have ef : fr 0 64 M (xwi M2 44 1 (Int32.ofInt 0)) := fun a ha => ⟨funext fun j => by rw [hf3.i (by omega), b2.2 _ _ (by omega) (by omega)], by rw [(hf3 a (by omega)).2, b2.1 _ (by omega)]⟩
      have ec : ∀ k : (Int32 × XM) → Option (Int32 × XM), ((fX6_clear N [.ref 44] M2).bind k) = k (M2.1 44 1, xwi M2 44 1 (Int32.ofInt 0)) := fun k => by rw [eX6_clear, e_I, e_bd]
      have hx := x_ref N (k := 0) (by omega) (xwi M2 44 1 (Int32.ofInt 0))
      have hc := CX_rfu hM3 (k := 0) (by omega)
      refine ⟨_, ?_, hc.1, ef.tr hc.2⟩
      have hx : fX8_refuse N [.ref 0, .int (Int32.ofInt (-2))] (xwi M2 44 1 (Int32.ofInt 0)) = _ := hx
      rw [eX8_rock, show 0 + 15 = 15 from rfl, show 0 + 1 = 1 from rfl, show 0 + 44 = 44 from rfl, b1, ec]
      dsimp only
      rw [e44, i_eq (by omega) (by omega), decide_eq_false (by omega), cond_false, hx, e_bd]
      dsimp only
      rw [m_ne (a := 44) (j := 2) _ (by omega), e44, i_sub, e_I]
    · obtain ⟨M1, M2, n', c', b1, b2, b3, b4, b5, b6, b7⟩ := C9 M hM
      obtain ⟨b7, b8⟩ := b7 rfl
      obtain ⟨n, rfl⟩ : ∃ n, n' = n + 1 := ⟨n' - 1, by omega⟩
      obtain ⟨M3, d1, d2, d3⟩ := v_again9 (N := N) (p := 78) (by omega) (.inr rfl) (b2.fr b4.1 (by omega)) hW.1
      have f13 : fr 64 72 M1 M3 := b4.1.tr (fun a ha => ⟨d3.2.1 a (by omega), by rw [d3.1]⟩)
      have hM3 : CM (S.wR S.R) M3 := CM_R b1 d2 f13 (by rw [d3.2.2 _ (by omega) (by omega) (by omega) (by omega)]; exact b4.2.1) (by rw [d3.2.2 _ (by omega) (by omega) (by omega) (by omega)]; exact b4.2.2)
      have hM4 : CM (S.wT 0 S.tb) (xwi M3 64 11 (Int32.ofInt 0)) := CM_clr hM3
      have hx := x_no N (k := 0) (by omega) (xwi M3 64 11 (Int32.ofInt 0))
      have hc := CM_rfu hM4 (k := 0) (by omega)
      refine ⟨_, ?_, hc.1, ((b3.tr (f13.wide (by omega) (by omega))).tr (fr.rf.wi (by omega) (by omega))).tr hc.2⟩
      have hx : fX9_no N [.ref 64, .int (Int32.ofInt (-2))] (xwi M3 64 11 (Int32.ofInt 0)) = _ := hx
      rw [b7, eX9_rock_17, show xeq (Int32.ofInt 0) (0 : Int32) = true from rfl, cond_true, show 64 + 14 = 78 from rfl, d1, e_bd, hx, e_bd]
      dsimp only
      rw [m_ne (a := 64) (j := 13) _ (by omega), m_ne (a := 64) (j := 13) _ (by omega), d3.2.2 _ (by omega) (by omega) (by omega) (by omega), b8, i_sub, e_I]
