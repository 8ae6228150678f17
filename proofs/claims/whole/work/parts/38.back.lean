def A6 (M : XM) (p k : Nat) : XM := xwi (xwi (xwi (xwi (xwi (xwi M 65 k (M.1 p k)) 66 k (M.1 p (10 + k))) 67 k (M.1 p (20 + k))) 68 k (M.1 p (30 + k))) 69 k (M.1 p (40 + k))) 70 k (lva (M.1 p (50 + k)))
theorem s_again {N n p k : Nat} (hp : p = 77 ∨ p = 78) (hk : k < 10) (M : XM) : gX9_again N (n + 1) 2 [.ref 64, .ref p, .int (Int32.ofInt k)] [] M = gX9_again N n 2 [.ref 64, .ref p, .int (Int32.ofInt ((k + 1 : Nat) : Int))] [] (A6 M p k) := by
  have hx : ∀ M, xlen M p = 72 := fun M => by rcases hp with rfl | rfl <;> rfl
  have x65 : ∀ M i, 65 ≤ i → i ≤ 70 → xlen M i = 11 := fun M i h1 h2 => by
    rcases (show i = 65 ∨ i = 66 ∨ i = 67 ∨ i = 68 ∨ i = 69 ∨ i = 70 by omega) with rfl | rfl | rfl | rfl | rfl | rfl <;> rfl
  have h1 : Int32.ofInt 10 + Int32.ofInt k = Int32.ofInt ((10 + k : Nat) : Int) := i_plus 10 k
  have h2 : Int32.ofInt 20 + Int32.ofInt k = Int32.ofInt ((20 + k : Nat) : Int) := i_plus 20 k
  have h3 : Int32.ofInt 30 + Int32.ofInt k = Int32.ofInt ((30 + k : Nat) : Int) := i_plus 30 k
  have h4 : Int32.ofInt 40 + Int32.ofInt k = Int32.ofInt ((40 + k : Nat) : Int) := i_plus 40 k
  have h5 : Int32.ofInt 50 + Int32.ofInt k = Int32.ofInt ((50 + k : Nat) : Int) := i_plus 50 k
  have b1 : xisb (Int32.ofInt 1) = true := i_isb1
  have b0 : xisb (Int32.ofInt 0) = true := i_isb0
  rw [eX9_again_2 _ _ _ _ hp, i_lt (by omega) (by omega), decide_eq_true (by omega), cond_true]
  simp (disch := omega) only [Nat.reduceAdd, h1, h2, h3, h4, h5, hx, x65, i_inn, i_natn, decide_eq_true, cond_true, m_ne, i_suc, b0, b1]
  unfold A6 lva
  cases xeq (M.1 p (50 + k)) (Int32.ofInt 1) <;> rfl
def fA (M M' : XM) : Prop := M'.2 = M.2 ∧ (∀ a, a < 64 ∨ 71 < a → M'.1 a = M.1 a) ∧ ∀ j, j ≠ 0 → j ≠ 7 → j ≠ 9 → j ≠ 10 → M'.1 64 j = M.1 64 j
theorem fA.rf {M : XM} : fA M M := ⟨rfl, fun _ _ => rfl, fun _ _ _ _ _ => rfl⟩
theorem fA.tr {M M' M'' : XM} (h : fA M M') (h' : fA M' M'') : fA M M'' := ⟨h'.1.trans h.1, fun a ha => (h'.2.1 a ha).trans (h.2.1 a ha), fun j a b c d => (h'.2.2 j a b c d).trans (h.2.2 j a b c d)⟩
theorem fA.wi {M M' : XM} (h : fA M M') {c k : Nat} {v : Int32} (hc : (65 ≤ c ∧ c ≤ 71) ∨ (c = 64 ∧ (k = 0 ∨ k = 7 ∨ k = 9 ∨ k = 10))) : fA M (xwi M' c k v) := ⟨h.1, fun a ha => by
  rw [← h.2.1 a ha]
  funext j
  rw [m_wi, if_neg (by omega)], fun j a b c d => by
  rw [m_wi, if_neg (by omega)]
  exact h.2.2 j a b c d⟩
theorem l_again9 {N p : Nat} (hp : p = 77 ∨ p = 78) {M0 : XM} : ∀ (d k n : Nat) (M : XM), k + d = 10 → fA M0 M → (∀ b, b < k → M.1 65 b = M0.1 p b ∧ M.1 66 b = M0.1 p (10 + b) ∧ M.1 67 b = M0.1 p (20 + b) ∧ M.1 68 b = M0.1 p (30 + b) ∧ M.1 69 b = M0.1 p (40 + b) ∧ M.1 70 b = lva (M0.1 p (50 + b))) → ∃ M', gX9_again N (n + 1 + d) 2 [.ref 64, .ref p, .int (Int32.ofInt k)] [] M = gX9_again N n 94 [.ref 64, .ref p, .int (Int32.ofInt 0)] [] M' ∧ fA M0 M' ∧ ∀ b, b < 10 → M'.1 65 b = M0.1 p b ∧ M'.1 66 b = M0.1 p (10 + b) ∧ M'.1 67 b = M0.1 p (20 + b) ∧ M'.1 68 b = M0.1 p (30 + b) ∧ M'.1 69 b = M0.1 p (40 + b) ∧ M'.1 70 b = lva (M0.1 p (50 + b))
  | 0, k, n, M, hk, h1, h3 => by
    obtain rfl : k = 10 := by omega
    refine ⟨M, ?_, h1, h3⟩
    rw [Nat.add_zero, eX9_again_2 _ _ _ _ hp, i_lt (by omega) (by omega), decide_eq_false (by omega), cond_false]
  | d + 1, k, n, M, hk, h1, h3 => by
    have hpM : M.1 p = M0.1 p := h1.2.1 p (by omega)
    rw [show n + 1 + (d + 1) = n + 1 + d + 1 by omega, s_again hp (by omega)]
    refine l_again9 hp d (k + 1) n (A6 M p k) (by omega) ((((((h1.wi (by omega)).wi (by omega)).wi (by omega)).wi (by omega)).wi (by omega)).wi (by omega)) (fun b hb => ?_)
    unfold A6
    by_cases e : b = k
    · subst e
      rw [← hpM]
      refine ⟨?_, ?_, ?_, ?_, ?_, ?_⟩ <;> simp (disch := omega) only [m_ne, m_eq]
    · have := h3 b (by omega)
      refine ⟨?_, ?_, ?_, ?_, ?_, ?_⟩ <;> simp (disch := omega) only [m_ne]
      · exact this.1
      · exact this.2.1
      · exact this.2.2.1
      · exact this.2.2.2.1
      · exact this.2.2.2.2.1
      · exact this.2.2.2.2.2
theorem l_againn {N p : Nat} (hp : p = 77 ∨ p = 78) {M0 : XM} : ∀ (d k n : Nat) (M : XM), k + d = 8 → d < n → fA M0 M → (∀ i, i < k → M.1 71 i = M0.1 p (60 + i)) → ∃ M', gX9_again N n 94 [.ref 64, .ref p, .int (Int32.ofInt k)] [] M = some M' ∧ fA M0 M' ∧ (∀ a, 65 ≤ a → a ≤ 70 → M'.1 a = M.1 a) ∧ (∀ i, i < 8 → M'.1 71 i = M0.1 p (60 + i)) ∧ M'.1 64 0 = M0.1 p 68 ∧ M'.1 64 7 = M0.1 p 69 ∧ M'.1 64 9 = M0.1 p 70 ∧ M'.1 64 10 = M0.1 p 71
  | 0, k, n + 1, M, hk, hn, h1, h3 => by
    obtain rfl : k = 8 := by omega
    have hx : ∀ M, xlen M p = 72 := fun M => by rcases hp with rfl | rfl <;> rfl
    have hpM : M.1 p = M0.1 p := h1.2.1 p (by omega)
    have i1 : ∀ z : Nat, z < 72 → xin (Int32.ofInt z) 72 = true := fun z hz => by rw [i_inn (by omega), decide_eq_true hz]
    have n1 : (Int32.ofInt 68).toNatClampNeg = 68 ∧ (Int32.ofInt 69).toNatClampNeg = 69 ∧ (Int32.ofInt 70).toNatClampNeg = 70 ∧ (Int32.ofInt 71).toNatClampNeg = 71 := ⟨rfl, rfl, rfl, rfl⟩
    have j1 : xin (Int32.ofInt 68) 72 = true ∧ xin (Int32.ofInt 69) 72 = true ∧ xin (Int32.ofInt 70) 72 = true ∧ xin (Int32.ofInt 71) 72 = true := ⟨i1 68 (by omega), i1 69 (by omega), i1 70 (by omega), i1 71 (by omega)⟩
    rw [eX9_again_94 _ _ _ _ hp, i_lt (by omega) (by omega), decide_eq_false (by omega), cond_false]
    simp (disch := omega) only [hx, j1.1, j1.2.1, j1.2.2.1, j1.2.2.2, cond_true, n1.1, n1.2.1, n1.2.2.1, n1.2.2.2, m_ne, e_V]
    rw [hpM]
    refine ⟨_, rfl, (((h1.wi (by omega)).wi (by omega)).wi (by omega)).wi (by omega), fun a ha hb => ?_, fun i hi => ?_, ?_, ?_, ?_, ?_⟩
    · funext j
      simp (disch := omega) only [m_ne]
    · simp (disch := omega) only [m_ne]
      exact h3 i hi
    · simp (disch := omega) only [m_ne, m_eq]
    · simp (disch := omega) only [m_ne, m_eq]
    · simp (disch := omega) only [m_ne, m_eq]
    · simp (disch := omega) only [m_ne, m_eq]
  | d + 1, k, n + 1, M, hk, hn, h1, h3 => by
    have hx : ∀ M, xlen M p = 72 := fun M => by rcases hp with rfl | rfl <;> rfl
    have hpM : M.1 p = M0.1 p := h1.2.1 p (by omega)
    have h6 : Int32.ofInt 60 + Int32.ofInt k = Int32.ofInt ((60 + k : Nat) : Int) := i_plus 60 k
    rw [eX9_again_94 _ _ _ _ hp, i_lt (by omega) (by omega), decide_eq_true (by omega), cond_true, h6, hx, show xlen M (64 + 7) = 8 from rfl, i_inn (by omega), decide_eq_true (by omega), cond_true, i_inn (by omega), decide_eq_true (by omega), cond_true, i_natn (by omega), i_natn (by omega), i_suc, show 64 + 7 = 71 from rfl]
    obtain ⟨M', g1, g2, g3, g5⟩ := l_againn (N := N) hp (M0 := M0) d (k + 1) n (xwi M 71 k (M.1 p (60 + k))) (by omega) (by omega) (h1.wi (by omega)) (fun i hi => by
      rw [m_wi]
      by_cases e : i = k
      · rw [if_pos ⟨rfl, e⟩, hpM, e]
      · rw [if_neg (by omega)]; exact h3 i (by omega))
    exact ⟨M', g1, g2, fun a ha hb => by
      rw [g3 a ha hb]
      funext j
      rw [m_wi, if_neg (by omega)], g5⟩
theorem v_again9 {N p : Nat} (hN : 30 < N) (hp : p = 77 ∨ p = 78) {R : RV} {M : XM} (hR : ov p R M) (hW : Wf R) : ∃ M', fX9_again N [.ref 64, .ref p] M = some M' ∧ mv R M' ∧ fA M M' := by
  have h10 := hW.1
  have h8 := hW.2.2.1
  obtain ⟨n, hn⟩ : ∃ n, N = n + 1 + 10 := ⟨N - 11, by omega⟩
  obtain ⟨M1, a1, a2, a4⟩ := l_again9 (N := N) hp (M0 := M) 10 0 n M (by omega) fA.rf (fun b hb => by omega)
  obtain ⟨M2, b1, b2, b4, b5, b6, b7, b8, b9⟩ := l_againn (N := N) hp (M0 := M) 8 0 n M1 (by omega) (by omega) a2 (fun b hb => by omega)
  obtain ⟨r1, r2, r3, r4, r5, r6⟩ := hR
  refine ⟨M2, ?_, ⟨by rw [b6, r1], by rw [b7, r2], by rw [b8, r3], by rw [b9, r4], fun b hb => ?_, fun i hi => by rw [b5 i (by omega)]; exact r6 i hi⟩, b2⟩
  · rw [eX9_again _ _ hp]
    have e : gX9_again N N 2 [.ref 64, .ref p, .int (Int32.ofInt 0)] [] M = gX9_again N n 94 [.ref 64, .ref p, .int (Int32.ofInt 0)] [] M1 := by
      rw [← a1, ← hn]
      rfl
    rw [e]
    exact b1
  · obtain ⟨q1, q2, q3, q4, q5, q6⟩ := a4 b (by omega)
    obtain ⟨s1, s2, s3, s4, s5, s6⟩ := r5 b hb
    rw [b4 65 (by omega) (by omega), b4 66 (by omega) (by omega), b4 67 (by omega) (by omega), b4 68 (by omega) (by omega), b4 69 (by omega) (by omega), b4 70 (by omega) (by omega), q1, q2, q3, q4, q5, q6, s6, lva_b]
    exact ⟨s1, s2, s3, s4, s5, rfl⟩
def SV.wI (S : SV) : SV := (S.1, (true, S.1), S.2.2)
theorem op_image {t : Nat} {S : SV} (hW : WfS S) {N : Nat} (hN : big N) : both t S (fX8_image N [.ref 0]) (fX9_image N [.ref 64]) := by
  have hN' := hN
  unfold big at hN'
  refine ⟨S.wI, Int32.ofInt 1, ⟨hW.1, fun _ => hW.1, hW.2.2⟩, fun M hM => ?_, fun M hM => ?_⟩
  · obtain ⟨h1, h2, h3, h4, h5, h6, h7, h8, h9, h10⟩ := hM.tick
    obtain ⟨M1, a1, a2, a3⟩ := v_take (N := N) (o := 8) (p := 1) (.inr (.inl rfl)) (.inl rfl) (by omega) h1 hW.1
    have hf : fr 0 15 M (xwi M1 0 3 (Int32.ofInt 1)) := (a3.wide (by omega) (by omega)).wi (by omega) (by omega)
    have hg : fr 0 1 M1 (xwi M1 0 3 (Int32.ofInt 1)) := fr.rf.wi (by omega) (by omega)
    refine ⟨xwi M1 0 3 (Int32.ofInt 1), ?_, ⟨(h1.fr a3 (by omega)).fr hg (by omega), ?_, fun _ => a2.fr hg (by omega), by rw [hf.i (by omega)]; exact h4, fun j hj => by rw [hf.i (by omega)]; exact h5 j hj, fun s hs => ?_, fun k hk => by rw [hf.i (by omega)]; exact h7 k hk, h8.fr hf (by omega), h9.fr hf (by omega), h10.fr hf (by omega)⟩, hf.wide (by omega) (by omega)⟩
    · rw [eX8_image, show 0 + 8 = 8 from rfl, show 0 + 1 = 1 from rfl, a1, e_bd, show xisb (Int32.ofInt 1) = true from i_isb1, cond_true, e_I]
    · rw [m_eq]
      rfl
    · rw [hf.i (by omega), hf.i (by omega)]
      exact ⟨(h6 s hs).1, fun a b => ⟨((h6 s hs).2 a b).1, fun i hi => by rw [hf.l (by omega)]; exact ((h6 s hs).2 a b).2 i hi⟩⟩
  · obtain ⟨h1, h2, h3, h4, h5, h6, h7, h8, h10⟩ := hM
    have hm1 : mv S.R (xwi M 64 21 (Int32.ofInt 1)) := by
      obtain ⟨r1, r2, r3, r4, r5, r6⟩ := h1
      refine ⟨by rw [m_ne _ (by omega)]; exact r1, by rw [m_ne _ (by omega)]; exact r2, by rw [m_ne _ (by omega)]; exact r3, by rw [m_ne _ (by omega)]; exact r4, fun b hb => ?_, fun i hi => by rw [m_ne _ (by omega)]; exact r6 i hi⟩
      rw [m_ne _ (by omega), m_ne _ (by omega), m_ne _ (by omega), m_ne _ (by omega), m_ne _ (by omega), m_ne _ (by omega)]
      exact r5 b hb
    obtain ⟨M1, a1, a2, a3, a4⟩ := v_keep9 (N := N) (p := 77) (by omega) (.inl rfl) hm1 hW.1
    have g : ∀ a j, a ≠ 77 → ¬ (a = 64 ∧ j = 21) → M1.1 a j = M.1 a j := fun a j ha hb => by rw [a3 a ha, m_ne _ hb]
    have hl : M1.2 = M.2 := a4
    refine ⟨M1, ?_, ⟨?_, ?_, fun _ => a2, by rw [g _ _ (by omega) (by omega)]; exact h4, fun j hj => by rw [g _ _ (by omega) (by omega)]; exact h5 j hj, fun s hs => ?_, fun k hk => by rw [g _ _ (by omega) (by omega)]; exact h7 k hk, by rw [g _ _ (by omega) (by omega)]; exact h8, ?_⟩, ?_⟩
    · rw [eX9_image, show xisb (Int32.ofInt 1) = true from i_isb1, cond_true, show 64 + 13 = 77 from rfl, a1, e_bd, e_I]
    · obtain ⟨r1, r2, r3, r4, r5, r6⟩ := hm1
      refine ⟨by rw [a3 64 (by omega)]; exact r1, by rw [a3 64 (by omega)]; exact r2, by rw [a3 64 (by omega)]; exact r3, by rw [a3 64 (by omega)]; exact r4, fun b hb => ?_, fun i hi => by rw [a3 71 (by omega)]; exact r6 i hi⟩
      rw [a3 65 (by omega), a3 66 (by omega), a3 67 (by omega), a3 68 (by omega), a3 69 (by omega), a3 70 (by omega)]
      exact r5 b hb
    · rw [a3 64 (by omega), m_eq]
      rfl
    · rw [g _ _ (by omega) (by omega), g _ _ (by omega) (by omega), hl]
      exact h6 s hs
    · exact h10.fr (lo := 64) (hi := 78) (fun a ha => ⟨funext fun j => g a j (by omega) (by omega), by rw [hl]⟩) (by omega)
    · exact fun a ha => ⟨funext fun j => g a j (by omega) (by omega), by rw [hl]⟩
def bth (S : SV) (k : Nat) (s : Nat) : Int := if s < k ∧ 10 + (S.K.nb : Int) ≤ S.th s then -1 else S.th s
theorem l_back8 {N : Nat} {S : SV} (hW : WfS S) (hK : Wf S.K) {M0 : XM} (h0 : M0.1 1 0 = Int32.ofInt S.K.nb) (hs : ∀ s, s < 8 → M0.1 (48 + 2 * s) 0 = Int32.ofInt (S.th s)) : ∀ (d k n : Nat) (M : XM), k + d = 8 → d < n → fr 48 64 M0 M → M.2 = M0.2 → (∀ s, s < 8 → M.1 (48 + 2 * s) 0 = Int32.ofInt (bth S k s) ∧ (bth S k s = S.th s → M.1 (48 + 2 * s) 1 = M0.1 (48 + 2 * s) 1)) → ∃ M', gX8_back N n 27 [.ref 0, .int (Int32.ofInt k)] [] M = some (Int32.ofInt 1, M') ∧ fr 48 64 M0 M' ∧ M'.2 = M0.2 ∧ ∀ s, s < 8 → M'.1 (48 + 2 * s) 0 = Int32.ofInt (bth S 8 s) ∧ (bth S 8 s = S.th s → M'.1 (48 + 2 * s) 1 = M0.1 (48 + 2 * s) 1)
  | 0, k, n + 1, M, hk, hn, h1, h2, h3 => by
    obtain rfl : k = 8 := by omega
    refine ⟨M, ?_, h1, h2, h3⟩
    rw [eX8_back_27, i_lt (by omega) (by omega), decide_eq_false (by omega)]
    rfl
  | d + 1, k, n + 1, M, hk, hn, h1, h2, h3 => by
    have h10 := hK.1
    have h10' := hW.1.1
    have hth := (hW.2.2.2.2 k (by omega)).1
    have hbk : bth S k k = S.th k := by unfold bth; rw [if_neg (by omega)]
    have hk0 := (h3 k (by omega)).1
    rw [hbk] at hk0
    have step : ∀ s, s < 8 → s ≠ k → bth S (k + 1) s = bth S k s := fun s hs hne => by
      unfold bth
      by_cases e : s < k ∧ 10 + (S.K.nb : Int) ≤ S.th s
      · rw [if_pos e, if_pos (by omega)]
      · rw [if_neg e, if_neg (by omega)]
    have hnb : M.1 (0 + 1) 0 = Int32.ofInt S.K.nb := by
      rw [h1.i (by omega)]
      exact h0
    rw [eX8_back_27, i_lt (by omega) (by omega), decide_eq_true (by omega), cond_true, i_inn (by omega), show xlen M (0 + 46) = 8 from rfl, decide_eq_true (by omega), cond_true, i_natn (by omega), (x_shelf (by omega)).1, (x_shelf (by omega)).2]
    show ∃ M', (bif xlt (M.1 (48 + 2 * k) 0) (Int32.ofInt 10 + M.1 (0 + 1) 0) then (gX8_back N n 27 [.ref 0, .int (Int32.ofInt k + Int32.ofInt 1)] [] M) else (bif true then ((fX5_hold N [.ref (48 + 2 * k), .int (Int32.ofInt (-1))] M).bind fun q0 => gX8_back N n 27 [.ref 0, .int (Int32.ofInt k + Int32.ofInt 1)] [] q0) else none)) = some (Int32.ofInt 1, M') ∧ _
    rw [hk0, hnb, i_add, i_lt (by omega) (by omega), i_suc]
    by_cases e : S.th k < 10 + (S.K.nb : Int)
    · have hb1 : bth S (k + 1) k = S.th k := by unfold bth; rw [if_neg (by omega)]
      rw [decide_eq_true e, cond_true]
      refine l_back8 hW hK h0 hs d (k + 1) n M (by omega) (by omega) h1 h2 (fun s hs => ?_)
      by_cases e2 : s = k
      · subst e2
        have q := h3 s hs
        rw [hbk] at q
        rw [hb1]
        exact q
      · rw [step s hs e2]
        exact h3 s hs
    · have hb1 : bth S (k + 1) k = -1 := by unfold bth; rw [if_pos (by omega)]
      rw [decide_eq_false e, cond_false, cond_true, eX5_hold _ _ _ (sh_o (by omega)), e_V, e_bd]
      refine l_back8 hW hK h0 hs d (k + 1) n _ (by omega) (by omega) ((h1.wi (by omega) (by omega)).wi (by omega) (by omega)) h2 (fun s hs => ?_)
      by_cases e2 : s = k
      · subst e2
        rw [hb1, m_ne _ (by omega), m_eq]
        exact ⟨rfl, fun h => by omega⟩
      · rw [step s hs e2, m_ne _ (by omega), m_ne _ (by omega), m_ne _ (by omega), m_ne _ (by omega)]
        exact h3 s hs
theorem l_back9 {N : Nat} {S : SV} (hW : WfS S) (hK : Wf S.K) {M0 : XM} (h0 : M0.1 64 0 = Int32.ofInt S.K.nb) : ∀ (d k n : Nat) (M : XM), k + d = 8 → d < n → (∀ a, a ≠ 73 → M.1 a = M0.1 a) → M.2 = M0.2 → (∀ s, s < 8 → M.1 73 s = Int32.ofInt (bth S k s)) → ∃ M', gX9_back N n 24 [.ref 64, .int (Int32.ofInt k)] [] M = some (Int32.ofInt 1, M') ∧ (∀ a, a ≠ 73 → M'.1 a = M0.1 a) ∧ M'.2 = M0.2 ∧ ∀ s, s < 8 → M'.1 73 s = Int32.ofInt (bth S 8 s)
  | 0, k, n + 1, M, hk, hn, h1, h2, h3 => by
    obtain rfl : k = 8 := by omega
    refine ⟨M, ?_, h1, h2, h3⟩
    rw [eX9_back_24, i_lt (by omega) (by omega), decide_eq_false (by omega)]
    rfl
  | d + 1, k, n + 1, M, hk, hn, h1, h2, h3 => by
    have h10 := hK.1
    have h10' := hW.1.1
    have hth := (hW.2.2.2.2 k (by omega)).1
    have hbk : bth S k k = S.th k := by unfold bth; rw [if_neg (by omega)]
    have hk0 := h3 k (by omega)
    rw [hbk] at hk0
    have step : ∀ s, s < 8 → s ≠ k → bth S (k + 1) s = bth S k s := fun s hs hne => by
      unfold bth
      by_cases e : s < k ∧ 10 + (S.K.nb : Int) ≤ S.th s
      · rw [if_pos e, if_pos (by omega)]
      · rw [if_neg e, if_neg (by omega)]
    have hnb : M.1 64 0 = Int32.ofInt S.K.nb := by
      rw [h1 64 (by omega)]
      exact h0
    rw [eX9_back_24, i_lt (by omega) (by omega), decide_eq_true (by omega), cond_true, show xlen M (64 + 9) = 8 from rfl, i_inn (by omega), decide_eq_true (by omega), cond_true, cond_true, i_natn (by omega), show 64 + 9 = 73 from rfl, hk0, hnb, i_add, i_lt (by omega) (by omega), i_suc]
    by_cases e : S.th k < 10 + (S.K.nb : Int)
    · have hb1 : bth S (k + 1) k = S.th k := by unfold bth; rw [if_neg (by omega)]
      rw [decide_eq_true e, cond_true]
      refine l_back9 hW hK h0 d (k + 1) n M (by omega) (by omega) h1 h2 (fun s hs => ?_)
      by_cases e2 : s = k
      · subst e2
        rw [hb1]
        exact hk0
      · rw [step s hs e2]
        exact h3 s hs
    · have hb1 : bth S (k + 1) k = -1 := by unfold bth; rw [if_pos (by omega)]
      rw [decide_eq_false e, cond_false]
      refine l_back9 hW hK h0 d (k + 1) n _ (by omega) (by omega) (fun a ha => ?_) h2 (fun s hs => ?_)
      · rw [← h1 a ha]
        funext j
        rw [m_ne _ (by omega)]
      · by_cases e2 : s = k
        · subst e2
          rw [hb1, m_eq]
        · rw [step s hs e2, m_ne _ (by omega)]
          exact h3 s hs
def SV.wB (S : SV) : SV := (S.K, S.2.1, S.2.2.1, (bth S 8, S.ln, S.el), S.2.2.2.2)
set_option maxRecDepth 100000 in
theorem op_back {t : Nat} {S : SV} (hW : WfS S) {N : Nat} (hN : big N) : both t S (fX8_back N [.ref 0]) (fX9_back N [.ref 64]) := by
  have hN' := hN
  unfold big at hN'
  cases him : S.im with
  | false =>
    refine both_ref' hW 3 (by omega) N (fun M hM => ?_) (fun M hM => ?_)
    · rw [eX8_back, hM.2.1, b_z, him]; rfl
    · rw [eX9_back, hM.2.1, b_z, him]; rfl
  | true =>
    have hK := hW.2.1 him
    have hb : ∀ s, s < 8 → (bth S 8 s = -1 ∧ 10 ≤ S.th s) ∨ (bth S 8 s = S.th s ∧ S.th s < 10 + (S.K.nb : Int)) := fun s hs => by
      unfold bth
      by_cases e : s < 8 ∧ 10 + (S.K.nb : Int) ≤ S.th s
      · rw [if_pos e]; left; omega
      · rw [if_neg e]; right; omega
    refine ⟨S.wB, Int32.ofInt 1, ⟨hK, fun _ => hK, hW.2.2.1, hW.2.2.2.1, fun s hs => ?_⟩, fun M hM => ?_, fun M hM => ?_⟩
    · have hth := hW.2.2.2.2 s hs
      show (-1 ≤ bth S 8 s ∧ bth S 8 s < 10 + (S.K.nb : Int) ∧ (bth S 8 s < 5 ∨ 10 ≤ bth S 8 s)) ∧ (0 ≤ bth S 8 s → bth S 8 s < 5 → S.ln s ≤ 40)
      rcases hb s hs with ⟨e1, e2⟩ | ⟨e1, e2⟩
      · rw [e1]; exact ⟨by omega, fun h => by omega⟩
      · rw [e1]; exact ⟨⟨hth.1.1, e2, hth.1.2.2⟩, hth.2⟩
    · obtain ⟨h1, h2, h3, h4, h5, h6, h7, h8, h9, h10⟩ := hM.tick
      obtain ⟨M1, a1, a2, a3⟩ := v_take (N := N) (o := 1) (p := 8) (.inl rfl) (.inr (.inl rfl)) (by omega) (h3 him) hK
      have hth1 : ∀ s, s < 8 → M1.1 (48 + 2 * s) 0 = Int32.ofInt (S.th s) := fun s hs => by rw [a3.i (by omega)]; exact (h6 s hs).1
      obtain ⟨M2, b1, b2, b3, b4⟩ := l_back8 (N := N) hW hK a2.1 hth1 8 0 N M1 (by omega) (by omega) fr.rf rfl (fun s hs => by
        have e : bth S 0 s = S.th s := by unfold bth; rw [if_neg (by omega)]
        rw [e]
        exact ⟨hth1 s hs, fun _ => rfl⟩)
      have b1 : gX8_back N N 27 [.ref 0, .int (Int32.ofInt 0)] [] M1 = _ := b1
      refine ⟨M2, ?_, ⟨a2.fr b2 (by omega), ?_, fun h => ((h3 h).fr a3 (by omega)).fr b2 (by omega), ?_, fun j hj => ?_, fun s hs => ?_, fun k hk => ?_, (h8.fr a3 (by omega)).fr b2 (by omega), (h9.fr a3 (by omega)).fr b2 (by omega), (h10.fr a3 (by omega)).fr b2 (by omega)⟩, (a3.wide (by omega) (by omega)).tr (b2.wide (by omega) (by omega))⟩
      · rw [eX8_back, h2, b_z, him, cond_true, show 0 + 1 = 1 from rfl, show 0 + 8 = 8 from rfl, a1, e_bd, b1]
      · rw [b2.i (by omega), a3.i (by omega)]; exact h2
      · rw [b2.i (by omega), a3.i (by omega)]; exact h4
      · rw [b2.i (by omega), a3.i (by omega)]; exact h5 j hj
      · show M2.1 (48 + 2 * s) 0 = Int32.ofInt (bth S 8 s) ∧ (0 ≤ bth S 8 s → bth S 8 s < 5 → M2.1 (48 + 2 * s) 1 = Int32.ofInt (S.ln s) ∧ ∀ i, i < 40 → M2.2 (49 + 2 * s) i = S.el s i)
        refine ⟨(b4 s hs).1, fun q1 q2 => ?_⟩
        rcases hb s hs with ⟨e1, e2⟩ | ⟨e1, e2⟩
        · omega
        · rw [(b4 s hs).2 e1, a3.i (by omega), b3]
          rw [e1] at q1 q2
          refine ⟨((h6 s hs).2 q1 q2).1, fun i hi => ?_⟩
          rw [a3.l (by omega)]
          exact ((h6 s hs).2 q1 q2).2 i hi
      · rw [b2.i (by omega), a3.i (by omega)]; exact h7 k hk
    · obtain ⟨h1, h2, h3, h4, h5, h6, h7, h8, h10⟩ := hM
      obtain ⟨M1, a1, a2, a3⟩ := v_again9 (N := N) (p := 77) (by omega) (.inl rfl) (h3 him) hK
      obtain ⟨M2, b1, b2, b3, b4⟩ := l_back9 (N := N) hW hK a2.1 8 0 N M1 (by omega) (by omega) (fun _ _ => rfl) rfl (fun s hs => by
        have e : bth S 0 s = S.th s := by unfold bth; rw [if_neg (by omega)]
        rw [e, a3.2.1 73 (by omega)]
        exact (h6 s hs).1)
      have b1 : gX9_back N N 24 [.ref 64, .int (Int32.ofInt 0)] [] M1 = _ := b1
      have g : ∀ a, a ≠ 73 → 71 < a ∨ a < 64 → M2.1 a = M.1 a := fun a h1 h2 => by rw [b2 a h1, a3.2.1 a (by omega)]
      have g64 : ∀ j, j ≠ 0 → j ≠ 7 → j ≠ 9 → j ≠ 10 → M2.1 64 j = M.1 64 j := fun j q1 q2 q3 q4 => by rw [b2 64 (by omega), a3.2.2 j q1 q2 q3 q4]
      have gl : M2.2 = M.2 := b3.trans a3.1
      refine ⟨M2, ?_, ⟨?_, by rw [g64 21 (by omega) (by omega) (by omega) (by omega)]; exact h2, fun h => ?_, by rw [g64 11 (by omega) (by omega) (by omega) (by omega)]; exact h4, fun j hj => by rw [g 72 (by omega) (by omega)]; exact h5 j hj, fun s hs => ?_, fun k hk => by rw [g 76 (by omega) (by omega)]; exact h7 k hk, by rw [g 80 (by omega) (by omega)]; exact h8, ?_⟩, ?_⟩
      · rw [eX9_back, h2, b_z, him, cond_true, show 64 + 13 = 77 from rfl, a1, e_bd, b1]
      · obtain ⟨r1, r2, r3, r4, r5, r6⟩ := a2
        refine ⟨by rw [b2 64 (by omega)]; exact r1, by rw [b2 64 (by omega)]; exact r2, by rw [b2 64 (by omega)]; exact r3, by rw [b2 64 (by omega)]; exact r4, fun b hb => ?_, fun i hi => by rw [b2 71 (by omega)]; exact r6 i hi⟩
        rw [b2 65 (by omega), b2 66 (by omega), b2 67 (by omega), b2 68 (by omega), b2 69 (by omega), b2 70 (by omega)]
        exact r5 b hb
      · obtain ⟨r1, r2, r3, r4, r5, r6⟩ := h3 h
        have e := g 77 (by omega) (by omega)
        refine ⟨by rw [e]; exact r1, by rw [e]; exact r2, by rw [e]; exact r3, by rw [e]; exact r4, fun b hb => ?_, fun i hi => by rw [e]; exact r6 i hi⟩
        rw [e]
        exact r5 b hb
      · show M2.1 73 s = Int32.ofInt (bth S 8 s) ∧ (0 ≤ bth S 8 s → bth S 8 s < 5 → M2.1 74 s = Int32.ofInt (S.ln s) ∧ ∀ i, i < 40 → M2.2 75 (40 * s + i) = S.el s i)
        refine ⟨b4 s hs, fun q1 q2 => ?_⟩
        rcases hb s hs with ⟨e1, e2⟩ | ⟨e1, e2⟩
        · omega
        · rw [e1] at q1 q2
          rw [g 74 (by omega) (by omega), gl]
          exact (h6 s hs).2 q1 q2
      · exact h10.fr (lo := 64) (hi := 78) (fun a ha => ⟨g a (by omega) (by omega), by rw [gl]⟩) (by omega)
      · exact fun a ha => ⟨g a (by omega) (by omega), by rw [gl]⟩
