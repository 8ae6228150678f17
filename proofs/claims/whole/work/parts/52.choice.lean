def gz (M M' : XM) : Prop := (∀ a, a < 15 ∨ 42 ≤ a ∨ (22 ≤ a ∧ a ≤ 30) → M'.2 a = M.2 a) ∧ ∀ a j, ¬ (15 ≤ a ∧ a ≤ 21) → a ≠ 31 → ¬ (a = 32 ∧ j = 2) → ¬ (33 ≤ a ∧ a ≤ 39) → a ≠ 41 → M'.1 a j = M.1 a j
theorem gz.rf {M : XM} : gz M M := ⟨fun _ _ => rfl, fun _ _ _ _ _ _ _ => rfl⟩
theorem gz.tr {M M' M'' : XM} (h : gz M M') (h' : gz M' M'') : gz M M'' := ⟨fun a ha => (h'.1 a ha).trans (h.1 a ha), fun a j h1 h2 h3 h4 h5 => (h'.2 a j h1 h2 h3 h4 h5).trans (h.2 a j h1 h2 h3 h4 h5)⟩
theorem gz_fr {lo hi : Nat} {M M' : XM} (h : fr lo hi M M') (hb : (15 ≤ lo ∧ hi ≤ 22) ∨ (31 ≤ lo ∧ hi ≤ 32) ∨ (41 ≤ lo ∧ hi ≤ 42)) : gz M M' := ⟨fun a ha => (h a (by omega)).2, fun a j h1 h2 h3 h4 h5 => by rw [h.i (by omega)]⟩
theorem gz_fu {M M' : XM} (h : fu 32 M M') : gz M M' := ⟨fun a ha => funext fun j => h.1 a j (by omega), fun a j h1 h2 h3 h4 h5 => h.2 a j h3 (by omega)⟩
theorem gz_15 {M M' : XM} (h : gz M M') : fr 15 42 M M' := fun a ha => ⟨funext fun j => h.2 a j (by omega) (by omega) (by omega) (by omega) (by omega), h.1 a (by omega)⟩
theorem CX_gz {t : Nat} {S : SV} {M M' : XM} (h : CX t S M) (hg : gz M M') (hs : ∃ w, SYw 32 5 700 w M') : CX t S M' := by
  have hf := gz_15 hg
  obtain ⟨h1, h2, h3, h4, h5, h6, h7, h8, h9, h10⟩ := h
  obtain ⟨a1, a2, w, a3⟩ := h8
  obtain ⟨b1, b2, _⟩ := h9
  refine ⟨h1.fr hf (by omega), by rw [hf.i (by omega)]; exact h2, fun h => (h3 h).fr hf (by omega), by rw [hf.i (by omega)]; exact h4, fun j hj => by rw [hf.i (by omega)]; exact h5 j hj, fun s hs => ?_, fun k hk => by rw [hf.i (by omega)]; exact h7 k hk, ⟨?_, ?_, w, SYw_m a3 (fun a j q1 q2 => hg.2 a j (by omega) (by omega) (by omega) (by omega) (by omega)) (fun j => by rw [hg.1 _ (by omega)])⟩, ⟨?_, ?_, hs⟩, h10.fr hf (by omega)⟩
  · rw [hf.i (by omega), hf.i (by omega)]
    exact ⟨(h6 s hs).1, fun a b => ⟨((h6 s hs).2 a b).1, fun i hi => by rw [hf.l (by omega)]; exact ((h6 s hs).2 a b).2 i hi⟩⟩
  · rw [hg.2 _ _ (by omega) (by omega) (by omega) (by omega) (by omega)]; exact a1
  · rw [hg.2 _ _ (by omega) (by omega) (by omega) (by omega) (by omega)]; exact a2
  · rw [hg.2 _ _ (by omega) (by omega) (by omega) (by omega) (by omega)]; exact b1
  · rw [hg.2 _ _ (by omega) (by omega) (by omega) (by omega) (by omega)]; exact b2
theorem l_fill {N : Nat} (nb : Int32) (l4 : Nat) : ∀ (d k n : Nat) (M : XM), k + d = 10 → d < n → (∀ j, j < k → M.1 41 j = Int32.ofInt l4) → ∃ M', gX1_guessMet N n 3 [.ref 31, .ref 15, .int nb, .int (Int32.ofInt l4), .int (Int32.ofInt k), .retAddr 0, .retAddr 0, .retAddr 0] [] M = ((fX3_has N [.ref 15, .int nb] M').bind fun q0 => bif xeq q0.1 (0 : Int32) then (xrV none q0.2) else ((fX4_update N [.ref (31 + 1), .ref 15] q0.2).bind fun q1 => bif xin nb (xlen q1 (15 + 2)) then gX1_guessMet N (n - d - 1) 51 [.ref 31, .ref 15, .int nb, .retAddr 0, .int (Int32.ofInt 0), .retAddr 0, .retAddr 0, .retAddr 0] [] (xwi q1 (15 + 2) nb.toNatClampNeg (Int32.ofInt 1)) else none)) ∧ fr 41 42 M M' ∧ ∀ j, j < 10 → M'.1 41 j = Int32.ofInt l4
  | 0, k, n + 1, M, hk, hn, h => by
    refine ⟨M, ?_, fr.rf, fun j hj => h j (by omega)⟩
    rw [eX1_guessMet_3 _ _ _ _ _ _ (by omega), i_lt (by omega) (by omega), decide_eq_false (by omega), cond_false]
    rfl
  | d + 1, k, n + 1, M, hk, hn, h => by
    obtain ⟨M', g1, g2, g4⟩ := l_fill (N := N) nb l4 d (k + 1) n (xwi M 41 k (Int32.ofInt l4)) (by omega) (by omega) (fun j hj => by
      by_cases e : j = k
      · rw [e, m_eq]
      · rw [m_ne _ (by omega)]; exact h j (by omega))
    refine ⟨M', ?_, (fr.rf.wi (by omega) (by omega)).tr g2, g4⟩
    rw [eX1_guessMet_3 _ _ _ _ _ _ (by omega), i_lt (by omega) (by omega), decide_eq_true (by omega), cond_true, show ∀ M, xlen M (31 + 10) = 10 from fun _ => rfl, i_inn (by omega), decide_eq_true (by omega), cond_true, i_natn (by omega), i_suc, show 31 + 10 = 41 from rfl, g1, show n + 1 - (d + 1) - 1 = n - d - 1 by omega]
theorem v_guess {N : Nat} (hN : big N) {R : RV} (hW : Wf R) (hn10 : R.nb < 10) {K : Nat} (hK : K < 6) (l4 : Nat) {M : XM} (hR : cv 15 (R.add K 0 0) M) (hg : fgn M) (h0 : M.1 32 0 = Int32.ofInt 5) (h1 : M.1 32 1 = Int32.ofInt 700) (hs : ∃ w, SYw 32 5 700 w M) : ∃ M', fX1_guessMet N [.ref 31, .ref 15, .int (Int32.ofInt R.nb), .int (Int32.ofInt l4)] M = some M' ∧ gz M M' ∧ (∀ j, M'.1 31 j = M.1 31 j) ∧ (∃ w, SYw 32 5 700 w M') ∧ ∀ j, j < 10 → M'.1 41 j = Int32.ofInt (mba R K j l4 (VL (wR (R.add K 0 0)) 5) : Nat) := by
  have hNb := hN
  unfold big at hNb
  have hW0 := wf_add hW hn10 hK (show 0 ≤ 9 by omega) (show cellok 0 by unfold cellok; omega)
  have p15 : PO 15 := .inr (.inr rfl)
  have s32 : SO 32 5 700 := .inr ⟨rfl, rfl, rfl⟩
  obtain ⟨w, hs⟩ := hs
  obtain ⟨M1, a1, a2, a4⟩ := l_fill (N := N) (Int32.ofInt R.nb) l4 10 0 N M (by omega) (by omega) (fun j hj => absurd hj (Nat.not_lt_zero j))
  have hR1 : cv 15 (R.add K 0 0) M1 := hR.fr a2 (by omega)
  obtain ⟨M2, b1, b2, b3⟩ := v_update (N := N) (by omega) s32 p15 hW0 ⟨hR1, hg.fr a2 (by omega), by rw [a2.i (by omega)]; exact h0, by rw [a2.i (by omega)]; exact h1⟩ (SYw_41 hs a2)
  have hR2 : cv 15 (R.add K 0 0) M2 := hR1.fr b3.fr (by omega)
  have hR3 : cv 15 (R.add K 1 0) (xwi M2 17 R.nb (Int32.ofInt 1)) := by
    obtain ⟨c1, c2, c3, c4, c5, c6, c7⟩ := hR2
    refine ⟨by rw [m_ne _ (by omega)]; exact c1, by rw [m_ne _ (by omega)]; exact c2, by rw [m_ne _ (by omega)]; exact c3, by rw [m_ne _ (by omega)]; exact c4, by rw [m_ne _ (by omega)]; exact c5, fun b hb => ?_, fun i hi => by rw [m_ne _ (by omega)]; exact c7 i hi⟩
    obtain ⟨d1, d2, d3, d4, d5⟩ := c6 b hb
    refine ⟨by rw [m_ne _ (by omega)]; exact d1, ?_, by rw [m_ne _ (by omega)]; exact d3, by rw [m_ne _ (by omega)]; exact d4, by rw [m_ne _ (by omega)]; exact d5⟩
    show (xwi M2 17 R.nb (Int32.ofInt 1)).1 17 b = Int32.ofInt ((upn R.am R.nb 1 b : Nat) : Int)
    by_cases e : b = R.nb
    · rw [e, m_eq, upn_eq]; rfl
    · have d2 : M2.1 17 b = Int32.ofInt ((upn R.am R.nb 0 b : Nat) : Int) := d2
      rw [m_ne _ (by omega), d2, upn_ne _ _ e, upn_ne _ _ e]
  have hS3 : SYw 32 5 700 (wR (R.add K 0 0)) (xwi M2 17 R.nb (Int32.ofInt 1)) := SYw_m b2 (fun a j h1 h2 => by rw [m_ne _ (by omega)]) (fun j => rfl)
  have hrm := VL_rm hS3 (show 5 ≤ 5 by omega)
  obtain ⟨M3, c1, c2, c3⟩ := l_gr (N := N) (by omega) p15 hW hn10 hK (VL (wR (R.add K 0 0)) 5) 0 (N - 10 - 1) (fun _ => l4) (xwi M2 17 R.nb (Int32.ofInt 1)) hR3 hS3 (SM_0 hS3 (by omega)) (fun _ h => h) (by omega) (by omega) (fun j hj => by rw [m_ne _ (by omega), b3.2 _ _ (by omega) (by omega)]; exact a4 j hj)
  refine ⟨M3, ?_, ((gz_fr a2 (by omega)).tr (gz_fu b3)).tr ((gz_fr (fr.rf.wi (lo := 17) (hi := 18) (by omega) (by omega)) (by omega)).tr (gz_fr c2 (by omega))), fun j => ?_, ⟨_, SYw_41 hS3 c2⟩, c3⟩
  · rw [eX1_guessMet _ _ _ _ (by omega)]
    have a1' : gX1_guessMet N N 3 [.ref 31, .ref 15, .int (Int32.ofInt R.nb), .int (Int32.ofInt l4), .int (Int32.ofInt 0), .retAddr 0, .retAddr 0, .retAddr 0] [] M = _ := a1
    rw [a1', v_has (nb := R.nb + 1) (by omega) hR1.1 (by omega), e_bd, b_z, i_inn (by omega), decide_eq_true (by omega), cond_true]
    dsimp only
    rw [show 31 + 1 = 32 from rfl, b1, e_bd, show xlen M2 (15 + 2) = 16 from rfl, i_inn (by omega), decide_eq_true (by omega), cond_true, i_natn (by omega), show 15 + 2 = 17 from rfl]
    exact c1
  · rw [c2.i (by omega), m_ne _ (by omega), b3.2 _ _ (by omega) (by omega), a2.i (by omega)]
