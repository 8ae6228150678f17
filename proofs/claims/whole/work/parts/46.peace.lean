theorem fbe_back {x y a : Nat} (h : a.testBit y = true) : fbe x y true (fbe x y false a) = a := by
  apply Nat.eq_of_testBit_eq
  intro i
  rw [fbe_bit, fbe_bit]
  by_cases e : y = i
  · rw [decide_eq_true e, cond_true, ← e, h]
  · rw [decide_eq_false e, cond_false, cond_false]
def c0n (R : RV) (m : Nat) : Nat := ((Vn (wR R) m).filter (fun q => clm R q.1)).length
theorem Vn_len6 (R : RV) {m : Nat} (hm : m ≤ 6) : (Vn (wR R) m).length ≤ 1000000 := by
  have := rowsM_len R R.lv false hm
  rw [rows_Vn, List.length_map] at this
  exact this
theorem l_pair {N : Nat} (hN : big N) {R : RV} (hW : Wf R) {M : XM} (hR : mv R M) (h80 : M.1 80 0 = Int32.ofInt 0) {x y m : Nat} (hxy : x < y) (hy : y < R.nb) (hb : (R.fd x).testBit y = true) (h0 : 0 < m) (hm : m ≤ 6) : ∃ (u1 u2 : Int32) (M1 M2 M3 : XM), fX9_feudBe N [.ref 64, .int (Int32.ofInt x), .int (Int32.ofInt y), .int (Int32.ofInt 0)] M = some (u1, M1) ∧ fX9_rows N [.ref 64, .int (Int32.ofInt m), .int (Int32.ofInt 1)] M1 = some (Int32.ofInt ((c0n R m + gn R (Vn (wR R) m) (10 * x + y) : Nat) : Int), M2) ∧ fX9_feudBe N [.ref 64, .int (Int32.ofInt x), .int (Int32.ofInt y), .int (Int32.ofInt 1)] M2 = some (u2, M3) ∧ f8 M M3 := by
  have h10 := hW.1
  have hx : x < R.nb := by omega
  have hb2 : (R.fd y).testBit x = true := by rw [← (hW.2.2.2.1 x hx).2.2.2.2.2.2 y hy]; exact hb
  have hW' := wf_fd hW hx hy (show x ≠ y by omega) false
  have f1 := v_feudBe (N := N) hR hW hx hy (show x ≠ y by omega) (Int32.ofInt 0)
  rw [show (!xeq (Int32.ofInt 0) 0) = false from rfl] at f1
  have hR1 := mv_fset hR (x := x) (y := y) false
  generalize hM1 : xwi (xwi M 69 x (Int32.ofInt (fbe x y false (R.fd x) : Nat))) 69 y (Int32.ofInt (fbe y x false (R.fd y) : Nat)) = M1 at f1 hR1
  have hr1 : ∀ a j, ¬ (a = 69 ∧ (j = x ∨ j = y)) → M1.1 a j = M.1 a j := fun a j h => by rw [← hM1, m_ne _ (by omega), m_ne _ (by omega)]
  obtain ⟨M2, r1, r2⟩ := v_rows hN hW' (cf := true) (many := m) h0 hm hR1 (by rw [hr1 _ _ (by omega)]; exact h80)
  have hcount : (rowsM (R.sfd (fset R.fd x y false)) (R.sfd (fset R.fd x y false)).lv true m).length = c0n R m + gn R (Vn (wR R) m) (10 * x + y) := by
    rw [calm_len]
    exact cnt_off hxy (by omega) (Vn (wR R) m) (fun q hq => by
      obtain ⟨⟨g1, _, g0⟩, _, _, _, _⟩ := VL_row hW (Vn_VL hm hq)
      exact ⟨fun c hc => by have := (g1 c hc).1; omega, g0⟩)
  rw [hcount] at r1
  have f2 := v_feudBe (N := N) (mv_fe hR1 r2) hW' hx hy (show x ≠ y by omega) (Int32.ofInt 1)
  rw [show (!xeq (Int32.ofInt 1) 0) = true by decide +kernel] at f2
  have ex : (R.sfd (fset R.fd x y false)).fd x = fbe x y false (R.fd x) := by
    show upn (upn R.fd x (fbe x y false (R.fd x))) y (fbe y x false (R.fd y)) x = _
    rw [upn_ne _ _ (by omega), upn_eq]
  have ey : (R.sfd (fset R.fd x y false)).fd y = fbe y x false (R.fd y) := by
    show upn (upn R.fd x (fbe x y false (R.fd x))) y (fbe y x false (R.fd y)) y = _
    rw [upn_eq]
  rw [ex, ey, fbe_back hb, fbe_back hb2] at f2
  refine ⟨_, _, M1, M2, _, f1, r1, f2, ?_, fun a j h1 h2 h3 h4 => ?_⟩
  · show M2.2 = M.2
    rw [r2.1, ← hM1]
    rfl
  · by_cases e1 : a = 69 ∧ j = y
    · obtain ⟨rfl, rfl⟩ := e1
      rw [m_eq, (hR.2.2.2.2.1 j hy).2.2.2.2.1]
    · rw [m_ne _ e1]
      by_cases e2 : a = 69 ∧ j = x
      · obtain ⟨rfl, rfl⟩ := e2
        rw [m_eq, (hR.2.2.2.2.1 j hx).2.2.2.2.1]
      · rw [m_ne _ e2, r2.2 a j h1 h2 h3, hr1 a j (by omega)]
def Vp (c : Nat) (g : Nat → Nat) (b : Int) : Int := if b = -1 then -1 else ((c + g b.toNat : Nat) : Int)
theorem pkb_xy {R : RV} {x y : Nat} (hxy : x < y) (hy : y < R.nb) (h10 : R.nb ≤ 10) : pkb R (10 * x + y) = (R.fd x).testBit y := by
  unfold pkb
  rw [show (10 * x + y) / 10 = x by omega, show (10 * x + y) % 10 = y by omega, decide_eq_true hxy, decide_eq_true hy]
  simp
theorem l_pin {N : Nat} (hN : big N) {R : RV} (hW : Wf R) {m x : Nat} (h0 : 0 < m) (hm : m ≤ 6) (hx : x < R.nb) : ∀ (d y n : Nat) (b : Int) (M : XM), y + d = R.nb → x < y → d < n → (b = -1 ∨ (0 ≤ b ∧ b < 100)) → mv R M → M.1 80 0 = Int32.ofInt 0 → ∃ M', gX9_peace N n 38 [.ref 64, .int (Int32.ofInt m), .int (Int32.ofInt b), .int (Int32.ofInt (Vp (c0n R m) (gn R (Vn (wR R) m)) b)), .int (Int32.ofInt x), .int (Int32.ofInt y), .retAddr 0] [] M = gX9_peace N (n - d - 1) 23 [.ref 64, .int (Int32.ofInt m), .int (Int32.ofInt (fpk (pkb R) (gn R (Vn (wR R) m)) d (10 * x + y) b)), .int (Int32.ofInt (Vp (c0n R m) (gn R (Vn (wR R) m)) (fpk (pkb R) (gn R (Vn (wR R) m)) d (10 * x + y) b))), .int (Int32.ofInt ((x + 1 : Nat) : Int)), .retAddr 0, .retAddr 0] [] M' ∧ f8 M M'
  | 0, y, n + 1, b, M, hy, hxy, hn, hb, hR, h80 => by
    have h10 := hW.1
    refine ⟨M, ?_, f8.rf⟩
    rw [eX9_peace_38, hR.1, i_lt (x := (y : Int)) (by omega) (by omega), decide_eq_false (by omega), cond_false, i_suc]
    rfl
  | d + 1, y, n + 1, b, M, hy, hxy, hn, hb, hR, h80 => by
    have h10 := hW.1
    have hV := Vn_len6 R hm
    have hc : c0n R m ≤ 1000000 := Nat.le_trans (List.length_filter_le _ _) hV
    have hgn := fun k => Nat.le_trans (gn_le R (Vn (wR R) m) k) hV
    have hk := pkb_xy hxy (show y < R.nb by omega) h10
    rw [eX9_peace_38, hR.1, i_lt (x := (y : Int)) (by omega) (by omega), decide_eq_true (by omega), cond_true, show xlen M (64 + 5) = 11 from rfl, i_inn (by omega), decide_eq_true (by omega), cond_true, i_natn (by omega), show 64 + 5 = 69 from rfl, (hR.2.2.2.2.1 x hx).2.2.2.2.1, v_has9 (by have := fd_small hW hx; omega) (by omega), e_bd, b_z, fpk, hk]
    dsimp only
    rw [i_suc]
    cases hbit : (R.fd x).testBit y with
    | false =>
      rw [cond_false, if_neg (fun h => Bool.false_ne_true h.1)]
      obtain ⟨M', g1, g2⟩ := l_pin hN hW h0 hm hx d (y + 1) n b M (by omega) (by omega) (by omega) hb hR h80
      exact ⟨M', by rw [g1, show n + 1 - (d + 1) - 1 = n - d - 1 by omega]; rfl, g2⟩
    | true =>
      obtain ⟨u1, u2, M1, M2, M3, p1, p2, p3, p4⟩ := l_pair hN hW hR h80 hxy (show y < R.nb by omega) hbit h0 hm
      have hvb : rg (Vp (c0n R m) (gn R (Vn (wR R) m)) b) := by
        unfold Vp
        have := hgn b.toNat
        split <;> omega
      have hgk := hgn (10 * x + y)
      have h83 : M3.1 80 0 = Int32.ofInt 0 := by rw [p4.2 80 0 (by omega) (by omega) (by omega) (by omega)]; exact h80
      rw [cond_true, p1, e_bd]
      dsimp only
      rw [p2, e_bd]
      dsimp only
      rw [p3, e_bd]
      dsimp only
      rw [i_lt hvb (by omega), i_mul, i_add, show (10 * (x : Int) + (y : Int)) = ((10 * x + y : Nat) : Int) by omega]
      by_cases e : b = -1 ∨ gn R (Vn (wR R) m) b.toNat < gn R (Vn (wR R) m) (10 * x + y)
      · obtain ⟨M', g1, g2⟩ := l_pin hN hW h0 hm hx d (y + 1) n ((10 * x + y : Nat) : Int) M3 (by omega) (by omega) (by omega) (by omega) (mv_f8 hR p4) h83
        refine ⟨M', ?_, p4.tr g2⟩
        have hlt : Vp (c0n R m) (gn R (Vn (wR R) m)) b < ((c0n R m + gn R (Vn (wR R) m) (10 * x + y) : Nat) : Int) := by
          unfold Vp
          split <;> omega
        have hVk : Vp (c0n R m) (gn R (Vn (wR R) m)) ((10 * x + y : Nat) : Int) = ((c0n R m + gn R (Vn (wR R) m) (10 * x + y) : Nat) : Int) := by
          unfold Vp
          rw [if_neg (by omega), Int.toNat_natCast]
        rw [hVk] at g1
        rw [decide_eq_true hlt, cond_true, if_pos ⟨rfl, e⟩, g1, show n + 1 - (d + 1) - 1 = n - d - 1 by omega]
        rfl
      · obtain ⟨M', g1, g2⟩ := l_pin hN hW h0 hm hx d (y + 1) n b M3 (by omega) (by omega) (by omega) hb (mv_f8 hR p4) h83
        refine ⟨M', ?_, p4.tr g2⟩
        have hlt : ¬ Vp (c0n R m) (gn R (Vn (wR R) m)) b < ((c0n R m + gn R (Vn (wR R) m) (10 * x + y) : Nat) : Int) := by
          unfold Vp
          split <;> omega
        rw [decide_eq_false hlt, cond_false, if_neg (fun h => e h.2), g1, show n + 1 - (d + 1) - 1 = n - d - 1 by omega]
        rfl
theorem l_pout {N : Nat} (hN : big N) {R : RV} (hW : Wf R) {m : Nat} (h0 : 0 < m) (hm : m ≤ 6) : ∀ (e x n : Nat) (b : Int) (M : XM), x + e = R.nb → 12 * e < n → (b = -1 ∨ (0 ≤ b ∧ b < 100)) → mv R M → M.1 80 0 = Int32.ofInt 0 → ∃ M', gX9_peace N n 23 [.ref 64, .int (Int32.ofInt m), .int (Int32.ofInt b), .int (Int32.ofInt (Vp (c0n R m) (gn R (Vn (wR R) m)) b)), .int (Int32.ofInt x), .retAddr 0, .retAddr 0] [] M = some (Int32.ofInt (fpk (pkb R) (gn R (Vn (wR R) m)) (100 - 10 * x) (10 * x) b), M') ∧ f8 M M'
  | 0, x, n + 1, b, M, hx, hn, hb, hR, h80 => by
    have h10 := hW.1
    refine ⟨M, ?_, f8.rf⟩
    rw [eX9_peace_23, hR.1, i_lt (x := (x : Int)) (by omega) (by omega), decide_eq_false (by omega), cond_false, e_I, fpk_skip _ _ _ (fun i h1 h2 => ?_)]
    unfold pkb
    by_cases e1 : i / 10 < i % 10
    · rw [decide_eq_false (show ¬ i % 10 < R.nb by omega), Bool.false_and, Bool.and_false]
    · rw [decide_eq_false e1, Bool.false_and]
  | e + 1, x, n + 1, b, M, hx, hn, hb, hR, h80 => by
    have h10 := hW.1
    rw [eX9_peace_23, hR.1, i_lt (x := (x : Int)) (by omega) (by omega), decide_eq_true (by omega), cond_true, i_suc]
    obtain ⟨M1, g1, g2⟩ := l_pin hN hW h0 hm (show x < R.nb by omega) e (x + 1) n b M (by omega) (by omega) (by omega) hb hR h80
    have hrg := fpk_rg (is := pkb R) (g := gn R (Vn (wR R) m)) e (10 * x + (x + 1)) b (by omega) hb
    obtain ⟨M2, e1, e2⟩ := l_pout hN hW h0 hm e (x + 1) (n - e - 1) (fpk (pkb R) (gn R (Vn (wR R) m)) e (10 * x + (x + 1)) b) M1 (by omega) (by omega) hrg (mv_f8 hR g2) (by rw [g2.2 80 0 (by omega) (by omega) (by omega) (by omega)]; exact h80)
    refine ⟨M2, ?_, g2.tr e2⟩
    rw [g1, e1, show 100 - 10 * x = (x + 1) + (e + ((10 - R.nb) + (100 - 10 * (x + 1)))) by omega, fpk_add, fpk_skip (x + 1) (10 * x) b (fun i h1 h2 => by
      unfold pkb
      rw [decide_eq_false (show ¬ i / 10 < i % 10 by omega), Bool.false_and]), fpk_add, fpk_add, fpk_skip (10 - R.nb) _ _ (fun i h1 h2 => by
      unfold pkb
      rw [decide_eq_false (show ¬ i % 10 < R.nb by omega), Bool.false_and, Bool.and_false]), show 10 * x + (x + 1) + e + (10 - R.nb) = 10 * (x + 1) by omega]
