theorem CX_42 {t : Nat} {S : SV} {M M' : XM} (h : CX t S M) (hf : fr 42 43 M M') : CX t S M' := by
  obtain ⟨h1, h2, h3, h4, h5, h6, h7, h8, h9, h10⟩ := h
  refine ⟨h1.fr hf (by omega), by rw [hf.i (by omega)]; exact h2, fun h => (h3 h).fr hf (by omega), by rw [hf.i (by omega)]; exact h4, fun j hj => by rw [hf.i (by omega)]; exact h5 j hj, fun s hs => ?_, fun k hk => by rw [hf.i (by omega)]; exact h7 k hk, h8.fr hf (by omega), h9.fr hf (by omega), h10.fr hf (by omega)⟩
  rw [hf.i (by omega), hf.i (by omega)]
  exact ⟨(h6 s hs).1, fun a b => ⟨((h6 s hs).2 a b).1, fun i hi => by rw [hf.l (by omega)]; exact ((h6 s hs).2 a b).2 i hi⟩⟩
theorem SYw_42 {w : Nat → Nat} {M M' : XM} (h : SYw 22 6 2400 w M) (hf : fr 42 43 M M') : SYw 22 6 2400 w M' := SYw_m h (fun a j h1 h2 => by rw [hf.i (by omega)]) (fun j => by rw [hf.l (by omega)])
theorem v_peace8 {N : Nat} (hN : big N) {R : RV} (hW : Wf R) {M : XM} (hR : cv 1 R M) (hS : SYw 22 6 2400 (wR R) M) {k : Nat} (hk : k + 1 ≤ 6) : ∃ M', fX1_bestPeace N [.ref 31, .ref 1, .ref 22, .int (Int32.ofInt ((k + 1 : Nat) : Int))] M = some (Int32.ofInt (fpk (pkb R) (gn R (Vn (wR R) (k + 1))) 100 0 (-1)), M') ∧ fr 42 43 M M' := by
  have hNb := hN
  unfold big at hNb
  have hrm := VL_rm hS (show k + 1 ≤ 6 from hk)
  have hs : VL (wR R) (k + 1) = VL (wR R) k ++ Vn (wR R) (k + 1) := VL_s _ _
  have hsl := congrArg List.length hs
  rw [List.length_append] at hsl
  have h1p : PO 1 := .inl rfl
  obtain ⟨M1, a1, a2, a3⟩ := l_g0 (N := N) h1p (Int32.ofInt ((k + 1 : Nat) : Int)) 100 0 N M (by omega) (by omega) (fun j hj => absurd hj (Nat.not_lt_zero j))
  obtain ⟨M2, b1, b2, b3⟩ := l_gain (N := N) (by omega) h1p hW hk (Vn (wR R) (k + 1)) (VL (wR R) k).length (N - 100 - 1) (fun _ => 0) M1 (cv_42 h1p hR a2) (SYw_42 hS a2) (SM_n (SYw_42 hS a2) hk) (fun q hq => ⟨Vn_VL hk hq, Vn_len hq⟩) (by omega) (by omega) a3
  have b3 : ∀ j, j < 100 → M2.1 42 j = Int32.ofInt (gn R (Vn (wR R) (k + 1)) j) := fun j hj => by
    rw [b3 j hj, Nat.zero_add]
  have hc := l_best (N := N) h1p hW (cv_42 h1p (cv_42 h1p hR a2) b2) (g := gn R (Vn (wR R) (k + 1))) (fun j hj => ⟨b3 j hj, by have := gn_le R (Vn (wR R) (k + 1)) j; omega⟩) 100 0 (N - 100 - 1 - (Vn (wR R) (k + 1)).length - 1) (-1) (by omega) (by omega) (.inl rfl)
  refine ⟨M2, ?_, a2.tr b2⟩
  rw [eX1_bestPeace _ _ _ _ h1p (.inl rfl)]
  have a1' : gX1_bestPeace N N 3 [.ref 31, .ref 1, .ref 22, .int (Int32.ofInt ((k + 1 : Nat) : Int)), .int (Int32.ofInt 0), .retAddr 0, .retAddr 0] [] M = _ := a1
  rw [a1', i_sub, show ((k + 1 : Nat) : Int) - 1 = (k : Int) by omega, v_upTo (.inl ⟨rfl, rfl, rfl⟩) (SYw_42 hS a2) (by omega), e_bd, Nat.min_eq_left (by omega)]
  dsimp only
  rw [b1]
  exact hc
set_option maxRecDepth 100000 in
theorem op_peace {t : Nat} {S : SV} (hW : WfS S) {N : Nat} (hN : big N) (a : Int32) : both t S (fX8_peace N [.ref 0, .int a]) (fX9_peace N [.ref 64, .int a]) := by
  obtain ⟨x, hx, rfl⟩ := i_ex a
  have hN' := hN
  unfold big at hN'
  have h10 := hW.1.1
  by_cases h1 : 3 ≤ x ∧ x ≤ 5
  · obtain ⟨m, rfl⟩ := Int.eq_ofNat_of_zero_le (show 0 ≤ x by omega)
    obtain ⟨k, rfl⟩ : ∃ k, m = k + 1 := ⟨m - 1, by omega⟩
    refine both_v hW (Int32.ofInt (fpk (pkb S.R) (gn S.R (Vn (wR S.R) (k + 1))) 100 0 (-1))) (fun M hM => ?_) (fun M hM => ?_)
    · obtain ⟨M', a1, a2, a3, a4⟩ := v_now hN hW hM
      obtain ⟨M2, b1, b2⟩ := v_peace8 hN hW.1 a2.1 a3 (k := k) (by omega)
      refine ⟨M2, ?_, CX_42 a2 b2, a4.tr (b2.wide (by omega) (by omega))⟩
      rw [eX8_peace, chk hx (by omega) (by omega), decide_eq_true h1, cond_true, a1, e_bd, show 0 + 31 = 31 from rfl, show 0 + 1 = 1 from rfl, b1, e_bd]
      rfl
    · obtain ⟨M', b1, b2⟩ := l_pout hN hW.1 (m := k + 1) (by omega) (by omega) S.R.nb 0 N (-1) M (by omega) (by omega) (.inl rfl) hM.1 hM.2.2.2.2.2.2.2.1
      refine ⟨M', ?_, b2⟩
      rw [eX9_peace, v_win hx (by omega) (by omega), e_bd, b_z, decide_eq_true h1, cond_true]
      exact b1
  · refine both_ref' hW 0 (by omega) N (fun M hM => ?_) (fun M hM => ?_)
    · rw [eX8_peace, chk hx (by omega) (by omega), decide_eq_false h1]
      rfl
    · rw [eX9_peace, v_win hx (by omega) (by omega), e_bd, b_z, decide_eq_false h1]
      rfl
