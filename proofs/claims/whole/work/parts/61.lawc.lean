set_option maxRecDepth 100000 in
theorem lw_go {N L : Nat} (hN : big N) (hL : L ≤ 3072) {A : Nat → Int32} (hch : ∀ t S, WfS S → ∀ a : Int32, both t S (fX8_choice N [.ref 0, .int a]) (fX9_choice N [.ref 64, .int a])) (hpe : ∀ t S, WfS S → ∀ a : Int32, both t S (fX8_peace N [.ref 0, .int a]) (fX9_peace N [.ref 64, .int a])) (hro : ∀ t S, WfS S → both t S (fX8_rock N [.ref 0]) (fX9_rock N [.ref 64])) : ∀ (d t n : Nat) (S : SV) (M : XM), LI A L t S M → 6 * t ≤ L → L < 6 * (t + d) + 6 → 3 * d < n → ∃ M', gL_law N n 18 [.ref 202, .ref 0, .ref 64, .int (Int32.ofInt ((6 * t : Nat) : Int))] [] M = some (1, M') := by
  have hNb := hN
  unfold big at hNb
  intro d
  induction d with
  | zero =>
    intro t n S M h htl hd hn
    obtain ⟨n, rfl⟩ : ∃ k, n = k + 1 := ⟨n - 1, by omega⟩
    refine ⟨M, ?_⟩
    rw [eL_law_18, h.2.2.2.2, show Int32.ofNat L = Int32.ofInt (L : Int) from (Int32.ofInt_eq_ofNat (n := L)).symm, i_sub, i_lt (by omega) (by omega)]
    by_cases h6 : L < 6 * t + 6
    · rw [decide_eq_true (by omega)]
      rfl
    · exact absurd hd (by omega)
  | succ d ih =>
    intro t n S M h htl hd hn
    obtain ⟨n, rfl⟩ : ∃ k, n = k + 3 := ⟨n - 3, by omega⟩
    rw [eL_law_18, h.2.2.2.2, show Int32.ofNat L = Int32.ofInt (L : Int) from (Int32.ofInt_eq_ofNat (n := L)).symm, i_sub, i_lt (by omega) (by omega)]
    by_cases h6 : L < 6 * t + 6
    · refine ⟨M, ?_⟩
      rw [decide_eq_true (by omega)]
      rfl
    have h6 : 6 * t + 6 ≤ L := by omega
    have hW := h.1
    rw [decide_eq_false (by omega), cond_false, i_inn (by omega), decide_eq_true (by omega), cond_true, h.2.2.2.1, i_natn (by omega)]
    generalize (A (6 * t) &&& Int32.ofInt 63) = w
    have fin : ∀ m, 3 * d < m → ∀ S' M', LI A L (t + 1) S' M' → ∃ M'', gL_law N (m + 1) 1573 [.ref 202, .ref 0, .ref 64, .int (Int32.ofInt ((6 * t : Nat) : Int))] [] M' = some (1, M'') := fun m hm S' M' h' => by
      rw [eL_law_1573, i_add, show (((6 * t : Nat) : Int) + 6) = ((6 * (t + 1) : Nat) : Int) by omega]
      exact ih (t + 1) m S' M' h' (by omega) (by omega) hm
    have go : ∀ {x : Option (Int32 × XM)}, (∃ (S' : SV) (M' : XM), x = gL_law N (n + 1) 1573 [.ref 202, .ref 0, .ref 64, .int (Int32.ofInt ((6 * t : Nat) : Int))] [] M' ∧ LI A L (t + 1) S' M') → ∃ M'', x = some (1, M'') := fun ⟨S', M', e, h'⟩ => by
      rw [e]
      exact fin n (by omega) S' M' h'
    cases e0 : xeq w (Int32.ofInt 0) with
    | true =>
      rw [cond_true]
      exact go (lw_232 h h6 hL (op_row hW (by omega) (A (6 * t + 1)) (A (6 * t + 2)) (A (6 * t + 3))))
    | false =>
    rw [cond_false]
    cases e1 : xeq w (Int32.ofInt 1) with
    | true =>
      rw [cond_true]
      exact go (lw_275 h h6 hL (op_set hW N _ _ _))
    | false =>
    rw [cond_false]
    cases e2 : xeq w (Int32.ofInt 2) with
    | true =>
      rw [cond_true]
      exact go (lw_348 h h6 hL (op_copy hW hN (A (6 * t + 1)) (A (6 * t + 2)) (A (6 * t + 3)) (A (6 * t + 4)) (A (6 * t + 5))))
    | false =>
    rw [cond_false]
    cases e3 : xeq w (Int32.ofInt 3) with
    | true =>
      rw [cond_true]
      exact go (lw_411 h h6 hL (op_element hW N (A (6 * t + 1)) (A (6 * t + 2))))
    | false =>
    rw [cond_false]
    cases e4 : xeq w (Int32.ofInt 4) with
    | true =>
      rw [cond_true]
      exact go (lw_445 h h6 hL (op_holds hW N (A (6 * t + 1))))
    | false =>
    rw [cond_false]
    cases e5 : xeq w (Int32.ofInt 5) with
    | true =>
      rw [cond_true]
      exact go (lw_468 h h6 hL (op_show hW N (A (6 * t + 1)) (A (6 * t + 2))))
    | false =>
    rw [cond_false]
    cases e6 : xeq w (Int32.ofInt 6) with
    | true =>
      rw [cond_true]
      exact go (lw_501 h h6 hL (op_says hW (by omega) (A (6 * t + 1)) (A (6 * t + 2))))
    | false =>
    rw [cond_false]
    cases e7 : xeq w (Int32.ofInt 7) with
    | true =>
      rw [cond_true]
      exact go (lw_534 h h6 hL (op_brother hW N (A (6 * t + 1)) (A (6 * t + 2)) (A (6 * t + 3))))
    | false =>
    rw [cond_false]
    cases e8 : xeq w (Int32.ofInt 8) with
    | true =>
      rw [cond_true]
      exact go (lw_577 h h6 hL (fun c => op_feud hW N (A (6 * t + 1)) (A (6 * t + 2)) (bi c)))
    | false =>
    rw [cond_false]
    cases e9 : xeq w (Int32.ofInt 9) with
    | true =>
      rw [cond_true]
      exact go (lw_636 h h6 hL (op_need hW N (A (6 * t + 1))))
    | false =>
    rw [cond_false]
    cases e10 : xeq w (Int32.ofInt 10) with
    | true =>
      rw [cond_true]
      exact go (lw_659 h h6 hL (op_age hW N (A (6 * t + 1)) (A (6 * t + 2))))
    | false =>
    rw [cond_false]
    cases e11 : xeq w (Int32.ofInt 11) with
    | true =>
      rw [cond_true]
      exact go (lw_692 h h6 hL (op_goes hW N (A (6 * t + 1)) (A (6 * t + 2))))
    | false =>
    rw [cond_false]
    cases e12 : xeq w (Int32.ofInt 12) with
    | true =>
      rw [cond_true]
      exact go (lw_725 h h6 hL (op_dies hW N (by omega) (A (6 * t + 1))))
    | false =>
    rw [cond_false]
    cases e13 : xeq w (Int32.ofInt 13) with
    | true =>
      rw [cond_true]
      exact go (lw_748 h h6 hL (op_feed hW N (A (6 * t + 1))))
    | false =>
    rw [cond_false]
    cases e14 : xeq w (Int32.ofInt 14) with
    | true =>
      rw [cond_true]
      exact go (lw_771 h h6 hL (op_wipe hW N))
    | false =>
    rw [cond_false]
    cases e15 : xeq w (Int32.ofInt 15) with
    | true =>
      rw [cond_true]
      exact go (lw_784 h h6 hL (hro t S hW))
    | false =>
    rw [cond_false]
    cases e16 : xeq w (Int32.ofInt 16) with
    | true =>
      rw [cond_true]
      exact go (lw_797 h h6 hL (op_brotherOf hW N (A (6 * t + 1)) (A (6 * t + 2))))
    | false =>
    rw [cond_false]
    cases e17 : xeq w (Int32.ofInt 17) with
    | true =>
      rw [cond_true]
      exact go (lw_830 h h6 hL (op_needOf hW N (A (6 * t + 1))))
    | false =>
    rw [cond_false]
    cases e18 : xeq w (Int32.ofInt 18) with
    | true =>
      rw [cond_true]
      exact go (lw_853 h h6 hL (fun c => op_shortest hW hN (A (6 * t + 1)) (A (6 * t + 2)) (A (6 * t + 4)) c))
    | false =>
    rw [cond_false]
    cases e19 : xeq w (Int32.ofInt 19) with
    | true =>
      rw [cond_true]
      exact go (lw_922 h h6 hL (op_said (by omega) hW hN (A (6 * t + 1)) (A (6 * t + 2))))
    | false =>
    rw [cond_false]
    cases e20 : xeq w (Int32.ofInt 20) with
    | true =>
      rw [cond_true]
      exact go (lw_955 h h6 hL (op_many hW hN (A (6 * t + 1)) (A (6 * t + 2))))
    | false =>
    rw [cond_false]
    cases e21 : xeq w (Int32.ofInt 21) with
    | true =>
      rw [cond_true]
      exact go (lw_988 h h6 hL (op_who hW hN (A (6 * t + 1))))
    | false =>
    rw [cond_false]
    cases e22 : xeq w (Int32.ofInt 22) with
    | true =>
      rw [cond_true]
      exact go (lw_1011 h h6 hL (op_nearest hW hN (A (6 * t + 1))))
    | false =>
    rw [cond_false]
    cases e23 : xeq w (Int32.ofInt 23) with
    | true =>
      rw [cond_true]
      exact go (lw_1034 h h6 hL (op_first hW hN (A (6 * t + 1))))
    | false =>
    rw [cond_false]
    cases e24 : xeq w (Int32.ofInt 24) with
    | true =>
      rw [cond_true]
      exact go (lw_1057 h h6 hL (op_crowd hW hN ))
    | false =>
    rw [cond_false]
    cases e25 : xeq w (Int32.ofInt 25) with
    | true =>
      rw [cond_true]
      exact go (lw_1070 h h6 hL (op_gather hW hN ))
    | false =>
    rw [cond_false]
    cases e26 : xeq w (Int32.ofInt 26) with
    | true =>
      rw [cond_true]
      exact go (lw_1083 h h6 hL (op_alone hW (by omega) ))
    | false =>
    rw [cond_false]
    cases e27 : xeq w (Int32.ofInt 27) with
    | true =>
      rw [cond_true]
      exact go (lw_1096 h h6 hL (op_lasting hW (by omega) ))
    | false =>
    rw [cond_false]
    cases e28 : xeq w (Int32.ofInt 28) with
    | true =>
      rw [cond_true]
      exact go (lw_1109 h h6 hL (op_longest hW hN (A (6 * t + 1))))
    | false =>
    rw [cond_false]
    cases e29 : xeq w (Int32.ofInt 29) with
    | true =>
      rw [cond_true]
      exact go (lw_1132 h h6 hL (op_met hW hN ))
    | false =>
    rw [cond_false]
    cases e30 : xeq w (Int32.ofInt 30) with
    | true =>
      rw [cond_true]
      exact go (lw_1145 h h6 hL (op_without hW hN (A (6 * t + 1)) (A (6 * t + 2))))
    | false =>
    rw [cond_false]
    cases e31 : xeq w (Int32.ofInt 31) with
    | true =>
      rw [cond_true]
      exact go (lw_1178 h h6 hL (op_mightiest hW hN ))
    | false =>
    rw [cond_false]
    cases e32 : xeq w (Int32.ofInt 32) with
    | true =>
      rw [cond_true]
      exact go (lw_1191 h h6 hL (hch t S hW (A (6 * t + 1))))
    | false =>
    rw [cond_false]
    cases e33 : xeq w (Int32.ofInt 33) with
    | true =>
      rw [cond_true]
      exact go (lw_1214 h h6 hL (op_lost hW hN (A (6 * t + 1)) (A (6 * t + 2))))
    | false =>
    rw [cond_false]
    cases e34 : xeq w (Int32.ofInt 34) with
    | true =>
      rw [cond_true]
      exact go (lw_1247 h h6 hL (op_ran (by omega) hW hN (A (6 * t + 1)) (A (6 * t + 2))))
    | false =>
    rw [cond_false]
    cases e35 : xeq w (Int32.ofInt 35) with
    | true =>
      rw [cond_true]
      exact go (lw_1280 h h6 hL (op_meant hW hN (A (6 * t + 1)) (A (6 * t + 2))))
    | false =>
    rw [cond_false]
    cases e36 : xeq w (Int32.ofInt 36) with
    | true =>
      rw [cond_true]
      exact go (lw_1313 h h6 hL (op_judge hW hN (A (6 * t + 1)) (A (6 * t + 2))))
    | false =>
    rw [cond_false]
    cases e37 : xeq w (Int32.ofInt 37) with
    | true =>
      rw [cond_true]
      exact go (lw_1346 h h6 hL (op_means hW hN (A (6 * t + 1)) (A (6 * t + 2))))
    | false =>
    rw [cond_false]
    cases e38 : xeq w (Int32.ofInt 38) with
    | true =>
      rw [cond_true]
      exact go (lw_1379 h h6 hL (op_stands hW hN (A (6 * t + 1)) (A (6 * t + 2)) (A (6 * t + 3))))
    | false =>
    rw [cond_false]
    cases e39 : xeq w (Int32.ofInt 39) with
    | true =>
      rw [cond_true]
      exact go (lw_1422 h h6 hL (op_done hW hN (A (6 * t + 1)) (A (6 * t + 2))))
    | false =>
    rw [cond_false]
    cases e40 : xeq w (Int32.ofInt 40) with
    | true =>
      rw [cond_true]
      exact go (lw_1455 h h6 hL (hpe t S hW (A (6 * t + 1))))
    | false =>
    rw [cond_false]
    cases e41 : xeq w (Int32.ofInt 41) with
    | true =>
      rw [cond_true]
      exact go (lw_1478 h h6 hL (op_years hW hN (A (6 * t + 1))))
    | false =>
    rw [cond_false]
    cases e42 : xeq w (Int32.ofInt 42) with
    | true =>
      rw [cond_true]
      exact go (lw_1501 h h6 hL (op_seed hW N (A (6 * t + 1))))
    | false =>
    rw [cond_false]
    cases e43 : xeq w (Int32.ofInt 43) with
    | true =>
      rw [cond_true]
      exact go (lw_1524 h h6 hL (op_image hW hN ))
    | false =>
    rw [cond_false]
    cases e44 : xeq w (Int32.ofInt 44) with
    | true =>
      rw [cond_true]
      exact go (lw_1537 h h6 hL (op_back hW hN ))
    | false =>
    rw [cond_false]
    cases e45 : xeq w (Int32.ofInt 45) with
    | true =>
      rw [cond_true]
      exact go (lw_1550 h h6 hL (op_status hW hN (A (6 * t + 1))))
    | false =>
    rw [cond_false]
    exact fin (n + 1) (by omega) S M ⟨hW, h.2.1.tick, h.2.2.1, h.2.2.2.1, h.2.2.2.2⟩
