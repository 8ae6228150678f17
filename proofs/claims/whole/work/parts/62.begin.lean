def R0 : RV := rmk 0 0 0 (fun _ => 0) (fun _ => 0) (fun _ => 0) (fun _ => 0) (fun _ => 0) (fun _ => 0) 0 1
def S0 : SV := (R0, (false, R0), (0, fun _ => 0), ((fun _ => -1), (fun _ => 0), (fun _ _ => 0)), (fun _ => 0))
theorem wf_S0 : WfS S0 := by
  refine ⟨⟨by decide, by decide, by decide, fun b hb => absurd hb (Nat.not_lt_zero b), fun i hi => absurd hi (Nat.not_lt_zero i)⟩, (fun h => absurd h (by decide)), by decide, fun j hj => absurd hj (Nat.not_lt_zero j), fun s hs => ⟨⟨show (-1 : Int) ≤ -1 by omega, show (-1 : Int) < 10 + 0 by omega, .inl (show (-1 : Int) < 5 by omega)⟩, fun h => absurd (show (0 : Int) ≤ -1 from h) (by omega)⟩⟩
theorem vl_6 : ∀ n, n < 7 → (VL (fun _ => 0) (min n 6)).length = 0 := by decide +kernel
theorem vl_5 : ∀ n, n < 7 → (VL (fun _ => 0) (min n 5)).length = 0 := by decide +kernel
theorem st_nx : ∀ j, j < 42 → xNEXT.getD j 0 = Int32.ofInt (bif Nat.beq (nxT.getD j 7) 7 then -1 else (nxT.getD j 7 : Int)) := by decide +kernel
theorem st_wt : ∀ j, j < 7 → xWANTS.getD j 0 = Int32.ofInt (wts j) := by decide +kernel
theorem st_by : ∀ i, i < 7 → ∀ j, j < xal (230 + i) → (xbyt.getD (230 + i - 230) []).getD j 0 = Int32.ofInt (([[98, 114, 111, 116, 104, 101, 114], [102, 101, 117, 100], [112, 101, 97, 99, 101], [110, 101, 101, 100], [108, 101, 115, 115], [97, 103, 101], [100, 105, 101, 115]] : List (List Nat)).getD i [] |>.getD j 0 : Nat) := by decide +kernel
theorem st_f (L : Nat) (xs : Nat → Int32) (a : Nat) (h : 82 ≤ a) : (xM0 L xs).1 a = xFor L xs a := by
  show (if a < 82 then _ else xFor L xs a) = _
  rw [if_neg (by omega)]
theorem st_fgn (L : Nat) (xs : Nat → Int32) : fgn (xM0 L xs) := by
  refine ⟨fun j hj => ?_, fun j hj => ?_, fun i hi j hj => ?_⟩
  · rw [st_f _ _ _ (by omega)]
    exact st_nx j hj
  · rw [st_f _ _ _ (by omega)]
    exact st_wt j hj
  · rw [st_f _ _ _ (by omega), ← st_by i hi j hj]
    unfold xFor
    rw [if_neg (by omega), if_neg (by omega), if_neg (by omega), if_neg (by omega)]
theorem st_SY (L : Nat) (xs : Nat → Int32) : SY 22 6 2400 0 (xM0 L xs) ∧ SY 32 5 700 0 (xM0 L xs) := by
  have v6 : (VL (fun _ => 0) 6).length = 0 := vl_6 6 (by omega)
  have v5 : (VL (fun _ => 0) 5).length = 0 := vl_5 5 (by omega)
  constructor
  · refine ⟨rfl, rfl, fun _ => 0, fun b hb => ⟨rfl, Nat.zero_le _⟩, by omega, fun i q hq => ?_, fun n hn => ?_, .inl ⟨rfl, rfl, rfl⟩, rfl, by rw [v6]; rfl⟩
    · rw [List.length_eq_zero_iff.mp v6] at hq
      cases hq
    · rw [vl_6 n (by omega)]
      rfl
  · refine ⟨rfl, rfl, fun _ => 0, fun b hb => ⟨rfl, Nat.zero_le _⟩, by omega, fun i q hq => ?_, fun n hn => ?_, .inr ⟨rfl, rfl, rfl⟩, rfl, by rw [v5]; rfl⟩
    · rw [List.length_eq_zero_iff.mp v5] at hq
      cases hq
    · rw [vl_5 n (by omega)]
      rfl
theorem st_CX (L : Nat) (xs : Nat → Int32) : CX 0 S0 (xM0 L xs) := by
  refine ⟨⟨rfl, rfl, rfl, rfl, rfl, fun b hb => absurd hb (Nat.not_lt_zero b), fun i hi => absurd hi (Nat.not_lt_zero i)⟩, rfl, (fun h => absurd h (by decide)), rfl, fun j hj => absurd hj (Nat.not_lt_zero j), fun s hs => ⟨?_, fun h => absurd (show (0 : Int) ≤ -1 from h) (by omega)⟩, fun k hk => rfl, (st_SY L xs).1, (st_SY L xs).2, st_fgn L xs⟩
  match s, hs with
  | 0, _ | 1, _ | 2, _ | 3, _ | 4, _ | 5, _ | 6, _ | 7, _ => rfl
theorem st_CM (L : Nat) (xs : Nat → Int32) : CM S0 (xM0 L xs) := by
  refine ⟨⟨rfl, rfl, rfl, rfl, fun b hb => absurd hb (Nat.not_lt_zero b), fun i hi => absurd hi (Nat.not_lt_zero i)⟩, rfl, (fun h => absurd h (by decide)), rfl, fun j hj => absurd hj (Nat.not_lt_zero j), fun s hs => ⟨?_, fun h => absurd (show (0 : Int) ≤ -1 from h) (by omega)⟩, fun k hk => rfl, rfl, st_fgn L xs⟩
  match s, hs with
  | 0, _ | 1, _ | 2, _ | 3, _ | 4, _ | 5, _ | 6, _ | 7, _ => rfl
theorem st_LI {L : Nat} (hL : L ≤ 3072) (xs : Nat → Int32) : LI xs L 0 S0 (xM0 L xs) := by
  refine ⟨wf_S0, st_CX L xs, st_CM L xs, ?_, ?_⟩
  · rw [st_f _ _ _ (by omega)]
    rfl
  · show ((xM0 L xs).1 203 0).toNatClampNeg = L
    rw [st_f _ _ _ (by omega)]
    show (Int32.ofNat L).toNatClampNeg = L
    rw [show Int32.ofNat L = Int32.ofInt (L : Int) from (Int32.ofInt_eq_ofNat (n := L)).symm, i_natn (by omega)]
theorem law_1 {N L : Nat} (hN : big N) (hL : L ≤ 3072) (xs : Nat → Int32) (hch : ∀ t S, WfS S → ∀ a : Int32, both t S (fX8_choice N [.ref 0, .int a]) (fX9_choice N [.ref 64, .int a])) (hpe : ∀ t S, WfS S → ∀ a : Int32, both t S (fX8_peace N [.ref 0, .int a]) (fX9_peace N [.ref 64, .int a])) (hro : ∀ t S, WfS S → both t S (fX8_rock N [.ref 0]) (fX9_rock N [.ref 64])) : ∃ M', gL_law N (N + 1) 16 [.ref 202, .ref 0, .ref 64, .retAddr 0] [] (xM0 L xs) = some (1, M') := by
  have hNb := hN
  unfold big at hNb
  rw [eL_law]
  exact lw_go hN hL hch hpe hro 512 0 N S0 (xM0 L xs) (st_LI hL xs) (by omega) (by omega) (by omega)
