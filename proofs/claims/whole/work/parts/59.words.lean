def wlen (i : Nat) : Nat := [7, 4, 5, 4, 4, 3, 4].getD i 0
theorem wl_sh : ∀ i, i < 7 → (Int32.ofNat (xal (210 + i + 20)) >>> (Int32.ofInt 0 &&& 31) : Int32) = Int32.ofInt ((wlen i : Nat) : Int) := by decide +kernel
theorem v_coder {N i : Nat} (hi : i < 7) (M : XM) : fJ0_coder_7d493 N [.ref (210 + i)] M = some (Int32.ofInt 0, M) := by
  rw [eJ0_coder_7d493 _ _ (by omega), show xeq 1 (0 : Int32) = false by decide +kernel, cond_false]
  rfl
theorem v_wlen {N i : Nat} (hi : i < 7) (M : XM) : fJ0_length_8abf5 N [.ref (210 + i)] M = some (Int32.ofInt ((wlen i : Nat) : Int), M) := by
  rw [eJ0_length_8abf5 _ _ (by omega), v_coder hi, e_bd]
  dsimp only
  have hx : xlen M (210 + i + 20) = xal (210 + i + 20) := by
    unfold xlen
    rw [show Nat.beq (210 + i + 20) 202 = false from by
      cases h : Nat.beq (210 + i + 20) 202 with
      | false => rfl
      | true => exact absurd (Nat.eq_of_beq_eq_true h) (by omega)]
    rfl
  rw [hx, wl_sh i hi, e_I]
def wby (i j : Nat) : Nat := (([[98, 114, 111, 116, 104, 101, 114], [102, 101, 117, 100], [112, 101, 97, 99, 101], [110, 101, 101, 100], [108, 101, 115, 115], [97, 103, 101], [100, 105, 101, 115]] : List (List Nat)).getD i []).getD j 0
theorem wby_ch : ∀ i, i < 7 → ∀ j, j < wlen i → (((Int32.ofInt ((wby i j : Nat) : Int) &&& Int32.ofInt 255).toUInt32 % 65536).toInt32 = Int32.ofInt ((wby i j : Nat) : Int)) ∧ (((Int32.ofInt ((wby i j : Nat) : Int)).toUInt32 % 65536).toInt32 = Int32.ofInt ((wby i j : Nat) : Int)) ∧ wby i j < 256 := by decide +kernel
theorem wlen_xal : ∀ i, i < 7 → xal (230 + i) = wlen i ∧ wlen i ≤ 7 := by decide +kernel
theorem e_Ch {x : Int32} (h : (x.toUInt32 % 65536).toInt32 = x) (M : XM) : xrCh (some (.int x)) M = some (x, M) := by
  show (if (x.toUInt32 % 65536).toInt32 = x then some (x, M) else none) = _
  rw [if_pos h]
theorem v_wchar {N i j : Nat} (hi : i < 7) (hj : j < wlen i) {M : XM} (hg : fgn M) : fJ0_charAt_5068e N [.ref (210 + i), .int (Int32.ofInt j)] M = some (Int32.ofInt ((wby i j : Nat) : Int), M) := by
  obtain ⟨hx, h7⟩ := wlen_xal i hi
  obtain ⟨c1, c2, c3⟩ := wby_ch i hi j hj
  have hm : M.1 (230 + i) j = Int32.ofInt ((wby i j : Nat) : Int) := hg.2.2 i hi j (by rw [hx]; exact hj)
  have hl : xlen M (230 + i) = wlen i := by
    rw [← hx]
    unfold xlen
    rw [show Nat.beq (230 + i) 202 = false from by
      cases h : Nat.beq (230 + i) 202 with
      | false => rfl
      | true => exact absurd (Nat.eq_of_beq_eq_true h) (by omega)]
    rfl
  rw [eJ0_charAt_5068e _ _ _ (by omega), eJ0_isLatin1_aae02 _ _ (by omega), show xeq 1 (0 : Int32) = false by decide +kernel, cond_false, show xeq (Int32.ofInt 0) 0 = true from rfl, cond_true]
  show (bif xeq (Int32.ofInt 1) 0 then none else ((fJ1_charAt_3b067 N [.ref (210 + i + 20), .int (Int32.ofInt j)] M).bind fun q1 => xrCh (some (.int q1.1)) q1.2)) = _
  rw [show xeq (Int32.ofInt 1) 0 = false by decide +kernel, cond_false, show 210 + i + 20 = 230 + i by omega, eJ1_charAt_3b067 _ _ _ (by omega), eJ0_checkIndex_df160, eJ3_checkIndex_8e157, hl, show Int32.ofNat (wlen i) = Int32.ofInt ((wlen i : Nat) : Int) from (Int32.ofInt_eq_ofNat (n := wlen i)).symm, show (0 : Int32) = Int32.ofInt 0 from rfl, i_lt (by omega) (by omega), decide_eq_false (by omega), cond_false, i_lt (by omega) (by omega), decide_eq_true (by omega), cond_true]
  show ((bif xin (Int32.ofInt j) (xlen M (230 + i)) then xrCh (some (.int ((((M.1 (230 + i) (Int32.ofInt j).toNatClampNeg) &&& (Int32.ofInt 255)).toUInt32 % 65536).toInt32))) M else none).bind fun q1 => xrCh (some (.int q1.1)) q1.2) = _
  rw [hl, i_inn (by omega), decide_eq_true hj, cond_true, i_natn (by omega), hm, c1, e_Ch c2, e_bd]
  exact e_Ch c2 M
def weq (tb : Nat → Nat) (f i : Nat) : Nat → Nat → Bool
  | 0, _ => true
  | d + 1, j => decide (tb (f + j) = wby i j) && weq tb f i d (j + 1)
def isW (tz : Nat) (tb : Nat → Nat) (f i : Nat) : Bool := decide (tkk tz tb f = 1) && (decide (tke tz tb f - f = wlen i) && weq tb f i (wlen i) 0)
theorem l_w8 {N tz f i : Nat} {tb : Nat → Nat} (hi : i < 7) {M : XM} (hT : tpc tz tb M) (hg : fgn M) (h3 : M.1 44 3 = Int32.ofInt f) (hf : f + wlen i ≤ tz) : ∀ (d j n : Nat), j + d = wlen i → d < n → gX6_isWord N n 28 [.ref 44, .ref (210 + i), .int (Int32.ofInt j)] [] M = some (bi (weq tb f i d j), M)
  | 0, j, n + 1, hj, hn => by
    have h7 := (wlen_xal i hi).2
    rw [eX6_isWord_28 _ _ _ _ (by omega), v_wlen hi, e_bd]
    dsimp only
    rw [i_lt (by omega) (by omega), decide_eq_false (by omega), cond_false]
    rfl
  | d + 1, j, n + 1, hj, hn => by
    have h250 := hT.1
    have h7 := (wlen_xal i hi).2
    obtain ⟨t1, t2⟩ := hT.2.2 (f + j) (by omega)
    obtain ⟨-, -, c3⟩ := wby_ch i hi j (by omega)
    rw [eX6_isWord_28 _ _ _ _ (by omega), v_wlen hi, e_bd]
    dsimp only
    rw [i_lt (by omega) (by omega), decide_eq_true (by omega), cond_true, h3, i_add, show (f : Int) + (j : Int) = ((f + j : Nat) : Int) by omega, show xlen M (44 + 1) = 250 from rfl, i_inn (by omega), decide_eq_true (by omega), cond_true, v_wchar hi (by omega) hg, e_bd]
    dsimp only
    rw [i_natn (by omega), show 44 + 1 = 45 from rfl, t1, i_eq (by omega) (by omega), weq, i_suc]
    by_cases e : tb (f + j) = wby i j
    · rw [decide_eq_true (by omega), cond_true, decide_eq_true e, Bool.true_and]
      exact l_w8 hi hT hg h3 hf d (j + 1) n (by omega) (by omega)
    · rw [decide_eq_false (by omega), cond_false, decide_eq_false e, Bool.false_and]
      rfl
theorem v_isW8 {N tz f i : Nat} {tb : Nat → Nat} (hN : 8 < N) (hi : i < 7) {M : XM} (hT : tpc tz tb M) (hg : fgn M) (hf : f ≤ tz) (h3 : M.1 44 3 = Int32.ofInt f) (h4 : M.1 44 4 = Int32.ofInt (tke tz tb f : Nat)) (h5 : M.1 44 5 = Int32.ofInt (tkk tz tb f : Nat)) : fX6_isWord N [.ref 44, .ref (210 + i)] M = some (bi (isW tz tb f i), M) := by
  have h250 := hT.1
  have h7 := (wlen_xal i hi).2
  have hk := tkk_rg tz tb f
  have ht := tke_rg (tz := tz) (tb := tb) (f := f) hf
  rw [eX6_isWord _ _ (by omega), h5, i_eq (x := ((tkk tz tb f : Nat) : Int)) (y := 1) (by omega) (by omega)]
  unfold isW
  by_cases e1 : tkk tz tb f = 1
  · rw [decide_eq_true (by omega), cond_true, v_wlen hi, e_bd, decide_eq_true e1, Bool.true_and]
    dsimp only
    rw [h4, h3, i_sub, i_eq (by omega) (by omega)]
    by_cases e2 : tke tz tb f - f = wlen i
    · rw [decide_eq_true (by omega), cond_true, decide_eq_true e2, Bool.true_and]
      exact l_w8 hi hT hg h3 (by omega) (wlen i) 0 N (by omega) (by omega)
    · rw [decide_eq_false (by omega), cond_false, decide_eq_false e2, Bool.false_and]
      rfl
  · rw [decide_eq_false (by omega), cond_false, decide_eq_false e1, Bool.false_and]
    rfl
