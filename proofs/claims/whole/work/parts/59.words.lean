def wlen (i : Nat) : Nat := [7, 4, 5, 4, 4, 3, 4].getD i 0
theorem wl_sh : ∀ i, i < 7 → (Int32.ofNat (xal (210 + i + 20)) >>> (Int32.ofInt 0 &&& 31) : Int32) = Int32.ofInt ((wlen i : Nat) : Int) := by decide +kernel
theorem v_coder {N i : Nat} (hi : i < 7) (M : XM) : fJ0_coder_7d493 N [.ref (210 + i)] M = some (Int32.ofInt 0, M) := by
  rw [eJ0_coder_7d493 _ _ (by omega), show xeq 1 (0 : Int32) = false by decide +kernel, cond_false]
  rfl
theorem v_wlen {N i : Nat} (hi : i < 7) (M : XM) : fJ0_length_8abf5 N [.ref (210 + i)] M = some (Int32.ofInt ((wlen i : Nat) : Int), M) := by
  rw [eJ0_length_8abf5 _ _ (by omega), v_coder hi, e_bd]
  dsimp only
  have hx : xlen M (210 + i + 20) = xal (210 + i + 20) := by
    unfold xlen
    rw [show Nat.beq (210 + i + 20) 202 = false from by
      cases h : Nat.beq (210 + i + 20) 202 with
      | false => rfl
      | true => exact absurd (Nat.eq_of_beq_eq_true h) (by omega)]
    rfl
  rw [hx, wl_sh i hi, e_I]
