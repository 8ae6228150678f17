def pkb (R : RV) (k : Nat) : Bool := decide (k / 10 < k % 10) && (decide (k % 10 < R.nb) && (R.fd (k / 10)).testBit (k % 10))
def fpk (is : Nat → Bool) (g : Nat → Nat) : Nat → Nat → Int → Int
  | 0, _, b => b
  | d + 1, k, b => fpk is g d (k + 1) (if is k = true ∧ (b = -1 ∨ g b.toNat < g k) then (k : Int) else b)
theorem fpk_add (is : Nat → Bool) (g : Nat → Nat) : ∀ d1 d2 k b, fpk is g (d1 + d2) k b = fpk is g d2 (k + d1) (fpk is g d1 k b)
  | 0, d2, k, b => by rw [Nat.zero_add]; rfl
  | d1 + 1, d2, k, b => by
    rw [show d1 + 1 + d2 = (d1 + d2) + 1 by omega, fpk, fpk, fpk_add is g d1 d2, show k + 1 + d1 = k + (d1 + 1) by omega]
theorem fpk_skip {is : Nat → Bool} {g : Nat → Nat} : ∀ d k b, (∀ i, k ≤ i → i < k + d → is i = false) → fpk is g d k b = b
  | 0, _, _, _ => rfl
  | d + 1, k, b, h => by
    rw [fpk, h k (by omega) (by omega), if_neg (fun x => Bool.false_ne_true x.1)]
    exact fpk_skip d (k + 1) b (fun i h1 h2 => h i (by omega) (by omega))
theorem fpk_rg {is : Nat → Bool} {g : Nat → Nat} : ∀ d k b, k + d ≤ 100 → (b = -1 ∨ (0 ≤ b ∧ b < 100)) → (fpk is g d k b = -1 ∨ (0 ≤ fpk is g d k b ∧ fpk is g d k b < 100))
  | 0, _, _, _, h => h
  | d + 1, k, b, hk, h => by
    rw [fpk]
    refine fpk_rg d (k + 1) _ (by omega) ?_
    split <;> omega
theorem i_d10 : ∀ k, k < 100 → Int32.ofInt ((k : Nat) : Int) / Int32.ofInt 10 = Int32.ofInt ((k / 10 : Nat) : Int) ∧ Int32.ofInt ((k : Nat) : Int) - Int32.ofInt ((k / 10 : Nat) : Int) * Int32.ofInt 10 = Int32.ofInt ((k % 10 : Nat) : Int) := by decide +kernel
theorem v_fg {N o x y : Nat} {M : XM} {R : RV} (ho : PO o) (hR : cv o R M) (hW : Wf R) (hxy : x < y) (hy : y < 10) : fX3_feuding N [.ref o, .int (Int32.ofInt x), .int (Int32.ofInt y)] M = some (bi (decide (y < R.nb) && (R.fd x).testBit y), M) := by
  have h10 := hW.1
  by_cases h : y < R.nb
  · rw [v_feuding ho hR hW (by omega) h, decide_eq_true h, Bool.true_and]
  · rw [eX3_feuding _ _ _ _ ho, v_has ho hR.1 (by omega), e_bd, b_z, i_inn (by omega), decide_eq_false h, Bool.false_and]
    by_cases h2 : x < R.nb
    · rw [decide_eq_true h2, cond_true, v_has ho hR.1 (by omega), e_bd, b_z, i_inn (by omega), decide_eq_false h, cond_false]
      rfl
    · rw [decide_eq_false h2, cond_false]
      rfl
theorem l_best {N p : Nat} (hp : PO p) {R : RV} (hW : Wf R) {M : XM} (hR : cv p R M) {g : Nat → Nat} (hg : ∀ j, j < 100 → M.1 42 j = Int32.ofInt (g j) ∧ g j < 100000) : ∀ (d k n : Nat) (b : Int), k + d = 100 → d < n → (b = -1 ∨ (0 ≤ b ∧ b < 100)) → gX1_bestPeace N n 92 [.ref 31, .ref p, .retAddr 0, .retAddr 0, .int (Int32.ofInt b), .int (Int32.ofInt k), .retAddr 0] [] M = some (Int32.ofInt (fpk (pkb R) g d k b), M)
  | 0, k, n + 1, b, hk, hn, hb => by
    rw [eX1_bestPeace_92 _ _ _ _ _ hp, i_lt (by omega) (by omega), decide_eq_false (by omega), cond_false, e_I]
    rfl
  | d + 1, k, n + 1, b, hk, hn, hb => by
    obtain ⟨q1, q2⟩ := i_d10 k (by omega)
    have z10 : xeq (Int32.ofInt 10) 0 = false := by decide +kernel
    have z0 : xeq (Int32.ofInt 0) 0 = true := rfl
    have z1 : xeq (Int32.ofInt 1) 0 = false := by decide +kernel
    have ih := fun b => l_best (N := N) hp hW hR hg d (k + 1) n b (by omega) (by omega)
    rw [eX1_bestPeace_92 _ _ _ _ _ hp, i_lt (x := (k : Int)) (by omega) (by omega), decide_eq_true (by omega), cond_true, z10, cond_false, cond_false, q1, q2, i_lt (x := ((k / 10 : Nat) : Int)) (by omega) (by omega), z0, fpk, i_suc]
    by_cases h1 : k / 10 < k % 10
    · rw [decide_eq_true (by omega), cond_true, cond_false, cond_false, v_fg hp hR hW h1 (by omega), e_bd, b_z]
      dsimp only
      by_cases h2 : (decide (k % 10 < R.nb) && (R.fd (k / 10)).testBit (k % 10)) = true
      · have hk1 : pkb R k = true := by unfold pkb; rw [decide_eq_true h1, h2]; rfl
        rw [h2, cond_true, z1, cond_false, i_eq (by omega) (by omega)]
        by_cases h3 : b = -1
        · rw [decide_eq_true h3, cond_true, if_pos ⟨hk1, .inl h3⟩]
          exact ih _ (by omega)
        · obtain ⟨B, rfl⟩ := Int.eq_ofNat_of_zero_le (show 0 ≤ b by omega)
          rw [decide_eq_false h3, cond_false, show xlen M (31 + 11) = 100 from rfl, i_inn (by omega), decide_eq_true (by omega), cond_true, i_inn (by omega), decide_eq_true (by omega), cond_true, i_natn (by omega), i_natn (by omega), show 31 + 11 = 42 from rfl, (hg B (by omega)).1, (hg k (by omega)).1, i_lt (by have := (hg B (by omega)).2; omega) (by have := (hg k (by omega)).2; omega)]
          by_cases h4 : g B < g k
          · rw [decide_eq_true (by omega), cond_true, if_pos ⟨hk1, .inr h4⟩]
            exact ih _ (by omega)
          · rw [decide_eq_false (by omega), cond_false, if_neg (fun h => by
              rcases h.2 with h | h
              · exact h3 h
              · exact h4 h)]
            exact ih _ hb
      · have hk1 : pkb R k = false := by unfold pkb; rw [(Bool.not_eq_true _).mp h2, Bool.and_false]
        rw [(Bool.not_eq_true _).mp h2, cond_false, cond_true, hk1, if_neg (fun x => Bool.false_ne_true x.1)]
        exact ih _ hb
    · have hk1 : pkb R k = false := by unfold pkb; rw [decide_eq_false h1, Bool.false_and]
      rw [decide_eq_false (by omega), cond_false, cond_true, hk1, if_neg (fun x => Bool.false_ne_true x.1)]
      exact ih _ hb
