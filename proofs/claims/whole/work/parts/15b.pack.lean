def CB (p k : Nat) (c t : Int) : Prop := (p = 0 ∧ k = 0 ∧ c = 0 ∧ t = 1) ∨ (p = 1 ∧ k = 1 ∧ c = 0 ∧ 1 ≤ t ∧ t ≤ 10) ∨ (p = 2 ∧ t = 1 ∧ 0 ≤ c ∧ ((k = 1 ∧ c ≤ 9) ∨ (k = 2 ∧ c ≤ 90))) ∨ (p = 3 ∧ t = 1 ∧ 0 ≤ c ∧ ((k = 2 ∧ c ≤ 9) ∨ (k = 3 ∧ c ≤ 90))) ∨ (p = 4 ∧ t = 1 ∧ 0 ≤ c ∧ ((k = 2 ∧ c ≤ 81) ∨ (3 ≤ k ∧ k ≤ 4 ∧ c ≤ 810))) ∨ (p = 5 ∧ 1 ≤ t ∧ t ≤ 10 ∧ 0 ≤ c ∧ ((k = 3 ∧ c ≤ 81) ∨ (4 ≤ k ∧ c ≤ 810))) ∨ (p = 6 ∧ t = 1 ∧ 0 ≤ c ∧ ((k = 3 ∧ c ≤ 90) ∨ (k = 4 ∧ c ≤ 819) ∨ (5 ≤ k ∧ c ≤ 900)))
def WB (a : Nat) (W : Int) : Prop := (a = 0 ∧ W = 0) ∨ (a = 3 ∧ -81 ≤ W ∧ W ≤ 81) ∨ (a = 4 ∧ -810 ≤ W ∧ W ≤ 810) ∨ (a = 5 ∧ -819 ≤ W ∧ W ≤ 819) ∨ (a = 6 ∧ -900 ≤ W ∧ W ≤ 900)
def IB (n p : Nat) (s : Int × Int × Int × Int) : Prop := ∃ k a, n = k + a ∧ WB a s.1 ∧ CB p k s.2.1 s.2.2.1 ∧ (s.2.2.2 = 1 ∨ s.2.2.2 = -1)
theorem CB_0 {k : Nat} {c t : Int} (hk : k = 0) (hc : c = 0) (ht : t = 1) : CB 0 k c t := .inl ⟨rfl, hk, hc, ht⟩
theorem CB_1 {k : Nat} {c t : Int} (hk : k = 1) (hc : c = 0) (h1 : 1 ≤ t) (h2 : t ≤ 10) : CB 1 k c t := .inr (.inl ⟨rfl, hk, hc, h1, h2⟩)
theorem CB_2 {k : Nat} {c t : Int} (ht : t = 1) (hc : 0 ≤ c) (h : (k = 1 ∧ c ≤ 9) ∨ (k = 2 ∧ c ≤ 90)) : CB 2 k c t := .inr (.inr (.inl ⟨rfl, ht, hc, h⟩))
theorem CB_3 {k : Nat} {c t : Int} (ht : t = 1) (hc : 0 ≤ c) (h : (k = 2 ∧ c ≤ 9) ∨ (k = 3 ∧ c ≤ 90)) : CB 3 k c t := .inr (.inr (.inr (.inl ⟨rfl, ht, hc, h⟩)))
theorem CB_4 {k : Nat} {c t : Int} (ht : t = 1) (hc : 0 ≤ c) (h : (k = 2 ∧ c ≤ 81) ∨ (3 ≤ k ∧ k ≤ 4 ∧ c ≤ 810)) : CB 4 k c t := .inr (.inr (.inr (.inr (.inl ⟨rfl, ht, hc, h⟩))))
theorem CB_5 {k : Nat} {c t : Int} (h1 : 1 ≤ t) (h2 : t ≤ 10) (hc : 0 ≤ c) (h : (k = 3 ∧ c ≤ 81) ∨ (4 ≤ k ∧ c ≤ 810)) : CB 5 k c t := .inr (.inr (.inr (.inr (.inr (.inl ⟨rfl, h1, h2, hc, h⟩)))))
theorem CB_6 {k : Nat} {c t : Int} (ht : t = 1) (hc : 0 ≤ c) (h : (k = 3 ∧ c ≤ 90) ∨ (k = 4 ∧ c ≤ 819) ∨ (5 ≤ k ∧ c ≤ 900)) : CB 6 k c t := .inr (.inr (.inr (.inr (.inr (.inr ⟨rfl, ht, hc, h⟩)))))
theorem WB_mk {a : Nat} {W : Int} (h : 3 ≤ a ∧ a ≤ 6) (h3 : a = 3 → -81 ≤ W ∧ W ≤ 81) (h4 : a = 4 → -810 ≤ W ∧ W ≤ 810) (h5 : a = 5 → -819 ≤ W ∧ W ≤ 819) (h6 : a = 6 → -900 ≤ W ∧ W ≤ 900) : WB a W := by
  rcases (show a = 3 ∨ a = 4 ∨ a = 5 ∨ a = 6 by omega) with e | e | e | e
  · exact .inr (.inl ⟨e, h3 e⟩)
  · exact .inr (.inr (.inl ⟨e, h4 e⟩))
  · exact .inr (.inr (.inr (.inl ⟨e, h5 e⟩)))
  · exact .inr (.inr (.inr (.inr ⟨e, h6 e⟩)))
theorem mul_b {c a : Int} (hc : 0 ≤ c) (ha : 0 ≤ a) (h9 : a ≤ 9) : 0 ≤ c * a ∧ c * a ≤ 9 * c := by
  constructor
  · exact Int.mul_nonneg hc ha
  · rw [Int.mul_comm c a]
    exact Int.mul_le_mul_of_nonneg_right h9 hc
theorem IB_s {R : RV} (hW : Wf R) {m b n p : Nat} {s : Int × Int × Int × Int} (hb : b < R.nb) (hm : m.testBit b = true) (hp : nx p (R.kd b) ≠ 7) (hn : n + 1 ≤ 6) (h : IB n p s) : IB (n + 1) (nx p (R.kd b)) (mst (wM R m) s b) := by
  obtain ⟨w1, w2, w3⟩ := wk_wM hW hb hm
  have hk := (hW.2.2.2.1 b hb).1
  have ha := (hW.2.2.2.1 b hb).2.1
  obtain ⟨W, c, t, g⟩ := s
  obtain ⟨k, a, hka, hw, hc, hg⟩ := h
  dsimp only at hw hc hg
  have hx : 0 ≤ c → 0 ≤ c * (R.am b : Int) ∧ c * (R.am b : Int) ≤ 9 * c := fun h => mul_b h (by omega) (by omega)
  have hy : 0 ≤ t → 0 ≤ t * (R.am b : Int) ∧ t * (R.am b : Int) ≤ 9 * t := fun h => mul_b h (by omega) (by omega)
  rcases (show R.kd b = 0 ∨ R.kd b = 1 ∨ R.kd b = 2 ∨ R.kd b = 3 ∨ R.kd b = 4 ∨ R.kd b = 5 by omega) with e | e | e | e | e | e
  · rw [e] at hp
    unfold CB at hc
    rcases hc with ⟨rfl, _⟩ | ⟨rfl, _⟩ | ⟨rfl, _⟩ | ⟨rfl, _⟩ | ⟨rfl, _⟩ | ⟨rfl, _⟩ | ⟨rfl, _⟩ <;> exact absurd rfl hp
  · rw [mst_1 w2 w3 e]
    rw [e] at hp ⊢
    clear hx
    generalize t * (R.am b : Int) = y at *
    unfold CB at hc
    rcases hc with ⟨rfl, h⟩ | ⟨rfl, h⟩ | ⟨rfl, h⟩ | ⟨rfl, h⟩ | ⟨rfl, h⟩ | ⟨rfl, h⟩ | ⟨rfl, h⟩
    · refine ⟨k + 1, a, by omega, hw, ?_, hg⟩
      show CB 2 (k + 1) (c + y) 1
      exact CB_2 rfl (by omega) (by omega)
    · refine ⟨k + 1, a, by omega, hw, ?_, hg⟩
      show CB 2 (k + 1) (c + y) 1
      exact CB_2 rfl (by omega) (by omega)
    · exact absurd rfl hp
    · exact absurd rfl hp
    · refine ⟨k + 1, a, by omega, hw, ?_, hg⟩
      show CB 6 (k + 1) (c + y) 1
      exact CB_6 rfl (by omega) (by omega)
    · refine ⟨k + 1, a, by omega, hw, ?_, hg⟩
      show CB 6 (k + 1) (c + y) 1
      exact CB_6 rfl (by omega) (by omega)
    · exact absurd rfl hp
  · rw [mst_2 w2 w3 e]
    rw [e] at hp ⊢
    clear hy
    generalize c * (R.am b : Int) = y at *
    unfold CB at hc
    rcases hc with ⟨rfl, h⟩ | ⟨rfl, h⟩ | ⟨rfl, h⟩ | ⟨rfl, h⟩ | ⟨rfl, h⟩ | ⟨rfl, h⟩ | ⟨rfl, h⟩
    · exact absurd rfl hp
    · exact absurd rfl hp
    · refine ⟨k + 1, a, by omega, hw, ?_, hg⟩
      show CB 4 (k + 1) y t
      exact CB_4 (by omega) (by omega) (by omega)
    · refine ⟨k + 1, a, by omega, hw, ?_, hg⟩
      show CB 4 (k + 1) y t
      exact CB_4 (by omega) (by omega) (by omega)
    · exact absurd rfl hp
    · exact absurd rfl hp
    · exact absurd rfl hp
  · clear hx hy
    rw [mst_3 w2 w3 e]
    rw [e] at hp ⊢
    unfold CB at hc
    rcases hc with ⟨rfl, h⟩ | ⟨rfl, h⟩ | ⟨rfl, h⟩ | ⟨rfl, h⟩ | ⟨rfl, h⟩ | ⟨rfl, h⟩ | ⟨rfl, h⟩
    · refine ⟨k + 1, a, by omega, hw, ?_, hg⟩
      show CB 1 (k + 1) c ((R.am b : Int) + 1)
      exact CB_1 (by omega) (by omega) (by omega) (by omega)
    · exact absurd rfl hp
    · exact absurd rfl hp
    · exact absurd rfl hp
    · refine ⟨k + 1, a, by omega, hw, ?_, hg⟩
      show CB 5 (k + 1) c ((R.am b : Int) + 1)
      exact CB_5 (by omega) (by omega) (by omega) (by omega)
    · exact absurd rfl hp
    · exact absurd rfl hp
  · clear hx hy
    rw [mst_4 w2 e]
    rw [e] at hp ⊢
    unfold CB at hc
    rcases hc with ⟨rfl, h⟩ | ⟨rfl, h⟩ | ⟨rfl, h⟩ | ⟨rfl, h⟩ | ⟨rfl, h⟩ | ⟨rfl, h⟩ | ⟨rfl, h⟩
    · exact absurd rfl hp
    · exact absurd rfl hp
    · refine ⟨k + 1, a, by omega, hw, ?_, .inr rfl⟩
      show CB 3 (k + 1) c t
      exact CB_3 (by omega) (by omega) (by omega)
    · exact absurd rfl hp
    · exact absurd rfl hp
    · exact absurd rfl hp
    · exact absurd rfl hp
  · clear hx hy
    rw [mst_5 w2 e]
    rw [e] at hp ⊢
    unfold CB at hc
    have hgc : g * c = c ∨ g * c = -c := by
      rcases hg with rfl | rfl
      · left; omega
      · right; omega
    generalize g * c = y at *
    rcases hc with ⟨rfl, h⟩ | ⟨rfl, h⟩ | ⟨rfl, h⟩ | ⟨rfl, h⟩ | ⟨rfl, h⟩ | ⟨rfl, h⟩ | ⟨rfl, h⟩
    · exact absurd rfl hp
    · exact absurd rfl hp
    · exact absurd rfl hp
    · exact absurd rfl hp
    · refine ⟨0, a + k + 1, by omega, ?_, ?_, .inl rfl⟩
      · unfold WB at hw
        show WB (a + k + 1) (W + y)
        exact WB_mk (by omega) (by omega) (by omega) (by omega) (by omega)
      · show CB 0 0 0 t
        exact CB_0 rfl rfl (by omega)
    · exact absurd rfl hp
    · refine ⟨0, a + k + 1, by omega, ?_, ?_, .inl rfl⟩
      · unfold WB at hw
        show WB (a + k + 1) (W + y)
        exact WB_mk (by omega) (by omega) (by omega) (by omega) (by omega)
      · show CB 0 0 0 t
        exact CB_0 rfl rfl (by omega)
theorem IB_l {R : RV} (hW : Wf R) {m : Nat} : ∀ (l : List Nat) (n p : Nat) (s : Int × Int × Int × Int), (∀ c ∈ l, c < R.nb ∧ m.testBit c = true) → wts (pl (wM R m) p l) = 0 → p < 7 → n + l.length ≤ 6 → IB n p s → IB (n + l.length) (pl (wM R m) p l) (l.foldl (mst (wM R m)) s)
  | [], n, p, s, _, _, _, _, h => h
  | b :: l, n, p, s, hl, hw, hp, hn, h => by
    obtain ⟨b1, b2⟩ := hl b List.mem_cons_self
    have hk := (wk_wM hW b1 b2).2.1
    have hkk := (hW.2.2.2.1 b b1).1
    simp only [List.length_cons] at hn
    have hw : wts (pl (wM R m) (nx p (wk (wM R m b))) l) = 0 := hw
    have hlw : ∀ c ∈ l, wk (wM R m c) < 6 := fun c hc => by
      obtain ⟨c1, c2⟩ := hl c (List.mem_cons_of_mem _ hc)
      rw [(wk_wM hW c1 c2).2.1]
      exact (hW.2.2.2.1 c c1).1
    rw [hk] at hw
    have h7 : nx p (R.kd b) ≠ 7 := fun h7 => by
      rw [h7, pl_7 l hlw] at hw
      exact absurd hw (by decide)
    have ih := IB_l hW l (n + 1) (nx p (R.kd b)) (mst (wM R m) s b) (fun c hc => hl c (List.mem_cons_of_mem _ hc)) hw (nx_7 hp hkk h7) (by omega) (IB_s hW b1 b2 h7 (by omega) h)
    rw [List.length_cons, List.foldl_cons, show n + (l.length + 1) = n + 1 + l.length by omega]
    show IB _ (pl (wM R m) (nx p (wk (wM R m b))) l) _
    rw [hk]
    exact ih
theorem mean_b {R : RV} (hW : Wf R) {m : Nat} {l : List Nat} (hl : okl R m l) (h6 : l.length ≤ 6) : -900 ≤ mean (wM R m) l ∧ mean (wM R m) l ≤ 900 := by
  have h := IB_l hW l 0 0 (0, 0, 1, 1) hl.1 hl.2.1 (by omega) (by omega) ⟨0, 0, rfl, .inl ⟨rfl, rfl⟩, .inl ⟨rfl, rfl, rfl, rfl⟩, .inl rfl⟩
  have hw := hl.2.1
  rw [Nat.zero_add] at h
  obtain ⟨k, a, h1, h2, h3, h4⟩ := h
  rw [mean_eq]
  unfold mfin
  generalize l.foldl (mst (wM R m)) (0, 0, 1, 1) = s at *
  obtain ⟨W, c, t, g⟩ := s
  dsimp only at *
  have hgc : g * c = c ∨ g * c = -c := by
    rcases h4 with rfl | rfl
    · left; omega
    · right; omega
  generalize g * c = y at *
  have hp := wtd hw
  unfold CB at h3
  unfold WB at h2
  have hl6 : l.length ≤ 6 := h6
  generalize l.length = L at *
  generalize pl (wM R m) 0 l = p at *
  clear h4 hW hl hw h6
  rcases h3 with h3 | h3 | h3 | h3 | h3 | h3 | h3 <;> rcases h2 with h2 | h2 | h2 | h2 | h2 <;> omega
theorem i_64 {a : Nat} (h : a < 2147483648) : (Int32.ofInt (a : Int)).toInt64 = Int64.ofInt (a : Int) := by
  apply Int64.toInt_inj.mp
  rw [Int32.toInt_toInt64, i_toInt (by omega), Int64.toInt_ofInt_of_le (by omega) (by omega)]
theorem l_bv (n : Nat) : (Int64.ofInt (n : Int)).toBitVec = BitVec.ofNat 64 n := by
  rw [Int64.toBitVec_ofInt]; exact BitVec.ofInt_natCast 64 n
theorem l_or (a b : Nat) : (Int64.ofInt (a : Int) ||| Int64.ofInt (b : Int) : Int64) = Int64.ofInt ((a ||| b : Nat) : Int) := by
  apply Int64.toBitVec_inj.mp
  rw [Int64.toBitVec_or, l_bv, l_bv, l_bv, BitVec.ofNat_or]
theorem l_shl {x k : Nat} {c : Int32} (hk : k < 64) (hc : (c.toInt64 &&& 63).toBitVec.smod 64 = BitVec.ofNat 64 k) : (Int64.ofInt (x : Int) <<< (c.toInt64 &&& 63)) = Int64.ofInt ((x * 2 ^ k : Nat) : Int) := by
  apply Int64.toBitVec_inj.mp
  rw [Int64.toBitVec_shiftLeft, hc, l_bv, l_bv, BitVec.shiftLeft_eq']
  have h2 : (BitVec.ofNat 64 k).toNat = k := by simp; omega
  rw [h2]
  apply BitVec.eq_of_toNat_eq
  rw [BitVec.toNat_shiftLeft, BitVec.toNat_ofNat, BitVec.toNat_ofNat, Nat.shiftLeft_eq, Nat.mod_mul_mod]
theorem l_shr {x k : Nat} {c : Int32} (hx : x < 9223372036854775808) (hk : k < 64) (hc : (c.toInt64 &&& 63).toBitVec.smod 64 = BitVec.ofNat 64 k) : (Int64.ofInt (x : Int) >>> (c.toInt64 &&& 63)) = Int64.ofInt ((x >>> k : Nat) : Int) := by
  apply Int64.toBitVec_inj.mp
  rw [Int64.toBitVec_shiftRight, hc, l_bv, l_bv]
  have h2 : (BitVec.ofNat 64 k).toNat = k := by simp; omega
  rw [BitVec.sshiftRight_eq', h2, BitVec.sshiftRight_eq_of_msb_false]
  · apply BitVec.eq_of_toNat_eq
    have : x >>> k ≤ x := Nat.shiftRight_le _ _
    simp
    rw [Nat.mod_eq_of_lt (by omega), Nat.mod_eq_of_lt (by omega)]
  · rw [BitVec.msb_eq_false_iff_two_mul_lt]
    simp
    omega
theorem sh_24 : ((Int32.ofInt 24).toInt64 &&& 63).toBitVec.smod 64 = BitVec.ofNat 64 24 := by decide +kernel
theorem sh_27 : ((Int32.ofInt 27).toInt64 &&& 63).toBitVec.smod 64 = BitVec.ofNat 64 27 := by decide +kernel
theorem sh_37 : ((Int32.ofInt 37).toInt64 &&& 63).toBitVec.smod 64 = BitVec.ofNat 64 37 := by decide +kernel
theorem sh_40 : ((Int32.ofInt 40).toInt64 &&& 63).toBitVec.smod 64 = BitVec.ofNat 64 40 := by decide +kernel
theorem pkn_lt {r l m p z : Nat} (h : pok r l m p z) : pkn r l m p z < 9223372036854775808 := by
  unfold pok at h
  unfold pkn
  omega
theorem pk_row {r l m p z : Nat} (h : pok r l m p z) : ((pk r l m p z).toInt32 &&& 16777215) = Int32.ofInt (r : Nat) := by
  unfold pk
  rw [Int64.toInt32_ofInt, show (16777215 : Int32) = Int32.ofInt ((16777215 : Nat) : Int) from rfl, i_and]
  have : pkn r l m p z &&& 16777215 = r := by
    rw [show (16777215 : Nat) = 2 ^ 24 - 1 by decide, Nat.and_two_pow_sub_one_eq_mod]
    unfold pok at h
    unfold pkn
    omega
  rw [this]
theorem pk_len {r l m p z : Nat} (h : pok r l m p z) : (((pk r l m p z) >>> ((Int32.ofInt 24).toInt64 &&& 63)).toInt32 &&& Int32.ofInt 7) = Int32.ofInt (l : Nat) := by
  have hl := pkn_lt h
  unfold pk
  rw [l_shr hl (by omega) sh_24, Int64.toInt32_ofInt, show (7 : Int) = ((7 : Nat) : Int) from rfl, i_and]
  have : pkn r l m p z >>> 24 &&& 7 = l := by
    rw [show (7 : Nat) = 2 ^ 3 - 1 by decide, Nat.and_two_pow_sub_one_eq_mod, Nat.shiftRight_eq_div_pow]
    unfold pok at h
    unfold pkn
    omega
  rw [this]
theorem pk_mem {r l m p z : Nat} (h : pok r l m p z) : (((pk r l m p z) >>> ((Int32.ofInt 27).toInt64 &&& 63)).toInt32 &&& Int32.ofInt 1023) = Int32.ofInt (m : Nat) := by
  have hl := pkn_lt h
  unfold pk
  rw [l_shr hl (by omega) sh_27, Int64.toInt32_ofInt, show (1023 : Int) = ((1023 : Nat) : Int) from rfl, i_and]
  have : pkn r l m p z >>> 27 &&& 1023 = m := by
    rw [show (1023 : Nat) = 2 ^ 10 - 1 by decide, Nat.and_two_pow_sub_one_eq_mod, Nat.shiftRight_eq_div_pow]
    unfold pok at h
    unfold pkn
    omega
  rw [this]
theorem pk_pla {r l m p z : Nat} (h : pok r l m p z) : (((pk r l m p z) >>> ((Int32.ofInt 37).toInt64 &&& 63)).toInt32 &&& Int32.ofInt 7) = Int32.ofInt (p : Nat) := by
  have hl := pkn_lt h
  unfold pk
  rw [l_shr hl (by omega) sh_37, Int64.toInt32_ofInt, show (7 : Int) = ((7 : Nat) : Int) from rfl, i_and]
  have : pkn r l m p z >>> 37 &&& 7 = p := by
    rw [show (7 : Nat) = 2 ^ 3 - 1 by decide, Nat.and_two_pow_sub_one_eq_mod, Nat.shiftRight_eq_div_pow]
    unfold pok at h
    unfold pkn
    omega
  rw [this]
theorem pk_mea {r l m p z : Nat} (h : pok r l m p z) : (((pk r l m p z) >>> ((Int32.ofInt 40).toInt64 &&& 63)).toInt32 - Int32.ofInt 1000) = Int32.ofInt ((z : Int) - 1000) := by
  have hl := pkn_lt h
  unfold pk
  rw [l_shr hl (by omega) sh_40, Int64.toInt32_ofInt, i_sub]
  have : pkn r l m p z >>> 40 = z := by
    rw [Nat.shiftRight_eq_div_pow]
    unfold pok at h
    unfold pkn
    omega
  rw [this]
theorem n_or {a b i : Nat} (h : a < 2 ^ i) : a ||| (b * 2 ^ i) = a + b * 2 ^ i := by
  have := Nat.two_pow_add_eq_or_of_lt h b
  rw [Nat.mul_comm b, Nat.or_comm, ← this, Nat.add_comm]
theorem pk_mk {r l m p : Nat} (h : pok r l m p 0) : (((Int64.ofInt (r : Nat) ||| ((Int32.ofInt (l : Nat)).toInt64 <<< ((Int32.ofInt 24).toInt64 &&& 63))) ||| ((Int32.ofInt (m : Nat)).toInt64 <<< ((Int32.ofInt 27).toInt64 &&& 63))) ||| ((Int32.ofInt (p : Nat)).toInt64 <<< ((Int32.ofInt 37).toInt64 &&& 63))) = pk r l m p 0 := by
  obtain ⟨h1, h2, h3, h4, _⟩ := h
  rw [i_64 (by omega), i_64 (by omega), i_64 (by omega), l_shl (by omega) sh_24, l_shl (by omega) sh_27, l_shl (by omega) sh_37, l_or, l_or, l_or]
  unfold pk pkn
  rw [n_or (i := 24) (by omega), n_or (i := 27) (by omega), n_or (i := 37) (by omega)]
  congr 2
  omega
theorem pk_or {r l m p z : Nat} (h : pok r l m p z) : (pk r l m p 0 ||| ((Int32.ofInt (z : Nat)).toInt64 <<< ((Int32.ofInt 40).toInt64 &&& 63))) = pk r l m p z := by
  obtain ⟨h1, h2, h3, h4, h5⟩ := h
  unfold pk
  rw [i_64 (by omega), l_shl (by omega) sh_40, l_or, n_or (i := 40) (by unfold pkn; omega)]
  unfold pkn
  congr 2
  omega
theorem i_min {x y : Int} (hx : rg x) (hy : rg y) (M : XM) : xmin [.int (Int32.ofInt x), .int (Int32.ofInt y)] M = some (Int32.ofInt (if y < x then y else x), M) := by
  show some ((if Int32.ofInt y < Int32.ofInt x then Int32.ofInt y else Int32.ofInt x), M) = _
  have e : Int32.ofInt y < Int32.ofInt x ↔ y < x := by rw [Int32.lt_iff_toInt_lt, i_toInt hx, i_toInt hy]
  by_cases h : y < x
  · rw [if_pos (e.mpr h), if_pos h]
  · rw [if_neg (fun x => h (e.mp x)), if_neg h]
