theorem SYw_m {c L rm : Nat} {w : Nat → Nat} {M M' : XM} (h : SYw c L rm w M) (hf : ∀ a j, c ≤ a → a ≤ c + 7 → M'.1 a j = M.1 a j) (hl : ∀ j, M'.2 (c + 1) j = M.2 (c + 1) j) : SYw c L rm w M' := by
  obtain ⟨h1, h2, h3, h4, h5, h6, h7⟩ := h
  refine ⟨fun b hb => by rw [hf _ _ (by omega) (by omega)]; exact h1 b hb, h2, fun i q hq => ?_, fun n hn => by rw [hf _ _ (by omega) (by omega)]; exact h4 n hn, h5, by rw [hf _ _ (by omega) (by omega)]; exact h6, by rw [hf _ _ (by omega) (by omega)]; exact h7⟩
  rw [hl]
  exact h3 i q hq
theorem SM_m {c i : Nat} {w : Nat → Nat} {T : List RW} {M M' : XM} (h : SM c w i T M) (hf : ∀ a j, c ≤ a → a ≤ c + 7 → M'.1 a j = M.1 a j) (hl : ∀ j, M'.2 (c + 1) j = M.2 (c + 1) j) : SM c w i T M' := by
  obtain ⟨⟨L, rm, sz, s1, s2, s3, s4, s5⟩, h2⟩ := h
  refine ⟨⟨L, rm, sz, s1, by rw [hf _ _ (by omega) (by omega)]; exact s2, by rw [hf _ _ (by omega) (by omega)]; exact s3, s4, s5⟩, fun j q hj => ?_⟩
  rw [hl]
  exact h2 j q hj
def fk (o : Nat) (M M' : XM) : Prop := M'.1 = M.1 ∧ ∀ a j, a ≠ o + 8 → M'.2 a j = M.2 a j
theorem fk.rf {o : Nat} {M : XM} : fk o M M := ⟨rfl, fun _ _ _ => rfl⟩
theorem fk.tr {o : Nat} {M M' M'' : XM} (h : fk o M M') (h' : fk o M' M'') : fk o M M'' := ⟨h'.1.trans h.1, fun a j h1 => (h'.2 a j h1).trans (h.2 a j h1)⟩
theorem fk.wl {o : Nat} {M M' : XM} (h : fk o M M') {k : Nat} {v : Int64} : fk o M (xwl M' (o + 8) k v) := ⟨h.1, fun a j h1 => by rw [m_wl2, if_neg (by omega)]; exact h.2 a j h1⟩
theorem fk.fr {o : Nat} {M M' : XM} (h : fk o M M') : fr (o + 8) (o + 9) M M' := fun a ha => ⟨by rw [h.1], funext fun j => h.2 a j (by omega)⟩
theorem SYw_k {o L rm : Nat} {w : Nat → Nat} {M M' : XM} (h : SYw o L rm w M) (hf : fk o M M') : SYw o L rm w M' := SYw_m h (fun a j _ _ => by rw [hf.1]) (fun j => hf.2 _ _ (by omega))
theorem SM_k {o i : Nat} {w : Nat → Nat} {T : List RW} {M M' : XM} (h : SM o w i T M) (hf : fk o M M') : SM o w i T M' := SM_m h (fun a j _ _ => by rw [hf.1]) (fun j => hf.2 _ _ (by omega))
theorem i_shr6 {a : Nat} (ha : a < 2147483648) : Int32.ofInt (a : Int) >>> (Int32.ofInt 6 &&& 31) = Int32.ofInt ((a / 64 : Nat) : Int) := by
  apply Int32.toBitVec_inj.mp
  rw [Int32.toBitVec_shiftRight, show (Int32.ofInt 6 &&& 31).toBitVec.smod 32 = BitVec.ofNat 32 6 by decide +kernel, i_bv, i_bv]
  have h2 : (BitVec.ofNat 32 6).toNat = 6 := by decide
  rw [BitVec.sshiftRight_eq', h2, BitVec.sshiftRight_eq_of_msb_false]
  · apply BitVec.eq_of_toNat_eq
    simp
    rw [Nat.shiftRight_eq_div_pow, Nat.mod_eq_of_lt (by omega), Nat.mod_eq_of_lt (by omega)]
  · rw [BitVec.msb_eq_false_iff_two_mul_lt]
    simp
    omega
theorem sh_b {b : Nat} (hb : b < 64) : ((Int32.ofInt (b : Nat)).toInt64 &&& 63).toBitVec.smod 64 = BitVec.ofNat 64 b :=
  (by decide +kernel : ∀ b, b < 64 → ((Int32.ofInt (b : Nat)).toInt64 &&& 63).toBitVec.smod 64 = BitVec.ofNat 64 b) b hb
theorem l_one : (Int64.ofNat 1).toBitVec = 1#64 := by decide +kernel
theorem l_bit {X : Int64} {b : Nat} (hb : b < 64) : xeq (lg_cmp ((X >>> ((Int32.ofInt (b : Nat)).toInt64 &&& 63)) &&& Int64.ofNat 1) (Int64.ofNat 0)) (0 : Int32) = !X.toBitVec.getLsbD b := by
  have h2 : (BitVec.ofNat 64 b).toNat = b := by simp; omega
  have hY : ((X >>> ((Int32.ofInt (b : Nat)).toInt64 &&& 63)) &&& Int64.ofNat 1) = (if X.toBitVec.getLsbD b = true then Int64.ofNat 1 else Int64.ofNat 0) := by
    apply Int64.toBitVec_inj.mp
    rw [Int64.toBitVec_and, Int64.toBitVec_shiftRight, sh_b hb, BitVec.sshiftRight_eq', h2, l_one, BitVec.and_one_eq_setWidth_ofBool_getLsbD, BitVec.getLsbD_sshiftRight, if_pos (by omega), Nat.add_zero, decide_eq_false (by omega), Bool.not_false, Bool.true_and]
    cases X.toBitVec.getLsbD b <;> decide +kernel
  rw [hY]
  cases X.toBitVec.getLsbD b <;> decide +kernel
theorem l_setb {X : Int64} {b k : Nat} (hb : b < 64) (hk : k < 64) : (X ||| ((Int64.ofNat 1) <<< ((Int32.ofInt (b : Nat)).toInt64 &&& 63))).toBitVec.getLsbD k = (X.toBitVec.getLsbD k || decide (k = b)) := by
  have h2 : (BitVec.ofNat 64 b).toNat = b := by simp; omega
  rw [Int64.toBitVec_or, BitVec.getLsbD_or, Int64.toBitVec_shiftLeft, sh_b hb, BitVec.shiftLeft_eq', h2, l_one, BitVec.getLsbD_shiftLeft, BitVec.getLsbD_one, decide_eq_true hk, decide_eq_true (show 0 < 64 by omega), Bool.true_and, Bool.true_and]
  congr 1
  by_cases e : k = b
  · rw [decide_eq_true e, decide_eq_false (by omega), decide_eq_true (by omega)]
    rfl
  · rw [decide_eq_false e]
    by_cases e2 : k < b
    · rw [decide_eq_true e2]
      rfl
    · rw [decide_eq_false (show ¬ k - b = 0 by omega), Bool.and_false]
def MKS (o : Nat) (P : Nat → Bool) (M : XM) : Prop := ∀ j, j < 2001 → (M.2 (o + 8) (j / 64)).toBitVec.getLsbD (j % 64) = P j
theorem v_isNew {N o L rm : Nat} (ho : SO o L rm) {Z : List Int} {M : XM} (h : MKS o (hit Z) M) {z : Int} {j : Nat} (hz : z = (j : Int) - 1000) (hj : j < 2001) : ∃ M', fX4_isNew N [.ref o, .int (Int32.ofInt z)] M = some (bi (!hit Z j), M') ∧ fk o M M' ∧ MKS o (hit (Z ++ [z])) M' := by
  have hh := (ho.xl M).2.2.2
  have upd : ∀ i, hit (Z ++ [z]) i = (hit Z i || decide (i = j)) := fun i => by
    rw [hit_snoc]
    congr 1
    exact decide_eq_decide.mpr (by omega)
  have h63 : (Int32.ofInt (j : Int) &&& Int32.ofInt 63 : Int32) = Int32.ofInt ((j % 64 : Nat) : Int) := by
    rw [show (63 : Int) = ((63 : Nat) : Int) from rfl, i_and, show (63 : Nat) = 2 ^ 6 - 1 by decide, Nat.and_two_pow_sub_one_eq_mod]
  rw [eX4_isNew _ _ _ ho.o, hh, i_add, show z + 1000 = (j : Int) by omega, i_shr6 (by omega), h63, i_inn (by omega), i_natn (by omega), show xlt (Int32.ofInt (j : Int)) (0 : Int32) = false by rw [show (0 : Int32) = Int32.ofInt 0 from rfl, i_lt (by omega) (by omega), decide_eq_false (by omega)], i_lt (by omega) (by omega), decide_eq_true (show ((j / 64 : Nat) : Int) < 32 by omega), decide_eq_true (show j / 64 < 32 by omega), l_bit (by omega), h j hj]
  simp only [cond_true, cond_false]
  cases hP : hit Z j with
  | true =>
    refine ⟨M, rfl, fk.rf, fun i hi => ?_⟩
    rw [h i hi, upd]
    by_cases e : i = j
    · rw [e, hP]
      rfl
    · rw [decide_eq_false e, Bool.or_false]
  | false =>
    refine ⟨_, rfl, fk.rf.wl, fun i hi => ?_⟩
    rw [m_wl2, upd]
    by_cases e : i / 64 = j / 64
    · rw [if_pos ⟨rfl, e⟩, l_setb (by omega) (by omega), ← e, h i hi]
      congr 1
      exact decide_eq_decide.mpr (by omega)
    · rw [if_neg (fun x => e x.2), h i hi, decide_eq_false (by omega), Bool.or_false]
theorem l_forg {N o L rm : Nat} (ho : SO o L rm) : ∀ (d k n : Nat) (M : XM), k + d = 32 → (∀ j, j < k → M.2 (o + 8) j = Int64.ofNat 0) → ∃ M', gX4_forgetMarks N (n + 1 + d) 2 [.ref o, .int (Int32.ofInt k)] [] M = some M' ∧ fk o M M' ∧ ∀ j, j < 32 → M'.2 (o + 8) j = Int64.ofNat 0
  | 0, k, n, M, hk, h => by
    obtain rfl : k = 32 := by omega
    rw [Nat.add_zero, eX4_forgetMarks_2 _ _ _ _ ho.o, i_lt (by omega) (by omega), decide_eq_false (by omega), cond_false]
    exact ⟨M, rfl, fk.rf, h⟩
  | d + 1, k, n, M, hk, h => by
    rw [show n + 1 + (d + 1) = (n + 1 + d) + 1 by omega, eX4_forgetMarks_2 _ _ _ _ ho.o, i_lt (by omega) (by omega), decide_eq_true (by omega), cond_true, (ho.xl M).2.2.2, i_inn (by omega), decide_eq_true (by omega), cond_true, i_natn (by omega), i_suc]
    obtain ⟨M', e1, e2, e3⟩ := l_forg (N := N) ho d (k + 1) n (xwl M (o + 8) k (Int64.ofNat 0)) (by omega) (fun j hj => by
      rw [m_wl2]
      by_cases e : j = k
      · rw [if_pos ⟨rfl, e⟩]
      · rw [if_neg (fun x => e x.2)]; exact h j (by omega))
    exact ⟨M', e1, (fk.rf.wl).tr e2, e3⟩
theorem v_forg {N o L rm : Nat} (hN : 100 < N) (ho : SO o L rm) (M : XM) : ∃ M', fX4_forgetMarks N [.ref o] M = some M' ∧ fk o M M' ∧ MKS o (hit []) M' := by
  obtain ⟨n, hn⟩ : ∃ n, N = n + 1 + 32 := ⟨N - 33, by omega⟩
  obtain ⟨M', e1, e2, e3⟩ := l_forg (N := N) ho 32 0 n M (by omega) (fun j hj => by omega)
  refine ⟨M', ?_, e2, fun j hj => ?_⟩
  · rw [eX4_forgetMarks _ _ ho.o]
    rw [← hn] at e1
    exact e1
  · rw [e3 _ (by omega)]
    have : (Int64.ofNat 0).toBitVec = 0#64 := by decide +kernel
    rw [this, BitVec.getLsbD_zero]
    rfl
theorem l_unl {N : Nat} {o L rm : Nat} (ho : SO o L rm) {R : RV} (hW : Wf R) {h : Nat} (hh : h ≤ L) : ∀ (T : List RW) (i n : Nat) (Z : List Int) (M : XM), SYw o L rm (wR R) M → SM o (wR R) i T M → (∀ q ∈ T, q ∈ VL (wR R) L) → i + T.length = (VL (wR R) h).length → T.length < n → MKS o (hit Z) M → ∃ M', gX4_unlike N n 8 [.ref o, .int (Int32.ofInt h), .int (Int32.ofInt (unl Z)), .int (Int32.ofInt i)] [] M = some (Int32.ofInt (unl (Z ++ T.map (fun q => mean (wR R) q.1))), M') ∧ fk o M M' ∧ MKS o (hit (Z ++ T.map (fun q => mean (wR R) q.1))) M'
  | [], i, n + 1, Z, M, hS, hT, hq, hi, hn, hM => by
    have hL := ho.L
    have := VL_rm hS hh
    simp only [List.length_nil] at hi
    rw [eX4_unlike_8 _ _ _ _ _ _ ho.o, v_upTo ho hS (by omega), e_bd, Nat.min_eq_left hh]
    dsimp only
    rw [i_lt (by omega) (by omega), decide_eq_false (by omega), List.map_nil, List.append_nil]
    exact ⟨M, rfl, fk.rf, hM⟩
  | q :: T, i, n + 1, Z, M, hS, hT, hq, hi, hn, hM => by
    have hL := ho.L
    have hrm := VL_rm hS hh
    simp only [List.length_cons] at hi hn
    obtain ⟨m1, m2, m3, m4, m5⟩ := SM_t hT
    have hqq := hq q List.mem_cons_self
    obtain ⟨v1, v2, v3, v4, v5⟩ := VL_row hW hqq
    have hb := mean_b hW v1 (by omega)
    rw [← wR_wM] at hb
    obtain ⟨j, hj⟩ := Int.eq_ofNat_of_zero_le (show 0 ≤ mean (wR R) q.1 + 1000 by omega)
    have hz : mean (wR R) q.1 = (j : Int) - 1000 := by omega
    obtain ⟨M1, e1, e2, e3⟩ := v_isNew (N := N) ho hM hz (by omega)
    obtain ⟨M2, g1, g2, g3⟩ := l_unl (N := N) ho hW hh T (i + 1) n (Z ++ [mean (wR R) q.1]) M1 (SYw_k hS e2) (SM_k m5 e2) (fun x hx => hq x (List.mem_cons_of_mem _ hx)) (by omega) (by omega) e3
    rw [List.append_assoc] at g1 g3
    refine ⟨M2, ?_, e2.tr g2, g3⟩
    rw [eX4_unlike_8 _ _ _ _ _ _ ho.o, v_upTo ho hS (by omega), e_bd, Nat.min_eq_left hh]
    dsimp only
    rw [i_lt (by omega) (by omega), decide_eq_true (by omega), cond_true, m4, e_bd]
    dsimp only
    rw [e1, e_bd, b_z]
    rw [unl_snoc hz (by omega)] at g1
    simp only [i_suc, i_add]
    rw [List.map_cons, show mean (wR R) q.1 :: T.map (fun q => mean (wR R) q.1) = [mean (wR R) q.1] ++ T.map (fun q => mean (wR R) q.1) from rfl, ← g1]
    cases hit Z j with
    | true => rfl
    | false => rfl
theorem i_max {x y : Int} (hx : rg x) (hy : rg y) (M : XM) : xmax [.int (Int32.ofInt x), .int (Int32.ofInt y)] M = some (Int32.ofInt (if x < y then y else x), M) := by
  show some ((if Int32.ofInt x < Int32.ofInt y then Int32.ofInt y else Int32.ofInt x), M) = _
  have e : Int32.ofInt x < Int32.ofInt y ↔ x < y := by rw [Int32.lt_iff_toInt_lt, i_toInt hx, i_toInt hy]
  by_cases h : x < y
  · rw [if_pos (e.mpr h), if_pos h]
  · rw [if_neg (fun x => h (e.mp x)), if_neg h]
def ab (x : Int) : Int := if 0 ≤ x then x else 0 - x
theorem i_abs {x : Int} (hx : -2147483647 ≤ x ∧ x < 2147483648) (M : XM) : xabs [.int (Int32.ofInt x)] M = some (Int32.ofInt (ab x), M) := by
  show some ((if 0 ≤ Int32.ofInt x then Int32.ofInt x else 0 - Int32.ofInt x), M) = _
  have e : (0 : Int32) ≤ Int32.ofInt x ↔ 0 ≤ x := by rw [show (0 : Int32) = Int32.ofInt 0 from rfl, Int32.le_iff_toInt_le, i_toInt (by omega), i_toInt (by omega)]
  unfold ab
  by_cases h : 0 ≤ x
  · rw [if_pos (e.mpr h), if_pos h]
  · rw [if_neg (fun x => h (e.mp x)), if_neg h, show (0 : Int32) = Int32.ofInt 0 from rfl, i_sub]
def b9 (x : Int) : Prop := -900 ≤ x ∧ x ≤ 900
theorem VL_b9 {R : RV} (hW : Wf R) {L : Nat} (hL : L ≤ 6) {q : RW} (h : q ∈ VL (wR R) L) : b9 (mean (wR R) q.1) := by
  obtain ⟨v1, v2, _⟩ := VL_row hW h
  have hb := mean_b hW v1 (by omega)
  rw [← wR_wM] at hb
  exact hb
set_option maxRecDepth 100000 in
theorem l_leas {N : Nat} {o L rm : Nat} (ho : SO o L rm) {R : RV} (hW : Wf R) {M : XM} (hS : SYw o L rm (wR R) M) {h : Nat} (hh : h ≤ L) : ∀ (T : List RW) (i n : Nat) (x : Int), b9 x → SM o (wR R) i T M → (∀ q ∈ T, q ∈ VL (wR R) L) → i + T.length = (VL (wR R) h).length → T.length < n → ∃ r, gX4_least N n 20 [.ref o, .int (Int32.ofInt h), .int (Int32.ofInt x), .int (Int32.ofInt i)] [] M = some (Int32.ofInt r, M) ∧ (r = x ∨ r ∈ T.map (fun q => mean (wR R) q.1)) ∧ r ≤ x ∧ ∀ z ∈ T.map (fun q => mean (wR R) q.1), r ≤ z
  | [], i, n + 1, x, hx, hT, hq, hi, hn => by
    have hL := ho.L
    have := VL_rm hS hh
    simp only [List.length_nil] at hi
    rw [eX4_least_20 _ _ _ _ _ _ ho.o, v_upTo ho hS (by omega), e_bd, Nat.min_eq_left hh]
    dsimp only
    rw [i_lt (by omega) (by omega), decide_eq_false (by omega)]
    exact ⟨x, rfl, .inl rfl, Int.le_refl _, fun z hz => by simp at hz⟩
  | q :: T, i, n + 1, x, hx, hT, hq, hi, hn => by
    have hL := ho.L
    have hrm := VL_rm hS hh
    simp only [List.length_cons] at hi hn
    obtain ⟨m1, m2, m3, m4, m5⟩ := SM_t hT
    have hb := VL_b9 hW hL.1 (hq q List.mem_cons_self)
    unfold b9 at hb hx
    rw [eX4_least_20 _ _ _ _ _ _ ho.o, v_upTo ho hS (by omega), e_bd, Nat.min_eq_left hh]
    dsimp only
    rw [i_lt (by omega) (by omega), decide_eq_true (by omega), cond_true, m4, e_bd]
    dsimp only
    rw [i_min (by omega) (by omega), e_bd, i_suc]
    obtain ⟨r, r1, r2, r3, r4⟩ := l_leas (N := N) ho hW hS hh T (i + 1) n (if mean (wR R) q.1 < x then mean (wR R) q.1 else x) (by unfold b9; split <;> omega) m5 (fun y hy => hq y (List.mem_cons_of_mem _ hy)) (by omega) (by omega)
    refine ⟨r, r1, ?_, ?_, ?_⟩
    · rw [List.map_cons]
      rcases r2 with r2 | r2
      · by_cases e : mean (wR R) q.1 < x
        · rw [if_pos e] at r2; exact .inr (by rw [r2]; exact List.mem_cons_self)
        · rw [if_neg e] at r2; exact .inl r2
      · exact .inr (List.mem_cons_of_mem _ r2)
    · split at r3 <;> omega
    · intro z hz
      rw [List.map_cons] at hz
      rcases List.mem_cons.mp hz with rfl | hz
      · split at r3 <;> omega
      · exact r4 z hz
set_option maxRecDepth 100000 in
theorem l_grea {N : Nat} {o L rm : Nat} (ho : SO o L rm) {R : RV} (hW : Wf R) {M : XM} (hS : SYw o L rm (wR R) M) {h : Nat} (hh : h ≤ L) : ∀ (T : List RW) (i n : Nat) (x : Int), b9 x → SM o (wR R) i T M → (∀ q ∈ T, q ∈ VL (wR R) L) → i + T.length = (VL (wR R) h).length → T.length < n → ∃ r, gX4_greatest N n 20 [.ref o, .int (Int32.ofInt h), .int (Int32.ofInt x), .int (Int32.ofInt i)] [] M = some (Int32.ofInt r, M) ∧ (r = x ∨ r ∈ T.map (fun q => mean (wR R) q.1)) ∧ x ≤ r ∧ ∀ z ∈ T.map (fun q => mean (wR R) q.1), z ≤ r
  | [], i, n + 1, x, hx, hT, hq, hi, hn => by
    have hL := ho.L
    have := VL_rm hS hh
    simp only [List.length_nil] at hi
    rw [eX4_greatest_20 _ _ _ _ _ _ ho.o, v_upTo ho hS (by omega), e_bd, Nat.min_eq_left hh]
    dsimp only
    rw [i_lt (by omega) (by omega), decide_eq_false (by omega)]
    exact ⟨x, rfl, .inl rfl, Int.le_refl _, fun z hz => by simp at hz⟩
  | q :: T, i, n + 1, x, hx, hT, hq, hi, hn => by
    have hL := ho.L
    have hrm := VL_rm hS hh
    simp only [List.length_cons] at hi hn
    obtain ⟨m1, m2, m3, m4, m5⟩ := SM_t hT
    have hb := VL_b9 hW hL.1 (hq q List.mem_cons_self)
    unfold b9 at hb hx
    rw [eX4_greatest_20 _ _ _ _ _ _ ho.o, v_upTo ho hS (by omega), e_bd, Nat.min_eq_left hh]
    dsimp only
    rw [i_lt (by omega) (by omega), decide_eq_true (by omega), cond_true, m4, e_bd]
    dsimp only
    rw [i_max (by omega) (by omega), e_bd, i_suc]
    obtain ⟨r, r1, r2, r3, r4⟩ := l_grea (N := N) ho hW hS hh T (i + 1) n (if x < mean (wR R) q.1 then mean (wR R) q.1 else x) (by unfold b9; split <;> omega) m5 (fun y hy => hq y (List.mem_cons_of_mem _ hy)) (by omega) (by omega)
    refine ⟨r, r1, ?_, ?_, ?_⟩
    · rw [List.map_cons]
      rcases r2 with r2 | r2
      · by_cases e : x < mean (wR R) q.1
        · rw [if_pos e] at r2; exact .inr (by rw [r2]; exact List.mem_cons_self)
        · rw [if_neg e] at r2; exact .inl r2
      · exact .inr (List.mem_cons_of_mem _ r2)
    · split at r3 <;> omega
    · intro z hz
      rw [List.map_cons] at hz
      rcases List.mem_cons.mp hz with rfl | hz
      · split at r3 <;> omega
      · exact r4 z hz
def near (Z : List Int) (m r : Int) : Prop := r ∈ Z ∧ ∀ z ∈ Z, ab (r - m) < ab (z - m) ∨ (ab (r - m) = ab (z - m) ∧ r ≤ z)
theorem near_u {Z : List Int} {m r s : Int} (h1 : near Z m r) (h2 : near Z m s) : r = s := by
  have a := h1.2 s h2.1
  have b := h2.2 r h1.1
  omega
theorem near_s {Z : List Int} {m r z : Int} (h : near Z m r) : near (Z ++ [z]) m (if ab (z - m) < ab (r - m) ∨ (ab (z - m) = ab (r - m) ∧ z < r) then z else r) := by
  by_cases e : ab (z - m) < ab (r - m) ∨ (ab (z - m) = ab (r - m) ∧ z < r)
  · rw [if_pos e]
    refine ⟨List.mem_append_right _ (by simp), fun y hy => ?_⟩
    rcases List.mem_append.mp hy with hy | hy
    · have := h.2 y hy
      omega
    · simp at hy
      subst hy
      exact .inr ⟨rfl, Int.le_refl _⟩
  · rw [if_neg e]
    refine ⟨List.mem_append_left _ h.1, fun y hy => ?_⟩
    rcases List.mem_append.mp hy with hy | hy
    · exact h.2 y hy
    · simp at hy
      subst hy
      omega
theorem near_ex (m : Int) : ∀ Z : List Int, Z ≠ [] → ∃ r, near Z m r := by
  intro Z
  suffices h : ∀ n, ∀ Z : List Int, Z.length = n + 1 → ∃ r, near Z m r by
    intro hz
    cases Z with
    | nil => exact absurd rfl hz
    | cons a Z => exact h Z.length (a :: Z) rfl
  intro n
  induction n with
  | zero =>
    intro Z hl
    match Z, hl with
    | [a], _ => exact ⟨a, List.mem_cons_self, fun z hz => by simp at hz; subst hz; exact .inr ⟨rfl, Int.le_refl _⟩⟩
  | succ n ih =>
    intro Z hl
    rcases List.eq_nil_or_concat Z with h | ⟨Z', z, h⟩
    · subst h; simp at hl
    · rw [List.concat_eq_append] at h
      subst h
      obtain ⟨r, hr⟩ := ih Z' (by simp at hl; omega)
      exact ⟨_, near_s hr⟩
theorem ab_b {x : Int} (h : -20000 ≤ x ∧ x ≤ 20000) : 0 ≤ ab x ∧ ab x ≤ 20000 := by
  unfold ab
  split <;> omega
set_option maxRecDepth 100000 in
theorem l_clos {N : Nat} {o L rm : Nat} (ho : SO o L rm) {R : RV} (hW : Wf R) {M : XM} (hS : SYw o L rm (wR R) M) {h : Nat} (hh : h ≤ L) {y : Int} (hy : -9999 ≤ y ∧ y ≤ 9999) : ∀ (T : List RW) (i n : Nat) (x : Int) (Z : List Int), b9 x → near Z y x → SM o (wR R) i T M → (∀ q ∈ T, q ∈ VL (wR R) L) → i + T.length = (VL (wR R) h).length → T.length < n → ∃ r, gX4_closest N n 21 [.ref o, .int (Int32.ofInt h), .int (Int32.ofInt y), .int (Int32.ofInt x), .int (Int32.ofInt i), .retAddr 0, .retAddr 0] [] M = some (Int32.ofInt r, M) ∧ near (Z ++ T.map (fun q => mean (wR R) q.1)) y r
  | [], i, n + 1, x, Z, hx, hne, hT, hq, hi, hn => by
    have hL := ho.L
    have := VL_rm hS hh
    simp only [List.length_nil] at hi
    rw [eX4_closest_21 _ _ _ _ _ _ _ ho.o, v_upTo ho hS (by omega), e_bd, Nat.min_eq_left hh]
    dsimp only
    rw [i_lt (by omega) (by omega), decide_eq_false (by omega)]
    exact ⟨x, rfl, by rw [List.map_nil, List.append_nil]; exact hne⟩
  | q :: T, i, n + 1, x, Z, hx, hne, hT, hq, hi, hn => by
    have hL := ho.L
    have hrm := VL_rm hS hh
    simp only [List.length_cons] at hi hn
    obtain ⟨m1, m2, m3, m4, m5⟩ := SM_t hT
    have hb := VL_b9 hW hL.1 (hq q List.mem_cons_self)
    have hs := near_s (z := mean (wR R) q.1) hne
    have hb2 : b9 (if ab (mean (wR R) q.1 - y) < ab (x - y) ∨ (ab (mean (wR R) q.1 - y) = ab (x - y) ∧ mean (wR R) q.1 < x) then mean (wR R) q.1 else x) := by split <;> assumption
    have ih := l_clos (N := N) ho hW hS hh hy T (i + 1) n _ _ hb2 hs m5 (fun y hy => hq y (List.mem_cons_of_mem _ hy)) (by omega) (by omega)
    rw [List.append_assoc] at ih
    unfold b9 at hb hx
    have c1 := ab_b (x := mean (wR R) q.1 - y) (by omega)
    have c2 := ab_b (x := x - y) (by omega)
    rw [eX4_closest_21 _ _ _ _ _ _ _ ho.o, v_upTo ho hS (by omega), e_bd, Nat.min_eq_left hh]
    dsimp only
    rw [i_lt (by omega) (by omega), decide_eq_true (by omega), cond_true, m4, e_bd]
    dsimp only
    rw [i_sub, i_abs (by omega), e_bd]
    dsimp only
    rw [i_sub, i_abs (by omega), e_bd, i_suc]
    dsimp only
    rw [i_lt (by omega) (by omega), i_eq (by omega) (by omega), m4, e_bd, e_bd]
    dsimp only
    rw [i_lt (by omega) (by omega), m4, e_bd]
    dsimp only
    rw [List.map_cons]
    by_cases e1 : ab (mean (wR R) q.1 - y) < ab (x - y)
    · rw [if_pos (.inl e1)] at ih
      rw [decide_eq_true e1, cond_true]
      exact ih
    · rw [decide_eq_false e1, cond_false]
      by_cases e2 : ab (mean (wR R) q.1 - y) = ab (x - y)
      · rw [decide_eq_true e2, cond_true]
        by_cases e3 : mean (wR R) q.1 < x
        · rw [if_pos (.inr ⟨e2, e3⟩)] at ih
          rw [decide_eq_true e3, cond_true]
          exact ih
        · rw [if_neg (by omega)] at ih
          rw [decide_eq_false e3, cond_false]
          exact ih
      · rw [if_neg (by omega)] at ih
        rw [decide_eq_false e2, cond_false]
        exact ih
