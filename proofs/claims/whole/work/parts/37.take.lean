theorem m_cp (M : XM) (a b n c k : Nat) : (xcpi M a b 0 0 n).1 c k = if c = b then (if k < n then M.1 a k else M.1 b k) else M.1 c k := by
  show (if c = b then va_cpy (M.1 a) (M.1 b) 0 0 n k else M.1 c k) = _
  unfold va_cpy
  by_cases e : c = b
  · rw [if_pos e, if_pos e]
    by_cases h : k < n
    · rw [if_pos (by omega), if_pos h, show 0 + (k - 0) = k by omega]
    · rw [if_neg (by omega), if_neg h]
  · rw [if_neg e, if_neg e]
theorem m_cp_ne (M : XM) {a b n c k : Nat} (h : ¬ c = b) : (xcpi M a b 0 0 n).1 c k = M.1 c k := by rw [m_cp, if_neg h]
theorem m_cp_eq (M : XM) {a b n k : Nat} (h : k < n) : (xcpi M a b 0 0 n).1 b k = M.1 a k := by rw [m_cp, if_pos rfl, if_pos h]
theorem m_ne (M : XM) {c k a j : Nat} {v : Int32} (h : ¬ (a = c ∧ j = k)) : (xwi M c k v).1 a j = M.1 a j := by rw [m_wi, if_neg h]
theorem m_eq (M : XM) {c k : Nat} {v : Int32} : (xwi M c k v).1 c k = v := by rw [m_wi, if_pos ⟨rfl, rfl⟩]
theorem m_cp2 (M : XM) (a b n : Nat) : (xcpi M a b 0 0 n).2 = M.2 := rfl
theorem x_cp {a b n : Nat} (ha : Nat.beq (xak a) 1 = true) (hb : Nat.beq (xak b) 1 = true) (hn : n < 100) (h1 : n ≤ xal a) (h2 : n ≤ xal b) (M : XM) : xcopy [.ref a, .int (Int32.ofInt 0), .ref b, .int (Int32.ofInt 0), .int (Int32.ofInt n)] M = some (xcpi M a b 0 0 n) := by
  have h0 : (Int32.ofInt 0).toNatClampNeg = 0 := rfl
  have hnn : (Int32.ofInt (n : Nat)).toNatClampNeg = n := i_natn (by omega)
  have hlt : ¬ Int32.ofInt (n : Nat) < 0 := by
    rw [show (0 : Int32) = Int32.ofInt 0 from rfl, Int32.lt_iff_toInt_lt, i_toInt (by omega), i_toInt (by omega)]
    omega
  show (bif (Nat.beq (xak a) 1 && Nat.beq (xak b) 1) then (if Int32.ofInt 0 < 0 then none else if Int32.ofInt 0 < 0 then none else if Int32.ofInt (n : Nat) < 0 then none else if (Int32.ofInt 0).toNatClampNeg + (Int32.ofInt (n : Nat)).toNatClampNeg ≤ xal a then (if (Int32.ofInt 0).toNatClampNeg + (Int32.ofInt (n : Nat)).toNatClampNeg ≤ xal b then some (xcpi M a b (Int32.ofInt 0).toNatClampNeg (Int32.ofInt 0).toNatClampNeg (Int32.ofInt (n : Nat)).toNatClampNeg) else none) else none) else _) = _
  have h00 : ¬ Int32.ofInt 0 < 0 := by decide
  rw [ha, hb, h0, hnn, if_neg h00, if_neg h00, if_neg hlt, if_pos (by omega), if_pos (by omega)]
  rfl
theorem po_ak {o : Nat} (h : PO o) : ∀ i, 1 ≤ i → i ≤ 6 → Nat.beq (xak (o + i)) 1 = true := by
  intro i h1 h2
  rcases h with rfl | rfl | rfl <;> (match i, h1, h2 with | 1, _, _ | 2, _, _ | 3, _, _ | 4, _, _ | 5, _, _ | 6, _, _ => rfl)
theorem po_al {o : Nat} (h : PO o) : xal (o + 1) = 16 ∧ xal (o + 2) = 16 ∧ xal (o + 3) = 16 ∧ xal (o + 4) = 16 ∧ xal (o + 5) = 16 ∧ xal (o + 6) = 8 := by
  rcases h with rfl | rfl | rfl <;> exact ⟨rfl, rfl, rfl, rfl, rfl, rfl⟩
theorem fr_cp {lo hi a b n : Nat} {M M' : XM} (h : fr lo hi M M') (h1 : lo ≤ b) (h2 : b < hi) : fr lo hi M (xcpi M' a b 0 0 n) := fun c hc => by
  refine ⟨?_, (h c hc).2⟩
  rw [← (h c hc).1]
  funext k
  rw [m_cp, if_neg (by omega)]
theorem v_take {N o p : Nat} (ho : PO o) (hp : PO p) (hne : o ≠ p) {R : RV} {M : XM} (hR : cv p R M) (hW : Wf R) : ∃ M', fX3_takeFrom N [.ref o, .ref p] M = some M' ∧ cv o R M' ∧ fr o (o + 7) M M' := by
  have h10 := hW.1
  have h8 := hW.2.2.1
  have ak := po_ak ho
  have pk := po_ak hp
  obtain ⟨a1, a2, a3, a4, a5, a6⟩ := po_al ho
  obtain ⟨b1, b2, b3, b4, b5, b6⟩ := po_al hp
  have hd : o + 7 ≤ p ∨ p + 7 ≤ o := by unfold PO at ho hp; omega
  have c1 : ∀ M, xcopy [.ref (p + 1), .int (Int32.ofInt 0), .ref (o + 1), .int (Int32.ofInt 0), .int (Int32.ofInt 16)] M = some (xcpi M (p + 1) (o + 1) 0 0 16) := fun M => x_cp (n := 16) (pk 1 (by omega) (by omega)) (ak 1 (by omega) (by omega)) (by omega) (by omega) (by omega) M
  have c2 : ∀ M, xcopy [.ref (p + 2), .int (Int32.ofInt 0), .ref (o + 2), .int (Int32.ofInt 0), .int (Int32.ofInt 16)] M = some (xcpi M (p + 2) (o + 2) 0 0 16) := fun M => x_cp (n := 16) (pk 2 (by omega) (by omega)) (ak 2 (by omega) (by omega)) (by omega) (by omega) (by omega) M
  have c3 : ∀ M, xcopy [.ref (p + 3), .int (Int32.ofInt 0), .ref (o + 3), .int (Int32.ofInt 0), .int (Int32.ofInt 16)] M = some (xcpi M (p + 3) (o + 3) 0 0 16) := fun M => x_cp (n := 16) (pk 3 (by omega) (by omega)) (ak 3 (by omega) (by omega)) (by omega) (by omega) (by omega) M
  have c4 : ∀ M, xcopy [.ref (p + 4), .int (Int32.ofInt 0), .ref (o + 4), .int (Int32.ofInt 0), .int (Int32.ofInt 16)] M = some (xcpi M (p + 4) (o + 4) 0 0 16) := fun M => x_cp (n := 16) (pk 4 (by omega) (by omega)) (ak 4 (by omega) (by omega)) (by omega) (by omega) (by omega) M
  have c5 : ∀ M, xcopy [.ref (p + 5), .int (Int32.ofInt 0), .ref (o + 5), .int (Int32.ofInt 0), .int (Int32.ofInt 16)] M = some (xcpi M (p + 5) (o + 5) 0 0 16) := fun M => x_cp (n := 16) (pk 5 (by omega) (by omega)) (ak 5 (by omega) (by omega)) (by omega) (by omega) (by omega) M
  have c6 : ∀ M, xcopy [.ref (p + 6), .int (Int32.ofInt 0), .ref (o + 6), .int (Int32.ofInt 0), .int (Int32.ofInt 8)] M = some (xcpi M (p + 6) (o + 6) 0 0 8) := fun M => x_cp (n := 8) (pk 6 (by omega) (by omega)) (ak 6 (by omega) (by omega)) (by omega) (by omega) (by omega) M
  rw [eX3_takeFrom _ _ _ ho hp]
  simp only [c1, c2, c3, c4, c5, c6, e_bd, e_V]
  obtain ⟨r1, r2, r3, r4, r5, r6, r7⟩ := hR
  refine ⟨_, rfl, ⟨?_, ?_, ?_, ?_, ?_, fun b hb => ⟨?_, ?_, ?_, ?_, ?_⟩, fun i hi => ?_⟩, ?_⟩
  · simp (disch := omega) only [m_ne, m_eq, m_cp_ne, m_cp_eq]
    exact r1
  · simp (disch := omega) only [m_ne, m_eq, m_cp_ne, m_cp_eq]
    exact r2
  · simp (disch := omega) only [m_ne, m_eq, m_cp_ne, m_cp_eq]
    exact r3
  · simp (disch := omega) only [m_ne, m_eq, m_cp_ne, m_cp_eq]
    exact r4
  · simp (disch := omega) only [m_ne, m_eq, m_cp_ne, m_cp_eq]
    exact r5
  · simp (disch := omega) only [m_ne, m_eq, m_cp_ne, m_cp_eq]
    exact (r6 b hb).1
  · simp (disch := omega) only [m_ne, m_eq, m_cp_ne, m_cp_eq]
    exact (r6 b hb).2.1
  · simp (disch := omega) only [m_ne, m_eq, m_cp_ne, m_cp_eq]
    exact (r6 b hb).2.2.1
  · simp (disch := omega) only [m_ne, m_eq, m_cp_ne, m_cp_eq]
    exact (r6 b hb).2.2.2.1
  · simp (disch := omega) only [m_ne, m_eq, m_cp_ne, m_cp_eq]
    exact (r6 b hb).2.2.2.2
  · simp (disch := omega) only [m_ne, m_eq, m_cp_ne, m_cp_eq]
    exact r7 i hi
  · exact ((fr_cp ((fr_cp (fr_cp (fr_cp (fr_cp (fr_cp ((fr.rf.wi (by omega) (by omega)).wi (by omega) (by omega)) (by omega) (by omega)) (by omega) (by omega)) (by omega) (by omega)) (by omega) (by omega)) (by omega) (by omega)).wi (by omega) (by omega)) (by omega) (by omega)).wi (by omega) (by omega)).wi (by omega) (by omega)
def lvv (x : Int32) : Int32 := bif xeq x 0 then Int32.ofInt 0 else Int32.ofInt 1
def lva (x : Int32) : Int32 := bif xeq x (Int32.ofInt 1) then Int32.ofInt 1 else Int32.ofInt 0
def K6 (M : XM) (p k : Nat) : XM := xwi (xwi (xwi (xwi (xwi (xwi M p k (M.1 65 k)) p (10 + k) (M.1 66 k)) p (20 + k) (M.1 67 k)) p (30 + k) (M.1 68 k)) p (40 + k) (M.1 69 k)) p (50 + k) (lvv (M.1 70 k))
theorem i_plus (a k : Nat) : Int32.ofInt (a : Int) + Int32.ofInt k = Int32.ofInt ((a + k : Nat) : Int) := by rw [i_add]; rfl
theorem s_keep {N n p k : Nat} (hp : p = 77 ∨ p = 78) (hk : k < 10) (M : XM) : gX9_keep N (n + 1) 2 [.ref 64, .ref p, .int (Int32.ofInt k)] [] M = gX9_keep N n 2 [.ref 64, .ref p, .int (Int32.ofInt ((k + 1 : Nat) : Int))] [] (K6 M p k) := by
  have hx : ∀ M, xlen M p = 72 := fun M => by rcases hp with rfl | rfl <;> rfl
  have x65 : ∀ M i, 65 ≤ i → i ≤ 70 → xlen M i = 11 := fun M i h1 h2 => by
    rcases (show i = 65 ∨ i = 66 ∨ i = 67 ∨ i = 68 ∨ i = 69 ∨ i = 70 by omega) with rfl | rfl | rfl | rfl | rfl | rfl <;> rfl
  have h1 : Int32.ofInt 10 + Int32.ofInt k = Int32.ofInt ((10 + k : Nat) : Int) := i_plus 10 k
  have h2 : Int32.ofInt 20 + Int32.ofInt k = Int32.ofInt ((20 + k : Nat) : Int) := i_plus 20 k
  have h3 : Int32.ofInt 30 + Int32.ofInt k = Int32.ofInt ((30 + k : Nat) : Int) := i_plus 30 k
  have h4 : Int32.ofInt 40 + Int32.ofInt k = Int32.ofInt ((40 + k : Nat) : Int) := i_plus 40 k
  have h5 : Int32.ofInt 50 + Int32.ofInt k = Int32.ofInt ((50 + k : Nat) : Int) := i_plus 50 k
  rw [eX9_keep_2 _ _ _ _ hp, i_lt (by omega) (by omega), decide_eq_true (by omega), cond_true]
  simp (disch := omega) only [Nat.reduceAdd, h1, h2, h3, h4, h5, hx, x65, i_inn, i_natn, decide_eq_true, cond_true, m_ne, i_suc]
  unfold K6 lvv
  cases xeq (M.1 70 k) 0 <;> rfl
theorem l_keep9 {N p : Nat} (hp : p = 77 ∨ p = 78) {M0 : XM} : ∀ (d k n : Nat) (M : XM), k + d = 10 → (∀ a, a ≠ p → M.1 a = M0.1 a) → M.2 = M0.2 → (∀ b, b < k → M.1 p b = M0.1 65 b ∧ M.1 p (10 + b) = M0.1 66 b ∧ M.1 p (20 + b) = M0.1 67 b ∧ M.1 p (30 + b) = M0.1 68 b ∧ M.1 p (40 + b) = M0.1 69 b ∧ M.1 p (50 + b) = lvv (M0.1 70 b)) → ∃ M', gX9_keep N (n + 1 + d) 2 [.ref 64, .ref p, .int (Int32.ofInt k)] [] M = gX9_keep N n 93 [.ref 64, .ref p, .int (Int32.ofInt 0)] [] M' ∧ (∀ a, a ≠ p → M'.1 a = M0.1 a) ∧ M'.2 = M0.2 ∧ ∀ b, b < 10 → M'.1 p b = M0.1 65 b ∧ M'.1 p (10 + b) = M0.1 66 b ∧ M'.1 p (20 + b) = M0.1 67 b ∧ M'.1 p (30 + b) = M0.1 68 b ∧ M'.1 p (40 + b) = M0.1 69 b ∧ M'.1 p (50 + b) = lvv (M0.1 70 b)
  | 0, k, n, M, hk, h1, h2, h3 => by
    obtain rfl : k = 10 := by omega
    refine ⟨M, ?_, h1, h2, h3⟩
    rw [Nat.add_zero, eX9_keep_2 _ _ _ _ hp, i_lt (by omega) (by omega), decide_eq_false (by omega), cond_false]
  | d + 1, k, n, M, hk, h1, h2, h3 => by
    have hK : ∀ a j, (K6 M p k).1 a j = if a = p ∧ j = 50 + k then lvv (M.1 70 k) else if a = p ∧ j = 40 + k then M.1 69 k else if a = p ∧ j = 30 + k then M.1 68 k else if a = p ∧ j = 20 + k then M.1 67 k else if a = p ∧ j = 10 + k then M.1 66 k else if a = p ∧ j = k then M.1 65 k else M.1 a j := fun a j => rfl
    rw [show n + 1 + (d + 1) = n + 1 + d + 1 by omega, s_keep hp (by omega)]
    refine l_keep9 hp d (k + 1) n (K6 M p k) (by omega) (fun a ha => ?_) h2 (fun b hb => ?_)
    · rw [← h1 a ha]
      funext j
      simp (disch := omega) only [hK, if_neg]
    · rw [← h1 65 (by omega), ← h1 66 (by omega), ← h1 67 (by omega), ← h1 68 (by omega), ← h1 69 (by omega), ← h1 70 (by omega)]
      by_cases e : b = k
      · subst e
        refine ⟨?_, ?_, ?_, ?_, ?_, ?_⟩ <;> simp (disch := omega) only [hK, if_neg, and_self, if_true]
      · have := h3 b (by omega)
        rw [← h1 65 (by omega), ← h1 66 (by omega), ← h1 67 (by omega), ← h1 68 (by omega), ← h1 69 (by omega), ← h1 70 (by omega)] at this
        refine ⟨?_, ?_, ?_, ?_, ?_, ?_⟩ <;> simp (disch := omega) only [hK, if_neg]
        · exact this.1
        · exact this.2.1
        · exact this.2.2.1
        · exact this.2.2.2.1
        · exact this.2.2.2.2.1
        · exact this.2.2.2.2.2
theorem l_keepn {N p : Nat} (hp : p = 77 ∨ p = 78) {M0 : XM} : ∀ (d k n : Nat) (M : XM), k + d = 8 → d < n → (∀ a, a ≠ p → M.1 a = M0.1 a) → M.2 = M0.2 → (∀ i, i < k → M.1 p (60 + i) = M0.1 71 i) → ∃ M', gX9_keep N n 93 [.ref 64, .ref p, .int (Int32.ofInt k)] [] M = some M' ∧ (∀ a, a ≠ p → M'.1 a = M0.1 a) ∧ M'.2 = M0.2 ∧ (∀ j, j < 60 → M'.1 p j = M.1 p j) ∧ (∀ i, i < 8 → M'.1 p (60 + i) = M0.1 71 i) ∧ M'.1 p 68 = M0.1 64 0 ∧ M'.1 p 69 = M0.1 64 7 ∧ M'.1 p 70 = M0.1 64 9 ∧ M'.1 p 71 = M0.1 64 10
  | 0, k, n + 1, M, hk, hn, h1, h2, h3 => by
    obtain rfl : k = 8 := by omega
    have hx : ∀ M, xlen M p = 72 := fun M => by rcases hp with rfl | rfl <;> rfl
    have i1 : ∀ z : Nat, z < 72 → xin (Int32.ofInt z) 72 = true := fun z hz => by rw [i_inn (by omega), decide_eq_true hz]
    have n1 : (Int32.ofInt 68).toNatClampNeg = 68 ∧ (Int32.ofInt 69).toNatClampNeg = 69 ∧ (Int32.ofInt 70).toNatClampNeg = 70 ∧ (Int32.ofInt 71).toNatClampNeg = 71 := ⟨rfl, rfl, rfl, rfl⟩
    have j1 : xin (Int32.ofInt 68) 72 = true ∧ xin (Int32.ofInt 69) 72 = true ∧ xin (Int32.ofInt 70) 72 = true ∧ xin (Int32.ofInt 71) 72 = true := ⟨i1 68 (by omega), i1 69 (by omega), i1 70 (by omega), i1 71 (by omega)⟩
    rw [eX9_keep_93 _ _ _ _ hp, i_lt (by omega) (by omega), decide_eq_false (by omega), cond_false]
    simp (disch := omega) only [hx, j1.1, j1.2.1, j1.2.2.1, j1.2.2.2, cond_true, n1.1, n1.2.1, n1.2.2.1, n1.2.2.2, m_wi, if_neg, e_V]
    rw [← h1 64 (by omega), ← h1 71 (by omega)]
    refine ⟨_, rfl, fun a ha => ?_, h2, fun j hj => ?_, fun i hi => ?_, ?_, ?_, ?_, ?_⟩
    · rw [← h1 a ha]
      funext j
      simp (disch := omega) only [m_wi, if_neg]
    · simp (disch := omega) only [m_wi, if_neg]
    · simp (disch := omega) only [m_wi, if_neg]
      rw [h1 71 (by omega)]
      exact h3 i hi
    · simp (disch := omega) only [m_wi, if_neg, and_self, if_true]
    · simp (disch := omega) only [m_wi, if_neg, and_self, if_true]
    · simp (disch := omega) only [m_wi, if_neg, and_self, if_true]
    · simp (disch := omega) only [m_wi, if_neg, and_self, if_true]
  | d + 1, k, n + 1, M, hk, hn, h1, h2, h3 => by
    have hx : ∀ M, xlen M p = 72 := fun M => by rcases hp with rfl | rfl <;> rfl
    have h6 : Int32.ofInt 60 + Int32.ofInt k = Int32.ofInt ((60 + k : Nat) : Int) := i_plus 60 k
    rw [eX9_keep_93 _ _ _ _ hp, i_lt (by omega) (by omega), decide_eq_true (by omega), cond_true, h6, hx, show xlen M (64 + 7) = 8 from rfl, i_inn (by omega), decide_eq_true (by omega), cond_true, i_inn (by omega), decide_eq_true (by omega), cond_true, i_natn (by omega), i_natn (by omega), i_suc, show 64 + 7 = 71 from rfl]
    obtain ⟨M', g1, g2, g3, g4, g5⟩ := l_keepn (N := N) hp (M0 := M0) d (k + 1) n (xwi M p (60 + k) (M.1 71 k)) (by omega) (by omega) (fun a ha => by
      rw [← h1 a ha]
      funext j
      rw [m_wi, if_neg (by omega)]) h2 (fun i hi => by
      rw [m_wi]
      by_cases e : i = k
      · rw [if_pos ⟨rfl, by omega⟩, h1 71 (by omega), e]
      · rw [if_neg (by omega)]; exact h3 i (by omega))
    exact ⟨M', g1, g2, g3, fun j hj => by rw [g4 j hj, m_wi, if_neg (by omega)], g5⟩
theorem lvv_b (b : Bool) : lvv (bi b) = bi b := by cases b <;> rfl
theorem lva_b (b : Bool) : lva (bi b) = bi b := by cases b <;> rfl
theorem v_keep9 {N p : Nat} (hN : 30 < N) (hp : p = 77 ∨ p = 78) {R : RV} {M : XM} (hR : mv R M) (hW : Wf R) : ∃ M', fX9_keep N [.ref 64, .ref p] M = some M' ∧ ov p R M' ∧ (∀ a, a ≠ p → M'.1 a = M.1 a) ∧ M'.2 = M.2 := by
  have h10 := hW.1
  have h8 := hW.2.2.1
  obtain ⟨n, hn⟩ : ∃ n, N = n + 1 + 10 := ⟨N - 11, by omega⟩
  obtain ⟨M1, a1, a2, a3, a4⟩ := l_keep9 (N := N) hp (M0 := M) 10 0 n M (by omega) (fun _ _ => rfl) rfl (fun b hb => by omega)
  obtain ⟨M2, b1, b2, b3, b4, b5, b6, b7, b8, b9⟩ := l_keepn (N := N) hp (M0 := M) 8 0 n M1 (by omega) (by omega) a2 a3 (fun b hb => by omega)
  obtain ⟨r1, r2, r3, r4, r5, r6⟩ := hR
  refine ⟨M2, ?_, ⟨by rw [b6, r1], by rw [b7, r2], by rw [b8, r3], by rw [b9, r4], fun b hb => ?_, fun i hi => by rw [b5 i (by omega)]; exact r6 i hi⟩, b2, b3⟩
  · rw [eX9_keep _ _ hp]
    have e : gX9_keep N N 2 [.ref 64, .ref p, .int (Int32.ofInt 0)] [] M = gX9_keep N n 93 [.ref 64, .ref p, .int (Int32.ofInt 0)] [] M1 := by
      rw [← a1, ← hn]
      rfl
    rw [e]
    exact b1
  · obtain ⟨q1, q2, q3, q4, q5, q6⟩ := a4 b (by omega)
    obtain ⟨s1, s2, s3, s4, s5, s6⟩ := r5 b hb
    rw [b4 _ (by omega), b4 _ (by omega), b4 _ (by omega), b4 _ (by omega), b4 _ (by omega), b4 _ (by omega), q1, q2, q3, q4, q5, q6, s6, lvv_b]
    exact ⟨s1, s2, s3, s4, s5, rfl⟩
