def hit (Z : List Int) (j : Nat) : Bool := decide ((j : Int) - 1000 ∈ Z)
def mk81 (M : XM) (P : Nat → Bool) : Prop := ∀ j, j < 2001 → M.1 81 j = bi (P j)
theorem hit_snoc (Z : List Int) (z : Int) (j : Nat) : hit (Z ++ [z]) j = (hit Z j || decide ((j : Int) - 1000 = z)) := by
  unfold hit
  rw [← Bool.decide_or]
  exact decide_eq_decide.mpr (by simp)
theorem EN_81 {R : RV} {m : Nat} {cf : Bool} {many : Nat} {Q : List (List Nat)} {M : XM} (h : EN R m cf many Q M) (k : Nat) (v : Int32) : EN R m cf many Q (xwi M 81 k v) := by
  obtain ⟨r, b, ⟨h1, h2, h3, h4, h5, h6, h7, h8⟩, g1, g2, g3⟩ := h
  refine ⟨r, b, ⟨?_, ?_, ?_, ?_, ?_, SA_w h6 (fun j hj => ?_) (fun j hj => ?_), h7, h8⟩, ?_, g2, g3⟩
  · rw [m_wi, if_neg (by omega)]; exact h1
  · rw [m_wi, if_neg (by omega)]; exact h2
  · rw [m_wi, if_neg (by omega)]; exact h3
  · rw [m_wi, if_neg (by omega)]; exact h4
  · rw [m_wi, if_neg (by omega)]; exact h5
  · rw [m_wi, if_neg (by omega)]
  · rw [m_wi, if_neg (by omega)]
  · rw [m_wi, if_neg (by omega)]; exact g1
theorem f8_81 {M : XM} (k : Nat) (v : Int32) : f8 M (xwi M 81 k v) := ⟨rfl, fun a j _ _ _ h => by rw [m_wi, if_neg (by omega)]⟩
theorem xl_81 (M : XM) : xlen M (64 + 17) = 2001 := rfl
theorem l_mzero {N : Nat} (x1 x2 x3 x4 : Int32) : ∀ (d k n : Nat) (M : XM), k + d = 2001 → (∀ j, j < k → M.1 81 j = bi false) → ∃ M', gX9_means N (n + 1 + d) 3 [.ref 64, .int x1, .int x2, .int x3, .int x4, .int (Int32.ofInt k), .retAddr 0] [] M = gX9_means N n 28 [.ref 64, .retAddr 0, .int x2, .int x3, .int x4, .int x1, .retAddr 0] [] M' ∧ f8 M M' ∧ mk81 M' (fun _ => false)
  | 0, k, n, M, hk, h => by
    obtain rfl : k = 2001 := by omega
    rw [Nat.add_zero, eX9_means_3, i_lt (by omega) (by omega), decide_eq_false (by omega), cond_false]
    exact ⟨M, rfl, f8.rf, h⟩
  | d + 1, k, n, M, hk, h => by
    rw [show n + 1 + (d + 1) = (n + 1 + d) + 1 by omega, eX9_means_3, i_lt (by omega) (by omega), decide_eq_true (by omega), cond_true, i_inn (by omega), xl_81, decide_eq_true (by omega), cond_true, show xisb (Int32.ofInt 0) = true from i_isb0, cond_true, i_natn (by omega), i_suc]
    obtain ⟨M', e1, e2, e3⟩ := l_mzero (N := N) x1 x2 x3 x4 d (k + 1) n (xwi M 81 k (Int32.ofInt 0)) (by omega) (fun j hj => by
      rw [m_wi]
      by_cases e : j = k
      · rw [if_pos ⟨rfl, e⟩]; rfl
      · rw [if_neg (by omega)]; exact h j (by omega))
    exact ⟨M', e1, (f8_81 _ _).tr e2, e3⟩
theorem l_m42 {N : Nat} (hN : big N) {R : RV} (hW : Wf R) {m : Nat} (hms : ∀ c, m.testBit c = true → R.lv.testBit c = true) (hm : m < 1024) {many : Nat} (hmany : many ≤ 6) (x2 x4 : Int32) : ∀ (Q : List (List Nat)) (n : Nat) (Z : List Int) (M : XM), mv R M → EN R m false many Q M → mk81 M (hit Z) → (∀ l ∈ Q, okl R m l ∧ l.length = many) → ∃ M', gX9_means N (n + 1 + Q.length) 42 [.ref 64, .retAddr 0, .int x2, .int (Int32.ofInt m), .int x4, .int (Int32.ofInt many), .retAddr 0] [] M = gX9_means N n 28 [.ref 64, .retAddr 0, .int x2, .int (Int32.ofInt m), .int x4, .int (Int32.ofInt ((many + 1 : Nat) : Int)), .retAddr 0] [] M' ∧ f8 M M' ∧ mk81 M' (hit (Z ++ Q.map (mean (wR R))))
  | [], n, Z, M, hR, hE, h81, hQ => by
    obtain ⟨M', h1, h2⟩ := v_goes0 hN hW hm hmany hR hE
    refine ⟨M', ?_, h2.f8, fun j hj => ?_⟩
    · rw [List.length_nil, Nat.add_zero, eX9_means_42, h1, e_bd]
      show gX9_means N n 28 [.ref 64, .retAddr 0, .int x2, .int (Int32.ofInt m), .int x4, .int (Int32.ofInt many + Int32.ofInt 1), .retAddr 0] [] M' = _
      rw [i_suc]
    · rw [List.map_nil, List.append_nil, h2.2 _ _ (by omega) (by omega) (by omega)]
      exact h81 j hj
  | l :: Q, n, Z, M, hR, hE, h81, hQ => by
    have hN' := hN
    unfold big at hN'
    obtain ⟨M', h1, h2, h3, h4, _⟩ := v_goes1 hN hW hm hmany hR hE
    obtain ⟨k1, k2⟩ := hQ l List.mem_cons_self
    obtain ⟨k3, k4⟩ := okl_sub hms k1
    have hb := mean_b hW k1 (by omega)
    have hme := v_meaning9 (N := N) (by omega) hW (mv_fe hR h2) k1 (by omega) h4
    rw [k4] at hme hb
    rw [k2] at hme
    obtain ⟨j0, hj0⟩ := Int.eq_ofNat_of_zero_le (show 0 ≤ 1000 + mean (wR R) l by omega)
    rw [List.length_cons, show n + 1 + (Q.length + 1) = n + 1 + Q.length + 1 by omega, eX9_means_42, h1, e_bd]
    dsimp only
    rw [show xeq (Int32.ofInt 1) 0 = false by decide +kernel, cond_false, hme, e_bd]
    dsimp only
    rw [i_add, hj0, i_inn (by omega), xl_81, decide_eq_true (by omega), cond_true, show xisb (Int32.ofInt 1) = true from i_isb1, cond_true, i_natn (by omega), show 64 + 17 = 81 from rfl]
    have hz : mean (wR R) l = (j0 : Int) - 1000 := by omega
    obtain ⟨M2, e1, e2, e3⟩ := l_m42 hN hW hms hm hmany x2 x4 Q n (Z ++ [mean (wR R) l]) (xwi M' 81 j0 (Int32.ofInt 1)) (mv_f8 (mv_fe hR h2) (f8_81 _ _)) (EN_81 h3 _ _) (fun j hj => by
      rw [m_wi, hit_snoc, hz]
      by_cases e : j = j0
      · rw [if_pos ⟨rfl, e⟩, e, decide_eq_true rfl, Bool.or_true]; rfl
      · rw [if_neg (by omega), decide_eq_false (by omega), Bool.or_false, h2.2 _ _ (by omega) (by omega) (by omega)]
        exact h81 j hj) (fun y hy => hQ y (List.mem_cons_of_mem _ hy))
    refine ⟨M2, e1, (h2.f8.tr (f8_81 _ _)).tr e2, ?_⟩
    rw [List.append_assoc] at e3
    exact e3
def zs (R : RV) (m : Nat) (X : List RW) : List Int := (X.filter (cndm R m false)).map (fun q => mean (wR R) q.1)
theorem zs_app (R : RV) (m : Nat) (X Y : List RW) : zs R m (X ++ Y) = zs R m X ++ zs R m Y := by
  unfold zs
  rw [List.filter_append, List.map_append]
theorem l_m28 {N : Nat} (hN : big N) {R : RV} (hW : Wf R) {m : Nat} (hms : ∀ c, m.testBit c = true → R.lv.testBit c = true) (hm : m < 1024) {hi : Nat} (h6 : hi ≤ 6) (x4 : Int32) : ∀ (d k n : Nat) (Z : List Int) (M : XM), k + d = hi + 1 → 0 < k → 1000010 * d < n → mv R M → M.1 80 0 = Int32.ofInt 0 → mk81 M (hit Z) → ∃ M' n', gX9_means N n 28 [.ref 64, .retAddr 0, .int (Int32.ofInt hi), .int (Int32.ofInt m), .int x4, .int (Int32.ofInt k), .retAddr 0] [] M = gX9_means N n' 80 [.ref 64, .retAddr 0, .retAddr 0, .retAddr 0, .int x4, .int (Int32.ofInt 0), .int (Int32.ofInt 0)] [] M' ∧ n ≤ n' + 1000010 * d + 1 ∧ f8 M M' ∧ mk81 M' (hit (Z ++ zs R m (VR (wR R) d k)))
  | 0, k, n, Z, M, hk, h0, hn, hR, h80, h81 => by
    obtain ⟨n, rfl⟩ : ∃ j, n = j + 1 := ⟨n - 1, by omega⟩
    refine ⟨M, n, ?_, by omega, f8.rf, ?_⟩
    · rw [eX9_means_28, i_lt (by omega) (by omega), decide_eq_true (by omega), cond_true]
    · rw [show zs R m (VR (wR R) 0 k) = [] from rfl, List.append_nil]
      exact h81
  | d + 1, k, n, Z, M, hk, h0, hn, hR, h80, h81 => by
    have hN' := hN
    unfold big at hN'
    have hlen := rowsM_len R m false (many := k) (by omega)
    obtain ⟨n, rfl⟩ : ∃ j, n = (j + 1 + (rowsM R m false k).length) + 1 := ⟨n - (rowsM R m false k).length - 2, by omega⟩
    obtain ⟨M1, a1, a2, a3⟩ := v_begins (N := N) (R := R) (m := m) (cf := false) (many := k) h0 h80
    obtain ⟨M2, b1, b2, b3⟩ := l_m42 hN hW hms hm (many := k) (by omega) (Int32.ofInt hi) x4 _ n Z M1 (mv_fe hR a2) a3 (fun j hj => by rw [a2.2 _ _ (by omega) (by omega) (by omega)]; exact h81 j hj) (fun l hl => rowsM_ok hW hl)
    have h80' : M2.1 80 0 = Int32.ofInt 0 := by
      rw [b2.2 _ _ (by omega) (by omega) (by omega) (by omega), a2.2 _ _ (by omega) (by omega) (by omega)]
      exact h80
    have hz : (rowsM R m false k).map (mean (wR R)) = zs R m (Vn (wR R) k) := by
      rw [rows_m hms, List.map_map]
      rfl
    rw [hz] at b3
    obtain ⟨M3, n3, c1, c2, c3, c4⟩ := l_m28 hN hW hms hm h6 x4 d (k + 1) n _ M2 (by omega) (by omega) (by omega) (mv_f8 (mv_fe hR a2) b2) h80' b3
    refine ⟨M3, n3, ?_, by omega, (a2.f8.tr b2).tr c3, ?_⟩
    · rw [eX9_means_28, i_lt (by omega) (by omega), decide_eq_false (by omega), cond_false]
      show (fX9_begins N [.ref 64, .int (Int32.ofInt k), .int (Int32.ofInt m), .int (bi false)] M).bind _ = _
      rw [a1, e_bd, b1, c1]
    · rw [VR, zs_app, ← List.append_assoc]
      exact c4
def m80 (P : Nat → Bool) (what : Nat) : Nat → Nat → Int → Int
  | 0, _, x => x
  | d + 1, j, x => bif P j then (if what = 1 then (j : Int) - 1000 else if what = 0 then m80 P what d (j + 1) (x + 1) else m80 P what d (j + 1) ((j : Int) - 1000)) else m80 P what d (j + 1) x
theorem l_m80 {N : Nat} {what : Nat} (hw : what ≤ 2) {P : Nat → Bool} {M : XM} (h81 : mk81 M P) : ∀ (d j n : Nat) (x : Int), j + d = 2001 → d < n → gX9_means N n 80 [.ref 64, .retAddr 0, .retAddr 0, .retAddr 0, .int (Int32.ofInt what), .int (Int32.ofInt x), .int (Int32.ofInt j)] [] M = some (Int32.ofInt (m80 P what d j x), M)
  | 0, j, n + 1, x, hj, hn => by
    rw [eX9_means_80, i_lt (by omega) (by omega), decide_eq_false (by omega), cond_false, e_I]
    rfl
  | d + 1, j, n + 1, x, hj, hn => by
    have ih := fun x => l_m80 (N := N) hw h81 d (j + 1) n x (by omega) (by omega)
    rw [eX9_means_80, i_lt (by omega) (by omega), decide_eq_true (by omega), cond_true, i_inn (by omega), xl_81, decide_eq_true (by omega), cond_true, i_natn (by omega), show 64 + 17 = 81 from rfl, h81 j (by omega), b_z, m80, i_suc]
    cases P j with
    | false => exact ih x
    | true =>
      rw [cond_true, cond_true, i_eq (by omega) (by omega)]
      by_cases h1 : what = 1
      · rw [decide_eq_true (by omega), cond_true, if_pos h1, i_sub, e_I]
      · rw [decide_eq_false (by omega), cond_false, if_neg h1, show (0 : Int32) = Int32.ofInt 0 from rfl, i_eq (by omega) (by omega)]
        by_cases h0 : what = 0
        · rw [decide_eq_true (by omega), cond_true, if_pos h0, i_add]
          exact ih (x + 1)
        · rw [decide_eq_false (by omega), cond_false, if_neg h0, i_sub]
          exact ih ((j : Int) - 1000)
theorem v_means {N : Nat} (hN : big N) {R : RV} (hW : Wf R) {m : Nat} (hms : ∀ c, m.testBit c = true → R.lv.testBit c = true) {lo hi what : Nat} (hlo : 0 < lo) (hlh : lo ≤ hi + 1) (h6 : hi ≤ 6) (hw : what ≤ 2) {M : XM} (hR : mv R M) (h80 : M.1 80 0 = Int32.ofInt 0) : ∃ M', fX9_means N [.ref 64, .int (Int32.ofInt lo), .int (Int32.ofInt hi), .int (Int32.ofInt m), .int (Int32.ofInt what)] M = some (Int32.ofInt (m80 (hit (zs R m (VR (wR R) (hi + 1 - lo) lo))) what 2001 0 0), M') ∧ f8 M M' ∧ mk81 M' (hit (zs R m (VR (wR R) (hi + 1 - lo) lo))) := by
  have hN' := hN
  unfold big at hN'
  have hm : m < 1024 := by
    have h1 : R.lv < 2 ^ 10 := lv_small hW
    refine Nat.lt_pow_two_of_testBit (n := 10) m (fun i hi => ?_)
    cases e : m.testBit i with
    | false => rfl
    | true => have := hms i e; rw [bits_of_lt h1 hi] at this; cases this
  obtain ⟨n, hn⟩ : ∃ n, N = n + 1 + 2001 := ⟨N - 2002, by omega⟩
  obtain ⟨M1, a1, a2, a3⟩ := l_mzero (N := N) (Int32.ofInt lo) (Int32.ofInt hi) (Int32.ofInt m) (Int32.ofInt what) 2001 0 n M (by omega) (fun j hj => by omega)
  have h80' : M1.1 80 0 = Int32.ofInt 0 := by
    rw [a2.2 _ _ (by omega) (by omega) (by omega) (by omega)]
    exact h80
  obtain ⟨M2, n2, b1, b2, b3, b4⟩ := l_m28 hN hW hms hm h6 (Int32.ofInt what) (hi + 1 - lo) lo n [] M1 (by omega) hlo (by omega) (mv_f8 hR a2) h80' (fun j hj => by
    rw [a3 j hj]
    rfl)
  rw [List.nil_append] at b4
  refine ⟨M2, ?_, a2.tr b3, b4⟩
  rw [eX9_means]
  have e : gX9_means N N 3 [.ref 64, .int (Int32.ofInt lo), .int (Int32.ofInt hi), .int (Int32.ofInt m), .int (Int32.ofInt what), .int (Int32.ofInt 0), .retAddr 0] [] M = gX9_means N n 28 [.ref 64, .retAddr 0, .int (Int32.ofInt hi), .int (Int32.ofInt m), .int (Int32.ofInt what), .int (Int32.ofInt lo), .retAddr 0] [] M1 := by
    rw [← a1, ← hn]
    rfl
  rw [e, b1]
  exact l_m80 hw b4 2001 0 n2 0 (by omega) (by omega)
theorem m80_0 (P : Nat → Bool) : ∀ (d j : Nat) (x : Int), m80 P 0 d j x = x + ((List.range' j d).countP P : Nat)
  | 0, j, x => by
    show x = x + ((0 : Nat) : Int)
    omega
  | d + 1, j, x => by
    rw [m80, List.range'_succ, List.countP_cons]
    cases h : P j with
    | false => rw [cond_false, m80_0 P d]; simp
    | true => rw [cond_true, if_neg (by omega), if_pos rfl, m80_0 P d]; simp; omega
theorem m80_1 {Z : List Int} {z : Int} (hz : z ∈ Z) (hl : ∀ y ∈ Z, z ≤ y) : ∀ (d j : Nat) (x : Int), (j : Int) ≤ z + 1000 → z + 1000 < j + d → m80 (hit Z) 1 d j x = z
  | 0, j, x, h1, h2 => by omega
  | d + 1, j, x, h1, h2 => by
    rw [m80]
    by_cases h : (j : Int) - 1000 ∈ Z
    · rw [show hit Z j = true from decide_eq_true h, cond_true, if_pos rfl]
      have := hl _ h
      omega
    · rw [show hit Z j = false from decide_eq_false h, cond_false]
      refine m80_1 hz hl d (j + 1) x ?_ (by omega)
      have : (j : Int) ≠ z + 1000 := fun e => h (by rw [e]; simpa using hz)
      omega
theorem m80_2 {Z : List Int} {z : Int} (hz : z ∈ Z) (hl : ∀ y ∈ Z, y ≤ z) : ∀ (d j : Nat) (x : Int), z + 1000 < j + d → m80 (hit Z) 2 d j x = if (j : Int) ≤ z + 1000 then z else x
  | 0, j, x, h2 => by
    rw [if_neg (by omega)]
    rfl
  | d + 1, j, x, h2 => by
    rw [m80]
    by_cases h : (j : Int) - 1000 ∈ Z
    · rw [show hit Z j = true from decide_eq_true h, cond_true, if_neg (by omega), if_neg (by omega), m80_2 hz hl d (j + 1) _ (by omega)]
      have := hl _ h
      by_cases e : (j : Int) = z + 1000
      · rw [if_neg (by omega), if_pos (by omega)]; omega
      · rw [if_pos (by omega), if_pos (by omega)]
    · rw [show hit Z j = false from decide_eq_false h, cond_false, m80_2 hz hl d (j + 1) _ (by omega)]
      have : (j : Int) ≠ z + 1000 := fun e => h (by rw [e]; simpa using hz)
      by_cases e2 : (j : Int) ≤ z + 1000
      · rw [if_pos (by omega), if_pos e2]
      · rw [if_neg (by omega), if_neg e2]
theorem countP_or (P : Nat → Bool) (b : Nat) : ∀ n, (List.range n).countP (fun x => P x || x == b) = (List.range n).countP P + (if b < n ∧ P b = false then 1 else 0)
  | 0 => by simp
  | n + 1 => by
    have ih := countP_or P b n
    rw [List.range_succ, List.countP_append, List.countP_append, List.countP_cons, List.countP_cons, List.countP_nil, List.countP_nil, ih]
    by_cases e : n = b
    · subst e
      have h1 : ¬ n < n := by omega
      have h2 : n < n + 1 := by omega
      cases hP : P n <;> simp [h1, h2]
    · by_cases h : b < n
      · have h2 : b < n + 1 := by omega
        cases hb : P b <;> cases hP : P n <;> simp [h, h2, e] <;> omega
      · have h2 : ¬ b < n + 1 := by omega
        cases hP : P n <;> simp [h, h2, e]
def unl (Z : List Int) : Nat := (List.range 2001).countP (hit Z)
theorem unl_snoc {Z : List Int} {z : Int} {b : Nat} (hz : z = (b : Int) - 1000) (hb : b < 2001) : unl (Z ++ [z]) = unl Z + (if hit Z b = true then 0 else 1) := by
  unfold unl
  have h1 : (List.range 2001).countP (hit (Z ++ [z])) = (List.range 2001).countP (fun x => hit Z x || x == b) := by
    congr 1
    funext x
    rw [hit_snoc]
    congr 1
    rw [Bool.eq_iff_iff, decide_eq_true_eq, beq_iff_eq]
    omega
  rw [h1, countP_or]
  cases hit Z b <;> simp [hb]
theorem m80_unl (Z : List Int) : m80 (hit Z) 0 2001 0 0 = (unl Z : Nat) := by
  rw [m80_0, ← List.range_eq_range', Int.zero_add]
  rfl
