theorem chk {α : Type} {z : Int} (hz : rg z) {a b : Int} (ha : rg a) (hb : rg b) (A B : α) : (bif xlt (Int32.ofInt z) (Int32.ofInt a) then A else bif xlt (Int32.ofInt b) (Int32.ofInt z) then A else B) = bif decide (a ≤ z ∧ z ≤ b) then B else A := by
  rw [← xle1 hz ha hb]
  cases xlt (Int32.ofInt z) (Int32.ofInt a) <;> cases xlt (Int32.ofInt b) (Int32.ofInt z) <;> rfl
theorem chk0 {α : Type} {z : Int} (hz : rg z) {b : Int} (hb : rg b) (A B : α) : (bif xlt (Int32.ofInt z) (0 : Int32) then A else bif xlt (Int32.ofInt b) (Int32.ofInt z) then A else B) = bif decide (0 ≤ z ∧ z ≤ b) then B else A := chk hz (a := 0) (by omega) hb A B
theorem v_win {N : Nat} {z : Int} (hz : rg z) {a b : Int} (ha : rg a) (hb : rg b) (M : XM) : fX9_within N [.int (Int32.ofInt z), .int (Int32.ofInt a), .int (Int32.ofInt b)] M = some (bi (decide (a ≤ z ∧ z ≤ b)), M) := by
  rw [v_within, xle1 hz ha hb]
theorem lv_31 {R : RV} (h : Wf R) : R.lv < 1024 := lv_small h
theorem l_rows {N : Nat} (hN : big N) {R : RV} (hW : Wf R) {m : Nat} (hm : m < 1024) {cf : Bool} {many : Nat} (hmany : many ≤ 6) : ∀ (Q : List (List Nat)) (n k : Nat) (M : XM), mv R M → EN R m cf many Q M → Q.length < n → ∃ M', gX9_rows N n 12 [.ref 64, .retAddr 0, .retAddr 0, .int (Int32.ofInt k)] [] M = some (Int32.ofInt ((k + Q.length : Nat) : Int), M') ∧ fe M M'
  | [], n + 1, k, M, hR, hE, hn => by
    obtain ⟨M', h1, h2⟩ := v_goes0 hN hW hm hmany hR hE
    rw [eX9_rows_12, h1, e_bd]
    exact ⟨M', rfl, h2⟩
  | l :: Q, n + 1, k, M, hR, hE, hn => by
    obtain ⟨M', h1, h2, h3, _, _⟩ := v_goes1 hN hW hm hmany hR hE
    simp only [List.length_cons] at hn
    obtain ⟨M'', g1, g2⟩ := l_rows hN hW hm hmany Q n (k + 1) M' (mv_fe hR h2) h3 (by omega)
    rw [eX9_rows_12, h1, e_bd]
    refine ⟨M'', ?_, h2.tr g2⟩
    show gX9_rows N n 12 [.ref 64, .retAddr 0, .retAddr 0, .int (Int32.ofInt k + Int32.ofInt 1)] [] M' = _
    rw [i_suc, g1, List.length_cons, show k + 1 + Q.length = k + (Q.length + 1) by omega]
theorem v_rows {N : Nat} (hN : big N) {R : RV} (hW : Wf R) {cf : Bool} {many : Nat} (h0 : 0 < many) (hmany : many ≤ 6) {M : XM} (hR : mv R M) (h80 : M.1 80 0 = Int32.ofInt 0) : ∃ M', fX9_rows N [.ref 64, .int (Int32.ofInt many), .int (bi cf)] M = some (Int32.ofInt (rowsM R R.lv cf many).length, M') ∧ fe M M' := by
  have hN' := hN
  unfold big at hN'
  obtain ⟨M1, a1, a2, a3⟩ := v_begins (N := N) (R := R) (m := R.lv) (cf := cf) h0 h80
  obtain ⟨M2, b1, b2⟩ := l_rows hN hW (lv_small hW) hmany _ N 0 M1 (mv_fe hR a2) a3 (by have := rowsM_len R R.lv cf hmany; omega)
  rw [eX9_rows, v_living (by omega) hR hW, e_bd, a1, e_bd]
  rw [Nat.zero_add] at b1
  exact ⟨M2, b1, a2.tr b2⟩
theorem v_isCalm {N : Nat} (hN : 11 < N) {o L rm p : Nat} (ho : SO o L rm) (hp : PO p) {R : RV} (hW : Wf R) {i : Nat} {q : RW} {M : XM} (hR : cv p R M) (hq : q ∈ VL (wR R) L) (_ : i < rm) (h1 : ∀ N, fX4_rowOf N [.ref o, .int (Int32.ofInt i)] M = some (Int32.ofInt (pack q.1 : Nat), M)) (h2 : ∀ N, fX4_lengthOf N [.ref o, .int (Int32.ofInt i)] M = some (Int32.ofInt (q.1.length : Nat), M)) : fX4_isCalm N [.ref o, .ref p, .int (Int32.ofInt i)] M = some (bi (clm R q.1), M) := by
  have hL := ho.L
  obtain ⟨⟨g1, _, _⟩, g2, g3, _, _⟩ := VL_row hW hq
  have hpk : pack q.1 < 2147483648 := by have := pack_24 (l := q.1) (fun c hcc => by have := (g1 c hcc).1; have := hW.1; omega) (by omega); omega
  have hf := fdn_le R q.1
  rw [eX4_isCalm _ _ _ _ ho.o hp, h1, e_bd]
  dsimp only
  rw [h2, e_bd]
  dsimp only
  rw [i_64 hpk, v_feuds hN hp hW hR (fun c hc => (g1 c hc).1) (by omega) g3, e_bd]
  dsimp only
  rw [show (0 : Int32) = Int32.ofInt 0 from rfl, i_eq (by omega) (by omega), clm_fdn]
  by_cases h : fdn R q.1 = 0
  · rw [decide_eq_true h, decide_eq_true (by omega)]; rfl
  · rw [decide_eq_false h, decide_eq_false (by omega)]; rfl
theorem l_calm {N : Nat} (hN : 11 < N) {o L rm p : Nat} (ho : SO o L rm) (hp : PO p) {R : RV} (hW : Wf R) {M : XM} (hR : cv p R M) (hS : SYw o L rm (wR R) M) {m : Nat} (hm : m ≤ L) : ∀ (T : List RW) (i n k : Nat), SM o (wR R) i T M → (∀ q ∈ T, q ∈ VL (wR R) L) → i + T.length = (VL (wR R) m).length → T.length < n → gX4_calm N n 11 [.ref o, .ref p, .int (Int32.ofInt m), .int (Int32.ofInt k), .int (Int32.ofInt i)] [] M = some (Int32.ofInt ((k + (T.filter (fun q => clm R q.1)).length : Nat) : Int), M)
  | [], i, n + 1, k, hT, hq, hi, hn => by
    have hL := ho.L
    have := VL_rm hS hm
    simp only [List.length_nil] at hi
    rw [eX4_calm_11 _ _ _ _ _ _ _ ho.o hp, v_upTo ho hS (by omega), e_bd, Nat.min_eq_left hm]
    dsimp only
    rw [i_lt (by omega) (by omega), decide_eq_false (by omega)]
    rfl
  | q :: T, i, n + 1, k, hT, hq, hi, hn => by
    have hL := ho.L
    have hrm := VL_rm hS hm
    simp only [List.length_cons] at hi hn
    obtain ⟨m1, m2, m3, m4, m5⟩ := SM_t hT
    rw [eX4_calm_11 _ _ _ _ _ _ _ ho.o hp, v_upTo ho hS (by omega), e_bd, Nat.min_eq_left hm]
    dsimp only
    rw [i_lt (by omega) (by omega), decide_eq_true (by omega), cond_true, v_isCalm hN ho hp hW hR (hq q List.mem_cons_self) (by omega) m1 m2, e_bd, b_z]
    have ih := fun k => l_calm (N := N) hN ho hp hW hR hS hm T (i + 1) n k m5 (fun x hx => hq x (List.mem_cons_of_mem _ hx)) (by omega) (by omega)
    dsimp only
    cases hc : clm R q.1 with
    | true =>
      rw [cond_true, i_suc, i_suc, ih, List.filter_cons_of_pos (by exact hc), List.length_cons, show k + 1 + (T.filter (fun q => clm R q.1)).length = k + ((T.filter (fun q => clm R q.1)).length + 1) by omega]
    | false =>
      rw [cond_false, i_suc, i_add, show (k : Int) + 0 = k by omega, ih, List.filter_cons_of_neg (by rw [hc]; exact Bool.false_ne_true)]
theorem calm_len (R : RV) (n : Nat) : (rowsM R R.lv true n).length = ((Vn (wR R) n).filter (fun q => clm R q.1)).length := by
  rw [rows_calm, rows_Vn, List.filter_map, List.length_map]
  rfl
set_option maxRecDepth 100000 in
theorem op_many {t : Nat} {S : SV} (hW : WfS S) {N : Nat} (hN : big N) (a b : Int32) : both t S (fX8_many N [.ref 0, .int a, .int b]) (fX9_many N [.ref 64, .int a, .int b]) := by
  obtain ⟨x, hx, rfl⟩ := i_ex a
  obtain ⟨y, hy, rfl⟩ := i_ex b
  have hN' := hN
  unfold big at hN'
  by_cases h1 : 1 ≤ x ∧ x ≤ 6
  · by_cases h2 : 0 ≤ y ∧ y ≤ 1
    · obtain ⟨m, rfl⟩ := Int.eq_ofNat_of_zero_le (show 0 ≤ x by omega)
      obtain ⟨k, rfl⟩ : ∃ k, m = k + 1 := ⟨m - 1, by omega⟩
      have hs : VL (wR S.R) (k + 1) = VL (wR S.R) k ++ Vn (wR S.R) (k + 1) := VL_s _ _
      have hsl := congrArg List.length hs
      rw [List.length_append] at hsl
      by_cases h3 : y = 0
      · subst h3
        refine both_v hW (Int32.ofInt (rowsM S.R S.R.lv false (k + 1)).length) (fun M hM => ?_) (fun M hM => ?_)
        · obtain ⟨M', a1, a2, a3, a4⟩ := v_now hN hW hM
          refine ⟨M', ?_, a2, a4⟩
          rw [eX8_many, chk0 hy (by omega), decide_eq_true (by omega), cond_true, chk hx (by omega) (by omega), decide_eq_true (by omega), cond_true, a1, e_bd, show xeq (Int32.ofInt 0) 0 = true from rfl, cond_true, v_upTo (.inl ⟨rfl, rfl, rfl⟩) a3 (by omega), e_bd, i_sub, show ((k + 1 : Nat) : Int) - 1 = (k : Int) by omega, v_upTo (.inl ⟨rfl, rfl, rfl⟩) a3 (by omega), e_bd, e_I, i_sub, Nat.min_eq_left (by omega), Nat.min_eq_left (by omega), hsl, rows_Vn, List.length_map]
          rw [show (((VL (wR S.R) k).length + (Vn (wR S.R) (k + 1)).length : Nat) : Int) - ((VL (wR S.R) k).length : Int) = ((Vn (wR S.R) (k + 1)).length : Int) by omega]
        · obtain ⟨M', b1, b2⟩ := v_rows hN hW.1 (cf := false) (many := k + 1) (by omega) (by omega) hM.1 hM.2.2.2.2.2.2.2.1
          refine ⟨M', ?_, b2.f8⟩
          rw [eX9_many, v_win hx (by omega) (by omega), e_bd, b_z, decide_eq_true h1, cond_true, v_win hy (by omega) (by omega), e_bd, b_z, decide_eq_true h2, cond_true, i_eq (by omega) (by omega), decide_eq_false (by omega), cond_false]
          show (fX9_rows N [.ref 64, .int (Int32.ofInt ((k + 1 : Nat) : Int)), .int (bi false)] M).bind _ = _
          rw [b1]
          rfl
      · obtain rfl : y = 1 := by omega
        refine both_v hW (Int32.ofInt (rowsM S.R S.R.lv true (k + 1)).length) (fun M hM => ?_) (fun M hM => ?_)
        · obtain ⟨M', a1, a2, a3, a4⟩ := v_now hN hW hM
          refine ⟨M', ?_, a2, a4⟩
          have hc := l_calm (N := N) (by omega) (o := 22) (L := 6) (rm := 2400) (p := 1) (.inl ⟨rfl, rfl, rfl⟩) (.inl rfl) hW.1 a2.1 a3 (m := k + 1) (by omega) (Vn (wR S.R) (k + 1)) (VL (wR S.R) k).length N 0 (SM_n a3 (by omega)) (fun q hq => Vn_VL (by omega) hq) (by omega) (by have := VL_rm a3 (n := k + 1) (by omega); omega)
          rw [eX8_many, chk0 hy (by omega), decide_eq_true (by omega), cond_true, chk hx (by omega) (by omega), decide_eq_true (by omega), cond_true, a1, e_bd, show xeq (Int32.ofInt 1) 0 = false by decide +kernel, cond_false, show 0 + 1 = 1 from rfl, eX4_calm _ _ _ _ (by omega) (by omega), i_sub, show ((k + 1 : Nat) : Int) - 1 = (k : Int) by omega, v_upTo (.inl ⟨rfl, rfl, rfl⟩) a3 (by omega), e_bd, Nat.min_eq_left (by omega)]
          rw [Nat.zero_add, ← calm_len] at hc
          show (gX4_calm N N 11 [.ref 22, .ref 1, .int (Int32.ofInt ((k + 1 : Nat) : Int)), .int (Int32.ofInt 0), .int (Int32.ofInt (VL (wR S.R) k).length)] [] M').bind _ = _
          rw [show (0 : Int) = ((0 : Nat) : Int) from rfl, hc]
          rfl
        · obtain ⟨M', b1, b2⟩ := v_rows hN hW.1 (cf := true) (many := k + 1) (by omega) (by omega) hM.1 hM.2.2.2.2.2.2.2.1
          refine ⟨M', ?_, b2.f8⟩
          rw [eX9_many, v_win hx (by omega) (by omega), e_bd, b_z, decide_eq_true h1, cond_true, v_win hy (by omega) (by omega), e_bd, b_z, decide_eq_true h2, cond_true, i_eq (by omega) (by omega), decide_eq_true (by omega), cond_true]
          show (fX9_rows N [.ref 64, .int (Int32.ofInt ((k + 1 : Nat) : Int)), .int (bi true)] M).bind _ = _
          rw [b1]
          rfl
    · refine both_ref' hW 0 (by omega) N (fun M hM => ?_) (fun M hM => ?_)
      · rw [eX8_many, chk0 hy (by omega), decide_eq_false h2, cond_false, chk hx (by omega) (by omega), decide_eq_true h1]; rfl
      · rw [eX9_many, v_win hx (by omega) (by omega), e_bd, b_z, decide_eq_true h1, cond_true, v_win hy (by omega) (by omega), e_bd, b_z, decide_eq_false h2]; rfl
  · refine both_ref' hW 0 (by omega) N (fun M hM => ?_) (fun M hM => ?_)
    · rw [eX8_many, chk hx (by omega) (by omega), decide_eq_false h1]; rfl
    · rw [eX9_many, v_win hx (by omega) (by omega), e_bd, b_z, decide_eq_false h1]; rfl
