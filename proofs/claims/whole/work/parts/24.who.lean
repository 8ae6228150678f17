def ors (a : Nat) (l : List Nat) : Nat := l.foldl (fun s c => s ||| 2 ^ c) a
theorem ors_bit : ∀ (l : List Nat) (a i : Nat), (ors a l).testBit i = (a.testBit i || decide (i ∈ l))
  | [], a, i => by simp [ors]
  | c :: l, a, i => by
    show (ors (a ||| 2 ^ c) l).testBit i = _
    rw [ors_bit l, Nat.testBit_or, Nat.testBit_two_pow]
    by_cases e : i = c
    · subst e; simp
    · have : ¬ c = i := fun h => e h.symm
      simp [e, this]
theorem ors_mem {R : RV} (hW : Wf R) {L : Nat} {q : RW} (h : q ∈ VL (wR R) L) (a : Nat) : a ||| q.2.2 = ors a q.1 := by
  apply Nat.eq_of_testBit_eq
  intro i
  rw [Nat.testBit_or, ors_bit, (VL_row hW h).2.2.2.2]
def ws (what : Nat) (a : Nat) (l : List Nat) : Nat := match what with
  | 0 => a ||| 2 ^ l.headD 0
  | 1 => a ||| 2 ^ l.getLastD 0
  | _ => ors a l
theorem headD_0 {l : List Nat} (h : 0 < l.length) : l[0]? = some (l.headD 0) := by
  cases l with
  | nil => simp at h
  | cons a l => rfl
theorem lastD_0 {l : List Nat} (h : 0 < l.length) : l[l.length - 1]? = some (l.getLastD 0) := by
  rw [← List.getLast?_eq_getElem?, List.getLastD_eq_getLast?]
  cases e : l.getLast? with
  | none => rw [List.getLast?_eq_none_iff] at e; subst e; simp at h
  | some x => rfl
theorem row_x {R : RV} (hW : Wf R) {L : Nat} (hL : L ≤ 6) {q : RW} (h : q ∈ VL (wR R) L) {j x : Nat} (hj : q.1[j]? = some x) (M : XM) (N : Nat) : fX2_at N [.long (Int32.ofInt (pack q.1 : Nat)).toInt64, .int (Int32.ofInt j)] M = some (Int32.ofInt x, M) ∧ x < 10 := by
  obtain ⟨v1, v2, v3, v4, v5⟩ := VL_row hW h
  have h10 := hW.1
  have h16 : ∀ c ∈ q.1, c < 16 := fun c hc => by have := (v1.1 c hc).1; omega
  have hpk := pack_24 h16 (by omega)
  rw [i_64 (by omega), v_at h16 (by omega) hj]
  have := (v1.1 x (List.mem_of_getElem? hj)).1
  exact ⟨rfl, by omega⟩
theorem l_begi {N : Nat} {o L rm : Nat} (ho : SO o L rm) {R : RV} (hW : Wf R) {M : XM} (hS : SYw o L rm (wR R) M) {h : Nat} (hh : h ≤ L) : ∀ (T : List RW) (i n a : Nat), SM o (wR R) i T M → (∀ q ∈ T, q ∈ VL (wR R) L) → i + T.length = (VL (wR R) h).length → T.length < n → gX4_beginners N n 4 [.ref o, .int (Int32.ofInt h), .int (Int32.ofInt a), .int (Int32.ofInt i)] [] M = some (Int32.ofInt ((T.foldl (fun s q => ws 0 s q.1) a : Nat) : Int), M)
  | [], i, n + 1, a, hT, hq, hi, hn => by
    have hL := ho.L
    have := VL_rm hS hh
    simp only [List.length_nil] at hi
    rw [eX4_beginners_4 _ _ _ _ _ _ ho.o, v_upTo ho hS (by omega), e_bd, Nat.min_eq_left hh]
    dsimp only
    rw [i_lt (by omega) (by omega), decide_eq_false (by omega)]
    rfl
  | q :: T, i, n + 1, a, hT, hq, hi, hn => by
    have hL := ho.L
    have hrm := VL_rm hS hh
    simp only [List.length_cons] at hi hn
    obtain ⟨m1, m2, m3, m4, m5⟩ := SM_t hT
    have hqq := hq q List.mem_cons_self
    obtain ⟨r1, r2⟩ := row_x hW hL.1 hqq (headD_0 (VL_row hW hqq).2.2.1) M N
    have ih := fun a => l_begi (N := N) ho hW hS hh T (i + 1) n a m5 (fun x hx => hq x (List.mem_cons_of_mem _ hx)) (by omega) (by omega)
    rw [eX4_beginners_4 _ _ _ _ _ _ ho.o, v_upTo ho hS (by omega), e_bd, Nat.min_eq_left hh]
    dsimp only
    rw [i_lt (by omega) (by omega), decide_eq_true (by omega), cond_true, m1, e_bd]
    dsimp only
    rw [show (0 : Int) = ((0 : Nat) : Int) from rfl, r1, e_bd]
    dsimp only
    rw [i_or2 (by omega), i_suc]
    exact ih _
theorem l_ende {N : Nat} {o L rm : Nat} (ho : SO o L rm) {R : RV} (hW : Wf R) {M : XM} (hS : SYw o L rm (wR R) M) {h : Nat} (hh : h ≤ L) : ∀ (T : List RW) (i n a : Nat), SM o (wR R) i T M → (∀ q ∈ T, q ∈ VL (wR R) L) → i + T.length = (VL (wR R) h).length → T.length < n → gX4_enders N n 4 [.ref o, .int (Int32.ofInt h), .int (Int32.ofInt a), .int (Int32.ofInt i)] [] M = some (Int32.ofInt ((T.foldl (fun s q => ws 1 s q.1) a : Nat) : Int), M)
  | [], i, n + 1, a, hT, hq, hi, hn => by
    have hL := ho.L
    have := VL_rm hS hh
    simp only [List.length_nil] at hi
    rw [eX4_enders_4 _ _ _ _ _ _ ho.o, v_upTo ho hS (by omega), e_bd, Nat.min_eq_left hh]
    dsimp only
    rw [i_lt (by omega) (by omega), decide_eq_false (by omega)]
    rfl
  | q :: T, i, n + 1, a, hT, hq, hi, hn => by
    have hL := ho.L
    have hrm := VL_rm hS hh
    simp only [List.length_cons] at hi hn
    obtain ⟨m1, m2, m3, m4, m5⟩ := SM_t hT
    have hqq := hq q List.mem_cons_self
    have hpos := (VL_row hW hqq).2.2.1
    obtain ⟨r1, r2⟩ := row_x hW hL.1 hqq (lastD_0 hpos) M N
    have ih := fun a => l_ende (N := N) ho hW hS hh T (i + 1) n a m5 (fun x hx => hq x (List.mem_cons_of_mem _ hx)) (by omega) (by omega)
    rw [eX4_enders_4 _ _ _ _ _ _ ho.o, v_upTo ho hS (by omega), e_bd, Nat.min_eq_left hh]
    dsimp only
    rw [i_lt (by omega) (by omega), decide_eq_true (by omega), cond_true, m1, e_bd]
    dsimp only
    rw [m2, e_bd]
    dsimp only
    rw [i_sub, show (q.1.length : Int) - 1 = ((q.1.length - 1 : Nat) : Int) by omega, r1, e_bd]
    dsimp only
    rw [i_or2 (by omega), i_suc]
    exact ih _
theorem l_stan {N : Nat} {o L rm : Nat} (ho : SO o L rm) {R : RV} (hW : Wf R) {M : XM} (hS : SYw o L rm (wR R) M) {h : Nat} (hh : h ≤ L) : ∀ (T : List RW) (i n a : Nat), SM o (wR R) i T M → (∀ q ∈ T, q ∈ VL (wR R) L) → i + T.length = (VL (wR R) h).length → T.length < n → gX4_standing N n 4 [.ref o, .int (Int32.ofInt h), .int (Int32.ofInt a), .int (Int32.ofInt i)] [] M = some (Int32.ofInt ((T.foldl (fun s q => ws 2 s q.1) a : Nat) : Int), M)
  | [], i, n + 1, a, hT, hq, hi, hn => by
    have hL := ho.L
    have := VL_rm hS hh
    simp only [List.length_nil] at hi
    rw [eX4_standing_4 _ _ _ _ _ _ ho.o, v_upTo ho hS (by omega), e_bd, Nat.min_eq_left hh]
    dsimp only
    rw [i_lt (by omega) (by omega), decide_eq_false (by omega)]
    rfl
  | q :: T, i, n + 1, a, hT, hq, hi, hn => by
    have hL := ho.L
    have hrm := VL_rm hS hh
    simp only [List.length_cons] at hi hn
    obtain ⟨m1, m2, m3, m4, m5⟩ := SM_t hT
    have hqq := hq q List.mem_cons_self
    have ih := fun a => l_stan (N := N) ho hW hS hh T (i + 1) n a m5 (fun x hx => hq x (List.mem_cons_of_mem _ hx)) (by omega) (by omega)
    rw [eX4_standing_4 _ _ _ _ _ _ ho.o, v_upTo ho hS (by omega), e_bd, Nat.min_eq_left hh]
    dsimp only
    rw [i_lt (by omega) (by omega), decide_eq_true (by omega), cond_true, m3, e_bd]
    dsimp only
    rw [i_or, i_suc, ors_mem hW hqq]
    exact ih _
theorem l_who79 {N : Nat} {M : XM} {l : List Nat} (hl : ∀ c ∈ l, c < 10) (h6 : l.length ≤ 6) (hr : rowAt l M) : ∀ (t : List Nat) (j n a : Nat), l.drop j = t → j + t.length = l.length → gX9_who N (n + 1 + t.length) 79 [.ref 64, .int (Int32.ofInt 2), .int (Int32.ofInt a), .int (Int32.ofInt l.length), .int (Int32.ofInt j)] [] M = gX9_who N n 36 [.ref 64, .int (Int32.ofInt 2), .int (Int32.ofInt (ors a t : Nat)), .int (Int32.ofInt l.length), .retAddr 0] [] M
  | [], j, n, a, ht, hj => by
    simp only [List.length_nil] at hj
    rw [List.length_nil, Nat.add_zero, eX9_who_79, i_lt (by omega) (by omega), decide_eq_false (by omega)]
    rfl
  | c :: t, j, n, a, ht, hj => by
    simp only [List.length_cons] at hj
    have hja : l[j]? = some c := by rw [← List.head?_drop, ht]; rfl
    have ht' : l.drop (j + 1) = t := by rw [← List.drop_drop, ht]; rfl
    have hc := hl c (List.mem_of_getElem? hja)
    rw [List.length_cons, show n + 1 + (t.length + 1) = n + 1 + t.length + 1 by omega, eX9_who_79, i_lt (by omega) (by omega), decide_eq_true (by omega), cond_true, show xeq (Int32.ofInt 2) (Int32.ofInt 2) = true from rfl, cond_true, i_inn (by omega), xl_79, decide_eq_true (by omega), cond_true, i_natn (by omega), show 64 + 15 = 79 from rfl, hr j c hja, i_or2 (by omega), i_suc]
    exact l_who79 hl h6 hr t (j + 1) n _ ht' (by omega)
theorem l_who36 {N : Nat} (hN : big N) {R : RV} (hW : Wf R) {what : Nat} (hwh : what ≤ 2) {many : Nat} (h0 : 0 < many) (hmany : many ≤ 6) : ∀ (Q : List (List Nat)) (n a : Nat) (M : XM), mv R M → EN R R.lv false many Q M → (∀ l ∈ Q, okl R R.lv l ∧ l.length = many) → 12 * Q.length + 1 ≤ n → ∃ M' n', gX9_who N n 36 [.ref 64, .int (Int32.ofInt what), .int (Int32.ofInt a), .int (Int32.ofInt many), .retAddr 0] [] M = gX9_who N n' 20 [.ref 64, .int (Int32.ofInt what), .int (Int32.ofInt (Q.foldl (ws what) a : Nat)), .int (Int32.ofInt ((many + 1 : Nat) : Int)), .retAddr 0] [] M' ∧ n ≤ n' + 12 * Q.length + 1 ∧ fe M M'
  | [], n, a, M, hR, hE, hQ, hn => by
    obtain ⟨n, rfl⟩ : ∃ j, n = j + 1 := ⟨n - 1, by omega⟩
    obtain ⟨M', h1, h2⟩ := v_goes0 hN hW (lv_small hW) hmany hR hE
    refine ⟨M', n, ?_, by simp, h2⟩
    rw [eX9_who_36, h1, e_bd]
    show gX9_who N n 20 [.ref 64, .int (Int32.ofInt what), .int (Int32.ofInt a), .int (Int32.ofInt many + Int32.ofInt 1), .retAddr 0] [] M' = _
    rw [i_suc]
    rfl
  | l :: Q, n, a, M, hR, hE, hQ, hn => by
    simp only [List.length_cons] at hn
    obtain ⟨M', h1, h2, h3, h4, _⟩ := v_goes1 hN hW (lv_small hW) hmany hR hE
    obtain ⟨k1, k2⟩ := hQ l List.mem_cons_self
    have h10 := hW.1
    have hl10 : ∀ c ∈ l, c < 10 := fun c hc => by have := (k1.1 c hc).1; omega
    have hhd := headD_0 (l := l) (by omega)
    have hla := lastD_0 (l := l) (by omega)
    have hhb := hl10 _ (List.mem_of_getElem? hhd)
    have hlb := hl10 _ (List.mem_of_getElem? hla)
    have rh := h4 _ _ hhd
    have rl := h4 _ _ hla
    rw [k2] at rl
    have step : ∃ n', gX9_who N n 36 [.ref 64, .int (Int32.ofInt what), .int (Int32.ofInt a), .int (Int32.ofInt many), .retAddr 0] [] M = gX9_who N n' 36 [.ref 64, .int (Int32.ofInt what), .int (Int32.ofInt (ws what a l : Nat)), .int (Int32.ofInt many), .retAddr 0] [] M' ∧ n ≤ n' + 12 := by
      rcases (show what = 0 ∨ what = 1 ∨ what = 2 by omega) with rfl | rfl | rfl
      · obtain ⟨n, rfl⟩ : ∃ j, n = j + 2 := ⟨n - 2, by omega⟩
        refine ⟨n, ?_, by omega⟩
        rw [eX9_who_36, h1, e_bd]
        dsimp only
        rw [show xeq (Int32.ofInt 1) 0 = false by decide +kernel, cond_false, show xeq (Int32.ofInt (0 : Nat)) 0 = true from rfl, cond_true, show xin (Int32.ofInt 0) (xlen M' (64 + 15)) = true from rfl, cond_true, show xeq (Int32.ofInt (0 : Nat)) (Int32.ofInt 1) = false by decide +kernel, cond_false]
        rw [show 64 + 15 = 79 from rfl, show (Int32.ofInt 0).toNatClampNeg = 0 from rfl, rh, i_or2 (by omega), eX9_who_79, show (0 : Int) = ((0 : Nat) : Int) from rfl, i_lt (by omega) (by omega), decide_eq_true (by omega), cond_true, show xeq (Int32.ofInt (0 : Nat)) (Int32.ofInt 2) = false by decide +kernel, cond_false]
        rfl
      · obtain ⟨n, rfl⟩ : ∃ j, n = j + 2 := ⟨n - 2, by omega⟩
        refine ⟨n, ?_, by omega⟩
        rw [eX9_who_36, h1, e_bd]
        dsimp only
        rw [show xeq (Int32.ofInt 1) 0 = false by decide +kernel, cond_false, show xeq (Int32.ofInt (1 : Nat)) 0 = false by decide +kernel, cond_false, show xeq (Int32.ofInt (1 : Nat)) (Int32.ofInt 1) = true from rfl, cond_true, i_sub, show (many : Int) - 1 = ((many - 1 : Nat) : Int) by omega, i_inn (by omega), xl_79, decide_eq_true (by omega), cond_true, i_natn (by omega), show 64 + 15 = 79 from rfl, rl, i_or2 (by omega), eX9_who_79, show (0 : Int) = ((0 : Nat) : Int) from rfl, i_lt (by omega) (by omega), decide_eq_true (by omega), cond_true, show xeq (Int32.ofInt (1 : Nat)) (Int32.ofInt 2) = false by decide +kernel, cond_false]
        rfl
      · obtain ⟨n, rfl⟩ : ∃ j, n = (j + 1 + l.length) + 1 := ⟨n - 2 - l.length, by omega⟩
        refine ⟨n, ?_, by omega⟩
        have hw := l_who79 (N := N) hl10 (by omega) h4 l 0 n a rfl (by omega)
        rw [k2] at hw
        rw [eX9_who_36, h1, e_bd]
        dsimp only
        rw [show xeq (Int32.ofInt 1) 0 = false by decide +kernel, cond_false, show xeq (Int32.ofInt (2 : Nat)) 0 = false by decide +kernel, cond_false, show xeq (Int32.ofInt (2 : Nat)) (Int32.ofInt 1) = false by decide +kernel, cond_false, k2]
        exact hw
    obtain ⟨n1, s1, s2⟩ := step
    obtain ⟨M2, n2, t1, t2, t3⟩ := l_who36 hN hW hwh h0 hmany Q n1 (ws what a l) M' (mv_fe hR h2) h3 (fun y hy => hQ y (List.mem_cons_of_mem _ hy)) (by omega)
    exact ⟨M2, n2, s1.trans t1, by simp only [List.length_cons]; omega, h2.tr t3⟩
theorem foldl_map_fst (what : Nat) : ∀ (X : List RW) (a : Nat), (X.map Prod.fst).foldl (ws what) a = X.foldl (fun s q => ws what s q.1) a
  | [], _ => rfl
  | q :: X, a => by rw [List.map_cons, List.foldl_cons, List.foldl_cons, foldl_map_fst what X]
theorem l_who20 {N : Nat} (hN : big N) {R : RV} (hW : Wf R) {what : Nat} (hwh : what ≤ 2) : ∀ (d k n a : Nat) (M : XM), k + d = 6 → 0 < k → 13000010 * d < n → mv R M → M.1 80 0 = Int32.ofInt 0 → ∃ M' n', gX9_who N n 20 [.ref 64, .int (Int32.ofInt what), .int (Int32.ofInt a), .int (Int32.ofInt k), .retAddr 0] [] M = gX9_who N (n' + 1) 20 [.ref 64, .int (Int32.ofInt what), .int (Int32.ofInt ((VR (wR R) d k).foldl (fun s q => ws what s q.1) a : Nat)), .int (Int32.ofInt 6), .retAddr 0] [] M' ∧ fe M M'
  | 0, k, n, a, M, hk, h0, hn, hR, h80 => by
    obtain rfl : k = 6 := by omega
    exact ⟨M, n - 1, by rw [show n - 1 + 1 = n by omega]; rfl, fe.rf⟩
  | d + 1, k, n, a, M, hk, h0, hn, hR, h80 => by
    have hN' := hN
    unfold big at hN'
    obtain ⟨n, rfl⟩ : ∃ j, n = j + 1 := ⟨n - 1, by omega⟩
    have hlen := rowsM_len R R.lv false (many := k) (by omega)
    obtain ⟨M1, a1, a2, a3⟩ := v_begins (N := N) (R := R) (m := R.lv) (cf := false) (many := k) h0 h80
    obtain ⟨M2, n2, b1, b2, b3⟩ := l_who36 hN hW hwh h0 (by omega) _ n a M1 (mv_fe hR a2) a3 (fun l hl => rowsM_ok hW hl) (by omega)
    have h80' : M2.1 80 0 = Int32.ofInt 0 := by
      rw [b3.2 _ _ (by omega) (by omega) (by omega), a2.2 _ _ (by omega) (by omega) (by omega)]
      exact h80
    obtain ⟨M3, n3, c1, c2⟩ := l_who20 hN hW hwh d (k + 1) n2 ((rowsM R R.lv false k).foldl (ws what) a) M2 (by omega) (by omega) (by omega) (mv_fe (mv_fe hR a2) b3) h80'
    refine ⟨M3, n3, ?_, (a2.tr b3).tr c2⟩
    rw [VR, List.foldl_append, ← foldl_map_fst what (Vn (wR R) k), ← rows_Vn, ← c1, ← b1, eX9_who_20, i_lt (by omega) (by omega), decide_eq_true (by omega), cond_true, v_living (by omega) hR hW, e_bd]
    show (fX9_begins N [.ref 64, .int (Int32.ofInt k), .int (Int32.ofInt R.lv), .int (bi false)] M).bind _ = _
    rw [a1, e_bd]
theorem v_begi {N : Nat} (hN : big N) {S : SV} (hW : WfS S) {M : XM} (hS : SYw 22 6 2400 (wR S.R) M) : fX4_beginners N [.ref 22, .int (Int32.ofInt 5)] M = some (Int32.ofInt ((VL (wR S.R) 5).foldl (fun s q => ws 0 s q.1) 0 : Nat), M) ∧ fX4_enders N [.ref 22, .int (Int32.ofInt 5)] M = some (Int32.ofInt ((VL (wR S.R) 5).foldl (fun s q => ws 1 s q.1) 0 : Nat), M) ∧ fX4_standing N [.ref 22, .int (Int32.ofInt 5)] M = some (Int32.ofInt ((VL (wR S.R) 5).foldl (fun s q => ws 2 s q.1) 0 : Nat), M) := by
  unfold big at hN
  have so : SO 22 6 2400 := .inl ⟨rfl, rfl, rfl⟩
  have hrm := VL_rm hS (n := 5) (by omega)
  obtain ⟨X, hX, _⟩ := VL_app (wR S.R) (j := 5) (L := 6) (by omega)
  have hsub : ∀ q ∈ VL (wR S.R) 5, q ∈ VL (wR S.R) 6 := fun q hq => by rw [hX]; exact List.mem_append_left _ hq
  refine ⟨?_, ?_, ?_⟩
  · rw [eX4_beginners _ _ _ (by omega)]
    exact l_begi so hW.1 hS (h := 5) (by omega) _ 0 N 0 (SM_0 hS (by omega)) hsub (by omega) (by omega)
  · rw [eX4_enders _ _ _ (by omega)]
    exact l_ende so hW.1 hS (h := 5) (by omega) _ 0 N 0 (SM_0 hS (by omega)) hsub (by omega) (by omega)
  · rw [eX4_standing _ _ _ (by omega)]
    exact l_stan so hW.1 hS (h := 5) (by omega) _ 0 N 0 (SM_0 hS (by omega)) hsub (by omega) (by omega)
set_option maxRecDepth 100000 in
theorem op_who {t : Nat} {S : SV} (hW : WfS S) {N : Nat} (hN : big N) (a : Int32) : both t S (fX8_who N [.ref 0, .int a]) (fX9_who N [.ref 64, .int a]) := by
  obtain ⟨x, hx, rfl⟩ := i_ex a
  have hN' := hN
  unfold big at hN'
  by_cases h1 : 0 ≤ x ∧ x ≤ 2
  · obtain ⟨w, rfl⟩ := Int.eq_ofNat_of_zero_le h1.1
    have mdl : ∀ M, CM S M → ∃ M', fX9_who N [.ref 64, .int (Int32.ofInt w)] M = (bif decide (w = 2) then some (Int32.ofInt S.R.lv &&& (Int32.ofInt ((VL (wR S.R) 5).foldl (fun s q => ws w s q.1) 0 : Nat) ^^^ Int32.ofInt (-1)), M') else some (Int32.ofInt ((VL (wR S.R) 5).foldl (fun s q => ws w s q.1) 0 : Nat), M')) ∧ f8 M M' := by
      intro M hM
      obtain ⟨M', n', b1, b2⟩ := l_who20 hN hW.1 (what := w) (by omega) 5 1 N 0 M (by omega) (by omega) (by omega) hM.1 hM.2.2.2.2.2.2.2.1
      rw [VR_1] at b1
      refine ⟨M', ?_, b2.f8⟩
      rw [eX9_who, v_win hx (by omega) (by omega), e_bd, b_z, decide_eq_true h1, cond_true]
      refine b1.trans ?_
      rw [eX9_who_20, show xlt (Int32.ofInt 6) (Int32.ofInt 6) = false from rfl, cond_false, i_eq (by omega) (by omega)]
      by_cases h : w = 2
      · rw [decide_eq_true (show (w : Int) = 2 by omega), decide_eq_true h, cond_true, cond_true, v_living (by omega) (mv_fe hM.1 b2) hW.1, e_bd, e_I]
      · rw [decide_eq_false (show ¬ (w : Int) = 2 by omega), decide_eq_false h, cond_false, cond_false, e_I]
    rcases (show w = 0 ∨ w = 1 ∨ w = 2 by omega) with rfl | rfl | rfl
    · refine both_v hW (Int32.ofInt ((VL (wR S.R) 5).foldl (fun s q => ws 0 s q.1) 0 : Nat)) (fun M hM => ?_) (fun M hM => ?_)
      · obtain ⟨M', a1, a2, a3, a4⟩ := v_now hN hW hM
        refine ⟨M', ?_, a2, a4⟩
        rw [eX8_who, chk0 hx (by omega), decide_eq_true h1, cond_true, a1, e_bd, show xeq (Int32.ofInt (0 : Nat)) 0 = true from rfl, cond_true, (v_begi hN hW a3).1]
        rfl
      · obtain ⟨M', g1, g2⟩ := mdl M hM
        exact ⟨M', g1, g2⟩
    · refine both_v hW (Int32.ofInt ((VL (wR S.R) 5).foldl (fun s q => ws 1 s q.1) 0 : Nat)) (fun M hM => ?_) (fun M hM => ?_)
      · obtain ⟨M', a1, a2, a3, a4⟩ := v_now hN hW hM
        refine ⟨M', ?_, a2, a4⟩
        rw [eX8_who, chk0 hx (by omega), decide_eq_true h1, cond_true, a1, e_bd, show xeq (Int32.ofInt (1 : Nat)) 0 = false by decide +kernel, cond_false, show xeq (Int32.ofInt (1 : Nat)) (Int32.ofInt 1) = true from rfl, cond_true, (v_begi hN hW a3).2.1]
        rfl
      · obtain ⟨M', g1, g2⟩ := mdl M hM
        exact ⟨M', g1, g2⟩
    · refine both_v hW (Int32.ofInt S.R.lv &&& (Int32.ofInt ((VL (wR S.R) 5).foldl (fun s q => ws 2 s q.1) 0 : Nat) ^^^ Int32.ofInt (-1))) (fun M hM => ?_) (fun M hM => ?_)
      · obtain ⟨M', a1, a2, a3, a4⟩ := v_now hN hW hM
        refine ⟨M', ?_, a2, a4⟩
        rw [eX8_who, chk0 hx (by omega), decide_eq_true h1, cond_true, a1, e_bd, show xeq (Int32.ofInt (2 : Nat)) 0 = false by decide +kernel, cond_false, show xeq (Int32.ofInt (2 : Nat)) (Int32.ofInt 1) = false by decide +kernel, cond_false, (v_begi hN hW a3).2.2, e_bd, e_I, show 0 + 1 = 1 from rfl, a2.1.2.1]
      · obtain ⟨M', g1, g2⟩ := mdl M hM
        exact ⟨M', g1, g2⟩
  · refine both_ref' hW 0 (by omega) N (fun M hM => ?_) (fun M hM => ?_)
    · rw [eX8_who, chk0 hx (by omega), decide_eq_false h1]; rfl
    · rw [eX9_who, v_win hx (by omega) (by omega), e_bd, b_z, decide_eq_false h1]; rfl
