def f_soon (R : RV) (c : Nat) : List Nat → Nat → Int → Int
  | [], _, x => x
  | b :: l, i, x => f_soon R c l (i + 1) (if x < stp (R.ce b) (c + i) then stp (R.ce b) (c + i) else x)
theorem f_soon_b {R : RV} (hW : Wf R) {c : Nat} : ∀ (l : List Nat) (i : Nat) (x : Int), (∀ b ∈ l, b < R.nb) → c + i + l.length ≤ 6 → 0 ≤ x ∧ x ≤ 20 → 0 ≤ f_soon R c l i x ∧ f_soon R c l i x ≤ 20
  | [], _, _, _, _, h => h
  | b :: l, i, x, hl, hc, h => by
    simp only [List.length_cons] at hc
    have hs := stp_b (ce_60 hW (hl b List.mem_cons_self)) (b := c + i) (by omega)
    rw [f_soon]
    refine f_soon_b hW l (i + 1) _ (fun y hy => hl y (List.mem_cons_of_mem _ hy)) (by omega) ?_
    split <;> omega
theorem l_soon8 {N : Nat} {R : RV} (hW : Wf R) {M : XM} (hR : cv 1 R M) {l : List Nat} (hl : ∀ c ∈ l, c < R.nb) {c : Nat} (hc : c + l.length ≤ 6) : ∀ (u : List Nat) (j n : Nat) (x : Int), l.drop j = u → j + u.length = l.length → u.length < n → 0 ≤ x ∧ x ≤ 20 → gX2_soon N n 6 [.ref 1, .long (Int64.ofInt (pack l : Nat)), .retAddr 0, .int (Int32.ofInt l.length), .int (Int32.ofInt c), .int (Int32.ofInt x), .int (Int32.ofInt j)] [] M = some (Int32.ofInt (f_soon R c u j x), M)
  | [], j, n + 1, x, ht, hj, hn, hx => by
    simp only [List.length_nil] at hj
    rw [eX2_soon_6 _ _ _ _ _ _ _ _ (by omega), i_lt (by omega) (by omega), decide_eq_false (by omega)]
    rfl
  | b :: u, j, n + 1, x, ht, hj, hn, hx => by
    simp only [List.length_cons] at hj hn
    have h10 := hW.1
    have hja : l[j]? = some b := by rw [← List.head?_drop, ht]; rfl
    have ht' : l.drop (j + 1) = u := by rw [← List.drop_drop, ht]; rfl
    have hb := hl b (List.mem_of_getElem? hja)
    have hs := stp_b (ce_60 hW hb) (b := c + j) (by omega)
    rw [eX2_soon_6 _ _ _ _ _ _ _ _ (by omega), i_lt (by omega) (by omega), decide_eq_true (by omega), cond_true, v_at (fun y hy => by have := hl y hy; omega) (by omega) hja, e_bd]
    dsimp only
    rw [i_inn (by omega), show xlen M (1 + 3) = 16 from rfl, decide_eq_true (by omega), cond_true, i_natn (by omega), show 1 + 3 = 4 from rfl, (hR.2.2.2.2.2.1 b hb).2.2.1, i_plus, v_steps (ce_60 hW hb) (by omega), e_bd, i_max (by omega) (by omega), e_bd, i_suc, f_soon]
    exact l_soon8 hW hR hl hc u (j + 1) n _ ht' (by omega) (by omega) (by split <;> omega)
theorem stp_r {a c i : Nat} (h : c + i < 10) : stp a (c + i) = ((a / 10 : Nat) : Int) + ab ((a % 10 : Nat) - (c : Int) - (i : Int)) := by
  unfold stp
  have h1 : ab ((a / 10 : Nat) - ((0 : Nat) : Int) : Int) = ((a / 10 : Nat) : Int) := by
    unfold ab
    rw [if_pos (by omega)]
    omega
  have h2 : ((a % 10 : Nat) : Int) - ((c + i : Nat) : Int) = (a % 10 : Nat) - (c : Int) - (i : Int) := by omega
  rw [show (c + i) / 10 = 0 by omega, show (c + i) % 10 = c + i by omega, h1, h2]
theorem l_soon9 {N : Nat} {R : RV} (hW : Wf R) {M : XM} (hR : mv R M) {l : List Nat} (hl : ∀ c ∈ l, c < R.nb) (hr : rowAt l M) {c : Nat} (hc : c + l.length ≤ 6) : ∀ (u : List Nat) (j n : Nat) (x : Int), l.drop j = u → j + u.length = l.length → u.length < n → 0 ≤ x ∧ x ≤ 20 → gX9_soonFrom N n 5 [.ref 64, .int (Int32.ofInt l.length), .int (Int32.ofInt c), .int (Int32.ofInt x), .int (Int32.ofInt j)] [] M = some (Int32.ofInt (f_soon R c u j x), M)
  | [], j, n + 1, x, ht, hj, hn, hx => by
    simp only [List.length_nil] at hj
    rw [eX9_soonFrom_5, i_lt (by omega) (by omega), decide_eq_false (by omega)]
    rfl
  | b :: u, j, n + 1, x, ht, hj, hn, hx => by
    simp only [List.length_cons] at hj hn
    have h10 := hW.1
    have hja : l[j]? = some b := by rw [← List.head?_drop, ht]; rfl
    have ht' : l.drop (j + 1) = u := by rw [← List.drop_drop, ht]; rfl
    have hb := hl b (List.mem_of_getElem? hja)
    have hce := ce_60 hW hb
    have hs := stp_b hce (b := c + j) (by omega)
    have h67 : M.1 67 b = Int32.ofInt (R.ce b) := (hR.2.2.2.2.1 b hb).2.2.1
    rw [eX9_soonFrom_5, i_lt (by omega) (by omega), decide_eq_true (by omega), cond_true, show xeq (Int32.ofInt 10) 0 = false by decide +kernel]
    simp (disch := omega) only [cond_false, Nat.reduceAdd, xl_79', i_inn, i_natn, decide_eq_true, cond_true, hr j b hja, show ∀ M, xlen M 67 = 11 from fun _ => rfl, h67]
    have t1 := (td10 (R.ce b)).1
    have t2 := (td10 (R.ce b)).2
    rw [i_div (by omega) (by omega), i_mul, i_sub, i_sub, i_sub, t2, t1, i_abs (by omega), e_bd, i_add, ← stp_r (by omega), i_max (by omega) (by omega), e_bd, i_suc, f_soon]
    exact l_soon9 hW hR hl hr hc u (j + 1) n _ ht' (by omega) (by omega) (by split <;> omega)
def svl (R : RV) (l : List Nat) (c : Nat) : Int := f_soon R c l 0 0
def f_bst (R : RV) (l : List Nat) : Nat → Nat → Nat → Nat
  | 0, _, s => s
  | d + 1, c, s => f_bst R l d (c + 1) (if svl R l c < svl R l s then c else s)
theorem f_bst_b (R : RV) (l : List Nat) : ∀ d c s, s + l.length ≤ 6 → c + d + l.length ≤ 7 → f_bst R l d c s + l.length ≤ 6
  | 0, _, _, h, _ => h
  | d + 1, c, s, h, h2 => by
    rw [f_bst]
    refine f_bst_b R l d (c + 1) _ ?_ (by omega)
    split <;> omega
theorem v_soon8 {N : Nat} (hN : 11 < N) {R : RV} (hW : Wf R) {M : XM} (hR : cv 1 R M) {l : List Nat} (hl : ∀ c ∈ l, c < R.nb) {c : Nat} (hc : c + l.length ≤ 6) : fX2_soon N [.ref 1, .long (Int64.ofInt (pack l : Nat)), .int (Int32.ofInt l.length), .int (Int32.ofInt c)] M = some (Int32.ofInt (svl R l c), M) := by
  rw [eX2_soon _ _ _ _ _ (by omega)]
  exact l_soon8 hW hR hl hc l 0 N 0 rfl (by omega) (by omega) (by omega)
theorem v_soon9 {N : Nat} (hN : 11 < N) {R : RV} (hW : Wf R) {M : XM} (hR : mv R M) {l : List Nat} (hl : ∀ c ∈ l, c < R.nb) (hr : rowAt l M) {c : Nat} (hc : c + l.length ≤ 6) : fX9_soonFrom N [.ref 64, .int (Int32.ofInt l.length), .int (Int32.ofInt c)] M = some (Int32.ofInt (svl R l c), M) := by
  rw [eX9_soonFrom]
  exact l_soon9 hW hR hl hr hc l 0 N 0 rfl (by omega) (by omega) (by omega)
theorem l_bst8 {N : Nat} (hN : 11 < N) {R : RV} (hW : Wf R) {M : XM} (hR : cv 1 R M) {l : List Nat} (hl : ∀ c ∈ l, c < R.nb) : ∀ (d c s n : Nat), c + d + l.length = 7 → d < n → s + l.length ≤ 6 → gX2_bestColumn N n 6 [.ref 1, .long (Int64.ofInt (pack l : Nat)), .retAddr 0, .int (Int32.ofInt l.length), .int (Int32.ofInt s), .int (Int32.ofInt c)] [] M = some (Int32.ofInt (f_bst R l d c s), M)
  | 0, c, s, n + 1, h, hn, hs => by
    rw [eX2_bestColumn_6 _ _ _ _ _ _ _ (by omega), i_plus, i_lt (by omega) (by omega), decide_eq_true (by omega)]
    rfl
  | d + 1, c, s, n + 1, h, hn, hs => by
    have b1 : 0 ≤ svl R l c ∧ svl R l c ≤ 20 := f_soon_b hW l 0 0 hl (by omega) (by omega)
    have b2 : 0 ≤ svl R l s ∧ svl R l s ≤ 20 := f_soon_b hW l 0 0 hl (by omega) (by omega)
    rw [eX2_bestColumn_6 _ _ _ _ _ _ _ (by omega), i_plus, i_lt (by omega) (by omega), decide_eq_false (by omega), cond_false, v_soon8 hN hW hR hl (by omega), e_bd]
    dsimp only
    rw [v_soon8 hN hW hR hl (by omega), e_bd]
    dsimp only
    rw [i_lt (by omega) (by omega), i_suc, f_bst]
    by_cases e : svl R l c < svl R l s
    · rw [decide_eq_true e, cond_true, if_pos e]
      exact l_bst8 hN hW hR hl d (c + 1) c n (by omega) (by omega) (by omega)
    · rw [decide_eq_false e, cond_false, if_neg e]
      exact l_bst8 hN hW hR hl d (c + 1) s n (by omega) (by omega) hs
theorem l_bst9 {N : Nat} (hN : 11 < N) {R : RV} (hW : Wf R) {M : XM} (hR : mv R M) {l : List Nat} (hl : ∀ c ∈ l, c < R.nb) (hr : rowAt l M) : ∀ (d c s n : Nat), c + d + l.length = 7 → d < n → s + l.length ≤ 6 → gX9_bestColumn N n 4 [.ref 64, .int (Int32.ofInt l.length), .int (Int32.ofInt s), .int (Int32.ofInt c)] [] M = some (Int32.ofInt (f_bst R l d c s), M)
  | 0, c, s, n + 1, h, hn, hs => by
    rw [eX9_bestColumn_4, i_plus, i_lt (by omega) (by omega), decide_eq_false (by omega)]
    rfl
  | d + 1, c, s, n + 1, h, hn, hs => by
    have b1 : 0 ≤ svl R l c ∧ svl R l c ≤ 20 := f_soon_b hW l 0 0 hl (by omega) (by omega)
    have b2 : 0 ≤ svl R l s ∧ svl R l s ≤ 20 := f_soon_b hW l 0 0 hl (by omega) (by omega)
    rw [eX9_bestColumn_4, i_plus, i_lt (by omega) (by omega), decide_eq_true (by omega), cond_true, v_soon9 hN hW hR hl hr (by omega), e_bd]
    dsimp only
    rw [v_soon9 hN hW hR hl hr (by omega), e_bd]
    dsimp only
    rw [i_lt (by omega) (by omega), i_suc, f_bst]
    by_cases e : svl R l c < svl R l s
    · rw [decide_eq_true e, cond_true, if_pos e]
      exact l_bst9 hN hW hR hl hr d (c + 1) c n (by omega) (by omega) (by omega)
    · rw [decide_eq_false e, cond_false, if_neg e]
      exact l_bst9 hN hW hR hl hr d (c + 1) s n (by omega) (by omega) hs
def bst (R : RV) (l : List Nat) : Nat := f_bst R l (6 - l.length) 1 0
theorem bst_b {R : RV} {l : List Nat} (h : l.length ≤ 6) : bst R l + l.length ≤ 6 := f_bst_b R l _ 1 0 (by omega) (by omega)
theorem v_bst8 {N : Nat} (hN : 11 < N) {R : RV} (hW : Wf R) {M : XM} (hR : cv 1 R M) {l : List Nat} (hl : ∀ c ∈ l, c < R.nb) (h6 : l.length ≤ 6) : fX2_bestColumn N [.ref 1, .long (Int64.ofInt (pack l : Nat)), .int (Int32.ofInt l.length)] M = some (Int32.ofInt (bst R l), M) := by
  rw [eX2_bestColumn _ _ _ _ (by omega)]
  exact l_bst8 hN hW hR hl (6 - l.length) 1 0 N (by omega) (by omega) (by omega)
theorem v_bst9 {N : Nat} (hN : 11 < N) {R : RV} (hW : Wf R) {M : XM} (hR : mv R M) {l : List Nat} (hl : ∀ c ∈ l, c < R.nb) (hr : rowAt l M) (h6 : l.length ≤ 6) : fX9_bestColumn N [.ref 64, .int (Int32.ofInt l.length)] M = some (Int32.ofInt (bst R l), M) := by
  rw [eX9_bestColumn]
  exact l_bst9 hN hW hR hl hr (6 - l.length) 1 0 N (by omega) (by omega) (by omega)
theorem l_feuds9 {N : Nat} {R : RV} (hW : Wf R) {M : XM} (hR : mv R M) {l : List Nat} (hl : ∀ c ∈ l, c < R.nb) (hr : rowAt l M) (h10 : l.length ≤ 10) : ∀ (t : List Nat) (a n j z : Nat), l.drop j = a :: t → j + 1 + t.length = l.length → t.length < n → gX9_stands N n 113 [.ref 64, .retAddr 0, .int (Int32.ofInt l.length), .retAddr 0, .retAddr 0, .int (Int32.ofInt z), .int (Int32.ofInt ((j + 1 : Nat) : Int))] [] M = some (Int32.ofInt ((z + fdn R (a :: t) : Nat) : Int), M)
  | [], a, n + 1, j, z, ht, hj, hn => by
    simp only [List.length_nil] at hj
    rw [eX9_stands_113, i_lt (by omega) (by omega), decide_eq_false (by omega), cond_false, e_I]
    rfl
  | b :: t, a, n + 1, j, z, ht, hj, hn => by
    simp only [List.length_cons] at hj hn
    have hnb := hW.1
    have hja : l[j]? = some a := by rw [← List.head?_drop, ht]; rfl
    have ht' : l.drop (j + 1) = b :: t := by rw [← List.drop_drop, ht]; rfl
    have hjb : l[j + 1]? = some b := by rw [← List.head?_drop, ht']; rfl
    have ha := hl a (List.mem_of_getElem? hja)
    have hb := hl b (List.mem_of_getElem? hjb)
    have ih := fun z => l_feuds9 (N := N) hW hR hl hr h10 t b n (j + 1) z ht' (by omega) (by omega)
    have h69 : M.1 69 a = Int32.ofInt (R.fd a) := (hR.2.2.2.2.1 a ha).2.2.2.2.1
    rw [eX9_stands_113, i_lt (by omega) (by omega), decide_eq_true (by omega), cond_true, i_sub, show ((j + 1 : Nat) : Int) - 1 = (j : Int) by omega]
    simp (disch := omega) only [Nat.reduceAdd, xl_79', i_inn, i_natn, decide_eq_true, cond_true, hr j a hja, hr (j + 1) b hjb, show ∀ M, xlen M 69 = 11 from fun _ => rfl, h69]
    rw [m_lt (by have := fd_small hW ha; omega) (by omega), e_bd]
    dsimp only
    rw [b_z]
    simp only [i_suc]
    show _ = some (Int32.ofInt ((z + ((if (R.fd a).testBit b = true then 1 else 0) + fdn R (b :: t)) : Nat) : Int), M)
    cases (R.fd a).testBit b with
    | false =>
      rw [cond_false, if_neg Bool.false_ne_true, Nat.zero_add]
      exact ih z
    | true =>
      rw [cond_true, if_pos rfl, ← Nat.add_assoc]
      exact ih (z + 1)
set_option maxRecDepth 100000 in
theorem op_stands {t : Nat} {S : SV} (hW : WfS S) {N : Nat} (hN : big N) (a b c : Int32) : both t S (fX8_stands N [.ref 0, .int a, .int b, .int c]) (fX9_stands N [.ref 64, .int a, .int b, .int c]) := by
  obtain ⟨z, hz, rfl⟩ := i_ex b
  obtain ⟨w, hw, rfl⟩ := i_ex c
  have hN' := hN
  unfold big at hN'
  obtain ⟨n, hn⟩ : ∃ n, N = n + 1 := ⟨N - 1, by omega⟩
  have hwg := wt_ge (S := S) (a := a) (z := z)
  have htg := tt_ge (S := S) (a := a) (z := z)
  have hm2 : xeq (Int32.ofInt (-2)) 0 = false := by decide +kernel
  have s42 : ∀ (x : Int) (M : XM), rg x → x ≠ 0 → gX8_stands N N 42 [.ref 0, .retAddr 0, .int (Int32.ofInt z), .int (Int32.ofInt w), .int (Int32.ofInt x), .retAddr 0] [] M = ((fX8_refuse N [.ref 0, .int (Int32.ofInt x)] M).bind fun q0 => xrI (some (.int q0.1)) q0.2) := by
    intro x M hx h0
    have h := eX8_stands_42 N n (Int32.ofInt z) (Int32.ofInt w) (Int32.ofInt x) M
    rw [← hn] at h
    rw [h, xeq0 hx, decide_eq_false h0, cond_false]
  by_cases hw2 : 0 ≤ w ∧ w ≤ 2
  · obtain ⟨w, rfl⟩ := Int.eq_ofNat_of_zero_le hw2.1
    have t2 : xeq (Int32.ofInt (w : Int)) (Int32.ofInt 2) = decide (w = 2) := by rw [i_eq (by omega) (by omega)]; exact decide_eq_decide.mpr (by omega)
    have t1 : xeq (Int32.ofInt (w : Int)) (Int32.ofInt 1) = decide (w = 1) := by rw [i_eq (by omega) (by omega)]; exact decide_eq_decide.mpr (by omega)
    have t0 : xeq (Int32.ofInt (w : Int)) (0 : Int32) = decide (w = 0) := by rw [xeq0 (by omega)]; exact decide_eq_decide.mpr (by omega)
    have cls : ∀ M, fX8_stands N [.ref 0, .int a, .int (Int32.ofInt z), .int (Int32.ofInt w)] M = ((fX8_wrongTrouble N [.ref 0, .int a, .int (Int32.ofInt z)] M).bind fun q0 => bif xeq q0.1 (0 : Int32) then (bif decide (w = 2) then (gX8_stands N N 42 [.ref 0, .retAddr 0, .int (Int32.ofInt z), .int (Int32.ofInt w), .int q0.1, .retAddr 0] [] q0.2) else (bif xlt (Int32.ofInt 6) (Int32.ofInt z) then (gX8_stands N N 42 [.ref 0, .retAddr 0, .int (Int32.ofInt z), .int (Int32.ofInt w), .int (Int32.ofInt (-5)), .retAddr 0] [] q0.2) else (gX8_stands N N 42 [.ref 0, .retAddr 0, .int (Int32.ofInt z), .int (Int32.ofInt w), .int q0.1, .retAddr 0] [] q0.2))) else (gX8_stands N N 42 [.ref 0, .retAddr 0, .int (Int32.ofInt z), .int (Int32.ofInt w), .int q0.1, .retAddr 0] [] q0.2)) := by
      intro M
      rw [eX8_stands, hm2]
      simp only [cond_false]
      rw [chk0 hw (by omega), decide_eq_true hw2, cond_true, t2]
    have crf : ∀ M, CX t S M → wt S a z ≠ 0 → ∃ M', fX8_stands N [.ref 0, .int a, .int (Int32.ofInt z), .int (Int32.ofInt w)] M = ((fX8_refuse N [.ref 0, .int (Int32.ofInt (wt S a z))] M').bind fun q1 => xrI (some (.int q1.1)) q1.2) ∧ CX t S M' ∧ fr 0 64 M M' := by
      intro M hM hne
      obtain ⟨M', g1, g2, g3, g4⟩ := v_wt hN hW hM a hz
      refine ⟨M', ?_, g2, g3⟩
      rw [cls, g1, e_bd]
      dsimp only
      rw [xeq0 (by omega), decide_eq_false hne, cond_false, s42 _ _ (by omega) hne]
    rcases told_9 hN hW (a := a) hz with ⟨k, m, hk, rfl, rfl, hz2, h, hwt, hm⟩ | ⟨h, hwt⟩
    · have mdl : ∀ M, CM S M → ∃ M', fX9_stands N [.ref 64, .int (Int32.ofInt k), .int (Int32.ofInt m), .int (Int32.ofInt w)] M = (bif decide ((hrd S k m).1 = -1) then (bif decide (w < 2) then (bif decide (6 < m) then ((fX9_no N [.ref 64, .int (Int32.ofInt (-5))] M').bind fun q5 => xrI (some (.int q5.1)) q5.2) else (bif decide (w = 0) then ((fX9_bestColumn N [.ref 64, .int (Int32.ofInt m)] M').bind fun q5 => (fX9_soonFrom N [.ref 64, .int (Int32.ofInt m), .int q5.1] q5.2).bind fun q6 => xrI (some (.int q6.1)) q6.2) else (bif decide (w = 1) then ((fX9_bestColumn N [.ref 64, .int (Int32.ofInt m)] M').bind fun q5 => xrI (some (.int q5.1)) q5.2) else (gX9_stands N N 113 [.ref 64, .retAddr 0, .int (Int32.ofInt m), .retAddr 0, .retAddr 0, .int (Int32.ofInt 0), .int (Int32.ofInt 1)] [] M')))) else (bif decide (w = 0) then ((fX9_bestColumn N [.ref 64, .int (Int32.ofInt m)] M').bind fun q5 => (fX9_soonFrom N [.ref 64, .int (Int32.ofInt m), .int q5.1] q5.2).bind fun q6 => xrI (some (.int q6.1)) q6.2) else (bif decide (w = 1) then ((fX9_bestColumn N [.ref 64, .int (Int32.ofInt m)] M').bind fun q5 => xrI (some (.int q5.1)) q5.2) else (gX9_stands N N 113 [.ref 64, .retAddr 0, .int (Int32.ofInt m), .retAddr 0, .retAddr 0, .int (Int32.ofInt 0), .int (Int32.ofInt 1)] [] M')))) else ((fX9_no N [.ref 64, .int (Int32.ofInt (-5))] M').bind fun q5 => xrI (some (.int q5.1)) q5.2)) ∧ fe M M' ∧ rowAt (hrd S k m).2.reverse M' := by
        intro M hM
        obtain ⟨M', g1, g2, g3⟩ := hm M hM
        have hrg := hrd_rg hW k m
        refine ⟨M', ?_, g2, g3⟩
        rw [eX9_stands, v_isShelf.2, e_bd, b_z, i_inn (by omega), decide_eq_true hk, cond_true, v_win hz (by omega) (by omega), e_bd, b_z, decide_eq_true hz2, cond_true, v_win hw (by omega) (by omega), e_bd, b_z, decide_eq_true hw2, cond_true]
        dsimp only
        rw [v_ns hW hM hk hz2, h, e_bd]
        dsimp only
        rw [xlt0 (by omega), decide_eq_false (by omega), cond_false, g1, e_bd]
        dsimp only
        rw [i_eq (by omega) (by omega), i_lt (by omega) (by omega), i_lt (by omega) (by omega), t0, t1, show decide ((w : Int) < 2) = decide (w < 2) from decide_eq_decide.mpr (by omega), show decide ((6 : Int) < (m : Int)) = decide (6 < m) from decide_eq_decide.mpr (by omega)]
      by_cases e : (hrd S k m).1 = -1
      · obtain ⟨k1, k2, k3⟩ := hrd_ok hW e
        rw [if_pos e] at hwt
        have hl : ∀ c ∈ (hrd S k m).2.reverse, c < S.R.nb := fun c hc => (k1.1 c hc).1
        have hpos : 0 < (hrd S k m).2.reverse.length := by
          cases hr : (hrd S k m).2.reverse with
          | nil =>
            have := k1.2.1
            rw [hr] at this
            exact absurd (show wts 0 = 0 from this) (by decide)
          | cons x y => simp
        have c42 : ∀ M, CX t S M → ∃ M', fX8_stands N [.ref 0, .int (Int32.ofInt k), .int (Int32.ofInt m), .int (Int32.ofInt w)] M = (bif decide (w = 2) then ((fX2_feuds N [.ref 1, .long (Int64.ofInt (pack (hrd S k m).2.reverse : Nat)), .int (Int32.ofInt m)] M').bind fun q0 => xrI (some (.int q0.1)) q0.2) else (bif decide (6 < m) then ((fX8_refuse N [.ref 0, .int (Int32.ofInt (-5))] M').bind fun q0 => xrI (some (.int q0.1)) q0.2) else ((fX2_bestColumn N [.ref 1, .long (Int64.ofInt (pack (hrd S k m).2.reverse : Nat)), .int (Int32.ofInt m)] M').bind fun q0 => bif decide (w = 1) then (xrI (some (.int q0.1)) q0.2) else ((fX2_soon N [.ref 1, .long (q0.2.2 43 0), .int (Int32.ofInt m), .int q0.1] q0.2).bind fun q1 => xrI (some (.int q1.1)) q1.2)))) ∧ CX t S M' ∧ fr 0 64 M M' ∧ M'.2 43 0 = Int64.ofInt (pack (hrd S k m).2.reverse : Nat) := by
          intro M hM
          obtain ⟨M', g1, g2, g3, g4⟩ := v_wt hN hW hM (Int32.ofInt k) hz
          have g4 := g4 h
          rw [i_natn (by omega), Int.toNat_natCast] at g4
          refine ⟨M', ?_, g2, g3, g4⟩
          have h42 := eX8_stands_42 N n (Int32.ofInt m) (Int32.ofInt w) (Int32.ofInt 0) M'
          rw [← hn, show xeq (Int32.ofInt 0) 0 = true from rfl, cond_true, t2, t1, show 0 + 1 = 1 from rfl, show 0 + 43 = 43 from rfl, g4] at h42
          rw [cls, g1, e_bd]
          dsimp only
          rw [hwt, show xeq (Int32.ofInt 0) 0 = true from rfl, cond_true, h42, s42 (-5) M' (by omega) (by omega), i_lt (by omega) (by omega), show decide ((6 : Int) < (m : Int)) = decide (6 < m) from decide_eq_decide.mpr (by omega)]
          by_cases e2 : w = 2
          · rw [decide_eq_true e2]; rfl
          · rw [decide_eq_false e2]; rfl
        by_cases e2 : w = 2
        · refine both_v hW (Int32.ofInt (fdn S.R (hrd S k m).2.reverse)) (fun M hM => ?_) (fun M hM => ?_)
          · obtain ⟨M', g1, g2, g3, g4⟩ := c42 M hM
            have hf := v_feuds (N := N) (o := 1) (by omega) (.inl rfl) hW.1 g2.1 hl (by omega) hpos
            rw [k2] at hf
            refine ⟨M', ?_, g2, g3⟩
            rw [g1, decide_eq_true e2, cond_true, hf]
            rfl
          · obtain ⟨M', g1, g2, g3⟩ := mdl M hM
            refine ⟨M', ?_, g2.f8⟩
            rw [g1, decide_eq_true e, cond_true, decide_eq_false (show ¬ w < 2 by omega), cond_false, decide_eq_false (show ¬ w = 0 by omega), cond_false, decide_eq_false (show ¬ w = 1 by omega), cond_false]
            cases hr : (hrd S k m).2.reverse with
            | nil => rw [hr] at hpos; simp at hpos
            | cons x y =>
              rw [hr] at hl g3 k2
              have := l_feuds9 (N := N) hW.1 (mv_fe hM.1 g2) hl g3 (by omega) y x N 0 0 rfl (by simp; omega) (by simp at k2; omega)
              rw [k2, show 0 + fdn S.R (x :: y) = fdn S.R (x :: y) from Nat.zero_add _] at this
              exact this
        · by_cases e6 : 6 < m
          · refine both_refx hW 3 (by omega) N (fun M hM => ?_) (fun M hM => ?_)
            · obtain ⟨M', g1, g2, g3, g4⟩ := c42 M hM
              exact ⟨M', by rw [g1, decide_eq_false e2, decide_eq_true e6]; rfl, g2, g3⟩
            · obtain ⟨M', g1, g2, g3⟩ := mdl M hM
              exact ⟨M', by rw [g1, decide_eq_true e, decide_eq_true (show w < 2 by omega), decide_eq_true e6]; rfl, g2.f8⟩
          · have hbb := bst_b (R := S.R) (l := (hrd S k m).2.reverse) (by omega)
            have b8 : ∀ M, CX t S M → fX2_bestColumn N [.ref 1, .long (Int64.ofInt (pack (hrd S k m).2.reverse : Nat)), .int (Int32.ofInt m)] M = some (Int32.ofInt (bst S.R (hrd S k m).2.reverse), M) := fun M hM => by
              have := v_bst8 (N := N) (by omega) hW.1 hM.1 hl (by omega)
              rw [k2] at this
              exact this
            have b9 : ∀ M, mv S.R M → rowAt (hrd S k m).2.reverse M → fX9_bestColumn N [.ref 64, .int (Int32.ofInt m)] M = some (Int32.ofInt (bst S.R (hrd S k m).2.reverse), M) := fun M hM hr => by
              have := v_bst9 (N := N) (by omega) hW.1 hM hl hr (by omega)
              rw [k2] at this
              exact this
            by_cases e1 : w = 1
            · refine both_v hW (Int32.ofInt (bst S.R (hrd S k m).2.reverse)) (fun M hM => ?_) (fun M hM => ?_)
              · obtain ⟨M', g1, g2, g3, g4⟩ := c42 M hM
                refine ⟨M', ?_, g2, g3⟩
                rw [g1, decide_eq_false e2, cond_false, decide_eq_false e6, cond_false, b8 M' g2, e_bd, decide_eq_true e1]
                rfl
              · obtain ⟨M', g1, g2, g3⟩ := mdl M hM
                refine ⟨M', ?_, g2.f8⟩
                rw [g1, decide_eq_true e, cond_true, decide_eq_true (show w < 2 by omega), cond_true, decide_eq_false e6, cond_false, decide_eq_false (show ¬ w = 0 by omega), cond_false, decide_eq_true e1, cond_true, b9 M' (mv_fe hM.1 g2) g3]
                rfl
            · refine both_v hW (Int32.ofInt (svl S.R (hrd S k m).2.reverse (bst S.R (hrd S k m).2.reverse))) (fun M hM => ?_) (fun M hM => ?_)
              · obtain ⟨M', g1, g2, g3, g4⟩ := c42 M hM
                have hs := v_soon8 (N := N) (by omega) hW.1 g2.1 hl hbb
                rw [k2] at hs
                refine ⟨M', ?_, g2, g3⟩
                rw [g1, decide_eq_false e2, cond_false, decide_eq_false e6, cond_false, b8 M' g2, e_bd, decide_eq_false e1, cond_false]
                dsimp only
                rw [g4, hs]
                rfl
              · obtain ⟨M', g1, g2, g3⟩ := mdl M hM
                have hs := v_soon9 (N := N) (by omega) hW.1 (mv_fe hM.1 g2) hl g3 hbb
                rw [k2] at hs
                refine ⟨M', ?_, g2.f8⟩
                rw [g1, decide_eq_true e, cond_true, decide_eq_true (show w < 2 by omega), cond_true, decide_eq_false e6, cond_false, decide_eq_true (show w = 0 by omega), cond_true, b9 M' (mv_fe hM.1 g2) g3, e_bd]
                dsimp only
                rw [hs]
                rfl
      · rw [if_neg e] at hwt
        refine both_refx hW 3 (by omega) N (fun M hM => ?_) (fun M hM => ?_)
        · obtain ⟨M', g1, g2, g3⟩ := crf M hM (by omega)
          exact ⟨M', by rw [g1, hwt]; rfl, g2, g3⟩
        · obtain ⟨M', g1, g2, g3⟩ := mdl M hM
          exact ⟨M', by rw [g1, decide_eq_false e]; rfl, g2.f8⟩
    · obtain ⟨j, hj, hj2⟩ := (tt_rg S a z).resolve_left h
      refine both_refx hW j hj N (fun M hM => ?_) (fun M hM => ⟨M, ?_, f8.rf⟩)
      · obtain ⟨M', g1, g2, g3⟩ := crf M hM (by omega)
        exact ⟨M', by rw [g1, hwt, hj2], g2, g3⟩
      · rcases told_c (S := S) a (z := z) with ⟨h1, h2⟩ | ⟨k, hk, rfl, hz2⟩
        · obtain rfl : j = 0 := by omega
          rw [eX9_stands, v_isShelf.2, e_bd, b_z]
          cases hx : xin a 8 with
          | false => rfl
          | true =>
            rw [cond_true, v_win hz (by omega) (by omega), e_bd, b_z, decide_eq_false (h2.resolve_left (by rw [hx]; decide))]
            rfl
        · rw [eX9_stands, v_isShelf.2, e_bd, b_z, i_inn (by omega), decide_eq_true hk, cond_true, v_win hz (by omega) (by omega), e_bd, b_z, decide_eq_true hz2, cond_true, v_win hw (by omega) (by omega), e_bd, b_z, decide_eq_true hw2, cond_true]
          dsimp only
          rw [v_ns hW hM hk hz2, e_bd]
          dsimp only
          rw [xlt0 (by omega), decide_eq_true (by omega), cond_true, hj2]
  · refine both_refx hW 0 (by omega) N (fun M hM => ⟨M, ?_, hM, fr.rf⟩) (fun M hM => ⟨M, ?_, f8.rf⟩)
    · rw [eX8_stands, hm2]
      simp only [cond_false]
      rw [chk0 hw (by omega), decide_eq_false hw2, cond_false, s42 (-2) M (by omega) (by omega)]
      rfl
    · rw [eX9_stands, v_isShelf.2, e_bd, b_z]
      cases xin a 8 with
      | false => rfl
      | true =>
        rw [cond_true, v_win hz (by omega) (by omega), e_bd, b_z]
        cases decide (0 ≤ z ∧ z ≤ 40) with
        | false => rfl
        | true =>
          rw [cond_true, v_win hw (by omega) (by omega), e_bd, b_z, decide_eq_false hw2]
          rfl
