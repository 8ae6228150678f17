theorem nx_tab : ∀ p, p < 7 → ∀ k, k < 6 → (bif Nat.beq (nxT.getD (p * 6 + k) 7) 7 then (-1 : Int) else (nxT.getD (p * 6 + k) 7 : Int)) = nxI p k := by decide
theorem v_next {N p k : Nat} {M : XM} (hF : fgn M) (hp : p < 7) (hk : k < 6) : fX0_next N [.int (Int32.ofInt p), .int (Int32.ofInt k)] M = some (Int32.ofInt (nxI p k), M) := by
  rw [eX0_next, show (0 : Int32) = Int32.ofInt 0 from rfl, i_lt (by omega) (by omega), i_lt (by omega) (by omega), decide_eq_false (by omega), decide_eq_true (by omega), (v_isKind (by omega)).1, e_bd, cond_false, cond_true]
  rw [show (decide (0 ≤ (k : Int)) && decide ((k : Int) ≤ 5)) = true by rw [decide_eq_true (by omega), decide_eq_true (by omega)]; rfl]
  rw [show xeq ((bi true, M).1) (Int32.ofInt 0) = false from rfl, cond_false, i_mul, i_add]
  rw [show (p : Int) * 6 + (k : Int) = ((p * 6 + k : Nat) : Int) by omega, i_inn (by omega), i_natn (by omega)]
  show (bif decide (p * 6 + k < 42) then xrI (some (.int (M.1 200 (p * 6 + k)))) M else none) = _
  rw [decide_eq_true (by omega), cond_true, e_I, hF.1 _ (by omega), nx_tab p hp k hk]
theorem v_wants {N p : Nat} {M : XM} (hF : fgn M) (hp : p < 7) : fX0_wants N [.int (Int32.ofInt p)] M = some (Int32.ofInt (wts p), M) := by
  rw [eX0_wants, show (0 : Int32) = Int32.ofInt 0 from rfl, i_lt (by omega) (by omega), i_lt (by omega) (by omega), decide_eq_false (by omega), decide_eq_true (by omega), cond_false, cond_true, i_inn (by omega), i_natn (by omega)]
  show (bif decide (p < 7) then xrI (some (.int (M.1 201 p))) M else none) = _
  rw [decide_eq_true hp, cond_true, e_I, hF.2.1 _ hp]
theorem wts_lt : ∀ p, p < 7 → wts p ≤ 2 := by decide
theorem v_mayEnd {N p : Nat} {M : XM} (hF : fgn M) (hp : p < 7) : fX0_mayEnd N [.int (Int32.ofInt p)] M = some (bi (decide (wts p = 0)), M) := by
  have := wts_lt p hp
  rw [eX0_mayEnd, v_wants hF hp, e_bd, show (0 : Int32) = Int32.ofInt 0 from rfl, i_eq (by omega) (by omega)]
  by_cases h : wts p = 0
  · rw [decide_eq_true h, decide_eq_true (by omega)]; rfl
  · rw [decide_eq_false h, decide_eq_false (by omega)]; rfl
theorem pack_app : ∀ (l : List Nat) (b : Nat), pack (l ++ [b]) = pack l + b * 16 ^ l.length
  | [], b => by simp [pack]
  | a :: l, b => by
    show a + 16 * pack (l ++ [b]) = a + 16 * pack l + b * 16 ^ (l.length + 1)
    rw [pack_app l b, Nat.pow_succ, Nat.mul_add, ← Nat.mul_assoc b, Nat.mul_comm _ 16]
    omega
theorem pack_lt : ∀ (l : List Nat), (∀ c ∈ l, c < 16) → pack l < 16 ^ l.length
  | [], _ => by simp [pack]
  | a :: l, h => by
    have h1 := h a List.mem_cons_self
    have h2 := pack_lt l (fun c hc => h c (List.mem_cons_of_mem _ hc))
    show a + 16 * pack l < 16 ^ (l.length + 1)
    rw [Nat.pow_succ]
    omega
theorem pack_or (l : List Nat) (b : Nat) (h : ∀ c ∈ l, c < 16) : pack (l ++ [b]) = pack l ||| (b * 16 ^ l.length) := by
  have h2 := pack_lt l h
  rw [pack_app, show 16 ^ l.length = 2 ^ (4 * l.length) by rw [Nat.pow_mul]] at *
  rw [Nat.or_comm, Nat.mul_comm b, Nat.add_comm, Nat.two_pow_add_eq_or_of_lt h2]
theorem pack_40 {l : List Nat} (hc : ∀ c ∈ l, c < 16) (h : l.length ≤ 10) : pack l < 1099511627776 :=
  Nat.lt_of_lt_of_le (pack_lt l hc) (Nat.pow_le_pow_right (n := 16) (by omega) h)
theorem pack_24 {l : List Nat} (hc : ∀ c ∈ l, c < 16) (h : l.length ≤ 6) : pack l < 16777216 :=
  Nat.lt_of_lt_of_le (pack_lt l hc) (Nat.pow_le_pow_right (n := 16) (by omega) h)
theorem l_4sh : ∀ i, i < 10 → ∀ b, b < 10 → ((Int32.ofInt (b : Nat)).toInt64 <<< ((Int32.ofInt 4 * Int32.ofInt (i : Nat)).toInt64 &&& 63)) = Int64.ofInt ((b * 16 ^ i : Nat) : Int) := by decide +kernel
theorem l_with {N : Nat} {l : List Nat} {b : Nat} (hl : ∀ c ∈ l, c < 16) (h10 : l.length < 10) (hb : b < 10) (M : XM) : fX2_with N [.long (Int64.ofInt (pack l : Nat)), .int (Int32.ofInt l.length), .int (Int32.ofInt b)] M = some (Int64.ofInt (pack (l ++ [b]) : Nat), M) := by
  rw [eX2_with, l_4sh _ h10 _ hb, l_or, e_L, pack_or l b hl]
theorem SO.o {o L rm : Nat} (h : SO o L rm) : o = 22 ∨ o = 32 := by rcases h with h | h <;> omega
theorem SO.xl {o L rm : Nat} (h : SO o L rm) (M : XM) : xlen M (o + 1) = rm ∧ xlen M (o + 6) = 7 ∧ xlen M (o + 7) = 10 ∧ xlen M (o + 8) = 32 := by
  rcases h with ⟨rfl, rfl, rfl⟩ | ⟨rfl, rfl, rfl⟩ <;> exact ⟨rfl, rfl, rfl, rfl⟩
theorem SO.L {o L rm : Nat} (h : SO o L rm) : L ≤ 6 ∧ rm ≤ 2400 ∧ 1 ≤ rm ∧ 5 ≤ L := by rcases h with h | h <;> omega
def PO (p : Nat) : Prop := p = 1 ∨ p = 8 ∨ p = 15
theorem PO.xl {p : Nat} (h : PO p) (M : XM) : xlen M (p + 1) = 16 ∧ xlen M (p + 2) = 16 := by
  rcases h with rfl | rfl | rfl <;> exact ⟨rfl, rfl⟩
theorem PO.ne {p o L rm : Nat} (h : PO p) (ho : SO o L rm) : p + 6 < o := by
  rcases h with rfl | rfl | rfl <;> rcases ho with h | h <;> omega
theorem v_sat {N o L rm sz i : Nat} (ho : SO o L rm) {M : XM} (h1 : M.1 o 1 = Int32.ofInt rm) (h2 : M.1 o 2 = Int32.ofInt sz) (hi : i < sz) (hs : sz ≤ rm) : fX4_at N [.ref o, .int (Int32.ofInt i)] M = some (M.2 (o + 1) i, M) := by
  have := ho.L
  rw [eX4_at _ _ _ ho.o, h1, h2, (ho.xl M).1, show (0 : Int32) = Int32.ofInt 0 from rfl, i_lt (by omega) (by omega), i_lt (by omega) (by omega), i_lt (by omega) (by omega), i_inn (by omega), i_natn (by omega), decide_eq_false (by omega), decide_eq_true (by omega), decide_eq_true (by omega), cond_false, cond_true, cond_true, decide_eq_true (by omega), cond_true, e_L]
def RD (o i r l m : Nat) (z : Int) (M : XM) : Prop := (∀ N, fX4_rowOf N [.ref o, .int (Int32.ofInt i)] M = some (Int32.ofInt (r : Nat), M)) ∧ (∀ N, fX4_lengthOf N [.ref o, .int (Int32.ofInt i)] M = some (Int32.ofInt (l : Nat), M)) ∧ (∀ N, fX4_membersOf N [.ref o, .int (Int32.ofInt i)] M = some (Int32.ofInt (m : Nat), M)) ∧ (∀ N, fX4_meaningOf N [.ref o, .int (Int32.ofInt i)] M = some (Int32.ofInt z, M))
theorem v_acc {o L rm sz i : Nat} (ho : SO o L rm) {M : XM} (h1 : M.1 o 1 = Int32.ofInt rm) (h2 : M.1 o 2 = Int32.ofInt sz) (hi : i < sz) (hs : sz ≤ rm) {r l m p z : Nat} (hp : pok r l m p z) (hM : M.2 (o + 1) i = pk r l m p z) : RD o i r l m ((z : Int) - 1000) M ∧ ∀ N, fX4_placeOf N [.ref o, .int (Int32.ofInt i)] M = some (Int32.ofInt (p : Nat), M) := by
  refine ⟨⟨fun N => ?_, fun N => ?_, fun N => ?_, fun N => ?_⟩, fun N => ?_⟩
  · rw [eX4_rowOf _ _ _ ho.o, v_sat ho h1 h2 hi hs, e_bd, hM, e_I]
    dsimp only
    rw [pk_row hp]
  · rw [eX4_lengthOf _ _ _ ho.o, v_sat ho h1 h2 hi hs, e_bd, hM, e_I]
    dsimp only
    rw [pk_len hp]
  · rw [eX4_membersOf _ _ _ ho.o, v_sat ho h1 h2 hi hs, e_bd, hM, e_I]
    dsimp only
    rw [pk_mem hp]
  · rw [eX4_meaningOf _ _ _ ho.o, v_sat ho h1 h2 hi hs, e_bd, hM, e_I]
    dsimp only
    rw [pk_mea hp]
  · rw [eX4_placeOf _ _ _ ho.o, v_sat ho h1 h2 hi hs, e_bd, hM, e_I]
    dsimp only
    rw [pk_pla hp]
theorem v_add4 {N o L rm sz : Nat} (ho : SO o L rm) {M : XM} (h1 : M.1 o 1 = Int32.ofInt rm) (h2 : M.1 o 2 = Int32.ofInt sz) (hs : sz < rm) {r l m p : Nat} (hp : pok r l m p 0) : fX4_add N [.ref o, .long (Int64.ofInt (r : Nat)), .int (Int32.ofInt l), .int (Int32.ofInt m), .int (Int32.ofInt p)] M = some (xwi (xwl M (o + 1) sz (pk r l m p 0)) o 2 (Int32.ofInt ((sz + 1 : Nat) : Int))) := by
  have := ho.L
  rw [eX4_add _ _ _ _ _ _ ho.o, m_wl, h1, h2, (ho.xl M).1, i_lt (by omega) (by omega), i_inn (by omega), i_natn (by omega), decide_eq_true (by omega), decide_eq_true (by omega), cond_true, cond_true, pk_mk hp, i_suc, e_V]
def QM (o : Nat) (Q : List RW) (M : XM) : Prop := ∀ (i : Nat) (q : RW), Q[i]? = some q → M.2 (o + 1) i = pk (pack q.1) q.1.length q.2.2 q.2.1 0
def exbP (w : Nat → Nat) (L : Nat) (q : RW) (b : Nat) : Bool := exb w q b && decide (q.1.length + 1 + wts (nx q.2.1 (wk (w b))) ≤ L)
def extsP (w : Nat → Nat) (L : Nat) (q : RW) : List RW := ((List.range 10).filter (exbP w L q)).map (exq w q)
def extI (w : Nat → Nat) (L : Nat) (q : RW) (k : Nat) : List RW := ((List.range' k (10 - k)).filter (exbP w L q)).map (exq w q)
theorem extI_0 (w : Nat → Nat) (L : Nat) (q : RW) : extI w L q 0 = extsP w L q := by
  unfold extI extsP
  rw [List.range_eq_range']
theorem extI_s (w : Nat → Nat) (L : Nat) (q : RW) {k : Nat} (hk : k < 10) : extI w L q k = (if exbP w L q k = true then [exq w q k] else []) ++ extI w L q (k + 1) := by
  unfold extI
  rw [show 10 - k = (10 - (k + 1)) + 1 by omega, List.range'_succ, List.filter_cons]
  by_cases h : exbP w L q k = true
  · rw [if_pos h, if_pos h, List.map_cons]; rfl
  · rw [if_neg h, if_neg h]; rfl
theorem extI_n (w : Nat → Nat) (L : Nat) (q : RW) {k : Nat} (h : ∀ b, k ≤ b → exbP w L q b = false) : extI w L q k = [] := by
  unfold extI
  rw [List.filter_eq_nil_iff.mpr]
  · rfl
  · intro c hc
    rw [List.mem_range'_1] at hc
    rw [h c hc.1]
    exact Bool.false_ne_true
def wfq (R : RV) (L : Nat) (q : RW) : Prop := ∃ r, q = qof (wR R) r ∧ VA (exM R R.lv false) r ∧ r.length ≤ L
theorem exM_f (R : RV) (m : Nat) (r : List Nat) (b : Nat) : exM R m false r b = exb (wM R m) (qof (wM R m) r) b := by
  unfold exM
  cases r <;> simp [cmo]
theorem wfq_f {R : RV} (hW : Wf R) {L : Nat} {q : RW} (h : wfq R L q) : q.2.1 < 7 ∧ q.2.2 < 1024 ∧ q.1.length ≤ L ∧ ∀ c ∈ q.1, c < R.nb := by
  obtain ⟨r, rfl, h1, h2⟩ := h
  obtain ⟨a1, a2, a3, a4⟩ := VA_f hW h1
  rw [wR_wM, qof_1]
  exact ⟨a1, a2, by simpa using h2, fun c hc => a3 c (by simpa using hc)⟩
theorem wfq_x {R : RV} {L : Nat} {q : RW} (h : wfq R L q) {b : Nat} (hb : exbP (wR R) L q b = true) : wfq R L (exq (wR R) q b) := by
  obtain ⟨r, rfl, h1, h2⟩ := h
  unfold exbP at hb
  rw [Bool.and_eq_true, decide_eq_true_eq] at hb
  refine ⟨b :: r, rfl, ⟨by rw [exM_f]; exact hb.1, h1⟩, ?_⟩
  have := hb.2
  rw [qof_1, List.length_reverse] at this
  simp only [List.length_cons]
  omega
def fq (o : Nat) (M M' : XM) : Prop := (∀ a j, a ≠ o + 1 → M'.2 a j = M.2 a j) ∧ ∀ a j, ¬ (a = o ∧ j = 2) → ¬ (o + 1 ≤ a ∧ a ≤ o + 6) → M'.1 a j = M.1 a j
theorem fq.rf {o : Nat} {M : XM} : fq o M M := ⟨fun _ _ _ => rfl, fun _ _ _ _ => rfl⟩
theorem fq.tr {o : Nat} {M M' M'' : XM} (h : fq o M M') (h' : fq o M' M'') : fq o M M'' := ⟨fun a j h1 => (h'.1 a j h1).trans (h.1 a j h1), fun a j h1 h2 => (h'.2 a j h1 h2).trans (h.2 a j h1 h2)⟩
theorem fq.wi {o : Nat} {M M' : XM} (h : fq o M M') {c k : Nat} {v : Int32} (hc : (c = o ∧ k = 2) ∨ (o + 1 ≤ c ∧ c ≤ o + 6)) : fq o M (xwi M' c k v) := ⟨h.1, fun a j h1 h2 => by rw [m_wi, if_neg (by omega)]; exact h.2 a j h1 h2⟩
theorem fq.wl {o : Nat} {M M' : XM} (h : fq o M M') {k : Nat} {v : Int64} : fq o M (xwl M' (o + 1) k v) := ⟨fun a j h1 => by rw [m_wl2, if_neg (by omega)]; exact h.1 a j h1, h.2⟩
theorem fq.fr {o : Nat} {M M' : XM} (h : fq o M M') : fr o (o + 7) M M' := fun a ha => ⟨funext fun j => h.2 a j (by omega) (by omega), funext fun j => h.1 a j (by omega)⟩
def GB (o L rm p : Nat) (R : RV) (M : XM) : Prop := cv p R M ∧ fgn M ∧ M.1 o 0 = Int32.ofInt L ∧ M.1 o 1 = Int32.ofInt rm
theorem GB.fq {o L rm p : Nat} {R : RV} {M M' : XM} (ho : SO o L rm) (hp : PO p) (h : GB o L rm p R M) (hf : fq o M M') : GB o L rm p R M' := by
  have := hp.ne ho
  have := ho.o
  exact ⟨h.1.fr hf.fr (by omega), h.2.1.fr hf.fr (by omega), by rw [hf.2 _ _ (by omega) (by omega)]; exact h.2.2.1, by rw [hf.2 _ _ (by omega) (by omega)]; exact h.2.2.2⟩
theorem exbP_iff {R : RV} (hW : Wf R) {L : Nat} {q : RW} {k : Nat} (hk : k < R.nb) : exbP (wR R) L q k = (R.lv.testBit k && (!q.2.2.testBit k && (nx q.2.1 (R.kd k) != 7 && decide (q.1.length + 1 + wts (nx q.2.1 (R.kd k)) ≤ L)))) := by
  unfold exbP exb
  rw [wR_wM]
  cases h : R.lv.testBit k with
  | false =>
    have : wM R R.lv k = 0 := by unfold wM; rw [if_neg (by rw [h]; exact fun x => nomatch x.2)]
    rw [this]; rfl
  | true =>
    obtain ⟨e1, e2, e3⟩ := wk_wM hW hk h
    rw [e2, show (wM R R.lv k != 0) = true by rw [e1]; simp]
    simp [Bool.and_assoc]
theorem wfq_pok {R : RV} (hW : Wf R) {L : Nat} (hL : L ≤ 6) {q : RW} (h : wfq R L q) {z : Nat} (hz : z < 1048576) : pok (pack q.1) q.1.length q.2.2 q.2.1 z := by
  obtain ⟨q1, q2, q3, q4⟩ := wfq_f hW h
  have h10 := hW.1
  have := pack_24 (l := q.1) (fun c hc => by have := q4 c hc; omega) (by omega)
  exact ⟨this, by omega, q2, by omega, hz⟩
theorem QM_snoc {o : Nat} {Q : List RW} {q : RW} {M : XM} (h : QM o Q M) (h1 : M.2 (o + 1) Q.length = pk (pack q.1) q.1.length q.2.2 q.2.1 0) : QM o (Q ++ [q]) M := by
  intro i x hi
  by_cases e : i < Q.length
  · rw [List.getElem?_append_left e] at hi
    exact h i x hi
  · have hi' : i = Q.length := by
      have := (List.getElem?_eq_some_iff.mp hi).1
      simp at this
      omega
    subst hi'
    rw [List.getElem?_append_right (Nat.le_refl _), Nat.sub_self] at hi
    simp at hi
    subst hi
    exact h1
theorem QM_w {o : Nat} {Q : List RW} {M M' : XM} (h : QM o Q M) (hw : ∀ j, j < Q.length → M'.2 (o + 1) j = M.2 (o + 1) j) : QM o Q M' := by
  intro i q hi
  have hl := (List.getElem?_eq_some_iff.mp hi).1
  rw [hw _ hl]
  exact h i q hi
theorem l_goOn {N : Nat} {o L rm p : Nat} (ho : SO o L rm) (hp : PO p) {R : RV} (hW : Wf R) {i : Nat} {q : RW} (hq : wfq R L q) : ∀ (d n k : Nat) (Q : List RW) (M : XM), k + d = R.nb → d < n → GB o L rm p R M → QM o Q M → M.1 o 2 = Int32.ofInt Q.length → Q[i]? = some q → (Q ++ extI (wR R) L q k).length ≤ rm → ∃ M', gX4_goOn N n 9 [.ref o, .ref p, .int (Int32.ofInt i), .int (Int32.ofInt q.1.length), .int (Int32.ofInt k), .retAddr 0] [] M = some M' ∧ fq o M M' ∧ QM o (Q ++ extI (wR R) L q k) M' ∧ M'.1 o 2 = Int32.ofInt (Q ++ extI (wR R) L q k).length
  | 0, n + 1, k, Q, M, hk, hn, hG, hQ, hz, hi, hc => by
    have h10 := hW.1
    rw [extI_n _ _ _ (k := k) (fun b hb => by
      unfold exbP exb wR
      rw [if_neg (by omega)]; rfl), List.append_nil] at *
    refine ⟨M, ?_, fq.rf, hQ, hz⟩
    rw [eX4_goOn_9 _ _ _ _ _ _ _ ho.o hp, hG.1.1, i_lt (by omega) (by omega), decide_eq_false (by omega)]
    rfl
  | d + 1, n + 1, k, Q, M, hk, hn, hG, hQ, hz, hi, hc => by
    have h10 := hW.1
    have ih := l_goOn (N := N) (i := i) ho hp hW hq d n (k + 1)
    have hkb : k < R.nb := by omega
    have hpx := hp.xl
    have hne := hp.ne ho
    have hL := ho.L
    obtain ⟨q1, q2, q3, q4⟩ := wfq_f hW hq
    have hil := (List.getElem?_eq_some_iff.mp hi).1
    rw [extI_s _ _ _ (show k < 10 by omega)] at hc ⊢
    have hQl : Q.length ≤ rm := by simp only [List.length_append] at hc; omega
    obtain ⟨⟨m1, m2, m3, m4⟩, m5⟩ := v_acc ho hG.2.2.2 hz hil hQl (wfq_pok hW hL.1 hq (by omega)) (hQ i q hi)
    have hpk : pack q.1 < 2147483648 := by have := (wfq_pok hW hL.1 hq (z := 0) (by omega)).1; omega
    have hkk := hW.2.2.2.1 k hkb
    have hcv := hG.1.2.2.2.2.2.1 k hkb
    have skip : exbP (wR R) L q k = false → ∃ M', gX4_goOn N n 9 [.ref o, .ref p, .int (Int32.ofInt i), .int (Int32.ofInt q.1.length), .int (Int32.ofInt k + Int32.ofInt 1), .retAddr 0] [] M = some M' ∧ fq o M M' ∧ QM o (Q ++ ((if exbP (wR R) L q k = true then [exq (wR R) q k] else []) ++ extI (wR R) L q (k + 1))) M' ∧ M'.1 o 2 = Int32.ofInt (Q ++ ((if exbP (wR R) L q k = true then [exq (wR R) q k] else []) ++ extI (wR R) L q (k + 1))).length := by
      intro hf
      rw [if_neg (by rw [hf]; exact Bool.false_ne_true), List.nil_append] at hc ⊢
      rw [i_suc]
      exact ih Q M (by omega) (by omega) hG hQ hz hi hc
    rw [eX4_goOn_9 _ _ _ _ _ _ _ ho.o hp, hG.1.1, i_lt (by omega) (by omega), decide_eq_true (by omega), cond_true, v_isLivingn hp hG.1 hW hkb, e_bd, b_z]
    have hiff := exbP_iff hW (L := L) (q := q) hkb
    cases hlv : R.lv.testBit k with
    | false =>
      rw [hlv] at hiff
      exact skip hiff
    | true =>
      rw [cond_true]
      dsimp only
      rw [m3, e_bd]
      dsimp only
      rw [i_bit (by omega) (by omega), i_nbit, b_z]
      cases hmb : q.2.2.testBit k with
      | true =>
        rw [hlv, hmb] at hiff
        exact skip hiff
      | false =>
        rw [cond_false, m5, e_bd]
        dsimp only
        simp (disch := omega) only [(hpx M).1, i_inn, i_natn, decide_eq_true, cond_true, hcv.1]
        rw [v_next hG.2.1 q1 hkk.1, e_bd]
        dsimp only
        by_cases h7 : nx q.2.1 (R.kd k) = 7
        · rw [nxI, if_pos h7, i_eq (by omega) (by omega), decide_eq_true rfl, cond_true]
          rw [hlv, hmb, h7] at hiff
          exact skip hiff
        · have hpl := nx_7 q1 hkk.1 h7
          have hwl := wts_lt _ hpl
          rw [nxI_7 h7, i_eq (by omega) (by omega), decide_eq_false (by omega), cond_false, v_wants hG.2.1 hpl, e_bd]
          dsimp only
          rw [hG.2.2.1, i_add, i_add, i_lt (by omega) (by omega)]
          by_cases hLn : q.1.length + 1 + wts (nx q.2.1 (R.kd k)) ≤ L
          · rw [decide_eq_false (by omega), cond_false]
            have hT : exbP (wR R) L q k = true := by
              rw [hiff, hlv, hmb, decide_eq_true hLn]
              simp [h7]
            rw [if_pos hT] at hc ⊢
            have hlt : Q.length < rm := by simp only [List.length_append, List.length_cons] at hc; omega
            have hwx := wfq_x hq hT
            have hpo := wfq_pok hW hL.1 hwx (z := 0) (by omega)
            have i1 : (Int32.ofInt 1 <<< (Int32.ofInt k &&& 31) : Int32) = Int32.ofInt ((2 ^ k : Nat) : Int) := i_shl (by omega)
            have hwk : nx q.2.1 (wk (wR R k)) = nx q.2.1 (R.kd k) := by rw [wR_wM, (wk_wM hW hkb hlv).2.1]
            have hex : exq (wR R) q k = (q.1 ++ [k], nx q.2.1 (R.kd k), q.2.2 ||| 2 ^ k) := by unfold exq; rw [hwk]
            have hln : (q.1 ++ [k]).length = q.1.length + 1 := by rw [List.length_append]; rfl
            rw [hex] at hpo
            dsimp only at hpo
            rw [hln] at hpo
            rw [m1, e_bd]
            dsimp only
            rw [i_64 hpk, l_with (fun c hc => by have := q4 c hc; omega) (by omega) (by omega), e_bd]
            dsimp only
            rw [m3, e_bd]
            dsimp only
            rw [i1, i_or, show ((q.1.length : Nat) : Int) + 1 = ((q.1.length + 1 : Nat) : Int) from rfl, v_add4 ho hG.2.2.2 hz hlt hpo, e_bd, i_suc]
            have hff : fq o M (xwi (xwl M (o + 1) Q.length (pk (pack (q.1 ++ [k])) (q.1.length + 1) (q.2.2 ||| 2 ^ k) (nx q.2.1 (R.kd k)) 0)) o 2 (Int32.ofInt ((Q.length + 1 : Nat) : Int))) := (fq.rf.wl).wi (by omega)
            have hQ' : QM o (Q ++ [exq (wR R) q k]) (xwi (xwl M (o + 1) Q.length (pk (pack (q.1 ++ [k])) (q.1.length + 1) (q.2.2 ||| 2 ^ k) (nx q.2.1 (R.kd k)) 0)) o 2 (Int32.ofInt ((Q.length + 1 : Nat) : Int))) := by
              refine QM_snoc (QM_w hQ (fun j hj => ?_)) ?_
              · rw [m_wi2, m_wl2, if_neg (by omega)]
              · rw [m_wi2, m_wl2, if_pos ⟨rfl, rfl⟩, hex]
                dsimp only
                rw [hln]
            have := ih (Q ++ [exq (wR R) q k]) _ (by omega) (by omega) (hG.fq ho hp hff) hQ' (by
              simp only [m_wi, and_self, if_true, List.length_append, List.length_cons, List.length_nil]) (by rw [List.getElem?_append_left hil]; exact hi) (by rw [List.append_assoc]; exact hc)
            obtain ⟨M', g1, g2, g3, g4⟩ := this
            rw [List.append_assoc] at g3 g4
            exact ⟨M', g1, hff.tr g2, g3, g4⟩
          · rw [decide_eq_true (by omega), cond_true]
            rw [decide_eq_false hLn, Bool.and_false, Bool.and_false, Bool.and_false] at hiff
            exact skip hiff
theorem v_goOn {N : Nat} (hN : 11 < N) {o L rm p : Nat} (ho : SO o L rm) (hp : PO p) {R : RV} (hW : Wf R) {i : Nat} {q : RW} (hq : wfq R L q) {Q : List RW} {M : XM} (hG : GB o L rm p R M) (hQ : QM o Q M) (hz : M.1 o 2 = Int32.ofInt Q.length) (hi : Q[i]? = some q) (hc : (Q ++ extsP (wR R) L q).length ≤ rm) : ∃ M', fX4_goOn N [.ref o, .ref p, .int (Int32.ofInt i)] M = some M' ∧ fq o M M' ∧ QM o (Q ++ extsP (wR R) L q) M' ∧ M'.1 o 2 = Int32.ofInt (Q ++ extsP (wR R) L q).length := by
  have h10 := hW.1
  have hil := (List.getElem?_eq_some_iff.mp hi).1
  have hQl : Q.length ≤ rm := by rw [List.length_append] at hc; omega
  obtain ⟨⟨_, m2, _, _⟩, _⟩ := v_acc ho hG.2.2.2 hz hil hQl (wfq_pok hW ho.L.1 hq (by omega)) (hQ i q hi)
  rw [← extI_0] at hc ⊢
  rw [eX4_goOn _ _ _ _ ho.o hp, m2, e_bd]
  exact l_goOn ho hp hW hq R.nb N 0 Q M (by omega) (by omega) hG hQ hz hi hc
def lvlP (w : Nat → Nat) (L : Nat) : Nat → List RW
  | 0 => [([], 0, 0)]
  | k + 1 => (lvlP w L k).flatMap (extsP w L)
def bfsP (w : Nat → Nat) (L n : Nat) : List RW := (List.range n).flatMap (lvlP w L)
theorem bfsP_s (w : Nat → Nat) (L n : Nat) : bfsP w L (n + 1) = bfsP w L n ++ lvlP w L n := by
  unfold bfsP
  rw [List.range_succ, List.flatMap_append]
  simp
theorem lvlP_wf {R : RV} {L : Nat} : ∀ (k : Nat) (q : RW), q ∈ lvlP (wR R) L k → wfq R L q ∧ q.1.length = k
  | 0, q, h => by
    simp only [lvlP, List.mem_singleton] at h
    subst h
    exact ⟨⟨[], rfl, trivial, by simp⟩, rfl⟩
  | k + 1, q, h => by
    rw [lvlP, List.mem_flatMap] at h
    obtain ⟨q0, h1, h2⟩ := h
    unfold extsP at h2
    rw [List.mem_map] at h2
    obtain ⟨b, hb, rfl⟩ := h2
    rw [List.mem_filter] at hb
    have ih := lvlP_wf k q0 h1
    refine ⟨wfq_x ih.1 hb.2, ?_⟩
    show (q0.1 ++ [b]).length = _
    rw [List.length_append, ih.2]
    rfl
theorem lvlP_end {R : RV} {L : Nat} : lvlP (wR R) L (L + 1) = [] := by
  rw [lvlP, List.flatMap_eq_nil_iff]
  intro q hq
  have := (lvlP_wf L q hq).2
  unfold extsP
  rw [List.filter_eq_nil_iff.mpr]
  · rfl
  · intro b _ h
    unfold exbP at h
    rw [Bool.and_eq_true, decide_eq_true_eq] at h
    omega
theorem l_bfs1 {N : Nat} (hN : 11 < N) {o L rm p : Nat} (ho : SO o L rm) (hp : PO p) {R : RV} (hW : Wf R) : ∀ (T A P : List RW) (n : Nat) (M : XM), (∀ q ∈ T, wfq R L q) → GB o L rm p R M → QM o (P ++ T ++ A) M → M.1 o 2 = Int32.ofInt (P ++ T ++ A).length → (P ++ T ++ A ++ T.flatMap (extsP (wR R) L)).length ≤ rm → ∃ M', gX4_update N (n + T.length) 49 [.ref o, .ref p, .int (Int32.ofInt P.length)] [] M = gX4_update N n 49 [.ref o, .ref p, .int (Int32.ofInt (P ++ T).length)] [] M' ∧ fq o M M' ∧ QM o (P ++ T ++ A ++ T.flatMap (extsP (wR R) L)) M' ∧ M'.1 o 2 = Int32.ofInt (P ++ T ++ A ++ T.flatMap (extsP (wR R) L)).length
  | [], A, P, n, M, hT, hG, hQ, hz, hc => by
    refine ⟨M, ?_, fq.rf, ?_, ?_⟩
    · rw [List.append_nil]; rfl
    · simpa using hQ
    · simpa using hz
  | q :: T, A, P, n, M, hT, hG, hQ, hz, hc => by
    have hL := ho.L
    have hq := hT q List.mem_cons_self
    have hlen : (P ++ q :: T ++ A).length ≤ rm := by
      rw [List.length_append] at hc
      omega
    have hl1 : P.length < (P ++ q :: T ++ A).length := by simp only [List.length_append, List.length_cons]; omega
    rw [show n + (q :: T).length = (n + T.length) + 1 by simp only [List.length_cons]; omega, eX4_update_49 _ _ _ _ _ ho.o hp, hz, hG.2.2.2, i_lt (by omega) (by omega), i_lt (by omega) (by omega), decide_eq_true (by omega), decide_eq_true (by omega), cond_true, cond_true]
    obtain ⟨M1, g1, g2, g3, g4⟩ := v_goOn hN ho hp hW hq hG hQ hz (i := P.length) (by rw [List.append_assoc, List.getElem?_append_right (Nat.le_refl _)]; simp) (by
      simp only [List.length_append, List.flatMap_cons] at hc ⊢
      omega)
    rw [g1, e_bd, i_suc]
    have e0 : P ++ q :: T ++ A ++ extsP (wR R) L q = (P ++ [q]) ++ T ++ (A ++ extsP (wR R) L q) := by simp
    have e1 : P ++ q :: T ++ A ++ (q :: T).flatMap (extsP (wR R) L) = (P ++ [q]) ++ T ++ (A ++ extsP (wR R) L q) ++ T.flatMap (extsP (wR R) L) := by simp
    have e2 : P ++ q :: T = (P ++ [q]) ++ T := by simp
    rw [e0] at g3 g4
    rw [e1] at hc ⊢
    rw [e2]
    obtain ⟨M2, f1, f2, f3, f4⟩ := l_bfs1 hN ho hp hW T (A ++ extsP (wR R) L q) (P ++ [q]) n M1 (fun x hx => hT x (List.mem_cons_of_mem _ hx)) (hG.fq ho hp g2) g3 g4 hc
    refine ⟨M2, ?_, g2.tr f2, f3, f4⟩
    rw [← f1, List.length_append]
    rfl
theorem bfsP_le (w : Nat → Nat) (L : Nat) : ∀ {a b : Nat}, a ≤ b → (bfsP w L a).length ≤ (bfsP w L b).length
  | a, 0, h => by rw [show a = 0 by omega]; exact Nat.le_refl _
  | a, b + 1, h => by
    by_cases e : a = b + 1
    · subst e; exact Nat.le_refl _
    · rw [bfsP_s w L b, List.length_append]
      have := bfsP_le w L (a := a) (b := b) (by omega)
      omega
theorem l_bfs {N : Nat} (hN : 11 < N) {o L rm p : Nat} (ho : SO o L rm) (hp : PO p) {R : RV} (hW : Wf R) (hcap : (bfsP (wR R) L (L + 1)).length ≤ rm) : ∀ (d k n : Nat) (M : XM), k + d = L + 1 → GB o L rm p R M → QM o (bfsP (wR R) L (k + 1)) M → M.1 o 2 = Int32.ofInt (bfsP (wR R) L (k + 1)).length → (bfsP (wR R) L (L + 1)).length - (bfsP (wR R) L k).length < n → ∃ M' n', gX4_update N n 49 [.ref o, .ref p, .int (Int32.ofInt (bfsP (wR R) L k).length)] [] M = gX4_update N (n' + 1) 49 [.ref o, .ref p, .int (Int32.ofInt (bfsP (wR R) L (L + 1)).length)] [] M' ∧ fq o M M' ∧ QM o (bfsP (wR R) L (L + 1)) M' ∧ M'.1 o 2 = Int32.ofInt (bfsP (wR R) L (L + 1)).length
  | 0, k, n, M, hk, hG, hQ, hz, hn => by
    obtain rfl : k = L + 1 := by omega
    rw [bfsP_s, lvlP_end, List.append_nil] at hQ hz
    exact ⟨M, n - 1, by rw [show n - 1 + 1 = n by omega], fq.rf, hQ, hz⟩
  | d + 1, k, n, M, hk, hG, hQ, hz, hn => by
    have hle : (bfsP (wR R) L (k + 1)).length ≤ (bfsP (wR R) L (L + 1)).length := bfsP_le _ _ (by omega)
    have e1 : (bfsP (wR R) L (k + 1)).length = (bfsP (wR R) L k).length + (lvlP (wR R) L k).length := by rw [bfsP_s, List.length_append]
    have e2 : bfsP (wR R) L k ++ lvlP (wR R) L k ++ [] ++ (lvlP (wR R) L k).flatMap (extsP (wR R) L) = bfsP (wR R) L (k + 2) := by
      rw [List.append_nil, bfsP_s _ _ (k + 1), bfsP_s _ _ k]
      rfl
    have hc2 : (bfsP (wR R) L (k + 2)).length ≤ rm := by
      refine Nat.le_trans ?_ hcap
      by_cases e : k + 2 ≤ L + 1
      · exact bfsP_le _ _ e
      · rw [show k + 2 = (L + 1) + 1 by omega, bfsP_s, lvlP_end, List.append_nil]
        exact Nat.le_refl _
    obtain ⟨m, rfl⟩ : ∃ m, n = m + (lvlP (wR R) L k).length := ⟨n - (lvlP (wR R) L k).length, by omega⟩
    obtain ⟨M1, g1, g2, g3, g4⟩ := l_bfs1 hN ho hp hW (lvlP (wR R) L k) [] (bfsP (wR R) L k) m M (fun q hq => (lvlP_wf k q hq).1) hG (by rw [List.append_nil, ← bfsP_s]; exact hQ) (by rw [List.append_nil, ← bfsP_s]; exact hz) (by rw [e2]; exact hc2)
    rw [e2] at g3 g4
    rw [← bfsP_s] at g1
    obtain ⟨M2, n', f1, f2, f3, f4⟩ := l_bfs hN ho hp hW hcap d (k + 1) m M1 (by omega) (hG.fq ho hp g2) g3 g4 (by omega)
    exact ⟨M2, n', g1.trans f1, g2.tr f2, f3, f4⟩
theorem wts_nx : ∀ p, p < 7 → ∀ k, k < 6 → nx p k ≠ 7 → wts p ≤ wts (nx p k) + 1 := by decide
def fin (q : RW) : Bool := wts q.2.1 == 0
theorem lvl_wf {R : RV} : ∀ (k : Nat) (q : RW), q ∈ lvl (wR R) k → (∃ r, q = qof (wR R) r ∧ VA (exM R R.lv false) r) ∧ q.1.length = k
  | 0, q, h => by
    simp only [lvl, List.mem_singleton] at h
    subst h
    exact ⟨⟨[], rfl, trivial⟩, rfl⟩
  | k + 1, q, h => by
    rw [lvl, List.mem_flatMap] at h
    obtain ⟨q0, h1, h2⟩ := h
    unfold exts at h2
    rw [List.mem_map] at h2
    obtain ⟨b, hb, rfl⟩ := h2
    rw [List.mem_filter] at hb
    obtain ⟨⟨r, rfl, hr⟩, hl⟩ := lvl_wf k q0 h1
    refine ⟨⟨b :: r, rfl, by rw [VA, exM_f]; exact ⟨hb.2, hr⟩⟩, ?_⟩
    show ((qof (wR R) r).1 ++ [b]).length = _
    rw [List.length_append, hl]
    rfl
theorem filter_flatMap {α β : Type} (f : α → List β) (P : β → Bool) : ∀ l : List α, (l.flatMap f).filter P = l.flatMap (fun a => (f a).filter P)
  | [] => rfl
  | a :: l => by rw [List.flatMap_cons, List.flatMap_cons, List.filter_append, filter_flatMap f P l]
theorem flatMap_filter {α β : Type} (f : α → List β) (P : α → Bool) : ∀ l : List α, (l.filter P).flatMap f = l.flatMap (fun a => if P a = true then f a else [])
  | [] => rfl
  | a :: l => by
    rw [List.filter_cons, List.flatMap_cons]
    by_cases h : P a = true
    · rw [if_pos h, if_pos h, List.flatMap_cons, flatMap_filter f P l]
    · rw [if_neg h, if_neg h, flatMap_filter f P l]; rfl
theorem flatMap_congr' {α β : Type} {f g : α → List β} : ∀ {l : List α}, (∀ a ∈ l, f a = g a) → l.flatMap f = l.flatMap g
  | [], _ => rfl
  | a :: l, h => by rw [List.flatMap_cons, List.flatMap_cons, h a List.mem_cons_self, flatMap_congr' (fun b hb => h b (List.mem_cons_of_mem _ hb))]
theorem filter_congr' {α : Type} {P Q : α → Bool} {l : List α} (h : ∀ a ∈ l, P a = Q a) : l.filter P = l.filter Q := List.filter_congr h
theorem lvlP_eq {R : RV} (hW : Wf R) {L : Nat} (hL : 2 ≤ L) : ∀ k, lvlP (wR R) L k = (lvl (wR R) k).filter (fun q => decide (k + wts q.2.1 ≤ L))
  | 0 => by
    show [(([], 0, 0) : RW)] = [(([], 0, 0) : RW)].filter _
    rw [List.filter_cons_of_pos]
    · rfl
    · show decide (0 + wts 0 ≤ L) = true
      rw [decide_eq_true]
      show 0 + 2 ≤ L
      omega
  | k + 1 => by
    rw [lvlP, lvlP_eq hW hL k, flatMap_filter, lvl, filter_flatMap]
    refine flatMap_congr' (fun q hq => ?_)
    obtain ⟨⟨r, rfl, hr⟩, hl⟩ := lvl_wf k q hq
    obtain ⟨a1, a2, a3, a4⟩ := VA_f hW hr
    have hmap : (exts (wR R) (qof (wR R) r)).filter (fun q => decide (k + 1 + wts q.2.1 ≤ L)) = ((List.range 10).filter (fun b => exb (wR R) (qof (wR R) r) b && decide (k + 1 + wts (nx (qof (wR R) r).2.1 (wk (wR R b))) ≤ L))).map (exq (wR R) (qof (wR R) r)) := by
      unfold exts
      rw [List.filter_map, List.filter_filter]
      congr 1
      refine filter_congr' (fun b hb => ?_)
      rw [Bool.and_comm]
      rfl
    rw [hmap]
    by_cases hg : k + wts (qof (wR R) r).2.1 ≤ L
    · rw [if_pos (by rw [decide_eq_true_eq]; exact hg)]
      unfold extsP exbP
      rw [hl]
    · rw [if_neg (by rw [decide_eq_true_eq]; exact hg), List.filter_eq_nil_iff.mpr]
      · rfl
      · intro b _ h
        rw [Bool.and_eq_true, decide_eq_true_eq] at h
        have hx := exM_w (R := R) (m := R.lv) (cf := false) (r := r) (b := b) (by rw [exM_f]; exact h.1)
        have hk := (wk_wM hW hx.1 hx.2.1).2.1
        have h2 := wts_nx _ a1 _ (by rw [hk]; exact (hW.2.2.2.1 b hx.1).1) hx.2.2.2
        have := h.2
        rw [wR_wM] at *
        omega
theorem bfs_fin {R : RV} (hW : Wf R) {L : Nat} (hL : 2 ≤ L) : (bfsP (wR R) L (L + 1)).filter fin = VL (wR R) L := by
  unfold bfsP VL
  rw [filter_flatMap]
  refine flatMap_congr' (fun k hk => ?_)
  rw [List.mem_range] at hk
  rw [lvlP_eq hW hL, List.filter_filter]
  unfold Vn
  refine filter_congr' (fun q hq => ?_)
  unfold fin
  by_cases h : wts q.2.1 = 0
  · rw [h]
    simp
    omega
  · simp [h]
theorem i_sh4 : ∀ j, j < 10 → ((Int32.ofInt 4 * Int32.ofInt (j : Nat)).toInt64 &&& 63).toBitVec.smod 64 = BitVec.ofNat 64 (4 * j) := by decide +kernel
theorem i_at {x j : Nat} (hx : x < 1099511627776) (hj : j < 10) : ((Int64.ofInt (x : Int) >>> ((Int32.ofInt 4 * Int32.ofInt (j : Nat)).toInt64 &&& 63)).toInt32 &&& Int32.ofInt 15) = Int32.ofInt (((x >>> (4 * j)) % 16 : Nat) : Int) := by
  have h1 : (Int64.ofInt (x : Int) >>> ((Int32.ofInt 4 * Int32.ofInt (j : Nat)).toInt64 &&& 63)) = Int64.ofInt ((x >>> (4 * j) : Nat) : Int) := by
    apply Int64.toBitVec_inj.mp
    rw [Int64.toBitVec_shiftRight, i_sh4 j hj, l_bv, l_bv]
    have h2 : (BitVec.ofNat 64 (4 * j)).toNat = 4 * j := by simp; omega
    rw [BitVec.sshiftRight_eq', h2, BitVec.sshiftRight_eq_of_msb_false]
    · apply BitVec.eq_of_toNat_eq
      have : x >>> (4 * j) ≤ x := Nat.shiftRight_le _ _
      simp
      rw [Nat.mod_eq_of_lt (by omega), Nat.mod_eq_of_lt (by omega)]
    · rw [BitVec.msb_eq_false_iff_two_mul_lt]
      simp
      omega
  rw [h1, Int64.toInt32_ofInt, show (15 : Int) = ((15 : Nat) : Int) from rfl, i_and]
  congr 2
  exact Nat.and_two_pow_sub_one_eq_mod _ 4
theorem pack_at : ∀ (l : List Nat) (j x : Nat), (∀ c ∈ l, c < 16) → l[j]? = some x → (pack l >>> (4 * j)) % 16 = x
  | [], j, x, _, h => by simp at h
  | a :: l, 0, x, hc, h => by
    have h1 := hc a List.mem_cons_self
    simp at h
    subst h
    show (a + 16 * pack l) >>> 0 % 16 = a
    rw [Nat.shiftRight_zero]
    omega
  | a :: l, j + 1, x, hc, h => by
    have h1 := hc a List.mem_cons_self
    have ih := pack_at l j x (fun c hcc => hc c (List.mem_cons_of_mem _ hcc)) (by simpa using h)
    show (a + 16 * pack l) >>> (4 * (j + 1)) % 16 = x
    rw [show 4 * (j + 1) = 4 + 4 * j by omega, Nat.shiftRight_add, show (a + 16 * pack l) >>> 4 = pack l by rw [Nat.shiftRight_eq_div_pow]; omega]
    exact ih
theorem v_at {N : Nat} {l : List Nat} {j x : Nat} (hc : ∀ c ∈ l, c < 16) (h : l.length ≤ 10) (hj : l[j]? = some x) (M : XM) : fX2_at N [.long (Int64.ofInt (pack l : Nat)), .int (Int32.ofInt j)] M = some (Int32.ofInt x, M) := by
  have hl := (List.getElem?_eq_some_iff.mp hj).1
  rw [eX2_at, i_at (pack_40 hc h) (by omega), pack_at l j x hc hj, e_I]
theorem l_mean8 {N : Nat} {o : Nat} (ho : o = 1 ∨ o = 8 ∨ o = 15) {R : RV} (hW : Wf R) {m : Nat} {M : XM} (hR : cv o R M) {l : List Nat} (hl : ∀ c ∈ l, c < R.nb ∧ m.testBit c = true) (h10 : l.length ≤ 10) : ∀ (t : List Nat) (n j : Nat) (s c g z : Int), l.drop j = t → j + t.length = l.length → t.length < n → gX2_meaning N n 15 [.ref o, .long (Int64.ofInt (pack l : Nat)), .retAddr 0, .int (Int32.ofInt l.length), .int (Int32.ofInt s), .int (Int32.ofInt c), .int (Int32.ofInt g), .int (Int32.ofInt z), .int (Int32.ofInt j), .retAddr 0, .retAddr 0] [] M = some (Int32.ofInt (mfin (t.foldl (mst (wM R m)) (s, c, g, z))), M)
  | [], n + 1, j, s, c, g, z, ht, hj, hn => by
    simp only [List.length_nil] at hj
    rw [eX2_meaning_15 _ _ _ _ _ _ _ _ _ _ ho, i_lt (by omega) (by omega), decide_eq_false (by omega), cond_false, i_mul, i_add, e_I]
    rfl
  | a :: t, n + 1, j, s, c, g, z, ht, hj, hn => by
    simp only [List.length_cons] at hj hn
    have hja : l[j]? = some a := by rw [← List.head?_drop, ht]; rfl
    have ht' : l.drop (j + 1) = t := by rw [← List.drop_drop, ht]; rfl
    have ha : a ∈ l := List.mem_of_getElem? hja
    obtain ⟨a1, a2⟩ := hl a ha
    obtain ⟨w1, w2, w3⟩ := wk_wM hW a1 a2
    have hnb := hW.1
    have hk := hW.2.2.2.1 a a1
    have hc := hR.2.2.2.2.2.1 a a1
    have hx : xlen M (o + 1) = 16 ∧ xlen M (o + 2) = 16 := (show PO o from ho).xl M
    have ih := fun s c g z => l_mean8 (N := N) ho hW hR hl h10 t n (j + 1) s c g z ht' (by omega) (by omega)
    rw [eX2_meaning_15 _ _ _ _ _ _ _ _ _ _ ho, i_lt (by omega) (by omega), decide_eq_true (by omega), cond_true, v_at (fun c hcc => by have := (hl c hcc).1; omega) h10 hja, e_bd]
    dsimp only
    rw [hx.1, hx.2, i_inn (by omega), decide_eq_true (by omega), cond_true, cond_true, i_natn (by omega), hc.1, hc.2.1]
    simp (disch := omega) only [i_eq, i_suc, i_mul, i_add]
    rw [List.foldl_cons]
    by_cases k1 : R.kd a = 1
    · rw [decide_eq_true (by omega), cond_true, mst_1 w2 w3 k1]
      exact ih _ _ _ _
    · rw [decide_eq_false (by omega), cond_false]
      by_cases k2 : R.kd a = 2
      · rw [decide_eq_true (by omega), cond_true, mst_2 w2 w3 k2]
        exact ih _ _ _ _
      · rw [decide_eq_false (by omega), cond_false]
        by_cases k3 : R.kd a = 3
        · rw [decide_eq_true (by omega), cond_true, mst_3 w2 w3 k3]
          exact ih _ _ _ _
        · rw [decide_eq_false (by omega), cond_false]
          by_cases k4 : R.kd a = 4
          · rw [decide_eq_true (by omega), cond_true, mst_4 w2 k4]
            exact ih _ _ _ _
          · rw [decide_eq_false (by omega), cond_false, mst, if_neg (by omega), if_neg (by omega), if_neg (by omega), if_neg (by omega)]
            exact ih _ _ _ _
theorem v_mean8 {N : Nat} (hN : 11 < N) {o : Nat} (ho : o = 1 ∨ o = 8 ∨ o = 15) {R : RV} (hW : Wf R) {m : Nat} {M : XM} (hR : cv o R M) {l : List Nat} (hl : ∀ c ∈ l, c < R.nb ∧ m.testBit c = true) (h10 : l.length ≤ 10) : fX2_meaning N [.ref o, .long (Int64.ofInt (pack l : Nat)), .int (Int32.ofInt l.length)] M = some (Int32.ofInt (mean (wM R m) l), M) := by
  rw [eX2_meaning _ _ _ _ ho, mean_eq]
  exact l_mean8 ho hW hR hl h10 l N 0 0 0 1 1 rfl (by omega) (by omega)
def FM (o : Nat) (w : Nat → Nat) (F : List RW) (M : XM) : Prop := ∀ (i : Nat) (q : RW), F[i]? = some q → ∃ z : Nat, (z : Int) = mean w q.1 + 1000 ∧ pok (pack q.1) q.1.length q.2.2 q.2.1 z ∧ M.2 (o + 1) i = pk (pack q.1) q.1.length q.2.2 q.2.1 z
def UM (o : Nat) (F : List RW) (M : XM) : Prop := ∀ n, n ≤ 6 → M.1 (o + 6) n = Int32.ofInt ((F.countP (fun q => q.1.length == n) : Nat) : Int)
theorem FM_snoc {o : Nat} {w : Nat → Nat} {Q : List RW} {q : RW} {M : XM} (h : FM o w Q M) (h1 : ∃ z : Nat, (z : Int) = mean w q.1 + 1000 ∧ pok (pack q.1) q.1.length q.2.2 q.2.1 z ∧ M.2 (o + 1) Q.length = pk (pack q.1) q.1.length q.2.2 q.2.1 z) : FM o w (Q ++ [q]) M := by
  intro i x hi
  by_cases e : i < Q.length
  · rw [List.getElem?_append_left e] at hi
    exact h i x hi
  · have hi' : i = Q.length := by
      have := (List.getElem?_eq_some_iff.mp hi).1
      simp at this
      omega
    subst hi'
    rw [List.getElem?_append_right (Nat.le_refl _), Nat.sub_self] at hi
    simp at hi
    subst hi
    exact h1
theorem FM_w {o : Nat} {w : Nat → Nat} {Q : List RW} {M M' : XM} (h : FM o w Q M) (hw : ∀ j, j < Q.length → M'.2 (o + 1) j = M.2 (o + 1) j) : FM o w Q M' := by
  intro i q hi
  have hl := (List.getElem?_eq_some_iff.mp hi).1
  rw [hw _ hl]
  exact h i q hi
def TM (o i : Nat) (T : List RW) (M : XM) : Prop := ∀ (j : Nat) (q : RW), T[j]? = some q → M.2 (o + 1) (i + j) = pk (pack q.1) q.1.length q.2.2 q.2.1 0
theorem TM_t {o i : Nat} {q : RW} {T : List RW} {M M' : XM} (h : TM o i (q :: T) M) (hw : ∀ j, i < j → M'.2 (o + 1) j = M.2 (o + 1) j) : TM o (i + 1) T M' := by
  intro j x hj
  rw [hw _ (by omega), show i + 1 + j = i + (j + 1) by omega]
  exact h (j + 1) x (by simpa using hj)
theorem l_keep {N : Nat} (hN : 11 < N) {o L rm p : Nat} (ho : SO o L rm) (hp : PO p) {R : RV} (hW : Wf R) : ∀ (T F : List RW) (i n : Nat) (M : XM), F.length ≤ i → (∀ q ∈ T, wfq R L q) → GB o L rm p R M → FM o (wR R) F M → UM o F M → TM o i T M → M.1 o 2 = Int32.ofInt ((i + T.length : Nat) : Int) → i + T.length ≤ rm → ∃ M', gX4_keepWhole N (n + 1 + T.length) 25 [.ref o, .ref p, .int (Int32.ofInt F.length), .int (Int32.ofInt i), .retAddr 0, .retAddr 0] [] M = gX4_keepWhole N n 122 [.ref o, .retAddr 0, .int (Int32.ofInt (F ++ T.filter fin).length), .int (Int32.ofInt 1), .retAddr 0, .retAddr 0] [] M' ∧ fq o M M' ∧ FM o (wR R) (F ++ T.filter fin) M' ∧ UM o (F ++ T.filter fin) M'
  | [], F, i, n, M, hFi, hT, hG, hF, hU, hTM, hz, hc => by
    have hL := ho.L
    simp only [List.length_nil, Nat.add_zero] at hz hc ⊢
    rw [List.filter_nil, List.append_nil]
    refine ⟨M, ?_, fq.rf, hF, hU⟩
    rw [eX4_keepWhole_25 _ _ _ _ _ _ ho.o hp, hz, i_lt (by omega) (by omega), decide_eq_false (by omega), cond_false]
  | q :: T, F, i, n, M, hFi, hT, hG, hF, hU, hTM, hz, hc => by
    have hL := ho.L
    have hx := ho.xl
    have hne := hp.ne ho
    simp only [List.length_cons] at hz hc
    have hq := hT q List.mem_cons_self
    obtain ⟨q1, q2, q3, q4⟩ := wfq_f hW hq
    have m0 : M.2 (o + 1) i = pk (pack q.1) q.1.length q.2.2 q.2.1 0 := hTM 0 q rfl
    obtain ⟨⟨m1, m2, m3, m4⟩, m5⟩ := v_acc ho hG.2.2.2 hz (i := i) (by omega) (by omega) (wfq_pok hW hL.1 hq (by omega)) m0
    have ih := fun F M => l_keep (N := N) hN ho hp hW T F (i + 1) n M
    rw [show n + 1 + (q :: T).length = (n + 1 + T.length) + 1 by simp only [List.length_cons]; omega, eX4_keepWhole_25 _ _ _ _ _ _ ho.o hp, hz, hG.2.2.2, i_lt (by omega) (by omega), i_lt (by omega) (by omega), decide_eq_true (by omega), decide_eq_true (by omega), cond_true, cond_true, m5, e_bd]
    dsimp only
    rw [v_mayEnd hG.2.1 q1, e_bd, b_z]
    by_cases hfin : wts q.2.1 = 0
    · have hfq : fin q = true := by unfold fin; rw [hfin]; rfl
      rw [decide_eq_true hfin, cond_true]
      dsimp only
      obtain ⟨r, hr, hva, hrl⟩ := id hq
      have hql : ∀ c ∈ q.1, c < R.nb ∧ R.lv.testBit c = true := by
        intro c hcc
        rw [hr, qof_1] at hcc
        exact (VA_nd hW hva).1 c (List.mem_reverse.mp hcc)
      have hok : okl R R.lv q.1 := by
        refine ⟨hql, ?_, ?_⟩
        · have h1 := hfin
          rw [hr, wR_wM, qof_pl] at h1
          rw [hr, wR_wM, qof_1]
          exact h1
        · rw [hr, qof_1]
          exact (List.pairwise_reverse.mpr ((VA_nd hW hva).2.imp (fun h => h.symm)))
      have hmb := mean_b hW hok (by omega)
      rw [← wR_wM] at hmb
      obtain ⟨z, hz1⟩ := Int.eq_ofNat_of_zero_le (show 0 ≤ mean (wR R) q.1 + 1000 by omega)
      have hpz := wfq_pok hW hL.1 hq (z := z) (by omega)
      have hpk : pack q.1 < 2147483648 := by have := hpz.1; omega
      rw [m1, e_bd]
      dsimp only
      rw [m2, e_bd]
      dsimp only
      rw [i_64 hpk, v_mean8 hN hp hW hG.1 hql (by omega), e_bd, ← wR_wM]
      dsimp only
      rw [m2, e_bd]
      dsimp only
      rw [i_min (by omega) (by omega), e_bd, if_neg (by omega)]
      dsimp only
      rw [m_wi2, i_add (mean (wR R) q.1) 1000, hz1, (hx _).2.1, (hx _).1, i_inn (by omega), i_inn (by omega), i_inn (by omega), i_natn (by omega), i_natn (by omega), i_natn (by omega), decide_eq_true (by omega), decide_eq_true (by omega), decide_eq_true (by omega), cond_true, cond_true, cond_true, cond_true, m0, pk_or hpz, hU _ (show q.1.length ≤ 6 by omega), i_suc, i_suc, i_suc]
      have f2 : fq o M (xwl (xwi M (o + 6) q.1.length (Int32.ofInt ((F.countP (fun x => x.1.length == q.1.length) + 1 : Nat) : Int))) (o + 1) F.length (pk (pack q.1) q.1.length q.2.2 q.2.1 z)) := (fq.rf.wi (by omega)).wl
      have g1 : FM o (wR R) (F ++ [q]) (xwl (xwi M (o + 6) q.1.length (Int32.ofInt ((F.countP (fun x => x.1.length == q.1.length) + 1 : Nat) : Int))) (o + 1) F.length (pk (pack q.1) q.1.length q.2.2 q.2.1 z)) := by
        refine FM_snoc (FM_w hF (fun j hj => ?_)) ⟨z, hz1.symm, hpz, ?_⟩
        · rw [m_wl2, if_neg (by omega), m_wi2]
        · rw [m_wl2, if_pos ⟨rfl, rfl⟩]
      have g2 : UM o (F ++ [q]) (xwl (xwi M (o + 6) q.1.length (Int32.ofInt ((F.countP (fun x => x.1.length == q.1.length) + 1 : Nat) : Int))) (o + 1) F.length (pk (pack q.1) q.1.length q.2.2 q.2.1 z)) := by
        intro n hn
        rw [List.countP_append, List.countP_cons, List.countP_nil, m_wl]
        by_cases e : n = q.1.length
        · subst e
          simp (disch := omega) only [m_wi, if_neg, and_self, if_true]
          simp
        · have e2 : ¬ q.1.length = n := fun h => e h.symm
          simp (disch := omega) only [m_wi, if_neg]
          rw [hU n hn]
          simp [e2]
      have := ih (F ++ [q]) _ (by simp; omega) (fun x hx => hT x (List.mem_cons_of_mem _ hx)) (hG.fq ho hp f2) g1 g2 (TM_t hTM (fun j hj => by rw [m_wl2, if_neg (by omega), m_wi2])) (by
        rw [m_wl, m_wi, if_neg (by omega), hz, show i + 1 + T.length = i + (T.length + 1) by omega]) (by omega)
      obtain ⟨M', j1, j2, j3, j4⟩ := this
      rw [List.filter_cons_of_pos hfq]
      rw [List.append_assoc] at j1 j3 j4
      rw [show (F ++ [q]).length = F.length + 1 by simp] at j1
      exact ⟨M', j1, f2.tr j2, j3, j4⟩
    · have hfq : fin q = false := by unfold fin; simp [hfin]
      rw [decide_eq_false hfin, cond_false, List.filter_cons_of_neg (by rw [hfq]; exact Bool.false_ne_true), i_suc]
      exact ih F M (by omega) (fun x hx => hT x (List.mem_cons_of_mem _ hx)) hG hF hU (TM_t hTM (fun _ _ => rfl)) (by rw [hz, show i + 1 + T.length = i + (T.length + 1) by omega]) (by omega)
