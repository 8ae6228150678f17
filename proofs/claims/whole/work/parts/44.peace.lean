def pc (a b : Nat) : Nat := 10 * (if b < a then b else a) + (if a < b then b else a)
theorem pc_lt {a b : Nat} (ha : a < 10) (hb : b < 10) : pc a b < 100 := by
  unfold pc
  split <;> split <;> omega
theorem pc_inj {a b x y : Nat} (ha : a < 10) (hb : b < 10) (hxy : x < y) (hy : y < 10) : pc a b = 10 * x + y ↔ (a = x ∧ b = y) ∨ (a = y ∧ b = x) := by
  unfold pc
  split <;> split <;> omega
def fl (R : RV) : List Nat → List Nat
  | [] => []
  | [_] => []
  | a :: b :: l => (if (R.fd a).testBit b = true then [pc a b] else []) ++ fl R (b :: l)
theorem fdn_fl (R : RV) : ∀ l, fdn R l = (fl R l).length
  | [] => rfl
  | [_] => rfl
  | a :: b :: l => by
    rw [fdn, fl, fdn_fl R (b :: l), List.length_append]
    split <;> rfl
def olf : List Nat → Int
  | [k] => k
  | _ => -1
def oacc (acc : Int) (L : List Nat) : Int := if acc = -1 then olf L else if L = [] then acc else -1
theorem l_only {N o : Nat} (ho : PO o) {R : RV} (hW : Wf R) {M : XM} (hR : cv o R M) {l : List Nat} (hl : ∀ c ∈ l, c < R.nb) (h10 : l.length ≤ 10) : ∀ (t : List Nat) (a n j : Nat) (acc : Int), l.drop j = a :: t → j + 1 + t.length = l.length → t.length < n → (acc = -1 ∨ (0 ≤ acc ∧ acc < 100)) → gX2_onlyFeud N n 6 [.ref o, .long (Int64.ofInt (pack l : Nat)), .retAddr 0, .int (Int32.ofInt l.length), .int (Int32.ofInt acc), .int (Int32.ofInt ((j + 1 : Nat) : Int)), .retAddr 0, .retAddr 0] [] M = some (Int32.ofInt (oacc acc (fl R (a :: t))), M)
  | [], a, n + 1, j, acc, ht, hj, hn, hz => by
    simp only [List.length_nil] at hj
    rw [eX2_onlyFeud_6 _ _ _ _ _ _ _ ho, i_lt (by omega) (by omega), decide_eq_false (by omega), cond_false, e_I]
    unfold oacc fl
    by_cases e : acc = -1
    · rw [if_pos e, e]; rfl
    · rw [if_neg e, if_pos rfl]
  | b :: t, a, n + 1, j, acc, ht, hj, hn, hz => by
    have h10' := hW.1
    simp only [List.length_cons] at hj hn
    have hja : l[j]? = some a := by rw [← List.head?_drop, ht]; rfl
    have ht' : l.drop (j + 1) = b :: t := by rw [← List.drop_drop, ht]; rfl
    have hjb : l[j + 1]? = some b := by rw [← List.head?_drop, ht']; rfl
    have ha := hl a (List.mem_of_getElem? hja)
    have hb := hl b (List.mem_of_getElem? hjb)
    have h16 : ∀ c ∈ l, c < 16 := fun c hc => by have := hl c hc; have := hW.1; omega
    have ih := fun acc => l_only (N := N) ho hW hR hl h10 t b n (j + 1) acc ht' (by omega) (by omega)
    have hpc := pc_lt (a := a) (b := b) (by omega) (by omega)
    rw [eX2_onlyFeud_6 _ _ _ _ _ _ _ ho, i_lt (by omega) (by omega), decide_eq_true (by omega), cond_true, i_sub, show ((j + 1 : Nat) : Int) - 1 = (j : Int) by omega, v_at h16 h10 hja, e_bd, v_at h16 h10 hjb, e_bd, v_feuding ho hR hW ha hb, e_bd, b_z]
    dsimp only
    rw [i_suc, i_eq (by omega) (by omega), fl]
    cases (R.fd a).testBit b with
    | false =>
      rw [cond_false, if_neg Bool.false_ne_true, List.nil_append]
      exact ih acc hz
    | true =>
      rw [cond_true, if_pos rfl]
      by_cases e : acc = -1
      · rw [decide_eq_true e, cond_true, i_min (by omega) (by omega), e_bd]
        dsimp only
        rw [i_max (by omega) (by omega), e_bd]
        dsimp only
        rw [i_mul, i_add, show (10 * (if (b : Int) < (a : Int) then (b : Int) else a) + (if (a : Int) < (b : Int) then (b : Int) else a)) = ((pc a b : Nat) : Int) by unfold pc; split <;> split <;> (try split) <;> (try split) <;> omega, ih _ (by omega), e]
        unfold oacc
        rw [if_neg (by omega), if_pos rfl]
        congr 3
        cases fl R (b :: t) with
        | nil => rfl
        | cons c L => rfl
      · rw [decide_eq_false e, cond_false, e_I]
        unfold oacc
        rw [if_neg e, if_neg (by simp)]
theorem v_only {N o : Nat} (hN : 11 < N) (ho : PO o) {R : RV} (hW : Wf R) {M : XM} (hR : cv o R M) {l : List Nat} (hl : ∀ c ∈ l, c < R.nb) (h10 : l.length ≤ 10) (h0 : 0 < l.length) : fX2_onlyFeud N [.ref o, .long (Int64.ofInt (pack l : Nat)), .int (Int32.ofInt l.length)] M = some (Int32.ofInt (olf (fl R l)), M) := by
  cases l with
  | nil => simp at h0
  | cons a t =>
    rw [eX2_onlyFeud _ _ _ _ ho]
    exact l_only (N := N) ho hW hR hl h10 t a N 0 (-1) rfl (by simp; omega) (by simp at h10; omega) (.inl rfl)
theorem fl_mem (R : RV) : ∀ l k, k ∈ fl R l → ∃ a b, a ∈ l ∧ b ∈ l ∧ k = pc a b
  | [], k, h => by simp [fl] at h
  | [_], k, h => by simp [fl] at h
  | a :: b :: l, k, h => by
    rw [fl, List.mem_append] at h
    rcases h with h | h
    · split at h
      · simp only [List.mem_singleton] at h
        exact ⟨a, b, by simp, by simp, h⟩
      · cases h
    · obtain ⟨c, d, h1, h2, h3⟩ := fl_mem R (b :: l) k h
      exact ⟨c, d, List.mem_cons_of_mem _ h1, List.mem_cons_of_mem _ h2, h3⟩
theorem fl_lt {R : RV} {l : List Nat} (hl : ∀ c ∈ l, c < 10) : ∀ k ∈ fl R l, k < 100 := fun k hk => by
  obtain ⟨a, b, h1, h2, rfl⟩ := fl_mem R l k hk
  exact pc_lt (hl a h1) (hl b h2)
theorem fl_count {R : RV} {x y : Nat} (hxy : x < y) (hy : y < 10) : ∀ l, (∀ c ∈ l, c < 10) → l.Nodup → (fl R l).count (10 * x + y) ≤ 1
  | [], _, _ => by simp [fl]
  | [_], _, _ => by simp [fl]
  | a :: b :: l, hl, hn => by
    have ih := fl_count (R := R) hxy hy (b :: l) (fun c hc => hl c (List.mem_cons_of_mem _ hc)) (List.nodup_cons.mp hn).2
    have hna := (List.nodup_cons.mp hn).1
    rw [fl, List.count_append]
    by_cases e : pc a b = 10 * x + y
    · have h0 : (fl R (b :: l)).count (10 * x + y) = 0 := by
        refine List.count_eq_zero.mpr (fun h => ?_)
        obtain ⟨c, d, h1, h2, h3⟩ := fl_mem R (b :: l) _ h
        have ha := hl a List.mem_cons_self
        have hb := hl b (by simp)
        have hc := hl c (List.mem_cons_of_mem _ h1)
        have hd := hl d (List.mem_cons_of_mem _ h2)
        have q1 := (pc_inj ha hb hxy hy).mp e
        have q2 := (pc_inj hc hd hxy hy).mp h3.symm
        have : a = c ∨ a = d := by omega
        rcases this with rfl | rfl
        · exact hna h1
        · exact hna h2
      rw [h0]
      split
      · rw [e]; simp
      · simp
    · split
      · rw [show List.count (10 * x + y) [pc a b] = 0 from List.count_eq_zero.mpr (by simp; omega)]
        omega
      · simpa using ih
theorem fl_off {R : RV} {x y : Nat} (hxy : x < y) (hy : y < 10) : ∀ l, (∀ c ∈ l, c < 10) → fl (R.sfd (fset R.fd x y false)) l = (fl R l).filter (fun k => k != 10 * x + y)
  | [], _ => rfl
  | [_], _ => rfl
  | a :: b :: l, hl => by
    have ih := fl_off (R := R) hxy hy (b :: l) (fun c hc => hl c (List.mem_cons_of_mem _ hc))
    have ha := hl a List.mem_cons_self
    have hb := hl b (by simp)
    have hpi := pc_inj ha hb hxy hy
    rw [fl, fl, ih, List.filter_append]
    congr 1
    show (if (fset R.fd x y false a).testBit b = true then [pc a b] else []) = _
    rw [fset_at _ (by omega)]
    by_cases e : pc a b = 10 * x + y
    · have q := hpi.mp e
      have : ((decide (a = x) && decide (b = y)) || (decide (a = y) && decide (b = x))) = true := by
        rcases q with ⟨h1, h2⟩ | ⟨h1, h2⟩
        · rw [decide_eq_true h1, decide_eq_true h2]; rfl
        · rw [decide_eq_true h1, decide_eq_true h2, Bool.and_self, Bool.or_true]
      rw [this, cond_true, if_neg Bool.false_ne_true]
      split
      · rw [List.filter_cons_of_neg (by simp [e])]; rfl
      · rfl
    · have : ((decide (a = x) && decide (b = y)) || (decide (a = y) && decide (b = x))) = false := by
        have : ¬ ((a = x ∧ b = y) ∨ (a = y ∧ b = x)) := fun h => e (hpi.mpr h)
        by_cases e1 : a = x ∧ b = y
        · exact absurd (.inl e1) this
        · by_cases e2 : a = y ∧ b = x
          · exact absurd (.inr e2) this
          · rw [← Bool.decide_and, ← Bool.decide_and, decide_eq_false e1, decide_eq_false e2]; rfl
      rw [this, cond_false]
      split
      · rw [List.filter_cons_of_pos (by simp [e])]; rfl
      · rfl
theorem ol_clm {L : List Nat} {k : Nat} (h1 : L.count k ≤ 1) : (L.filter (fun j => j != k)).length = 0 ↔ (L.length = 0 ∨ olf L = (k : Int)) := by
  rw [List.length_eq_zero_iff, List.length_eq_zero_iff]
  match L, h1 with
  | [], _ => simp
  | [a], _ =>
    by_cases e : a = k
    · subst e; simp [olf]
    · simp [olf, e]
      omega
  | a :: b :: L, h1 =>
    constructor
    · intro h
      exfalso
      by_cases e : a = k
      · by_cases e2 : b = k
        · subst e; subst e2
          simp at h1
        · rw [List.filter_cons] at h
          split at h
          · cases h
          · rw [List.filter_cons_of_pos (by simp [e2])] at h
            cases h
      · rw [List.filter_cons_of_pos (by simp [e])] at h
        cases h
    · intro h
      rcases h with h | h
      · cases h
      · exact absurd (show (-1 : Int) = (k : Int) from h) (by omega)
theorem clm_off {R : RV} {x y : Nat} (hxy : x < y) (hy : y < 10) {l : List Nat} (hl : ∀ c ∈ l, c < 10) (hn : l.Nodup) : clm (R.sfd (fset R.fd x y false)) l = true ↔ (clm R l = true ∨ olf (fl R l) = ((10 * x + y : Nat) : Int)) := by
  rw [clm_fdn, clm_fdn, fdn_fl, fdn_fl, fl_off hxy hy l hl, decide_eq_true_eq, decide_eq_true_eq]
  exact ol_clm (fl_count hxy hy l hl hn)
theorem clm_not {R : RV} {l : List Nat} (h : clm R l = true) (k : Nat) : olf (fl R l) ≠ (k : Int) := by
  rw [clm_fdn, fdn_fl, decide_eq_true_eq, List.length_eq_zero_iff] at h
  rw [h]
  show (-1 : Int) ≠ k
  omega
def gn (R : RV) (T : List RW) (k : Nat) : Nat := (T.filter (fun q => decide (olf (fl R q.1) = (k : Int)))).length
theorem gn_s (R : RV) (q : RW) (T : List RW) (k : Nat) : gn R (q :: T) k = (if olf (fl R q.1) = (k : Int) then 1 else 0) + gn R T k := by
  unfold gn
  by_cases h : olf (fl R q.1) = (k : Int)
  · rw [List.filter_cons_of_pos (by simp [h]), if_pos h, List.length_cons]; omega
  · rw [List.filter_cons_of_neg (by simp [h]), if_neg h]; omega
theorem gn_le (R : RV) (T : List RW) (k : Nat) : gn R T k ≤ T.length := List.length_filter_le _ _
theorem cnt_off {R : RV} {x y : Nat} (hxy : x < y) (hy : y < 10) : ∀ T : List RW, (∀ q ∈ T, (∀ c ∈ q.1, c < 10) ∧ q.1.Nodup) → (T.filter (fun q => clm (R.sfd (fset R.fd x y false)) q.1)).length = (T.filter (fun q => clm R q.1)).length + gn R T (10 * x + y)
  | [], _ => rfl
  | q :: T, h => by
    have ih := cnt_off (R := R) hxy hy T (fun q hq => h q (List.mem_cons_of_mem _ hq))
    obtain ⟨h1, h2⟩ := h q List.mem_cons_self
    have hk := clm_off (R := R) hxy hy h1 h2
    rw [gn_s]
    by_cases c1 : clm R q.1 = true
    · rw [List.filter_cons_of_pos (by exact hk.mpr (.inl c1)), List.filter_cons_of_pos (by exact c1), List.length_cons, List.length_cons, if_neg (clm_not c1 _)]
      omega
    · by_cases c2 : olf (fl R q.1) = ((10 * x + y : Nat) : Int)
      · rw [List.filter_cons_of_pos (by exact hk.mpr (.inr c2)), List.filter_cons_of_neg (by exact c1), List.length_cons, if_pos c2]
        omega
      · rw [List.filter_cons_of_neg (by exact fun h => (hk.mp h).elim c1 c2), List.filter_cons_of_neg (by exact c1), if_neg c2]
        omega
theorem olf_rg {R : RV} {l : List Nat} (hl : ∀ c ∈ l, c < 10) : olf (fl R l) = -1 ∨ ∃ k : Nat, k < 100 ∧ olf (fl R l) = (k : Int) := by
  have := fl_lt (R := R) hl
  match h : fl R l with
  | [] => exact .inl rfl
  | [k] => exact .inr ⟨k, this k (by rw [h]; simp), rfl⟩
  | _ :: _ :: _ => exact .inl rfl
theorem l_g0 {N p : Nat} (hp : PO p) (m : Int32) : ∀ (d k n : Nat) (M : XM), k + d = 100 → d < n → (∀ j, j < k → M.1 42 j = Int32.ofInt 0) → ∃ M', gX1_bestPeace N n 3 [.ref 31, .ref p, .ref 22, .int m, .int (Int32.ofInt k), .retAddr 0, .retAddr 0] [] M = ((fX4_upTo N [.ref 22, .int (m - (Int32.ofInt 1))] M').bind fun q0 => gX1_bestPeace N (n - d - 1) 33 [.ref 31, .ref p, .ref 22, .int m, .int q0.1, .retAddr 0, .retAddr 0] [] q0.2) ∧ fr 42 43 M M' ∧ ∀ j, j < 100 → M'.1 42 j = Int32.ofInt 0
  | 0, k, n + 1, M, hk, hn, h => by
    refine ⟨M, ?_, fr.rf, fun j hj => h j (by omega)⟩
    rw [eX1_bestPeace_3 _ _ _ _ _ _ hp (.inl rfl), i_lt (by omega) (by omega), decide_eq_false (by omega), cond_false]
    rfl
  | d + 1, k, n + 1, M, hk, hn, h => by
    obtain ⟨M', g1, g2, g3⟩ := l_g0 (N := N) hp m d (k + 1) n (xwi M 42 k (Int32.ofInt 0)) (by omega) (by omega) (fun j hj => by
      by_cases e : j = k
      · rw [e, m_eq]
      · rw [m_ne _ (by omega)]; exact h j (by omega))
    refine ⟨M', ?_, (fr.rf.wi (by omega) (by omega)).tr g2, g3⟩
    rw [eX1_bestPeace_3 _ _ _ _ _ _ hp (.inl rfl), i_lt (by omega) (by omega), decide_eq_true (by omega), cond_true, show xlen M (31 + 11) = 100 from rfl, i_inn (by omega), decide_eq_true (by omega), cond_true, i_natn (by omega), i_suc, show 31 + 11 = 42 from rfl, g1, show n + 1 - (d + 1) - 1 = n - d - 1 by omega]
theorem cv_42 {o : Nat} (ho : PO o) {R : RV} {M M' : XM} (h : cv o R M) (hf : fr 42 43 M M') : cv o R M' := h.fr hf (by rcases ho with rfl | rfl | rfl <;> omega)
theorem l_gain {N p : Nat} (hN : 11 < N) (hp : PO p) {R : RV} (hW : Wf R) {m : Nat} (hm : m ≤ 6) : ∀ (T : List RW) (i n : Nat) (g : Nat → Nat) (M : XM), cv p R M → SYw 22 6 2400 (wR R) M → SM 22 (wR R) i T M → (∀ q ∈ T, q ∈ VL (wR R) 6 ∧ q.1.length = m) → i + T.length = (VL (wR R) m).length → T.length < n → (∀ j, j < 100 → M.1 42 j = Int32.ofInt (g j)) → ∃ M', gX1_bestPeace N n 33 [.ref 31, .ref p, .ref 22, .int (Int32.ofInt m), .int (Int32.ofInt i), .retAddr 0, .retAddr 0] [] M = gX1_bestPeace N (n - T.length - 1) 92 [.ref 31, .ref p, .retAddr 0, .retAddr 0, .int (Int32.ofInt (-1)), .int (Int32.ofInt 0), .retAddr 0] [] M' ∧ fr 42 43 M M' ∧ ∀ j, j < 100 → M'.1 42 j = Int32.ofInt ((g j + gn R T j : Nat) : Int)
  | [], i, n + 1, g, M, hR, hS, hT, hq, hi, hn, hg => by
    have := VL_rm hS hm
    simp only [List.length_nil] at hi
    refine ⟨M, ?_, fr.rf, hg⟩
    rw [eX1_bestPeace_33 _ _ _ _ _ _ hp (.inl rfl), v_upTo (.inl ⟨rfl, rfl, rfl⟩) hS (by omega), e_bd, Nat.min_eq_left hm]
    dsimp only
    rw [i_lt (by omega) (by omega), decide_eq_false (by omega), cond_false]
    rfl
  | q :: T, i, n + 1, g, M, hR, hS, hT, hq, hi, hn, hg => by
    have hrm := VL_rm hS hm
    have h10 := hW.1
    simp only [List.length_cons] at hi hn
    obtain ⟨m1, m2, m3, m4, m5⟩ := SM_t hT
    obtain ⟨qv, ql⟩ := hq q List.mem_cons_self
    obtain ⟨⟨g1, _, g0⟩, g2, g3, _, _⟩ := VL_row hW qv
    have hc10 : ∀ c ∈ q.1, c < 10 := fun c hc => by have := (g1 c hc).1; omega
    have hpk : pack q.1 < 2147483648 := by have := pack_24 (l := q.1) (fun c hcc => by have := (g1 c hcc).1; omega) (by omega); omega
    have hv := v_only (N := N) hN hp hW hR (l := q.1) (fun c hc => (g1 c hc).1) (by omega) g3
    rw [ql] at hv
    have pre : gX1_bestPeace N (n + 1) 33 [.ref 31, .ref p, .ref 22, .int (Int32.ofInt m), .int (Int32.ofInt i), .retAddr 0, .retAddr 0] [] M = bif xlt (Int32.ofInt (olf (fl R q.1))) (0 : Int32) then (gX1_bestPeace N n 33 [.ref 31, .ref p, .ref 22, .int (Int32.ofInt m), .int (Int32.ofInt ((i + 1 : Nat) : Int)), .retAddr 0, .retAddr 0] [] M) else (bif xlt (Int32.ofInt (olf (fl R q.1))) (Int32.ofInt 100) then (bif xin (Int32.ofInt (olf (fl R q.1))) 100 then (bif xin (Int32.ofInt (olf (fl R q.1))) 100 then gX1_bestPeace N n 33 [.ref 31, .ref p, .ref 22, .int (Int32.ofInt m), .int (Int32.ofInt ((i + 1 : Nat) : Int)), .retAddr 0, .retAddr 0] [] (xwi M 42 (Int32.ofInt (olf (fl R q.1))).toNatClampNeg ((M.1 42 (Int32.ofInt (olf (fl R q.1))).toNatClampNeg) + (Int32.ofInt 1))) else none) else none) else (gX1_bestPeace N n 33 [.ref 31, .ref p, .ref 22, .int (Int32.ofInt m), .int (Int32.ofInt ((i + 1 : Nat) : Int)), .retAddr 0, .retAddr 0] [] M)) := by
      rw [eX1_bestPeace_33 _ _ _ _ _ _ hp (.inl rfl), v_upTo (.inl ⟨rfl, rfl, rfl⟩) hS (by omega), e_bd, Nat.min_eq_left hm]
      dsimp only
      rw [i_lt (by omega) (by omega), decide_eq_true (by omega), cond_true, m1, e_bd]
      dsimp only
      rw [i_64 hpk, hv, e_bd]
      dsimp only
      rw [i_suc]
      rfl
    rw [pre]
    rcases olf_rg (R := R) hc10 with h | ⟨k, hk, h⟩
    · obtain ⟨M', e1, e2, e3⟩ := l_gain (N := N) hN hp hW hm T (i + 1) n g M hR hS m5 (fun x hx => hq x (List.mem_cons_of_mem _ hx)) (by omega) (by omega) hg
      refine ⟨M', ?_, e2, fun j hj => ?_⟩
      · rw [h, show xlt (Int32.ofInt (-1)) 0 = true by decide +kernel, cond_true, e1, List.length_cons, show n + 1 - (T.length + 1) - 1 = n - T.length - 1 by omega]
      · rw [e3 j hj, gn_s, if_neg (by omega)]
        congr 2
        omega
    · have hf : fr 42 43 M (xwi M 42 k (Int32.ofInt ((g k + 1 : Nat) : Int))) := fr.rf.wi (by omega) (by omega)
      obtain ⟨M', e1, e2, e3⟩ := l_gain (N := N) hN hp hW hm T (i + 1) n (upn g k (g k + 1)) (xwi M 42 k (Int32.ofInt ((g k + 1 : Nat) : Int))) (cv_42 hp hR hf) (SYw_m hS (fun a j h1 h2 => by rw [m_ne _ (by omega)]) (fun j => rfl)) (SM_m m5 (fun a j h1 h2 => by rw [m_ne _ (by omega)]) (fun j => rfl)) (fun x hx => hq x (List.mem_cons_of_mem _ hx)) (by omega) (by omega) (fun j hj => by
          by_cases e : j = k
          · rw [e, m_eq, upn_eq]
          · rw [m_ne _ (by omega), upn_ne _ _ e]
            exact hg j hj)
      refine ⟨M', ?_, hf.tr e2, fun j hj => ?_⟩
      · rw [h, show (0 : Int32) = Int32.ofInt 0 from rfl, i_lt (by omega) (by omega), decide_eq_false (by omega), cond_false, i_lt (by omega) (by omega), decide_eq_true (by omega), cond_true, i_inn (by omega), decide_eq_true hk, cond_true, cond_true, i_natn (by omega), hg k hk, i_suc, e1, List.length_cons, show n + 1 - (T.length + 1) - 1 = n - T.length - 1 by omega]
      · rw [e3 j hj, gn_s]
        by_cases e : j = k
        · rw [e, upn_eq, if_pos h]
          congr 2
          omega
        · rw [upn_ne _ _ e, if_neg (by omega)]
          congr 2
          omega
