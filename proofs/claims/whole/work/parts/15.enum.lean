def wM (R : RV) (m : Nat) (b : Nat) : Nat := if b < R.nb ∧ m.testBit b = true then 1 + 10 * R.kd b + R.am b else 0
theorem wR_wM (R : RV) : wR R = wM R R.lv := rfl
def qof (w : Nat → Nat) : List Nat → RW
  | [] => ([], 0, 0)
  | c :: r => exq w (qof w r) c
def comp (w : Nat → Nat) (ex : List Nat → Nat → Bool) : Nat → List Nat → List (List Nat)
  | 0, r => if wts (qof w r).2.1 = 0 then [r.reverse] else []
  | k + 1, r => ((List.range 10).filter (ex r)).flatMap (fun b => comp w ex k (b :: r))
def rest (w : Nat → Nat) (ex : List Nat → Nat → Bool) (k : Nat) (r : List Nat) (b : Nat) : List (List Nat) := ((List.range' b (10 - b)).filter (ex r)).flatMap (fun c => comp w ex (k - 1) (c :: r))
theorem rest_0 (w : Nat → Nat) (ex : List Nat → Nat → Bool) (k : Nat) (r : List Nat) : comp w ex (k + 1) r = rest w ex (k + 1) r 0 := by
  unfold rest
  rw [← List.range_eq_range']
  rfl
theorem rest_s (w : Nat → Nat) (ex : List Nat → Nat → Bool) (k : Nat) (r : List Nat) {b : Nat} (hb : b < 10) : rest w ex k r b = (if ex r b = true then comp w ex (k - 1) (b :: r) else []) ++ rest w ex k r (b + 1) := by
  unfold rest
  rw [show 10 - b = (10 - (b + 1)) + 1 by omega, List.range'_succ, List.filter_cons]
  by_cases h : ex r b = true
  · rw [if_pos h, if_pos h, List.flatMap_cons]
  · rw [if_neg h, if_neg h, List.nil_append]
theorem rest_e (w : Nat → Nat) (ex : List Nat → Nat → Bool) (k : Nat) (r : List Nat) {b : Nat} (hb : 10 ≤ b) : rest w ex k r b = [] := by
  unfold rest
  rw [show 10 - b = 0 by omega]
  rfl
theorem rest_n (w : Nat → Nat) (ex : List Nat → Nat → Bool) (k : Nat) (r : List Nat) (b : Nat) (h : ∀ c, b ≤ c → ex r c = false) : rest w ex k r b = [] := by
  unfold rest
  rw [List.filter_eq_nil_iff.mpr]
  · rfl
  · intro c hc
    rw [List.mem_range'_1] at hc
    rw [h c hc.1]
    exact Bool.false_ne_true
def tlr (w : Nat → Nat) (ex : List Nat → Nat → Bool) (many : Nat) : List Nat → List (List Nat)
  | [] => []
  | c :: r => rest w ex (many - r.length) r (c + 1) ++ tlr w ex many r
def Wk : Nat → Nat
  | 0 => 0
  | k + 1 => 10 * (Wk k + 3) + 3
def mu (many : Nat) : List Nat → Nat
  | [] => 0
  | c :: r => (9 - c) * (Wk (many - r.length - 1) + 3) + 2 + mu many r
def muA (many : Nat) (r : List Nat) (b : Nat) : Nat := (10 - b) * (Wk (many - r.length - 1) + 3) + 2 + mu many r
theorem muA_le (many : Nat) : ∀ (r : List Nat) (b : Nat), r.length < many → (∀ c ∈ r, c < 10) → muA many r b + 1 ≤ Wk many
  | [], b, h, _ => by
    obtain ⟨k, rfl⟩ : ∃ k, many = k + 1 := ⟨many - 1, by omega⟩
    unfold muA mu
    have : (10 - b) * (Wk k + 3) ≤ 10 * (Wk k + 3) := Nat.mul_le_mul_right _ (by omega)
    show (10 - b) * (Wk k + 3) + 2 + 0 + 1 ≤ 10 * (Wk k + 3) + 3
    omega
  | c :: r, b, h, hc => by
    have ih := muA_le many r c (by simp only [List.length_cons] at h; omega) (fun d hd => hc d (List.mem_cons_of_mem _ hd))
    have hc := hc c List.mem_cons_self
    simp only [List.length_cons] at h
    obtain ⟨k, hk⟩ : ∃ k, many - r.length = k + 2 := ⟨many - r.length - 2, by omega⟩
    unfold muA at ih ⊢
    unfold mu
    rw [List.length_cons, show many - (r.length + 1) - 1 = k by omega, show many - r.length - 1 = k + 1 by omega]
    rw [show many - r.length - 1 = k + 1 by omega, show 10 - c = (9 - c) + 1 by omega, Nat.succ_mul] at ih
    have h1 : (10 - b) * (Wk k + 3) ≤ 10 * (Wk k + 3) := Nat.mul_le_mul_right _ (by omega)
    have h2 : Wk (k + 1) = 10 * (Wk k + 3) + 3 := rfl
    omega
theorem Wk_6 : ∀ k, k ≤ 6 → Wk k ≤ 4000000 := by decide
theorem comp_len (w : Nat → Nat) (ex : List Nat → Nat → Bool) : ∀ (k : Nat) (r : List Nat), (comp w ex k r).length ≤ 10 ^ k
  | 0, r => by unfold comp; split <;> simp
  | k + 1, r => by
    unfold comp
    have : ∀ l : List Nat, (l.flatMap (fun b => comp w ex k (b :: r))).length ≤ l.length * 10 ^ k := by
      intro l
      induction l with
      | nil => simp
      | cons a l ih =>
        rw [List.flatMap_cons, List.length_append, List.length_cons, Nat.succ_mul]
        have := comp_len w ex k (a :: r)
        omega
    refine Nat.le_trans (this _) ?_
    rw [Nat.pow_succ, Nat.mul_comm]
    exact Nat.mul_le_mul_left _ (Nat.le_trans (List.length_filter_le _ _) (by simp))
def SA (w : Nat → Nat) : List Nat → XM → Prop
  | [], M => M.1 80 0 = Int32.ofInt 0
  | c :: r, M => M.1 79 r.length = Int32.ofInt c ∧ M.1 80 (r.length + 1) = Int32.ofInt ((qof w (c :: r)).2.1 : Nat) ∧ SA w r M
def VA (ex : List Nat → Nat → Bool) : List Nat → Prop
  | [] => True
  | c :: r => ex r c = true ∧ VA ex r
theorem SA_p {w : Nat → Nat} {M : XM} : ∀ {r : List Nat}, SA w r M → M.1 80 r.length = Int32.ofInt ((qof w r).2.1 : Nat)
  | [], h => h
  | _ :: _, h => h.2.1
theorem SA_0 {w : Nat → Nat} {M : XM} : ∀ {r : List Nat}, SA w r M → M.1 80 0 = Int32.ofInt 0
  | [], h => h
  | _ :: r, h => SA_0 (r := r) h.2.2
def fe (M M' : XM) : Prop := M'.2 = M.2 ∧ ∀ a j, ¬ (a = 64 ∧ 24 ≤ j ∧ j ≤ 29) → a ≠ 79 → ¬ (a = 80 ∧ 0 < j) → M'.1 a j = M.1 a j
theorem fe.rf {M : XM} : fe M M := ⟨rfl, fun _ _ _ _ _ => rfl⟩
theorem fe.tr {M M' M'' : XM} (h : fe M M') (h' : fe M' M'') : fe M M'' := ⟨h'.1.trans h.1, fun a j h1 h2 h3 => (h'.2 a j h1 h2 h3).trans (h.2 a j h1 h2 h3)⟩
theorem fe.wi {M M' : XM} (h : fe M M') {c k : Nat} {v : Int32} (hc : (c = 64 ∧ 24 ≤ k ∧ k ≤ 29) ∨ c = 79 ∨ (c = 80 ∧ 0 < k)) : fe M (xwi M' c k v) := ⟨h.1, fun a j h1 h2 h3 => by rw [m_wi, if_neg (by omega)]; exact h.2 a j h1 h2 h3⟩
theorem SA_w {w : Nat → Nat} {M M' : XM} : ∀ {r : List Nat}, SA w r M → (∀ j, j < r.length → M'.1 79 j = M.1 79 j) → (∀ j, j ≤ r.length → M'.1 80 j = M.1 80 j) → SA w r M'
  | [], h, _, h2 => (h2 0 (Nat.le_refl _)).trans h
  | c :: r, h, h1, h2 => ⟨(h1 _ (by simp)).trans h.1, (h2 _ (by simp)).trans h.2.1, SA_w (r := r) h.2.2 (fun j hj => h1 j (by simp; omega)) (fun j hj => h2 j (by simp; omega))⟩
theorem mv_fe {R : RV} {M M' : XM} (h : mv R M) (hf : fe M M') : mv R M' := by
  obtain ⟨h1, h2, h3, h4, h6, h7⟩ := h
  refine ⟨by rw [hf.2 _ _ (by omega) (by omega) (by omega)]; exact h1, by rw [hf.2 _ _ (by omega) (by omega) (by omega)]; exact h2, by rw [hf.2 _ _ (by omega) (by omega) (by omega)]; exact h3, by rw [hf.2 _ _ (by omega) (by omega) (by omega)]; exact h4, fun b hb => ?_, fun i hi => by rw [hf.2 _ _ (by omega) (by omega) (by omega)]; exact h7 i hi⟩
  rw [hf.2 _ _ (by omega) (by omega) (by omega), hf.2 _ _ (by omega) (by omega) (by omega), hf.2 _ _ (by omega) (by omega) (by omega), hf.2 _ _ (by omega) (by omega) (by omega), hf.2 _ _ (by omega) (by omega) (by omega), hf.2 _ _ (by omega) (by omega) (by omega)]
  exact h6 b hb
def nxI (p k : Nat) : Int := if nx p k = 7 then -1 else (nx p k : Int)
theorem v_step {N p k : Nat} (hN : 0 < N) (hp : p < 7) (hk : k < 6) (M : XM) : fX9_step N [.int (Int32.ofInt p), .int (Int32.ofInt k)] M = some (Int32.ofInt (nxI p k), M) := by
  obtain ⟨N, rfl⟩ : ∃ n, N = n + 1 := ⟨N - 1, by omega⟩
  rw [eX9_step]
  simp only [eX9_step_59, eX9_step_70, eX9_step_90, eX9_step_101, eX9_step_131, eX9_step_143, eX9_step_154, e_I]
  have hp' : ∀ z : Int, rg z → xeq (Int32.ofInt p) (Int32.ofInt z) = decide ((p : Int) = z) := fun z hz => i_eq (by omega) hz
  have hk' : ∀ z : Int, rg z → xeq (Int32.ofInt k) (Int32.ofInt z) = decide ((k : Int) = z) := fun z hz => i_eq (by omega) hz
  simp only [hp' 0 (by omega), hp' 1 (by omega), hp' 2 (by omega), hp' 3 (by omega), hp' 4 (by omega), hp' 5 (by omega), hk' 1 (by omega), hk' 2 (by omega), hk' 3 (by omega), hk' 4 (by omega), hk' 5 (by omega)]
  match p, hp, k, hk with
  | 0, _, 0, _ | 0, _, 1, _ | 0, _, 2, _ | 0, _, 3, _ | 0, _, 4, _ | 0, _, 5, _ => rfl
  | 1, _, 0, _ | 1, _, 1, _ | 1, _, 2, _ | 1, _, 3, _ | 1, _, 4, _ | 1, _, 5, _ => rfl
  | 2, _, 0, _ | 2, _, 1, _ | 2, _, 2, _ | 2, _, 3, _ | 2, _, 4, _ | 2, _, 5, _ => rfl
  | 3, _, 0, _ | 3, _, 1, _ | 3, _, 2, _ | 3, _, 3, _ | 3, _, 4, _ | 3, _, 5, _ => rfl
  | 4, _, 0, _ | 4, _, 1, _ | 4, _, 2, _ | 4, _, 3, _ | 4, _, 4, _ | 4, _, 5, _ => rfl
  | 5, _, 0, _ | 5, _, 1, _ | 5, _, 2, _ | 5, _, 3, _ | 5, _, 4, _ | 5, _, 5, _ => rfl
  | 6, _, 0, _ | 6, _, 1, _ | 6, _, 2, _ | 6, _, 3, _ | 6, _, 4, _ | 6, _, 5, _ => rfl
theorem v_isEnd {N p : Nat} (hp : p < 7) (M : XM) : fX9_isEnd N [.int (Int32.ofInt p)] M = some (bi (decide (wts p = 0)), M) := by
  rw [eX9_isEnd]
  have hp' : ∀ z : Int, rg z → xeq (Int32.ofInt p) (Int32.ofInt z) = decide ((p : Int) = z) := fun z hz => i_eq (by omega) hz
  simp only [hp' 4 (by omega), hp' 6 (by omega)]
  match p, hp with
  | 0, _ | 1, _ | 2, _ | 3, _ | 4, _ | 5, _ | 6, _ => rfl
def cmo (R : RV) (cf : Bool) : List Nat → Nat → Bool
  | [], _ => true
  | c :: _, b => !cf || !(R.fd c).testBit b
def exM (R : RV) (m : Nat) (cf : Bool) (r : List Nat) (b : Nat) : Bool := exb (wM R m) (qof (wM R m) r) b && cmo R cf r b
def ES (R : RV) (m : Nat) (cf : Bool) (many : Nat) (r : List Nat) (M : XM) : Prop := M.1 64 24 = Int32.ofInt many ∧ M.1 64 25 = Int32.ofInt m ∧ M.1 64 26 = bi cf ∧ M.1 64 27 = Int32.ofInt ((qof (wM R m) r).2.2 : Nat) ∧ M.1 64 28 = Int32.ofInt r.length ∧ SA (wM R m) r M ∧ VA (exM R m cf) r ∧ r.length < many
theorem exM_w {R : RV} {m : Nat} {cf : Bool} {r : List Nat} {b : Nat} (h : exM R m cf r b = true) : b < R.nb ∧ m.testBit b = true ∧ (qof (wM R m) r).2.2.testBit b = false ∧ nx (qof (wM R m) r).2.1 (wk (wM R m b)) ≠ 7 := by
  unfold exM exb at h
  simp only [Bool.and_eq_true, bne_iff_ne, ne_eq, Bool.not_eq_true', wM] at h
  obtain ⟨⟨⟨h1, h2⟩, h3⟩, _⟩ := h
  by_cases e : b < R.nb ∧ m.testBit b = true
  · exact ⟨e.1, e.2, h2, h3⟩
  · rw [if_neg e] at h1; exact absurd rfl h1
theorem wk_wM {R : RV} (hW : Wf R) {m b : Nat} (hb : b < R.nb) (hm : m.testBit b = true) : wM R m b = 1 + 10 * R.kd b + R.am b ∧ wk (wM R m b) = R.kd b ∧ wa (wM R m b) = R.am b := by
  have h := hW.2.2.2.1 b hb
  unfold wM wk wa
  rw [if_pos ⟨hb, hm⟩]
  omega
theorem nx_lt : ∀ p, p < 7 → ∀ k, k < 6 → nx p k < 8 := by decide
theorem nx_7 {p k : Nat} (hp : p < 7) (hk : k < 6) (h : nx p k ≠ 7) : nx p k < 7 := by
  have := nx_lt p hp k hk
  omega
theorem VA_f {R : RV} (hW : Wf R) {m : Nat} {cf : Bool} : ∀ {r : List Nat}, VA (exM R m cf) r → (qof (wM R m) r).2.1 < 7 ∧ (qof (wM R m) r).2.2 < 1024 ∧ (∀ c ∈ r, c < R.nb) ∧ ∀ c, (qof (wM R m) r).2.2.testBit c = decide (c ∈ r)
  | [], _ => by
    refine ⟨?_, ?_, ?_, ?_⟩
    · show 0 < 7
      omega
    · show 0 < 1024
      omega
    · intro c h
      cases h
    · intro c
      show Nat.testBit 0 c = _
      rw [Nat.zero_testBit]
      rfl
  | c :: r, h => by
    obtain ⟨a1, a2, a3, a4⟩ := VA_f hW (r := r) h.2
    obtain ⟨b1, b2, b3, b4⟩ := exM_w h.1
    have hk := wk_wM hW b1 b2
    have h10 := hW.1
    refine ⟨?_, ?_, ?_, ?_⟩
    · show nx (qof (wM R m) r).2.1 (wk (wM R m c)) < 7
      exact nx_7 a1 (by rw [hk.2.1]; exact (hW.2.2.2.1 c b1).1) b4
    · show (qof (wM R m) r).2.2 ||| 2 ^ c < 2 ^ 10
      exact Nat.or_lt_two_pow a2 (Nat.pow_lt_pow_right (by omega) (by omega))
    · intro d hd
      rcases List.mem_cons.mp hd with rfl | hd
      · exact b1
      · exact a3 d hd
    · intro d
      show ((qof (wM R m) r).2.2 ||| 2 ^ c).testBit d = _
      rw [Nat.testBit_or, a4, Nat.testBit_two_pow]
      by_cases e : d = c
      · subst e; simp
      · have : ¬ c = d := fun h => e h.symm
        simp [e, this]
theorem m_lt {m b : Nat} (hm : m < 2048) (hb : b < 31) (M : XM) (N : Nat) : fX9_has N [.int (Int32.ofInt m), .int (Int32.ofInt b)] M = some (bi (m.testBit b), M) := v_has9 (by omega) hb
theorem xl_79 (M : XM) : xlen M (64 + 15) = 10 := rfl
theorem xl_80 (M : XM) : xlen M (64 + 16) = 11 := rfl
theorem xl_65 (M : XM) : xlen M (64 + 1) = 11 := rfl
theorem xl_66 (M : XM) : xlen M (64 + 2) = 11 := rfl
theorem xl_69 (M : XM) : xlen M (64 + 5) = 11 := rfl
theorem v_canStand {N : Nat} (hN : 0 < N) {R : RV} (hW : Wf R) {m : Nat} (hm : m < 1024) {cf : Bool} {many : Nat} (hmany : many ≤ 10) {r : List Nat} {M : XM} (hR : mv R M) (hE : ES R m cf many r M) {b : Nat} (hb : b < R.nb) : fX9_canStand N [.ref 64, .int (Int32.ofInt b)] M = some (bi (exM R m cf r b), M) := by
  obtain ⟨h1, h2, h3, h4, h5, h6, h7, h8⟩ := hE
  obtain ⟨a1, a2, a3, a4⟩ := VA_f hW h7
  have h10 := hW.1
  have hkb := (hR.2.2.2.2.1 b hb).1
  rw [eX9_canStand, h2, m_lt (by omega) (by omega), e_bd, b_z]
  cases hmb : m.testBit b with
  | false =>
    have : exM R m cf r b = false := by
      cases h : exM R m cf r b with
      | false => rfl
      | true => have := (exM_w h).2.1; rw [hmb] at this; cases this
    rw [this]; rfl
  | true =>
    obtain ⟨e1, e2, e3⟩ := wk_wM hW hb hmb
    rw [cond_true, h4, m_lt (by omega) (by omega), e_bd, b_z]
    cases hub : (qof (wM R m) r).2.2.testBit b with
    | true =>
      have : exM R m cf r b = false := by
        cases h : exM R m cf r b with
        | false => rfl
        | true => have := (exM_w h).2.2.1; rw [hub] at this; cases this
      rw [this]; rfl
    | false =>
      rw [cond_false, h5, i_inn (by omega), xl_80, decide_eq_true (by omega), cond_true, i_inn (by omega), xl_65, decide_eq_true (by omega), cond_true, i_natn (by omega), i_natn (by omega), show 64 + 16 = 80 from rfl, SA_p h6, show 64 + 1 = 65 from rfl, hkb, v_step hN a1 (hW.2.2.2.1 b hb).1, e_bd]
      unfold exM exb
      rw [hub, e2, show ((wM R m b != 0) = true) by rw [e1]; simp]
      dsimp only
      by_cases hn : nx (qof (wM R m) r).2.1 (R.kd b) = 7
      · rw [nxI, if_pos hn, i_eq (by omega) (by omega), decide_eq_true rfl, hn]; rfl
      · have hlt := nx_7 a1 (hW.2.2.2.1 b hb).1 hn
        rw [nxI, if_neg hn, i_eq (by omega) (by omega), decide_eq_false (by omega), cond_false, h3]
        cases cf with
        | false =>
          rw [show xeq (bi false) 0 = true from rfl, cond_true, show (nx (qof (wM R m) r).2.1 (R.kd b) != 7) = true by simp [hn]]
          cases r <;> rfl
        | true =>
          rw [show xeq (bi true) 0 = false from rfl, cond_false, h5, show (0 : Int32) = Int32.ofInt 0 from rfl, i_eq (by omega) (by omega), show (nx (qof (wM R m) r).2.1 (R.kd b) != 7) = true by simp [hn]]
          cases r with
          | nil => rfl
          | cons c r =>
            have hc := a3 c List.mem_cons_self
            simp only [List.length_cons] at h8 h5 ⊢
            rw [decide_eq_false (by omega), cond_false, i_sub, show ((r.length + 1 : Nat) : Int) - 1 = r.length by omega, i_inn (by omega), xl_79, decide_eq_true (by omega), cond_true, i_natn (by omega), show 64 + 15 = 79 from rfl, h6.1, i_inn (by omega), xl_69, decide_eq_true (by omega), cond_true, i_natn (by omega), show 64 + 5 = 69 from rfl, (hR.2.2.2.2.1 c hc).2.2.2.2.1, m_lt (by have := fd_small hW hc; omega) (by omega), e_bd]
            show (bif xeq (bi _) 0 then _ else _) = _
            rw [b_z]
            rw [show cmo R true (c :: r) b = !(R.fd c).testBit b by simp [cmo]]
            cases (R.fd c).testBit b <;> rfl
def rowAt (l : List Nat) (M : XM) : Prop := ∀ (i x : Nat), l[i]? = some x → M.1 79 i = Int32.ofInt (x : Nat)
theorem SA_row {w : Nat → Nat} {M : XM} : ∀ {r : List Nat}, SA w r M → rowAt r.reverse M
  | [], _, i, x, h => by simp at h
  | c :: r, hs, i, x, h => by
    rw [List.reverse_cons] at h
    by_cases e : i < r.length
    · rw [List.getElem?_append_left (by simpa using e)] at h
      exact SA_row (r := r) hs.2.2 i x h
    · have hi : i = r.length := by
        have := (List.getElem?_eq_some_iff.mp h).1
        simp at this
        omega
      subst hi
      rw [List.getElem?_append_right (by simp)] at h
      simp at h
      rw [← h]
      exact hs.1
def rmn (R : RV) (m : Nat) (cf : Bool) (many : Nat) (r : List Nat) (b : Nat) : List (List Nat) := rest (wM R m) (exM R m cf) (many - r.length) r b ++ tlr (wM R m) (exM R m cf) many r
def GO (R : RV) (m : Nat) (cf : Bool) (many : Nat) (Q : List (List Nat)) (M : XM) (res : Option (Int32 × XM)) : Prop :=
  match Q with
  | [] => ∃ M', res = some (Int32.ofInt 0, M') ∧ fe M M'
  | l :: Q => ∃ M' r b, res = some (Int32.ofInt 1, M') ∧ fe M M' ∧ ES R m cf many r M' ∧ M'.1 64 29 = Int32.ofInt (b : Nat) ∧ b ≤ 10 ∧ rmn R m cf many r b = Q ∧ rowAt l M' ∧ l.length = many
theorem GO.fe {R : RV} {m : Nat} {cf : Bool} {many : Nat} {Q : List (List Nat)} {M M0 : XM} {res : Option (Int32 × XM)} (h : GO R m cf many Q M res) (hf : fe M0 M) : GO R m cf many Q M0 res := by
  cases Q with
  | nil => obtain ⟨M', h1, h2⟩ := h; exact ⟨M', h1, hf.tr h2⟩
  | cons l Q => obtain ⟨M', r, b, h1, h2, h3⟩ := h; exact ⟨M', r, b, h1, hf.tr h2, h3⟩
theorem nxI_7 {p k : Nat} (h : nx p k ≠ 7) : nxI p k = (nx p k : Int) := by rw [nxI, if_neg h]
theorem l_goes {N : Nat} (hN : 0 < N) {R : RV} (hW : Wf R) {m : Nat} (hm : m < 1024) {cf : Bool} {many : Nat} (hmany : many ≤ 10) : ∀ (u n : Nat) (r : List Nat) (b : Nat) (M : XM), mv R M → ES R m cf many r M → b ≤ 10 → muA many r b < u → 2 * u ≤ n → GO R m cf many (rmn R m cf many r b) M (gX9_goesOn N n 5 [.ref 64, .int (Int32.ofInt b), .retAddr 0] [] M)
  | 0, n, r, b, M, _, _, _, hu, _ => by omega
  | u + 1, n, r, b, M, hR, hE, hb, hu, hn => by
    obtain ⟨n, rfl⟩ : ∃ k, n = k + 2 := ⟨n - 2, by omega⟩
    have h10 := hW.1
    have ih := l_goes (N := N) hN hW hm (cf := cf) hmany u
    have hE0 := hE
    obtain ⟨h1, h2, h3, h4, h5, h6, h7, h8⟩ := hE
    obtain ⟨a1, a2, a3, a4⟩ := VA_f hW h7
    rw [eX9_goesOn_5, hR.1, i_lt (by omega) (by omega)]
    by_cases hlt : b < R.nb
    · rw [decide_eq_true (by omega), cond_true, v_canStand hN hW hm hmany hR hE0 hlt, e_bd, b_z]
      unfold rmn
      rw [rest_s _ _ _ _ (show b < 10 by omega)]
      cases hex : exM R m cf r b with
      | false =>
        rw [cond_false, if_neg Bool.false_ne_true, List.nil_append, i_add]
        refine ih (n + 1) r (b + 1) M hR hE0 (by omega) ?_ (by omega)
        unfold muA at hu ⊢
        have : (10 - b) * (Wk (many - r.length - 1) + 3) = (10 - (b + 1)) * (Wk (many - r.length - 1) + 3) + (Wk (many - r.length - 1) + 3) := by
          rw [show 10 - b = (10 - (b + 1)) + 1 by omega, Nat.succ_mul]
        omega
      | true =>
        obtain ⟨b1, b2, b3, b4⟩ := exM_w hex
        obtain ⟨e1, e2, e3⟩ := wk_wM hW b1 b2
        rw [e2] at b4
        have hpl := nx_7 a1 (hW.2.2.2.1 b hlt).1 b4
        have hpow : (10 - b) * (Wk (many - r.length - 1) + 3) = (10 - (b + 1)) * (Wk (many - r.length - 1) + 3) + (Wk (many - r.length - 1) + 3) := by
          rw [show 10 - b = (10 - (b + 1)) + 1 by omega, Nat.succ_mul]
        rw [cond_true, if_pos rfl]
        dsimp only
        have hkb := (hR.2.2.2.2.1 b hlt).1
        simp (disch := omega) only [hR.1, i_lt, decide_eq_true, cond_true, h5, i_inn, xl_79, xl_80, xl_65, i_natn, m_wi, Nat.reduceAdd, Nat.reduceEqDiff, false_and, if_false, SA_p h6, hkb]
        rw [v_step hN a1 (hW.2.2.2.1 b hlt).1, e_bd, nxI_7 b4]
        dsimp only
        simp (disch := omega) only [m_wi, Nat.reduceEqDiff, false_and, if_false, h5, h1, i_add, i_eq]
        by_cases hl : r.length + 1 = many
        · rw [decide_eq_true (by omega), cond_true, v_isEnd hpl, e_bd, b_z]
          have hff : fe M (xwi (xwi M 79 r.length (Int32.ofInt b)) 64 29 (Int32.ofInt ((b : Int) + 1))) := (fe.rf.wi (by omega)).wi (by omega)
          have hE' : ES R m cf many r (xwi (xwi M 79 r.length (Int32.ofInt b)) 64 29 (Int32.ofInt ((b : Int) + 1))) := by
            refine ⟨?_, ?_, ?_, ?_, ?_, SA_w h6 (fun j hj => ?_) (fun j hj => ?_), h7, h8⟩ <;> simp (disch := omega) only [m_wi, if_neg, *]
          have hco : comp (wM R m) (exM R m cf) (many - r.length - 1) (b :: r) = if wts (nx (qof (wM R m) r).2.1 (R.kd b)) = 0 then [r.reverse ++ [b]] else [] := by
            rw [show many - r.length - 1 = 0 by omega, comp, show (qof (wM R m) (b :: r)).2.1 = nx (qof (wM R m) r).2.1 (wk (wM R m b)) from rfl, e2, List.reverse_cons]
          rw [hco]
          by_cases hw : wts (nx (qof (wM R m) r).2.1 (R.kd b)) = 0
          · rw [if_pos hw, decide_eq_true hw, cond_true]
            refine ⟨_, r, b + 1, rfl, hff, hE', ?_, by omega, rfl, ?_, by simp; omega⟩
            · simp (disch := omega) only [m_wi, and_self, if_true]
              rfl
            · intro i x hi
              by_cases e : i < r.length
              · rw [List.getElem?_append_left (by simpa using e)] at hi
                simp (disch := omega) only [m_wi, if_neg]
                exact SA_row h6 i x hi
              · have hi' : i = r.length := by
                  have := (List.getElem?_eq_some_iff.mp hi).1
                  simp at this
                  omega
                subst hi'
                rw [List.getElem?_append_right (by simp)] at hi
                simp at hi
                simp (disch := omega) only [m_wi, and_self, if_true, if_neg]
                rw [← hi]
          · rw [if_neg hw, decide_eq_false hw, cond_false, List.nil_append, eX9_goesOn_0]
            rw [show (xwi (xwi M 79 r.length (Int32.ofInt b)) 64 29 (Int32.ofInt ((b : Int) + 1))).1 64 29 = Int32.ofInt ((b + 1 : Nat) : Int) by simp (disch := omega) only [m_wi, and_self, if_true]; rfl]
            refine (ih n r (b + 1) _ (mv_fe hR hff) hE' (by omega) ?_ (by omega)).fe hff
            unfold muA at hu ⊢
            omega
        · rw [decide_eq_false (by omega), cond_false]
          obtain ⟨k, hk⟩ : ∃ k, many - r.length = k + 2 := ⟨many - r.length - 2, by omega⟩
          have i1 : (Int32.ofInt 1 <<< (Int32.ofInt b &&& 31) : Int32) = Int32.ofInt ((2 ^ b : Nat) : Int) := i_shl (by omega)
          simp (disch := omega) only [m_wi, Nat.reduceEqDiff, false_and, and_false, if_false, and_self, if_true, h5, h4, i1, i_or, i_add, true_and]
          rw [show ((r.length : Int) + 1) = ((r.length + 1 : Nat) : Int) by omega, i_inn (by omega), decide_eq_true (by omega), cond_true, i_natn (by omega), eX9_goesOn_0]
          have hff : fe M (xwi (xwi (xwi (xwi (xwi M 79 r.length (Int32.ofInt b)) 64 27 (Int32.ofInt (((qof (wM R m) r).2.2 ||| 2 ^ b : Nat) : Int))) 64 28 (Int32.ofInt ((r.length + 1 : Nat) : Int))) 80 (r.length + 1) (Int32.ofInt ((nx (qof (wM R m) r).2.1 (R.kd b) : Nat) : Int))) 64 29 (Int32.ofInt 0)) := ((((fe.rf.wi (by omega)).wi (by omega)).wi (by omega)).wi (by omega)).wi (by omega)
          have hE' : ES R m cf many (b :: r) (xwi (xwi (xwi (xwi (xwi M 79 r.length (Int32.ofInt b)) 64 27 (Int32.ofInt (((qof (wM R m) r).2.2 ||| 2 ^ b : Nat) : Int))) 64 28 (Int32.ofInt ((r.length + 1 : Nat) : Int))) 80 (r.length + 1) (Int32.ofInt ((nx (qof (wM R m) r).2.1 (R.kd b) : Nat) : Int))) 64 29 (Int32.ofInt 0)) := by
            refine ⟨?_, ?_, ?_, ?_, ?_, ⟨?_, ?_, SA_w h6 (fun j hj => ?_) (fun j hj => ?_)⟩, ⟨hex, h7⟩, by simp only [List.length_cons]; omega⟩
            · simp (disch := omega) only [m_wi, if_neg, h1]
            · simp (disch := omega) only [m_wi, if_neg, h2]
            · simp (disch := omega) only [m_wi, if_neg, h3]
            · simp (disch := omega) only [m_wi, if_neg, and_self, if_true]
              rfl
            · simp (disch := omega) only [m_wi, if_neg, and_self, if_true]
              rfl
            · simp (disch := omega) only [m_wi, if_neg, and_self, if_true]
            · simp (disch := omega) only [m_wi, if_neg, and_self, if_true]
              show _ = Int32.ofInt ((nx (qof (wM R m) r).2.1 (wk (wM R m b)) : Nat) : Int)
              rw [e2]
            · simp (disch := omega) only [m_wi, if_neg]
            · simp (disch := omega) only [m_wi, if_neg]
          have h0 : (xwi (xwi (xwi (xwi (xwi M 79 r.length (Int32.ofInt b)) 64 27 (Int32.ofInt (((qof (wM R m) r).2.2 ||| 2 ^ b : Nat) : Int))) 64 28 (Int32.ofInt ((r.length + 1 : Nat) : Int))) 80 (r.length + 1) (Int32.ofInt ((nx (qof (wM R m) r).2.1 (R.kd b) : Nat) : Int))) 64 29 (Int32.ofInt 0)).1 64 29 = Int32.ofInt ((0 : Nat) : Int) := by simp only [m_wi, and_self, if_true]; rfl
          rw [h0]
          have := (ih n (b :: r) 0 _ (mv_fe hR hff) hE' (by omega) (by
            unfold muA at hu ⊢
            unfold mu
            rw [List.length_cons, show many - (r.length + 1) - 1 = k by omega]
            rw [show many - r.length - 1 = k + 1 by omega] at hu hpow ⊢
            rw [show (10 - (b + 1)) = 9 - b by omega] at hpow
            have h2 : Wk (k + 1) = 10 * (Wk k + 3) + 3 := rfl
            omega) (by omega)).fe hff
          unfold rmn at this
          rw [show many - r.length - 1 = (many - (b :: r).length) by simp only [List.length_cons]; omega, show many - (b :: r).length = k + 1 by simp only [List.length_cons]; omega, rest_0]
          rw [show many - (b :: r).length = k + 1 by simp only [List.length_cons]; omega] at this
          rw [List.append_assoc]
          exact this
    · rw [decide_eq_false (by omega), cond_false, h5]
      unfold rmn
      rw [rest_n _ _ _ _ _ (fun c hc => by
        cases h : exM R m cf r c with
        | false => rfl
        | true => have := (exM_w h).1; omega), List.nil_append]
      cases r with
      | nil => exact ⟨M, rfl, fe.rf⟩
      | cons c r =>
        have hc := a3 c List.mem_cons_self
        simp only [List.length_cons] at h5 h8 ⊢
        rw [show (0 : Int32) = Int32.ofInt 0 from rfl, i_eq (by omega) (by omega), decide_eq_false (by omega), cond_false]
        simp (disch := omega) only [m_wi, Nat.reduceEqDiff, false_and, and_false, if_false, and_self, if_true, true_and, i_sub]
        rw [show (((r.length + 1 : Nat) : Int) - 1) = (r.length : Int) by omega, i_inn (by omega), xl_79, decide_eq_true (by omega), cond_true]
        simp (disch := omega) only [xl_79, i_inn, i_natn, Nat.reduceAdd, h6.1, h4, i_shl, i_andn, i_add]
        rw [decide_eq_true (by omega), cond_true, eX9_goesOn_0]
        have hmem : ndiff (qof (wM R m) (c :: r)).2.2 (2 ^ c) = (qof (wM R m) r).2.2 := by
          have hh := VA_f hW (r := r) h7.2
          have hx := (exM_w h7.1).2.2.1
          apply Nat.eq_of_testBit_eq
          intro i
          rw [clr_bit]
          show (((qof (wM R m) r).2.2 ||| 2 ^ c).testBit i && _) = _
          rw [Nat.testBit_or, Nat.testBit_two_pow]
          by_cases e : c = i
          · subst e; simp [hx]
          · simp [e]
        rw [hmem]
        have hff : fe M (xwi (xwi (xwi M 64 28 (Int32.ofInt (r.length : Int))) 64 27 (Int32.ofInt ((qof (wM R m) r).2.2 : Nat))) 64 29 (Int32.ofInt ((c : Int) + 1))) := ((fe.rf.wi (by omega)).wi (by omega)).wi (by omega)
        have hE' : ES R m cf many r (xwi (xwi (xwi M 64 28 (Int32.ofInt (r.length : Int))) 64 27 (Int32.ofInt ((qof (wM R m) r).2.2 : Nat))) 64 29 (Int32.ofInt ((c : Int) + 1))) := by
          refine ⟨?_, ?_, ?_, ?_, ?_, SA_w h6.2.2 (fun j hj => ?_) (fun j hj => ?_), h7.2, by omega⟩ <;> simp (disch := omega) only [m_wi, if_neg, and_self, if_true, *]
        have h0 : (xwi (xwi (xwi M 64 28 (Int32.ofInt (r.length : Int))) 64 27 (Int32.ofInt ((qof (wM R m) r).2.2 : Nat))) 64 29 (Int32.ofInt ((c : Int) + 1))).1 64 29 = Int32.ofInt ((c + 1 : Nat) : Int) := by simp only [m_wi, and_self, if_true]; rfl
        rw [h0]
        refine (ih n r (c + 1) _ (mv_fe hR hff) hE' (by omega) ?_ (by omega)).fe hff
        unfold muA at hu ⊢
        unfold mu at hu
        rw [show 10 - (c + 1) = 9 - c by omega]
        omega
theorem i_suc (n : Nat) : Int32.ofInt (n : Int) + Int32.ofInt 1 = Int32.ofInt ((n + 1 : Nat) : Int) := by rw [i_add]; rfl
def big (N : Nat) : Prop := 100000000 ≤ N
def EN (R : RV) (m : Nat) (cf : Bool) (many : Nat) (Q : List (List Nat)) (M : XM) : Prop := ∃ r b, ES R m cf many r M ∧ M.1 64 29 = Int32.ofInt (b : Nat) ∧ b ≤ 10 ∧ rmn R m cf many r b = Q
def rowsM (R : RV) (m : Nat) (cf : Bool) (many : Nat) : List (List Nat) := comp (wM R m) (exM R m cf) many []
theorem v_goes {N : Nat} (hN : big N) {R : RV} (hW : Wf R) {m : Nat} (hm : m < 1024) {cf : Bool} {many : Nat} (hmany : many ≤ 6) {Q : List (List Nat)} {M : XM} (hR : mv R M) (hE : EN R m cf many Q M) : GO R m cf many Q M (fX9_goesOn N [.ref 64] M) := by
  obtain ⟨r, b, h1, h2, h3, rfl⟩ := hE
  unfold big at hN
  rw [eX9_goesOn, h2]
  refine l_goes (by omega) hW hm (by omega) 4000001 N r b M hR h1 h3 ?_ (by omega)
  have h4 := muA_le many r b h1.2.2.2.2.2.2.2 (fun c hc => by have := (VA_f hW h1.2.2.2.2.2.2.1).2.2.1 c hc; have := hW.1; omega)
  have := Wk_6 many hmany
  omega
theorem v_goes0 {N : Nat} (hN : big N) {R : RV} (hW : Wf R) {m : Nat} (hm : m < 1024) {cf : Bool} {many : Nat} (hmany : many ≤ 6) {M : XM} (hR : mv R M) (hE : EN R m cf many [] M) : ∃ M', fX9_goesOn N [.ref 64] M = some (Int32.ofInt 0, M') ∧ fe M M' := v_goes hN hW hm hmany hR hE
theorem v_goes1 {N : Nat} (hN : big N) {R : RV} (hW : Wf R) {m : Nat} (hm : m < 1024) {cf : Bool} {many : Nat} (hmany : many ≤ 6) {l : List Nat} {Q : List (List Nat)} {M : XM} (hR : mv R M) (hE : EN R m cf many (l :: Q) M) : ∃ M', fX9_goesOn N [.ref 64] M = some (Int32.ofInt 1, M') ∧ fe M M' ∧ EN R m cf many Q M' ∧ rowAt l M' ∧ l.length = many := by
  obtain ⟨M', r, b, h1, h2, h3, h4, h5, h6, h7, h8⟩ := v_goes hN hW hm hmany hR hE
  exact ⟨M', h1, h2, ⟨r, b, h3, h4, h5, h6⟩, h7, h8⟩
theorem v_begins {N : Nat} {R : RV} {m : Nat} {cf : Bool} {many : Nat} (hmany : 0 < many) {M : XM} (h80 : M.1 80 0 = Int32.ofInt 0) : ∃ M', fX9_begins N [.ref 64, .int (Int32.ofInt many), .int (Int32.ofInt m), .int (bi cf)] M = some M' ∧ fe M M' ∧ EN R m cf many (rowsM R m cf many) M' := by
  rw [eX9_begins, show xisb (bi cf) = true by cases cf <;> rfl, cond_true]
  refine ⟨_, rfl, (((((fe.rf.wi (by omega)).wi (by omega)).wi (by omega)).wi (by omega)).wi (by omega)).wi (by omega), [], 0, ⟨?_, ?_, ?_, ?_, ?_, ?_, trivial, hmany⟩, ?_, by omega, ?_⟩
  · simp (disch := omega) only [m_wi, if_neg, and_self, if_true]
  · simp (disch := omega) only [m_wi, if_neg, and_self, if_true]
  · simp (disch := omega) only [m_wi, if_neg, and_self, if_true]
  · simp (disch := omega) only [m_wi, if_neg, and_self, if_true]
    rfl
  · simp (disch := omega) only [m_wi, if_neg, and_self, if_true]
    rfl
  · show (xwi _ _ _ _).1 80 0 = _
    simp (disch := omega) only [m_wi, if_neg, and_self, if_true]
    exact h80
  · simp (disch := omega) only [m_wi, if_neg, and_self, if_true]
    rfl
  · unfold rmn rowsM tlr
    obtain ⟨k, rfl⟩ : ∃ k, many = k + 1 := ⟨many - 1, by omega⟩
    rw [List.append_nil, rest_0]
    rfl
theorem rowsM_len (R : RV) (m : Nat) (cf : Bool) {many : Nat} (h : many ≤ 6) : (rowsM R m cf many).length ≤ 1000000 := by
  refine Nat.le_trans (comp_len _ _ _ _) ?_
  exact Nat.pow_le_pow_right (by omega) h
def pl (w : Nat → Nat) (p : Nat) (l : List Nat) : Nat := l.foldl (fun p b => nx p (wk (w b))) p
theorem qof_1 (w : Nat → Nat) : ∀ r, (qof w r).1 = r.reverse
  | [] => rfl
  | c :: r => by
    show (qof w r).1 ++ [c] = _
    rw [qof_1 w r, List.reverse_cons]
theorem qof_pl (w : Nat → Nat) : ∀ r, (qof w r).2.1 = pl w 0 r.reverse
  | [] => rfl
  | c :: r => by
    show nx (qof w r).2.1 (wk (w c)) = _
    rw [qof_pl w r, List.reverse_cons, pl, pl, List.foldl_append]
    rfl
theorem comp_mem (w : Nat → Nat) (ex : List Nat → Nat → Bool) : ∀ (k : Nat) (r l : List Nat), VA ex r → l ∈ comp w ex k r → VA ex l.reverse ∧ l.length = k + r.length ∧ wts (pl w 0 l) = 0
  | 0, r, l, hr, h => by
    unfold comp at h
    split at h
    · rename_i hw
      simp at h
      subst h
      rw [List.reverse_reverse, List.length_reverse]
      rw [qof_pl] at hw
      exact ⟨hr, by omega, hw⟩
    · simp at h
  | k + 1, r, l, hr, h => by
    unfold comp at h
    rw [List.mem_flatMap] at h
    obtain ⟨b, hb, h⟩ := h
    rw [List.mem_filter] at hb
    have := comp_mem w ex k (b :: r) l ⟨hb.2, hr⟩ h
    simp only [List.length_cons] at this
    exact ⟨this.1, by omega, this.2.2⟩
def okl (R : RV) (m : Nat) (l : List Nat) : Prop := (∀ c ∈ l, c < R.nb ∧ m.testBit c = true) ∧ wts (pl (wM R m) 0 l) = 0 ∧ l.Nodup
theorem VA_nd {R : RV} (hW : Wf R) {m : Nat} {cf : Bool} : ∀ {r : List Nat}, VA (exM R m cf) r → (∀ c ∈ r, c < R.nb ∧ m.testBit c = true) ∧ r.Nodup
  | [], _ => ⟨fun _ h => absurd h (by simp), List.nodup_nil⟩
  | c :: r, h => by
    have ih := VA_nd hW (r := r) h.2
    have h4 := (VA_f hW (r := r) h.2).2.2.2 c
    obtain ⟨b1, b2, b3, _⟩ := exM_w h.1
    rw [b3] at h4
    refine ⟨fun d hd => ?_, List.nodup_cons.mpr ⟨fun hc => (by rw [decide_eq_true hc] at h4; cases h4), ih.2⟩⟩
    rcases List.mem_cons.mp hd with rfl | hd
    · exact ⟨b1, b2⟩
    · exact ih.1 d hd
theorem rowsM_ok {R : RV} (hW : Wf R) {m : Nat} {cf : Bool} {many : Nat} {l : List Nat} (h : l ∈ rowsM R m cf many) : okl R m l ∧ l.length = many := by
  have h := comp_mem _ _ _ [] _ trivial h
  have := VA_nd hW h.1
  exact ⟨⟨fun c hc => this.1 c (List.mem_reverse.mpr hc), h.2.2, (List.pairwise_reverse.mp this.2).imp (fun h => h.symm)⟩, h.2.1⟩
theorem nx_70 (k : Nat) (hk : k < 6) : nx 7 k = 7 := (by decide : ∀ k, k < 6 → nx 7 k = 7) k hk
theorem pl_7 {w : Nat → Nat} : ∀ (l : List Nat), (∀ c ∈ l, wk (w c) < 6) → pl w 7 l = 7
  | [], _ => rfl
  | c :: l, h => by
    show pl w (nx 7 (wk (w c))) l = 7
    rw [nx_70 _ (h c List.mem_cons_self)]
    exact pl_7 l (fun d hd => h d (List.mem_cons_of_mem _ hd))
def mfin (s : Int × Int × Int × Int) : Int := s.1 + s.2.2.2 * s.2.1
theorem mean_eq (w : Nat → Nat) (l : List Nat) : mean w l = mfin (l.foldl (mst w) (0, 0, 1, 1)) := rfl
def rowI (R : RV) (m : Nat) (i : Nat) (l : List Nat) (M : XM) : Prop := (∀ c ∈ l, c < R.nb ∧ m.testBit c = true) ∧ ∀ (j x : Nat), l[j]? = some x → M.1 79 (i + j) = Int32.ofInt (x : Nat)
theorem rowI_t {R : RV} {m i c : Nat} {l : List Nat} {M : XM} (h : rowI R m i (c :: l) M) : c < R.nb ∧ m.testBit c = true ∧ M.1 79 i = Int32.ofInt c ∧ rowI R m (i + 1) l M :=
  ⟨(h.1 c List.mem_cons_self).1, (h.1 c List.mem_cons_self).2, h.2 0 c rfl, fun d hd => h.1 d (List.mem_cons_of_mem _ hd), fun j x hj => by rw [show i + 1 + j = i + (j + 1) by omega]; exact h.2 (j + 1) x hj⟩
theorem rowI_k {R : RV} (hW : Wf R) {m i : Nat} {l : List Nat} {M : XM} (h : rowI R m i l M) : ∀ c ∈ l, wk (wM R m c) < 6 := fun c hc => by
  have h1 := h.1 c hc
  rw [(wk_wM hW h1.1 h1.2).2.1]
  exact (hW.2.2.2.1 c h1.1).1
theorem pl_dead {R : RV} (hW : Wf R) {m i : Nat} {l : List Nat} {M : XM} (h : rowI R m i l M) {p : Nat} (hp : p = 7) (hw : wts (pl (wM R m) p l) = 0) : False := by
  subst hp
  rw [pl_7 l (rowI_k hW h)] at hw
  exact absurd hw (by decide)
theorem mst_3 {w : Nat → Nat} {b k a : Nat} (h : wk (w b) = k) (h2 : wa (w b) = a) (hk : k = 3) (s c t g : Int) : mst w (s, c, t, g) b = (s, c, (a : Int) + 1, g) := by
  subst hk; rw [mst, if_pos h, h2]
theorem mst_1 {w : Nat → Nat} {b k a : Nat} (h : wk (w b) = k) (h2 : wa (w b) = a) (hk : k = 1) (s c t g : Int) : mst w (s, c, t, g) b = (s, c + t * (a : Int), 1, g) := by
  subst hk; rw [mst, if_neg (by omega), if_pos h, h2]
theorem mst_4 {w : Nat → Nat} {b k : Nat} (h : wk (w b) = k) (hk : k = 4) (s c t g : Int) : mst w (s, c, t, g) b = (s, c, t, -1) := by
  subst hk; rw [mst, if_neg (by omega), if_neg (by omega), if_pos h]
theorem mst_2 {w : Nat → Nat} {b k a : Nat} (h : wk (w b) = k) (h2 : wa (w b) = a) (hk : k = 2) (s c t g : Int) : mst w (s, c, t, g) b = (s, c * (a : Int), t, g) := by
  subst hk; rw [mst, if_neg (by omega), if_neg (by omega), if_neg (by omega), if_pos h, h2]
theorem mst_5 {w : Nat → Nat} {b k : Nat} (h : wk (w b) = k) (hk : k = 5) (s c t g : Int) : mst w (s, c, t, g) b = (s + g * c, 0, t, 1) := by
  subst hk; rw [mst, if_neg (by omega), if_neg (by omega), if_neg (by omega), if_neg (by omega)]
theorem xl_79' (M : XM) : xlen M 79 = 10 := rfl
theorem xl_65' (M : XM) : xlen M 65 = 11 := rfl
theorem xl_66' (M : XM) : xlen M 66 = 11 := rfl
theorem nx_n0 : ∀ k, k < 6 → k ≠ 1 → k ≠ 3 → nx 0 k = 7 := by decide
theorem nx_n1 : ∀ k, k < 6 → k ≠ 1 → nx 1 k = 7 := by decide
theorem nx_n2 : ∀ k, k < 6 → k ≠ 2 → k ≠ 4 → nx 2 k = 7 := by decide
theorem nx_n3 : ∀ k, k < 6 → k ≠ 2 → nx 3 k = 7 := by decide
theorem nx_n4 : ∀ k, k < 6 → k ≠ 1 → k ≠ 3 → k ≠ 5 → nx 4 k = 7 := by decide
theorem nx_n5 : ∀ k, k < 6 → k ≠ 1 → nx 5 k = 7 := by decide
theorem nx_n6 : ∀ k, k < 6 → k ≠ 5 → nx 6 k = 7 := by decide
theorem wtd {p : Nat} (h : wts p = 0) : p = 4 ∨ p = 6 ∨ 7 < p := by
  match p, h with
  | 4, _ => exact .inl rfl
  | 6, _ => exact .inr (.inl rfl)
  | 0, h | 1, h | 2, h | 3, h | 5, h | 7, h => exact absurd h (by decide)
  | p + 8, _ => omega
theorem rowI_f {R : RV} (hW : Wf R) {m i c : Nat} {l : List Nat} {M : XM} (hR : mv R M) (h : rowI R m i (c :: l) M) : c < R.nb ∧ M.1 79 i = Int32.ofInt c ∧ rowI R m (i + 1) l M ∧ wk (wM R m c) = R.kd c ∧ wa (wM R m c) = R.am c ∧ R.kd c < 6 ∧ R.am c ≤ 9 ∧ M.1 65 c = Int32.ofInt (R.kd c) ∧ M.1 66 c = Int32.ofInt (R.am c) ∧ ∀ p, pl (wM R m) p (c :: l) = pl (wM R m) (nx p (R.kd c)) l := by
  obtain ⟨a1, a2, a3, a4⟩ := rowI_t h
  have aw := wk_wM hW a1 a2
  have ak := hW.2.2.2.1 c a1
  have aM := hR.2.2.2.2.1 c a1
  exact ⟨a1, a3, a4, aw.2.1, aw.2.2, ak.1, ak.2.1, aM.1, aM.2.1, fun p => by rw [← aw.2.1]; rfl⟩
theorem l_mean {N : Nat} {R : RV} (hW : Wf R) {m : Nat} {M : XM} (hR : mv R M) {many : Nat} (hmany : many ≤ 10) : ∀ (u : Nat), (∀ (l : List Nat) (n i : Nat) (s : Int), l.length < u → l.length < n → i + l.length = many → rowI R m i l M → wts (pl (wM R m) 0 l) = 0 → gX9_meaning N n 4 [.ref 64, .int (Int32.ofInt many), .int (Int32.ofInt s), .int (Int32.ofInt i), .retAddr 0, .retAddr 0, .retAddr 0] [] M = some (Int32.ofInt (mfin (l.foldl (mst (wM R m)) (s, 0, 1, 1))), M)) ∧
    (∀ (d : Nat) (l : List Nat) (n i : Nat) (s c g : Int), l.length + 1 < u → l.length + 1 < n → i + 1 + l.length = many → rowI R m i (d :: l) M → R.kd d = 2 → wts (pl (wM R m) 4 l) = 0 → gX9_meaning N n 88 [.ref 64, .int (Int32.ofInt many), .int (Int32.ofInt s), .int (Int32.ofInt i), .int (Int32.ofInt g), .int (Int32.ofInt c), .retAddr 0] [] M = some (Int32.ofInt (mfin ((d :: l).foldl (mst (wM R m)) (s, c, 1, g))), M))
  | 0 => ⟨fun l n i s h => absurd h (by omega), fun d l n i s c g h => absurd h (by omega)⟩
  | u + 1 => by
    have ih := l_mean (N := N) hW (m := m) hR hmany u
    have h10 := hW.1
    have en : ∀ (n i : Nat) (s : Int), 0 < n → many ≤ i → i ≤ many + 1 → gX9_meaning N n 4 [.ref 64, .int (Int32.ofInt many), .int (Int32.ofInt s), .int (Int32.ofInt i), .retAddr 0, .retAddr 0, .retAddr 0] [] M = some (Int32.ofInt s, M) := by
      intro n i s hn h1 h2
      obtain ⟨n, rfl⟩ : ∃ k, n = k + 1 := ⟨n - 1, by omega⟩
      rw [eX9_meaning_4, i_lt (by omega) (by omega), decide_eq_false (by omega)]
      rfl
    constructor
    · intro l n i s hu hn hi hl hw
      obtain ⟨n, rfl⟩ : ∃ k, n = k + 1 := ⟨n - 1, by omega⟩
      cases l with
      | nil => exact absurd (show wts 0 = 0 from hw) (by decide)
      | cons a l =>
        obtain ⟨a1, a3, a4, aw1, aw2, ak, am, aM1, aM2, ap⟩ := rowI_f hW hR hl
        simp only [List.length_cons] at hu hn hi
        rw [ap] at hw
        rw [eX9_meaning_4, i_lt (by omega) (by omega), decide_eq_true (by omega), cond_true]
        by_cases e3 : R.kd a = 3
        · rw [e3] at hw
          cases l with
          | nil => exact absurd (show wts 1 = 0 from hw) (by decide)
          | cons b l =>
            obtain ⟨b1, b3, b4, bw1, bw2, bk, bm, bM1, bM2, bp⟩ := rowI_f hW hR a4
            simp only [List.length_cons] at hu hn hi
            have hw : wts (pl (wM R m) 1 (b :: l)) = 0 := hw
            rw [bp] at hw
            by_cases f1 : R.kd b = 1
            · rw [f1] at hw
              cases l with
              | nil => exact absurd (show wts 2 = 0 from hw) (by decide)
              | cons c l =>
                obtain ⟨c1, c3, c4, cw1, cw2, ck, cm, cM1, cM2, cp⟩ := rowI_f hW hR b4
                simp only [List.length_cons] at hu hn hi
                have hw : wts (pl (wM R m) 2 (c :: l)) = 0 := hw
                rw [cp] at hw
                simp (disch := omega) only [i_suc, i_inn, i_natn, Nat.reduceAdd, a3, b3, c3, aM1, aM2, bM1, bM2, cM1, cM2, xl_79', xl_65', xl_66', decide_eq_true, cond_true, i_eq, e3, i_mul]
                by_cases g2 : R.kd c = 2
                · rw [g2] at hw ⊢
                  rw [decide_eq_false (by omega), cond_false]
                  have := ih.2 c l n (i + 2) s (((R.am a : Nat) + 1 : Int) * (R.am b : Nat)) 1 (by omega) (by omega) (by omega) b4 g2 hw
                  rw [show ((a :: b :: c :: l).foldl (mst (wM R m)) (s, 0, 1, 1)) = ((c :: l).foldl (mst (wM R m)) (s, 0 + ((R.am a : Nat) + 1 : Int) * (R.am b : Nat), 1, 1)) by rw [List.foldl_cons, List.foldl_cons, mst_3 aw1 aw2 e3, mst_1 bw1 bw2 f1], Int.zero_add]
                  exact this
                · by_cases g4 : R.kd c = 4
                  · rw [g4] at hw ⊢
                    rw [decide_eq_true (by omega), cond_true]
                    cases l with
                    | nil => exact absurd (show wts 3 = 0 from hw) (by decide)
                    | cons d l =>
                      obtain ⟨d1, d3, d4, dw1, dw2, dk, dm, dM1, dM2, dp⟩ := rowI_f hW hR c4
                      simp only [List.length_cons] at hu hn hi
                      have hw : wts (pl (wM R m) 3 (d :: l)) = 0 := hw
                      rw [dp] at hw
                      by_cases k2 : R.kd d = 2
                      · rw [k2] at hw
                        have := ih.2 d l n (i + 3) s (((R.am a : Nat) + 1 : Int) * (R.am b : Nat)) (-1) (by omega) (by omega) (by omega) c4 k2 hw
                        rw [show ((a :: b :: c :: d :: l).foldl (mst (wM R m)) (s, 0, 1, 1)) = ((d :: l).foldl (mst (wM R m)) (s, 0 + ((R.am a : Nat) + 1 : Int) * (R.am b : Nat), 1, -1)) by rw [List.foldl_cons, List.foldl_cons, List.foldl_cons, mst_3 aw1 aw2 e3, mst_1 bw1 bw2 f1, mst_4 cw1 g4], Int.zero_add]
                        exact this
                      · exact absurd hw (fun h => pl_dead hW d4 (nx_n3 _ dk k2) h)
                  · exact absurd hw (fun h => pl_dead hW c4 (nx_n2 _ ck g2 g4) h)
            · exact absurd hw (fun h => pl_dead hW b4 (nx_n1 _ bk f1) h)
        · by_cases e1 : R.kd a = 1
          · rw [e1] at hw
            cases l with
            | nil => exact absurd (show wts 2 = 0 from hw) (by decide)
            | cons c l =>
              obtain ⟨c1, c3, c4, cw1, cw2, ck, cm, cM1, cM2, cp⟩ := rowI_f hW hR a4
              simp only [List.length_cons] at hu hn hi
              have hw : wts (pl (wM R m) 2 (c :: l)) = 0 := hw
              rw [cp] at hw
              simp (disch := omega) only [i_suc, i_inn, i_natn, Nat.reduceAdd, a3, c3, aM1, aM2, cM1, cM2, xl_79', xl_65', xl_66', decide_eq_true, cond_true, i_eq, e1, i_mul]
              rw [decide_eq_false (show ¬ ((1 : Nat) : Int) = 3 by omega), cond_false, Int.one_mul]
              by_cases g2 : R.kd c = 2
              · rw [g2] at hw ⊢
                rw [decide_eq_false (by omega), cond_false]
                have := ih.2 c l n (i + 1) s (R.am a : Nat) 1 (by omega) (by omega) (by omega) a4 g2 hw
                rw [show ((a :: c :: l).foldl (mst (wM R m)) (s, 0, 1, 1)) = ((c :: l).foldl (mst (wM R m)) (s, 0 + 1 * (R.am a : Nat), 1, 1)) by rw [List.foldl_cons, mst_1 aw1 aw2 e1], Int.zero_add, Int.one_mul]
                exact this
              · by_cases g4 : R.kd c = 4
                · rw [g4] at hw ⊢
                  rw [decide_eq_true (by omega), cond_true]
                  cases l with
                  | nil => exact absurd (show wts 3 = 0 from hw) (by decide)
                  | cons d l =>
                    obtain ⟨d1, d3, d4, dw1, dw2, dk, dm, dM1, dM2, dp⟩ := rowI_f hW hR c4
                    simp only [List.length_cons] at hu hn hi
                    have hw : wts (pl (wM R m) 3 (d :: l)) = 0 := hw
                    rw [dp] at hw
                    by_cases k2 : R.kd d = 2
                    · rw [k2] at hw
                      have := ih.2 d l n (i + 2) s (R.am a : Nat) (-1) (by omega) (by omega) (by omega) c4 k2 hw
                      rw [show ((a :: c :: d :: l).foldl (mst (wM R m)) (s, 0, 1, 1)) = ((d :: l).foldl (mst (wM R m)) (s, 0 + 1 * (R.am a : Nat), 1, -1)) by rw [List.foldl_cons, List.foldl_cons, mst_1 aw1 aw2 e1, mst_4 cw1 g4], Int.zero_add, Int.one_mul]
                      exact this
                    · exact absurd hw (fun h => pl_dead hW d4 (nx_n3 _ dk k2) h)
                · exact absurd hw (fun h => pl_dead hW c4 (nx_n2 _ ck g2 g4) h)
          · exact absurd hw (fun h => pl_dead hW a4 (nx_n0 _ ak e1 e3) h)
    · intro d l n i s c g hu hn hi hl hd hw
      obtain ⟨n, rfl⟩ : ∃ k, n = k + 1 := ⟨n - 1, by omega⟩
      obtain ⟨d1, d3, d4, dw1, dw2, dk, dm, dM1, dM2, dp⟩ := rowI_f hW hR hl
      rw [List.foldl_cons, mst_2 dw1 dw2 hd, eX9_meaning_88]
      simp (disch := omega) only [i_suc, i_inn, i_natn, Nat.reduceAdd, d3, dM2, xl_79', xl_66', decide_eq_true, cond_true, i_mul, i_lt]
      cases l with
      | nil =>
        simp only [List.length_nil] at hi
        rw [decide_eq_false (by omega), cond_false, i_add, en _ _ _ (by omega) (by omega) (by omega)]
        rfl
      | cons e l =>
        obtain ⟨e1, e3, e4, ew1, ew2, ek, em, eM1, eM2, ep⟩ := rowI_f hW hR d4
        simp only [List.length_cons] at hu hn hi
        rw [ep] at hw
        rw [decide_eq_true (by omega), cond_true]
        simp (disch := omega) only [i_suc, i_inn, i_natn, Nat.reduceAdd, e3, eM1, eM2, xl_79', xl_65', xl_66', decide_eq_true, cond_true, i_eq]
        rw [List.foldl_cons]
        by_cases f5 : R.kd e = 5
        · rw [f5] at hw
          rw [decide_eq_true (by omega), cond_true, i_add, mst_5 ew1 f5]
          exact ih.1 l n (i + 2) _ (by omega) (by omega) (by omega) e4 hw
        · rw [decide_eq_false (by omega), cond_false]
          by_cases f3 : R.kd e = 3
          · rw [f3] at hw
            cases l with
            | nil => exact absurd (show wts 5 = 0 from hw) (by decide)
            | cons b l =>
              obtain ⟨b1, b3, b4, bw1, bw2, bk, bm, bM1, bM2, bp⟩ := rowI_f hW hR e4
              simp only [List.length_cons] at hu hn hi
              have hw : wts (pl (wM R m) 5 (b :: l)) = 0 := hw
              rw [bp] at hw
              rw [decide_eq_true (by omega), cond_true]
              simp (disch := omega) only [i_suc, i_inn, i_natn, Nat.reduceAdd, b3, bM2, xl_79', xl_66', decide_eq_true, cond_true, i_mul, i_add]
              rw [List.foldl_cons, mst_3 ew1 ew2 f3]
              by_cases f1 : R.kd b = 1
              · rw [f1] at hw
                rw [mst_1 bw1 bw2 f1]
                cases l with
                | nil =>
                  simp only [List.length_nil] at hi
                  have := en n (i + 4) (s + g * (c * (R.am d : Nat) + ((R.am e : Nat) + 1 : Int) * (R.am b : Nat))) (by omega) (by omega) (by omega)
                  exact this
                | cons f l =>
                  obtain ⟨g1, g3, g4, gw1, gw2, gk, gm, gM1, gM2, gp⟩ := rowI_f hW hR b4
                  simp only [List.length_cons] at hu hn hi
                  have hw : wts (pl (wM R m) 6 (f :: l)) = 0 := hw
                  rw [gp] at hw
                  by_cases h5 : R.kd f = 5
                  · rw [h5] at hw
                    rw [List.foldl_cons, mst_5 gw1 h5]
                    exact ih.1 l n (i + 4) _ (by omega) (by omega) (by omega) g4 hw
                  · exact absurd hw (fun h => pl_dead hW g4 (nx_n6 _ gk h5) h)
              · exact absurd hw (fun h => pl_dead hW b4 (nx_n5 _ bk f1) h)
          · rw [decide_eq_false (by omega), cond_false]
            by_cases f1 : R.kd e = 1
            · rw [f1] at hw
              simp only [i_mul, i_add]
              rw [mst_1 ew1 ew2 f1]
              cases l with
              | nil =>
                simp only [List.length_nil] at hi
                have := en n (i + 3) (s + g * (c * (R.am d : Nat) + 1 * (R.am e : Nat))) (by omega) (by omega) (by omega)
                exact this
              | cons f l =>
                obtain ⟨g1, g3, g4, gw1, gw2, gk, gm, gM1, gM2, gp⟩ := rowI_f hW hR e4
                simp only [List.length_cons] at hu hn hi
                have hw : wts (pl (wM R m) 6 (f :: l)) = 0 := hw
                rw [gp] at hw
                by_cases h5 : R.kd f = 5
                · rw [h5] at hw
                  rw [List.foldl_cons, mst_5 gw1 h5]
                  exact ih.1 l n (i + 3) _ (by omega) (by omega) (by omega) g4 hw
                · exact absurd hw (fun h => pl_dead hW g4 (nx_n6 _ gk h5) h)
            · exact absurd hw (fun h => pl_dead hW e4 (nx_n4 _ ek f1 f3 f5) h)
theorem v_meaning9 {N : Nat} (hN : 11 < N) {R : RV} (hW : Wf R) {m : Nat} {M : XM} (hR : mv R M) {l : List Nat} (hl : okl R m l) (h10 : l.length ≤ 10) (hr : rowAt l M) : fX9_meaning N [.ref 64, .int (Int32.ofInt l.length)] M = some (Int32.ofInt (mean (wM R m) l), M) := by
  rw [eX9_meaning, mean_eq]
  exact (l_mean hW hR h10 (l.length + 1)).1 l N 0 0 (by omega) (by omega) (by omega) ⟨hl.1, fun j x hj => by rw [Nat.zero_add]; exact hr j x hj⟩ hl.2.1
