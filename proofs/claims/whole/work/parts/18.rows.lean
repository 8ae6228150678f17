def itr (w : Nat → Nat) : Nat → List RW → List RW
  | 0, X => X
  | k + 1, X => itr w k (X.flatMap (exts w))
theorem itr_app (w : Nat → Nat) : ∀ k X Y, itr w k (X ++ Y) = itr w k X ++ itr w k Y
  | 0, _, _ => rfl
  | k + 1, X, Y => by rw [itr, List.flatMap_append, itr_app w k]; rfl
theorem itr_nil (w : Nat → Nat) : ∀ k, itr w k [] = []
  | 0 => rfl
  | k + 1 => by rw [itr]; exact itr_nil w k
theorem itr_flat (w : Nat → Nat) (k : Nat) : ∀ X, itr w k X = X.flatMap (fun q => itr w k [q])
  | [] => itr_nil w k
  | q :: X => by rw [show q :: X = [q] ++ X from rfl, itr_app, itr_flat w k X]; simp
theorem itr_lvl (w : Nat → Nat) : ∀ j k, itr w j (lvl w k) = lvl w (k + j)
  | 0, _ => rfl
  | j + 1, k => by
    rw [itr, show (lvl w k).flatMap (exts w) = lvl w (k + 1) from rfl, itr_lvl w j (k + 1)]
    congr 1
    omega
theorem map_flatMap' {α β γ : Type} (f : α → List β) (g : β → γ) : ∀ l : List α, (l.flatMap f).map g = l.flatMap (fun a => (f a).map g)
  | [] => rfl
  | a :: l => by rw [List.flatMap_cons, List.flatMap_cons, List.map_append, map_flatMap' f g l]
theorem flatMap_map' {α β γ : Type} (f : α → β) (g : β → List γ) : ∀ l : List α, (l.map f).flatMap g = l.flatMap (fun a => g (f a))
  | [] => rfl
  | a :: l => by rw [List.map_cons, List.flatMap_cons, List.flatMap_cons, flatMap_map' f g l]
theorem comp_itr (w : Nat → Nat) : ∀ k r, comp w (fun r b => exb w (qof w r) b) k r = ((itr w k [qof w r]).filter fin).map Prod.fst
  | 0, r => by
    unfold comp
    show _ = ([qof w r].filter fin).map Prod.fst
    by_cases h : wts (qof w r).2.1 = 0
    · rw [if_pos h, List.filter_cons_of_pos (by unfold fin; rw [h]; rfl)]
      simp [qof_1]
    · rw [if_neg h, List.filter_cons_of_neg (by unfold fin; simpa using h)]
      rfl
  | k + 1, r => by
    have e : itr w (k + 1) [qof w r] = ((List.range 10).filter (exb w (qof w r))).flatMap (fun b => itr w k [qof w (b :: r)]) := by
      rw [itr, List.flatMap_cons, List.flatMap_nil, List.append_nil, exts, itr_flat, flatMap_map']
      rfl
    rw [comp, e, filter_flatMap, map_flatMap']
    exact flatMap_congr' (fun b _ => comp_itr w k (b :: r))
theorem exM_fun (R : RV) (m : Nat) : exM R m false = fun r b => exb (wM R m) (qof (wM R m) r) b := by
  funext r b
  exact exM_f R m r b
theorem rows_Vn (R : RV) (n : Nat) : rowsM R R.lv false n = (Vn (wR R) n).map Prod.fst := by
  unfold rowsM Vn
  rw [exM_fun, comp_itr]
  show ((itr (wR R) n (lvl (wR R) 0)).filter fin).map Prod.fst = _
  rw [itr_lvl, Nat.zero_add]
  rfl
def VP (P : List Nat → Nat → Bool) : List Nat → Bool
  | [] => true
  | c :: r => P r c && VP P r
theorem VP_app (P : List Nat → Nat → Bool) (r : List Nat) : ∀ s, VP P (s ++ r) = true → VP P r = true
  | [], h => h
  | c :: s, h => by
    rw [List.cons_append, VP, Bool.and_eq_true] at h
    exact VP_app P r s h.2
theorem comp_suf (w : Nat → Nat) (ex : List Nat → Nat → Bool) : ∀ k r l, l ∈ comp w ex k r → ∃ s, l.reverse = s ++ r
  | 0, r, l, h => by
    unfold comp at h
    split at h
    · simp at h
      subst h
      exact ⟨[], by simp⟩
    · simp at h
  | k + 1, r, l, h => by
    unfold comp at h
    rw [List.mem_flatMap] at h
    obtain ⟨b, _, h⟩ := h
    obtain ⟨s, hs⟩ := comp_suf w ex k (b :: r) l h
    exact ⟨s ++ [b], by rw [hs]; simp⟩
theorem comp_P (w : Nat → Nat) (ex P : List Nat → Nat → Bool) : ∀ k r, VP P r = true → comp w (fun r b => ex r b && P r b) k r = (comp w ex k r).filter (fun l => VP P l.reverse)
  | 0, r, hr => by
    unfold comp
    by_cases h : wts (qof w r).2.1 = 0
    · rw [if_pos h, List.filter_cons_of_pos (by rw [List.reverse_reverse]; exact hr)]
      rfl
    · rw [if_neg h]
      rfl
  | k + 1, r, hr => by
    rw [comp, comp, filter_flatMap, flatMap_filter, flatMap_filter]
    refine flatMap_congr' (fun b _ => ?_)
    cases he : ex r b with
    | false => rw [Bool.false_and, if_neg Bool.false_ne_true, if_neg Bool.false_ne_true]
    | true =>
      rw [Bool.true_and, if_pos rfl]
      cases hp : P r b with
      | true =>
        rw [if_pos rfl]
        exact comp_P w ex P k (b :: r) (by rw [VP, hp, hr]; rfl)
      | false =>
        rw [if_neg Bool.false_ne_true, eq_comm, List.filter_eq_nil_iff]
        intro l hl hv
        obtain ⟨s, hs⟩ := comp_suf w ex k (b :: r) l hl
        rw [hs] at hv
        have := VP_app P (b :: r) s hv
        rw [VP, hp] at this
        cases this
def clm (R : RV) (l : List Nat) : Bool := VP (cmo R true) l.reverse
theorem rows_calm (R : RV) (n : Nat) : rowsM R R.lv true n = (rowsM R R.lv false n).filter (clm R) := by
  unfold rowsM
  rw [exM_fun]
  exact comp_P (wM R R.lv) (fun r b => exb (wM R R.lv) (qof (wM R R.lv) r) b) (cmo R true) n [] rfl
def allm (m : Nat) (l : List Nat) : Bool := l.all (fun c => m.testBit c)
theorem wM_sub {R : RV} {m b : Nat} (hm : ∀ c, m.testBit c = true → R.lv.testBit c = true) (hb : m.testBit b = true) : wM R m b = wM R R.lv b := by
  unfold wM
  by_cases h : b < R.nb
  · rw [if_pos ⟨h, hb⟩, if_pos ⟨h, hm b hb⟩]
  · rw [if_neg (fun x => h x.1), if_neg (fun x => h x.1)]
theorem qof_sub {R : RV} {m : Nat} (hm : ∀ c, m.testBit c = true → R.lv.testBit c = true) : ∀ {r : List Nat}, allm m r = true → qof (wM R m) r = qof (wM R R.lv) r
  | [], _ => rfl
  | c :: r, h => by
    unfold allm at h
    rw [List.all_cons, Bool.and_eq_true] at h
    rw [qof, qof, qof_sub hm (r := r) h.2, exq, exq, wM_sub hm h.1]
theorem comp_sub {R : RV} {m : Nat} (hm : ∀ c, m.testBit c = true → R.lv.testBit c = true) (cf : Bool) : ∀ k r, allm m r = true → comp (wM R m) (exM R m cf) k r = (comp (wM R R.lv) (exM R R.lv cf) k r).filter (allm m)
  | 0, r, hr => by
    unfold comp
    rw [qof_sub hm hr]
    by_cases h : wts (qof (wM R R.lv) r).2.1 = 0
    · rw [if_pos h, List.filter_cons_of_pos (by unfold allm at hr ⊢; rw [List.all_reverse]; exact hr)]
      rfl
    · rw [if_neg h]
      rfl
  | k + 1, r, hr => by
    rw [comp, comp, filter_flatMap, flatMap_filter, flatMap_filter]
    refine flatMap_congr' (fun b _ => ?_)
    cases hb : m.testBit b with
    | false =>
      have h1 : exM R m cf r b = false := by
        cases h : exM R m cf r b with
        | false => rfl
        | true => have := (exM_w h).2.1; rw [hb] at this; cases this
      rw [h1, if_neg Bool.false_ne_true, eq_comm]
      by_cases h2 : exM R R.lv cf r b = true
      · rw [if_pos h2, List.filter_eq_nil_iff]
        intro l hl hv
        obtain ⟨s, hs⟩ := comp_suf _ _ k (b :: r) l hl
        unfold allm at hv
        rw [← List.all_reverse, hs, List.all_append, Bool.and_eq_true, List.all_cons, hb] at hv
        exact absurd hv.2 (by simp)
      · rw [if_neg h2]
    | true =>
      have h1 : exM R m cf r b = exM R R.lv cf r b := by
        unfold exM exb
        rw [qof_sub hm hr, wM_sub hm hb]
      rw [h1]
      by_cases h2 : exM R R.lv cf r b = true
      · rw [if_pos h2, if_pos h2]
        refine comp_sub hm cf k (b :: r) ?_
        unfold allm at hr ⊢
        rw [List.all_cons, hb, hr]
        rfl
      · rw [if_neg h2, if_neg h2]
theorem rows_sub {R : RV} {m : Nat} (hm : ∀ c, m.testBit c = true → R.lv.testBit c = true) (cf : Bool) (n : Nat) : rowsM R m cf n = (rowsM R R.lv cf n).filter (allm m) := comp_sub hm cf n [] rfl
theorem VL_row {R : RV} (hW : Wf R) {L : Nat} {q : RW} (h : q ∈ VL (wR R) L) : okl R R.lv q.1 ∧ q.1.length ≤ L ∧ 0 < q.1.length ∧ q.2.2 < 1024 ∧ ∀ c, q.2.2.testBit c = decide (c ∈ q.1) := by
  obtain ⟨k, h1, h2, h3⟩ := VL_mem h
  obtain ⟨⟨r, rfl, hr⟩, hl⟩ := lvl_wf k q h2
  have a := VA_f hW hr
  have b := VA_nd hW hr
  rw [wR_wM] at h3
  rw [qof_pl] at h3
  rw [wR_wM, qof_1] at *
  refine ⟨⟨fun c hc => b.1 c (List.mem_reverse.mp hc), h3, ?_⟩, by omega, ?_, a.2.1, fun c => by rw [a.2.2.2 c]; simp⟩
  · exact List.pairwise_reverse.mpr (b.2.imp (fun h => h.symm))
  · cases r with
    | nil => exact absurd (show wts 0 = 0 from h3) (by decide)
    | cons c r => simp
theorem Vn_VL {w : Nat → Nat} {n L : Nat} (h : n ≤ L) {q : RW} (hq : q ∈ Vn w n) : q ∈ VL w L := by
  unfold VL
  rw [List.mem_flatMap]
  exact ⟨n, List.mem_range.mpr (by omega), hq⟩
theorem VL_s (w : Nat → Nat) (n : Nat) : VL w (n + 1) = VL w n ++ Vn w (n + 1) := by
  unfold VL
  rw [List.range_succ (n := n + 1), List.flatMap_append]
  simp
theorem Vn_0 (w : Nat → Nat) : Vn w 0 = [] := rfl
theorem Vn_len {w : Nat → Nat} {n : Nat} {q : RW} (hq : q ∈ Vn w n) : q.1.length = n := by
  unfold Vn at hq
  rw [List.mem_filter] at hq
  exact lvl_len n q hq.1
theorem v_now {N : Nat} (hN : big N) {t : Nat} {S : SV} (hW : WfS S) {M : XM} (hM : CX t S M) : ∃ M', fX8_sayingsNow N [.ref 0] M = some M' ∧ CX t S M' ∧ SYw 22 6 2400 (wR S.R) M' ∧ fr 0 64 M M' := by
  unfold big at hN
  obtain ⟨h1, h2, h3, h4, h5, h6, h7, ⟨s1, s2, ⟨w, s3⟩⟩, h9, h10⟩ := hM
  obtain ⟨M', e1, e2, e3⟩ := v_update (N := N) (by omega) (o := 22) (L := 6) (rm := 2400) (p := 1) (.inl ⟨rfl, rfl, rfl⟩) (.inl rfl) hW.1 ⟨h1, h10, s1, s2⟩ s3
  have hf := e3.fr
  refine ⟨M', ?_, ⟨h1.fr hf (by omega), by rw [hf.i (by omega)]; exact h2, fun h => (h3 h).fr hf (by omega), by rw [hf.i (by omega)]; exact h4, fun j hj => by rw [hf.i (by omega)]; exact h5 j hj, fun s hs => ?_, fun k hk => by rw [hf.i (by omega)]; exact h7 k hk, ⟨?_, ?_, ⟨_, e2⟩⟩, h9.fr hf (by omega), h10.fr hf (by omega)⟩, e2, hf.wide (by omega) (by omega)⟩
  · rw [eX8_sayingsNow, show 0 + 22 = 22 from rfl, show 0 + 1 = 1 from rfl, e1, e_bd]
    rfl
  · rw [hf.i (by omega), hf.i (by omega)]
    exact ⟨(h6 s hs).1, fun a b => ⟨((h6 s hs).2 a b).1, fun i hi => by rw [hf.l (by omega)]; exact ((h6 s hs).2 a b).2 i hi⟩⟩
  · rw [e3.2 _ _ (by omega) (by omega)]; exact s1
  · rw [e3.2 _ _ (by omega) (by omega)]; exact s2
theorem v_upTo {N o L rm : Nat} (ho : SO o L rm) {w : Nat → Nat} {M : XM} (hS : SYw o L rm w M) {n : Nat} (hn : n ≤ 6) : fX4_upTo N [.ref o, .int (Int32.ofInt n)] M = some (Int32.ofInt (VL w (min n L)).length, M) := by
  rw [eX4_upTo _ _ _ ho.o, show (0 : Int32) = Int32.ofInt 0 from rfl, i_lt (by omega) (by omega), i_lt (by omega) (by omega), decide_eq_false (by omega), decide_eq_false (by omega), cond_false, cond_false, (ho.xl M).2.1, i_inn (by omega), decide_eq_true (by omega), cond_true, i_natn (by omega), hS.2.2.2.1 n hn, e_I]
def SM (c : Nat) (w : Nat → Nat) (i : Nat) (T : List RW) (M : XM) : Prop := (∃ L rm sz : Nat, SO c L rm ∧ M.1 c 1 = Int32.ofInt rm ∧ M.1 c 2 = Int32.ofInt sz ∧ i + T.length ≤ sz ∧ sz ≤ rm) ∧ ∀ (j : Nat) (q : RW), T[j]? = some q → ∃ z : Nat, (z : Int) = mean w q.1 + 1000 ∧ pok (pack q.1) q.1.length q.2.2 q.2.1 z ∧ M.2 (c + 1) (i + j) = pk (pack q.1) q.1.length q.2.2 q.2.1 z
theorem SM_j {c i j : Nat} {w : Nat → Nat} {q : RW} {T : List RW} {M : XM} (h : SM c w i T M) (hj : T[j]? = some q) : RD c (i + j) (pack q.1) q.1.length q.2.2 (mean w q.1) M := by
  obtain ⟨⟨L, rm, sz, s1, s2, s3, s4, s5⟩, h2⟩ := h
  obtain ⟨z, z1, z2, z3⟩ := h2 j q hj
  have hl := (List.getElem?_eq_some_iff.mp hj).1
  have := (v_acc s1 s2 s3 (i := i + j) (by omega) s5 z2 z3).1
  rw [show (z : Int) - 1000 = mean w q.1 by omega] at this
  exact this
theorem SM_t {c i : Nat} {w : Nat → Nat} {q : RW} {T : List RW} {M : XM} (h : SM c w i (q :: T) M) : (∀ N, fX4_rowOf N [.ref c, .int (Int32.ofInt i)] M = some (Int32.ofInt (pack q.1 : Nat), M)) ∧ (∀ N, fX4_lengthOf N [.ref c, .int (Int32.ofInt i)] M = some (Int32.ofInt (q.1.length : Nat), M)) ∧ (∀ N, fX4_membersOf N [.ref c, .int (Int32.ofInt i)] M = some (Int32.ofInt (q.2.2 : Nat), M)) ∧ (∀ N, fX4_meaningOf N [.ref c, .int (Int32.ofInt i)] M = some (Int32.ofInt (mean w q.1), M)) ∧ SM c w (i + 1) T M := by
  obtain ⟨a1, a2, a3, a4⟩ := SM_j h (j := 0) (q := q) rfl
  refine ⟨a1, a2, a3, a4, ?_⟩
  obtain ⟨⟨L, rm, sz, s1, s2, s3, s4, s5⟩, h2⟩ := h
  refine ⟨⟨L, rm, sz, s1, s2, s3, by simp only [List.length_cons] at s4; omega, s5⟩, fun j x hj => ?_⟩
  rw [show i + 1 + j = i + (j + 1) by omega]
  exact h2 (j + 1) x (by simpa using hj)
theorem SM_0 {o L rm : Nat} {w : Nat → Nat} {M : XM} (hS : SYw o L rm w M) {n : Nat} (hn : n ≤ L) : SM o w 0 (VL w n) M := by
  obtain ⟨X, h1, _⟩ := VL_app w hn
  have hl := congrArg List.length h1
  rw [List.length_append] at hl
  refine ⟨⟨L, rm, (VL w L).length, hS.2.2.2.2.1, hS.2.2.2.2.2.1, hS.2.2.2.2.2.2, by omega, hS.2.1⟩, fun j q hj => ?_⟩
  rw [Nat.zero_add]
  refine hS.2.2.1 j q ?_
  rw [h1, List.getElem?_append_left (List.getElem?_eq_some_iff.mp hj).1]
  exact hj
theorem SM_n {o L rm : Nat} {w : Nat → Nat} {M : XM} (hS : SYw o L rm w M) {n : Nat} (hn : n + 1 ≤ L) : SM o w (VL w n).length (Vn w (n + 1)) M := by
  obtain ⟨⟨L', rm', sz, s1, s2, s3, s4, s5⟩, h2⟩ := SM_0 hS hn
  rw [VL_s, List.length_append] at s4
  refine ⟨⟨L', rm', sz, s1, s2, s3, by omega, s5⟩, fun j q hj => ?_⟩
  have h := h2 ((VL w n).length + j) q (by
    rw [VL_s, List.getElem?_append_right (by omega), show (VL w n).length + j - (VL w n).length = j by omega]
    exact hj)
  rw [Nat.zero_add] at h
  exact h
theorem VL_rm {o L rm : Nat} {w : Nat → Nat} {M : XM} (hS : SYw o L rm w M) {n : Nat} (hn : n ≤ L) : (VL w n).length ≤ rm := by
  obtain ⟨X, h1, _⟩ := VL_app w hn
  have := hS.2.1
  rw [h1, List.length_append] at this
  omega
def f8 (M M' : XM) : Prop := M'.2 = M.2 ∧ ∀ a j, ¬ (a = 64 ∧ 24 ≤ j ∧ j ≤ 29) → a ≠ 79 → ¬ (a = 80 ∧ 0 < j) → a ≠ 81 → M'.1 a j = M.1 a j
theorem f8.rf {M : XM} : f8 M M := ⟨rfl, fun _ _ _ _ _ _ => rfl⟩
theorem f8.tr {M M' M'' : XM} (h : f8 M M') (h' : f8 M' M'') : f8 M M'' := ⟨h'.1.trans h.1, fun a j h1 h2 h3 h4 => (h'.2 a j h1 h2 h3 h4).trans (h.2 a j h1 h2 h3 h4)⟩
theorem fe.f8 {M M' : XM} (h : fe M M') : f8 M M' := ⟨h.1, fun a j h1 h2 h3 _ => h.2 a j h1 h2 h3⟩
theorem f8.fr {M M' : XM} (h : f8 M M') : fr 64 82 M M' := fun a ha => ⟨funext fun j => h.2 a j (by omega) (by omega) (by omega) (by omega), by rw [h.1]⟩
theorem mv_f8 {R : RV} {M M' : XM} (h : mv R M) (hf : f8 M M') : mv R M' := by
  obtain ⟨h1, h2, h3, h4, h6, h7⟩ := h
  have g : ∀ a j, ¬ (a = 64 ∧ 24 ≤ j ∧ j ≤ 29) → a < 79 → M'.1 a j = M.1 a j := fun a j h1 h2 => hf.2 a j h1 (by omega) (by omega) (by omega)
  refine ⟨by rw [g _ _ (by omega) (by omega)]; exact h1, by rw [g _ _ (by omega) (by omega)]; exact h2, by rw [g _ _ (by omega) (by omega)]; exact h3, by rw [g _ _ (by omega) (by omega)]; exact h4, fun b hb => ?_, fun i hi => by rw [g _ _ (by omega) (by omega)]; exact h7 i hi⟩
  rw [g _ _ (by omega) (by omega), g _ _ (by omega) (by omega), g _ _ (by omega) (by omega), g _ _ (by omega) (by omega), g _ _ (by omega) (by omega), g _ _ (by omega) (by omega)]
  exact h6 b hb
theorem CM_f8 {S : SV} {M M' : XM} (h : CM S M) (hf : f8 M M') : CM S M' := by
  obtain ⟨h1, h2, h3, h4, h5, h6, h7, h8, h10⟩ := h
  have g : ∀ a j, ¬ (a = 64 ∧ 24 ≤ j ∧ j ≤ 29) → a < 79 → M'.1 a j = M.1 a j := fun a j h1 h2 => hf.2 a j h1 (by omega) (by omega) (by omega)
  have hfr : ∀ R, ov 77 R M → ov 77 R M' := fun R h => by
    obtain ⟨a1, a2, a3, a4, a5, a6⟩ := h
    refine ⟨by rw [g _ _ (by omega) (by omega)]; exact a1, by rw [g _ _ (by omega) (by omega)]; exact a2, by rw [g _ _ (by omega) (by omega)]; exact a3, by rw [g _ _ (by omega) (by omega)]; exact a4, fun b hb => ?_, fun i hi => by rw [g _ _ (by omega) (by omega)]; exact a6 i hi⟩
    rw [g _ _ (by omega) (by omega), g _ _ (by omega) (by omega), g _ _ (by omega) (by omega), g _ _ (by omega) (by omega), g _ _ (by omega) (by omega), g _ _ (by omega) (by omega)]
    exact a5 b hb
  refine ⟨mv_f8 h1 hf, by rw [g _ _ (by omega) (by omega)]; exact h2, fun h => hfr _ (h3 h), by rw [g _ _ (by omega) (by omega)]; exact h4, fun j hj => by rw [g _ _ (by omega) (by omega)]; exact h5 j hj, fun s hs => ?_, fun k hk => by rw [g _ _ (by omega) (by omega)]; exact h7 k hk, by rw [hf.2 _ _ (by omega) (by omega) (by omega) (by omega)]; exact h8, h10.fr hf.fr (by omega)⟩
  rw [g _ _ (by omega) (by omega), g _ _ (by omega) (by omega), hf.1]
  exact h6 s hs
theorem both_v {α : Type} {t : Nat} {S : SV} (hW : WfS S) {f g : XM → Option (α × XM)} (v : α) (hf : ∀ M, CX t S M → ∃ M', f M = some (v, M') ∧ CX t S M' ∧ fr 0 64 M M') (hg : ∀ M, CM S M → ∃ M', g M = some (v, M') ∧ f8 M M') : both t S f g :=
  ⟨S, v, hW, fun M hM => by
    obtain ⟨M', h1, h2, h3⟩ := hf M hM
    exact ⟨M', h1, h2.tick, h3⟩, fun M hM => by
    obtain ⟨M', h1, h2⟩ := hg M hM
    exact ⟨M', h1, CM_f8 hM h2, h2.fr⟩⟩
theorem xle1 {z : Int} (hz : rg z) {a b : Int} (ha : rg a) (hb : rg b) : (!xlt (Int32.ofInt z) (Int32.ofInt a) && !xlt (Int32.ofInt b) (Int32.ofInt z)) = decide (a ≤ z ∧ z ≤ b) := by
  rw [i_lt hz ha, i_lt hb hz]
  by_cases h1 : z < a <;> by_cases h2 : b < z
  · rw [decide_eq_true h1, decide_eq_false (show ¬ (a ≤ z ∧ z ≤ b) by omega)]; rfl
  · rw [decide_eq_true h1, decide_eq_false (show ¬ (a ≤ z ∧ z ≤ b) by omega)]; rfl
  · rw [decide_eq_true h2, decide_eq_false (show ¬ (a ≤ z ∧ z ≤ b) by omega), Bool.not_true, Bool.and_false]
  · rw [decide_eq_false h1, decide_eq_false h2, decide_eq_true (show (a ≤ z ∧ z ≤ b) by omega)]; rfl
def fdn (R : RV) : List Nat → Nat
  | [] => 0
  | [_] => 0
  | a :: b :: l => (if (R.fd a).testBit b = true then 1 else 0) + fdn R (b :: l)
theorem l_feuds {N o : Nat} (ho : PO o) {R : RV} (hW : Wf R) {M : XM} (hR : cv o R M) {l : List Nat} (hl : ∀ c ∈ l, c < R.nb) (h10 : l.length ≤ 10) : ∀ (t : List Nat) (a n j z : Nat), l.drop j = a :: t → j + 1 + t.length = l.length → t.length < n → z ≤ j → gX2_feuds N n 6 [.ref o, .long (Int64.ofInt (pack l : Nat)), .retAddr 0, .int (Int32.ofInt l.length), .int (Int32.ofInt z), .int (Int32.ofInt ((j + 1 : Nat) : Int))] [] M = some (Int32.ofInt ((z + fdn R (a :: t) : Nat) : Int), M)
  | [], a, n + 1, j, z, ht, hj, hn, hz => by
    simp only [List.length_nil] at hj
    rw [eX2_feuds_6 _ _ _ _ _ _ _ ho, i_lt (by omega) (by omega), decide_eq_false (by omega), cond_false, e_I]
    rfl
  | b :: t, a, n + 1, j, z, ht, hj, hn, hz => by
    simp only [List.length_cons] at hj hn
    have hja : l[j]? = some a := by rw [← List.head?_drop, ht]; rfl
    have ht' : l.drop (j + 1) = b :: t := by rw [← List.drop_drop, ht]; rfl
    have hjb : l[j + 1]? = some b := by rw [← List.head?_drop, ht']; rfl
    have ha := hl a (List.mem_of_getElem? hja)
    have hb := hl b (List.mem_of_getElem? hjb)
    have h16 : ∀ c ∈ l, c < 16 := fun c hc => by have := hl c hc; have := hW.1; omega
    have ih := fun z => l_feuds (N := N) ho hW hR hl h10 t b n (j + 1) z ht' (by omega) (by omega)
    rw [eX2_feuds_6 _ _ _ _ _ _ _ ho, i_lt (by omega) (by omega), decide_eq_true (by omega), cond_true, i_sub, show ((j + 1 : Nat) : Int) - 1 = (j : Int) by omega, v_at h16 h10 hja, e_bd, v_at h16 h10 hjb, e_bd, v_feuding ho hR hW ha hb, e_bd, b_z]
    simp only [i_suc]
    show _ = some (Int32.ofInt ((z + ((if (R.fd a).testBit b = true then 1 else 0) + fdn R (b :: t)) : Nat) : Int), M)
    cases (R.fd a).testBit b with
    | false =>
      rw [cond_false, if_neg Bool.false_ne_true, Nat.zero_add, i_add, show (z : Int) + 0 = z by omega]
      exact ih z (by omega)
    | true =>
      rw [cond_true, if_pos rfl, ← Nat.add_assoc]
      exact ih (z + 1) (by omega)
theorem v_feuds {N o : Nat} (hN : 11 < N) (ho : PO o) {R : RV} (hW : Wf R) {M : XM} (hR : cv o R M) {l : List Nat} (hl : ∀ c ∈ l, c < R.nb) (h10 : l.length ≤ 10) (h0 : 0 < l.length) : fX2_feuds N [.ref o, .long (Int64.ofInt (pack l : Nat)), .int (Int32.ofInt l.length)] M = some (Int32.ofInt (fdn R l), M) := by
  cases l with
  | nil => simp at h0
  | cons a t =>
    rw [eX2_feuds _ _ _ _ ho]
    have := l_feuds (N := N) ho hW hR hl h10 t a N 0 0 rfl (by simp; omega) (by simp at h10; omega) (by omega)
    rw [show 0 + fdn R (a :: t) = fdn R (a :: t) from Nat.zero_add _] at this
    exact this
theorem fdn_le (R : RV) : ∀ l, fdn R l ≤ l.length
  | [] => by simp [fdn]
  | [_] => by simp [fdn]
  | a :: b :: l => by
    have := fdn_le R (b :: l)
    rw [fdn, List.length_cons]
    split <;> omega
theorem clm_fdn (R : RV) : ∀ l, clm R l = decide (fdn R l = 0)
  | [] => rfl
  | [_] => rfl
  | a :: b :: l => by
    have ih := clm_fdn R (b :: l)
    have key : ∀ (l : List Nat) (b a : Nat), VP (cmo R true) (l.reverse ++ [b, a]) = (VP (cmo R true) (l.reverse ++ [b]) && !(R.fd a).testBit b) := by
      intro l b a
      generalize l.reverse = s
      induction s with
      | nil => simp [VP, cmo]
      | cons c s ih =>
        rw [List.cons_append, VP, ih, List.cons_append, VP]
        have : cmo R true (s ++ [b, a]) c = cmo R true (s ++ [b]) c := by cases s <;> rfl
        rw [this, Bool.and_assoc]
    unfold clm at ih ⊢
    rw [List.reverse_cons] at ih
    rw [List.reverse_cons, List.reverse_cons, List.append_assoc]
    show VP (cmo R true) (l.reverse ++ [b, a]) = _
    rw [key, ih, fdn]
    cases (R.fd a).testBit b with
    | false => simp
    | true => simp
