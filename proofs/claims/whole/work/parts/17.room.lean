def cumU (F : List RW) (n : Nat) : Nat := F.countP (fun q => decide (q.1.length ≤ n))
theorem cumU_s (F : List RW) (n : Nat) : cumU F (n + 1) = F.countP (fun q => q.1.length == n + 1) + cumU F n := by
  unfold cumU
  induction F with
  | nil => rfl
  | cons q F ih =>
    simp only [List.countP_cons]
    rw [ih]
    by_cases h1 : q.1.length = n + 1
    · have h2 : ¬ q.1.length ≤ n := by omega
      have h3 : q.1.length ≤ n + 1 := by omega
      rw [if_pos (by rw [decide_eq_true_eq]; exact h3), if_pos (by rw [beq_iff_eq]; exact h1), if_neg (by rw [decide_eq_true_eq]; exact h2)]
      omega
    · by_cases h2 : q.1.length ≤ n
      · have h3 : q.1.length ≤ n + 1 := by omega
        simp [h1, h2, h3]
        omega
      · have h3 : ¬ q.1.length ≤ n + 1 := by omega
        simp [h1, h2, h3]
theorem l_csum {N o L rm : Nat} (ho : SO o L rm) (F : List RW) (hF : F.length ≤ rm) (x : Int32) : ∀ (d k n : Nat) (M : XM), k + d = 7 → 1 ≤ k → d < n → (∀ j, j < k → M.1 (o + 6) j = Int32.ofInt (cumU F j)) → (∀ j, k ≤ j → j ≤ 6 → M.1 (o + 6) j = Int32.ofInt ((F.countP (fun q => q.1.length == j) : Nat) : Int)) → ∃ M', gX4_keepWhole N n 122 [.ref o, .retAddr 0, .int x, .int (Int32.ofInt k), .retAddr 0, .retAddr 0] [] M = some M' ∧ M'.2 = M.2 ∧ M'.1 o 2 = x ∧ (∀ a j, ¬ (a = o ∧ j = 2) → a ≠ o + 6 → M'.1 a j = M.1 a j) ∧ (∀ j, j ≤ 6 → M'.1 (o + 6) j = Int32.ofInt (cumU F j))
  | 0, k, n + 1, M, hk, h1, hn, hc, hr => by
    obtain rfl : k = 7 := by omega
    rw [eX4_keepWhole_122 _ _ _ _ _ ho.o, i_lt (by omega) (by omega), decide_eq_true (by omega), cond_true, e_V]
    refine ⟨_, rfl, rfl, by rw [m_wi, if_pos ⟨rfl, rfl⟩], fun a j h1 h2 => by rw [m_wi, if_neg (by omega)], fun j hj => ?_⟩
    rw [m_wi, if_neg (by omega)]
    exact hc j (by omega)
  | d + 1, k, n + 1, M, hk, h1, hn, hc, hr => by
    have hL := ho.L
    have hx := ho.xl
    rw [eX4_keepWhole_122 _ _ _ _ _ ho.o, i_lt (by omega) (by omega), decide_eq_false (by omega), cond_false, i_sub, show (k : Int) - 1 = ((k - 1 : Nat) : Int) by omega]
    simp (disch := omega) only [(hx _).2.1, i_inn, i_natn, decide_eq_true, cond_true, i_suc]
    rw [hr k (by omega) (by omega), hc (k - 1) (by omega), i_add]
    have hcs : ((F.countP (fun q => q.1.length == k) : Nat) : Int) + ((cumU F (k - 1) : Nat) : Int) = ((cumU F k : Nat) : Int) := by
      have := cumU_s F (k - 1)
      rw [show k - 1 + 1 = k by omega] at this
      omega
    rw [hcs]
    obtain ⟨M', e1, e2, e5, e3, e4⟩ := l_csum (N := N) ho F hF x d (k + 1) n (xwi M (o + 6) k (Int32.ofInt (cumU F k))) (by omega) (by omega) (by omega) (fun j hj => by
      rw [m_wi]
      by_cases e : j = k
      · rw [if_pos ⟨rfl, e⟩, e]
      · rw [if_neg (by omega)]; exact hc j (by omega)) (fun j h1 h2 => by
      rw [m_wi, if_neg (by omega)]; exact hr j (by omega) h2)
    exact ⟨M', e1, e2, e5, fun a j h1 h2 => by rw [e3 a j h1 h2, m_wi, if_neg (by omega)], e4⟩
theorem l_zero {N o L rm p : Nat} (ho : SO o L rm) (hp : PO p) : ∀ (d k n : Nat) (M : XM), k + d = 7 → (∀ j, j < k → M.1 (o + 6) j = Int32.ofInt 0) → ∃ M', gX4_keepWhole N (n + 1 + d) 2 [.ref o, .ref p, .int (Int32.ofInt k), .retAddr 0, .retAddr 0, .retAddr 0] [] M = gX4_keepWhole N n 25 [.ref o, .ref p, .int (Int32.ofInt 0), .int (Int32.ofInt 0), .retAddr 0, .retAddr 0] [] M' ∧ M'.2 = M.2 ∧ (∀ a j, a ≠ o + 6 → M'.1 a j = M.1 a j) ∧ (∀ j, j ≤ 6 → M'.1 (o + 6) j = Int32.ofInt 0)
  | 0, k, n, M, hk, hc => by
    obtain rfl : k = 7 := by omega
    rw [Nat.add_zero, eX4_keepWhole_2 _ _ _ _ _ ho.o hp, i_lt (by omega) (by omega), decide_eq_true (by omega), cond_true]
    exact ⟨M, rfl, rfl, fun _ _ _ => rfl, fun j hj => hc j (by omega)⟩
  | d + 1, k, n, M, hk, hc => by
    have hx := ho.xl
    rw [show n + 1 + (d + 1) = (n + 1 + d) + 1 by omega, eX4_keepWhole_2 _ _ _ _ _ ho.o hp, i_lt (by omega) (by omega), decide_eq_false (by omega), cond_false]
    simp (disch := omega) only [(hx _).2.1, i_inn, i_natn, decide_eq_true, cond_true, i_suc]
    obtain ⟨M', e1, e2, e3, e4⟩ := l_zero (N := N) ho hp d (k + 1) n (xwi M (o + 6) k (Int32.ofInt 0)) (by omega) (fun j hj => by
      rw [m_wi]
      by_cases e : j = k
      · rw [if_pos ⟨rfl, e⟩]
      · rw [if_neg (by omega)]; exact hc j (by omega))
    exact ⟨M', e1, e2, fun a j h => by rw [e3 a j h, m_wi, if_neg (by omega)], e4⟩
theorem countP_filter_le {α : Type} (P : α → Bool) : ∀ l : List α, (l.filter P).length ≤ l.length := List.length_filter_le P
theorem v_keep {N : Nat} (hN : 5000 < N) {o L rm p : Nat} (ho : SO o L rm) (hp : PO p) {R : RV} (hW : Wf R) {Q : List RW} {M : XM} (hT : ∀ q ∈ Q, wfq R L q) (hG : GB o L rm p R M) (hQ : QM o Q M) (hz : M.1 o 2 = Int32.ofInt Q.length) (hc : Q.length ≤ rm) : ∃ M', fX4_keepWhole N [.ref o, .ref p] M = some M' ∧ fq o M M' ∧ M'.1 o 2 = Int32.ofInt (Q.filter fin).length ∧ FM o (wR R) (Q.filter fin) M' ∧ ∀ j, j ≤ 6 → M'.1 (o + 6) j = Int32.ofInt (cumU (Q.filter fin) j) := by
  have hL := ho.L
  rw [eX4_keepWhole _ _ _ ho.o hp]
  obtain ⟨m, hm⟩ : ∃ m, N = (m + 1 + Q.length) + 1 + 7 := ⟨N - Q.length - 9, by omega⟩
  obtain ⟨M1, a1, a2, a3, a4⟩ := l_zero (N := N) ho hp 7 0 (m + 1 + Q.length) M (by omega) (fun j hj => by omega)
  have b1 : gX4_keepWhole N N 2 [.ref o, .ref p, .int (Int32.ofInt 0), .retAddr 0, .retAddr 0, .retAddr 0] [] M = gX4_keepWhole N (m + 1 + Q.length) 25 [.ref o, .ref p, .int (Int32.ofInt 0), .int (Int32.ofInt 0), .retAddr 0, .retAddr 0] [] M1 := by
    rw [← a1, ← hm]
    rfl
  have f1 : fq o M M1 := ⟨fun a j _ => by rw [a2], fun a j h1 h2 => a3 a j (by omega)⟩
  have hQ1 : QM o Q M1 := QM_w hQ (fun j h3 => by rw [a2])
  obtain ⟨M2, c1, c2, c3, c4⟩ := l_keep (N := N) (by omega) ho hp hW Q [] 0 m M1 (by simp) hT (hG.fq ho hp f1) (fun i q h => by simp at h) (fun n hn => a4 n hn) (fun j q hj => by rw [Nat.zero_add]; exact hQ1 j q hj) (by rw [a3 _ _ (by omega), hz, Nat.zero_add]) (by omega)
  rw [List.nil_append] at c1 c3 c4
  have hfl := countP_filter_le fin Q
  obtain ⟨M3, d1, d2, d5, d3, d4⟩ := l_csum (N := N) ho (Q.filter fin) (by omega) (Int32.ofInt (Q.filter fin).length) 6 1 m M2 (by omega) (by omega) (by omega) (fun j hj => by
    obtain rfl : j = 0 := by omega
    rw [c4 0 (by omega)]
    unfold cumU
    congr 2
    congr 1
    funext q
    by_cases h : q.1.length = 0 <;> simp [h]) (fun j h1 h2 => c4 j h2)
  refine ⟨M3, ?_, (f1.tr c2).tr ⟨fun a j _ => by rw [d2], fun a j h1 h2 => d3 a j h1 (by omega)⟩, d5, FM_w c3 (fun j h3 => by rw [d2]), d4⟩
  rw [b1]
  exact c1.trans d1
theorem v_wordOf {N p : Nat} (hp : PO p) {R : RV} (hW : Wf R) {M : XM} (hR : cv p R M) {b : Nat} (hb : b < 10) : fX4_wordOf N [.ref p, .int (Int32.ofInt b)] M = some (Int32.ofInt (wR R b), M) := by
  have h10 := hW.1
  rw [eX4_wordOf _ _ _ hp, v_isLiving hp hR hW, e_bd, b_z, i_inn (by omega), i_natn (by omega), (hp.xl M).1, (hp.xl M).2]
  unfold wR
  by_cases h : b < R.nb
  · cases hl : R.lv.testBit b with
    | false =>
      rw [Bool.and_false, cond_false, if_neg (fun x => nomatch x.2)]
      rfl
    | true =>
      have hc := hR.2.2.2.2.2.1 b h
      rw [decide_eq_true h, Bool.and_true, cond_true, if_pos ⟨h, rfl⟩]
      dsimp only
      rw [i_inn (by omega), decide_eq_true (by omega), cond_true, cond_true, hc.1, hc.2.1, i_mul, i_add, i_add, e_I]
      congr 3
  · rw [decide_eq_false h, Bool.false_and, cond_false, if_neg (fun x => h x.1)]
    rfl
theorem wR_60 {R : RV} (hW : Wf R) (b : Nat) : wR R b ≤ 60 := by
  unfold wR
  split
  · rename_i h
    have := hW.2.2.2.1 b h.1
    omega
  · omega
def MW (o : Nat) (w : Nat → Nat) (M : XM) : Prop := ∀ b, b < 10 → M.1 (o + 7) b = Int32.ofInt (w b)
theorem l_made {N o L rm p : Nat} (ho : SO o L rm) (hp : PO p) {R : RV} (hW : Wf R) {w : Nat → Nat} (hw : ∀ b, b < 10 → w b ≤ 60) {M : XM} (hR : cv p R M) (hM : MW o w M) : ∀ (d k n : Nat), k + d = 10 → d < n → (∀ b, b < k → w b = wR R b) → (gX4_isMadeOf N n 2 [.ref o, .ref p, .int (Int32.ofInt k)] [] M = some (bi true, M) ∧ ∀ b, b < 10 → w b = wR R b) ∨ gX4_isMadeOf N n 2 [.ref o, .ref p, .int (Int32.ofInt k)] [] M = some (bi false, M)
  | 0, k, n + 1, hk, hn, hb => by
    obtain rfl : k = 10 := by omega
    rw [eX4_isMadeOf_2 _ _ _ _ _ ho.o hp, i_lt (by omega) (by omega), decide_eq_false (by omega), cond_false]
    exact .inl ⟨rfl, hb⟩
  | d + 1, k, n + 1, hk, hn, hb => by
    have hx := ho.xl
    have h1 := hw k (by omega)
    have h2 := wR_60 hW k
    rw [eX4_isMadeOf_2 _ _ _ _ _ ho.o hp, i_lt (by omega) (by omega), decide_eq_true (by omega), cond_true, (hx M).2.2.1, i_inn (by omega), decide_eq_true (by omega), cond_true, v_wordOf hp hW hR (by omega), e_bd]
    dsimp only
    rw [i_natn (by omega), hM k (by omega), i_eq (by omega) (by omega), i_suc]
    by_cases e : w k = wR R k
    · rw [decide_eq_true (by omega), cond_true]
      refine l_made (N := N) ho hp hW hw hR hM d (k + 1) n (by omega) (by omega) (fun b hb2 => ?_)
      by_cases e2 : b = k
      · rw [e2]; exact e
      · exact hb b (by omega)
    · rw [decide_eq_false (by omega), cond_false]
      exact .inr rfl
theorem l_words {N o L rm p : Nat} (ho : SO o L rm) (hp : PO p) {R : RV} (hW : Wf R) : ∀ (d k n : Nat) (M : XM), k + d = 10 → cv p R M → (∀ b, b < k → M.1 (o + 7) b = Int32.ofInt (wR R b)) → ∃ M', gX4_update N (n + 1 + d) 11 [.ref o, .ref p, .int (Int32.ofInt k)] [] M = ((fX4_add N [.ref o, .long (Int64.ofNat 0), .int (Int32.ofInt 0), .int (Int32.ofInt 0), .int (Int32.ofInt 0)] (xwi M' o 2 (Int32.ofInt 0))).bind fun q0 => gX4_update N n 49 [.ref o, .ref p, .int (Int32.ofInt 0)] [] q0) ∧ M'.2 = M.2 ∧ (∀ a j, a ≠ o + 7 → M'.1 a j = M.1 a j) ∧ MW o (wR R) M'
  | 0, k, n, M, hk, hR, hb => by
    obtain rfl : k = 10 := by omega
    rw [Nat.add_zero, eX4_update_11 _ _ _ _ _ ho.o hp, i_lt (by omega) (by omega), decide_eq_false (by omega), cond_false]
    exact ⟨M, rfl, rfl, fun _ _ _ => rfl, hb⟩
  | d + 1, k, n, M, hk, hR, hb => by
    have hx := ho.xl
    have hne := hp.ne ho
    rw [show n + 1 + (d + 1) = (n + 1 + d) + 1 by omega, eX4_update_11 _ _ _ _ _ ho.o hp, i_lt (by omega) (by omega), decide_eq_true (by omega), cond_true, v_wordOf hp hW hR (by omega), e_bd]
    dsimp only
    rw [(hx M).2.2.1, i_inn (by omega), decide_eq_true (by omega), cond_true, i_natn (by omega), i_suc]
    have hf : fr (o + 7) (o + 8) M (xwi M (o + 7) k (Int32.ofInt (wR R k))) := fr.rf.wi (by omega) (by omega)
    obtain ⟨M', e1, e2, e3, e4⟩ := l_words (N := N) ho hp hW d (k + 1) n (xwi M (o + 7) k (Int32.ofInt (wR R k))) (by omega) (hR.fr hf (by omega)) (fun b hb2 => by
      rw [m_wi]
      by_cases e : b = k
      · rw [if_pos ⟨rfl, e⟩, e]
      · rw [if_neg (by omega)]; exact hb b (by omega))
    exact ⟨M', e1, e2, fun a j h => by rw [e3 a j h, m_wi, if_neg (by omega)], e4⟩
theorem v_begin {N o L rm : Nat} (ho : SO o L rm) (M : XM) (h1 : M.1 o 1 = Int32.ofInt rm) : ∃ M', fX4_add N [.ref o, .long (Int64.ofNat 0), .int (Int32.ofInt 0), .int (Int32.ofInt 0), .int (Int32.ofInt 0)] (xwi M o 2 (Int32.ofInt 0)) = some M' ∧ fq o M M' ∧ QM o [([], 0, 0)] M' ∧ M'.1 o 2 = Int32.ofInt 1 := by
  have hL := ho.L
  have hp : pok 0 0 0 0 0 := by unfold pok; omega
  have ha := v_add4 (N := N) ho (M := xwi M o 2 (Int32.ofInt 0)) (sz := 0) (by rw [m_wi, if_neg (by omega)]; exact h1) (by rw [m_wi, if_pos ⟨rfl, rfl⟩]; rfl) (by omega) hp
  refine ⟨_, ha, ((fq.rf.wi (by omega)).wl).wi (by omega), ?_, by rw [m_wi, if_pos ⟨rfl, rfl⟩]; rfl⟩
  intro i q hi
  have hi' : i = 0 := by
    have := (List.getElem?_eq_some_iff.mp hi).1
    simp at this
    omega
  subst hi'
  simp at hi
  subst hi
  rw [m_wi2, m_wl2, if_pos ⟨rfl, rfl⟩]
  rfl
theorem exts_congr {w w' : Nat → Nat} (h : ∀ b, b < 10 → w b = w' b) (q : RW) : exts w q = exts w' q := by
  unfold exts
  have h1 : (List.range 10).filter (exb w q) = (List.range 10).filter (exb w' q) := filter_congr' (fun b hb => by
    unfold exb
    rw [h b (List.mem_range.mp hb)])
  rw [h1]
  refine List.map_congr_left (fun b hb => ?_)
  unfold exq
  rw [h b (List.mem_range.mp (List.mem_filter.mp hb).1)]
theorem lvl_congr {w w' : Nat → Nat} (h : ∀ b, b < 10 → w b = w' b) : ∀ k, lvl w k = lvl w' k
  | 0 => rfl
  | k + 1 => by
    rw [lvl, lvl, lvl_congr h k]
    exact flatMap_congr' (fun q _ => exts_congr h q)
theorem VL_congr {w w' : Nat → Nat} (h : ∀ b, b < 10 → w b = w' b) (L : Nat) : VL w L = VL w' L := by
  unfold VL
  exact flatMap_congr' (fun k _ => by unfold Vn; rw [lvl_congr h k])
theorem lvl_10 {w : Nat → Nat} : ∀ k q, q ∈ lvl w k → ∀ c ∈ q.1, c < 10
  | 0, q, h, c, hc => by
    simp only [lvl, List.mem_singleton] at h
    subst h
    simp at hc
  | k + 1, q, h, c, hc => by
    rw [lvl, List.mem_flatMap] at h
    obtain ⟨q0, h1, h2⟩ := h
    unfold exts at h2
    rw [List.mem_map] at h2
    obtain ⟨b, hb, rfl⟩ := h2
    rw [List.mem_filter, List.mem_range] at hb
    have hc : c ∈ q0.1 ++ [b] := hc
    rcases List.mem_append.mp hc with hc | hc
    · exact lvl_10 k q0 h1 c hc
    · simp at hc
      omega
theorem VL_mem {w : Nat → Nat} {L : Nat} {q : RW} (h : q ∈ VL w L) : ∃ k, k ≤ L ∧ q ∈ lvl w k ∧ wts q.2.1 = 0 := by
  unfold VL Vn at h
  rw [List.mem_flatMap] at h
  obtain ⟨k, hk, h⟩ := h
  rw [List.mem_range] at hk
  rw [List.mem_filter] at h
  exact ⟨k, by omega, h.1, by simpa using h.2⟩
theorem mst_congr {w w' : Nat → Nat} {l : List Nat} (h : ∀ c ∈ l, w c = w' c) : ∀ s, l.foldl (mst w) s = l.foldl (mst w') s := by
  induction l with
  | nil => intro s; rfl
  | cons a l ih =>
    intro s
    rw [List.foldl_cons, List.foldl_cons, ih (fun c hc => h c (List.mem_cons_of_mem _ hc))]
    congr 1
    unfold mst
    rw [h a List.mem_cons_self]
theorem mean_congr {w w' : Nat → Nat} {l : List Nat} (h : ∀ c ∈ l, w c = w' c) : mean w l = mean w' l := by
  rw [mean_eq, mean_eq, mst_congr h]
theorem SYw_congr {c L rm : Nat} {w w' : Nat → Nat} {M : XM} (h : ∀ b, b < 10 → w b = w' b) (hS : SYw c L rm w M) : SYw c L rm w' M := by
  obtain ⟨h1, h2, h3, h4, h5, h6, h7⟩ := hS
  refine ⟨fun b hb => by rw [← h b hb]; exact h1 b hb, by rw [← VL_congr h]; exact h2, fun i q hq => ?_, fun n hn => by rw [← VL_congr h]; exact h4 n hn, h5, h6, by rw [← VL_congr h]; exact h7⟩
  rw [← VL_congr h] at hq
  obtain ⟨k, _, hk, _⟩ := VL_mem (List.mem_of_getElem? hq)
  have := h3 i q hq
  rw [mean_congr (w := w) (w' := w') (fun c hc => h c (lvl_10 k q hk c hc))] at this
  exact this
abbrev CV : Type := Nat × Nat × Nat × Nat × Nat
def cvg (c : CV) (k : Nat) : Nat := match k with | 1 => c.1 | 2 => c.2.1 | 3 => c.2.2.1 | 4 => c.2.2.2.1 | 5 => c.2.2.2.2 | _ => 0
def cvd (c : CV) (k : Nat) : CV := match k with | 1 => (c.1 - 1, c.2) | 2 => (c.1, c.2.1 - 1, c.2.2) | 3 => (c.1, c.2.1, c.2.2.1 - 1, c.2.2.2) | 4 => (c.1, c.2.1, c.2.2.1, c.2.2.2.1 - 1, c.2.2.2.2) | 5 => (c.1, c.2.1, c.2.2.1, c.2.2.2.1, c.2.2.2.2 - 1) | _ => c
def edges : Nat → List (Nat × Nat)
  | 0 => [(1, 2), (3, 1)]
  | 1 => [(1, 2)]
  | 2 => [(2, 4), (4, 3)]
  | 3 => [(2, 4)]
  | 4 => [(1, 6), (3, 5), (5, 0)]
  | 5 => [(1, 6)]
  | 6 => [(5, 0)]
  | _ => []
def ewt : Nat → Nat
  | 0 => 2 | 1 => 2 | 2 => 1 | 3 => 1 | 4 => 0 | 5 => 1 | 6 => 0 | _ => 2
def m0 (x t n y : Nat) : Nat := match x with | 0 => 0 | m + 1 => bif Nat.ble t n then (m + 1) * y else 0
def cntv : Nat → Nat → CV → Nat
  | 0, _, _ => 1
  | n + 1, p, c => 1 + (edges p).foldr (fun e s => m0 (cvg c e.1) (ewt e.2) n (cntv n e.2 (cvd c e.1)) + s) 0
def allv (P : CV → Bool) (t : Nat) : Bool := (List.range (t + 1)).all fun a => (List.range (t + 1 - a)).all fun b => (List.range (t + 1 - a - b)).all fun c => (List.range (t + 1 - a - b - c)).all fun d => (List.range (t + 1 - a - b - c - d)).all fun e => P (a, b, c, d, e)

set_option maxRecDepth 100000 in
theorem cap6 : allv (fun c => Nat.ble (cntv 6 0 c) 2391) 10 = true := by decide +kernel
set_option maxRecDepth 100000 in
theorem cap5 : allv (fun c => Nat.ble (cntv 5 0 c) 697) 10 = true := by decide +kernel
def tr (w : Nat → Nat) (L : Nat) : Nat → RW → Nat
  | 0, _ => 1
  | n + 1, q => 1 + ((extsP w L q).map (tr w L n)).sum
def bl (w : Nat → Nat) (L : Nat) : Nat → List RW → Nat
  | 0, X => X.length
  | n + 1, X => X.length + bl w L n (X.flatMap (extsP w L))
theorem bfsP_bl (w : Nat → Nat) (L : Nat) : ∀ (n k : Nat), (bfsP w L (k + n + 1)).length = (bfsP w L k).length + bl w L n (lvlP w L k)
  | 0, k => by rw [Nat.add_zero, bfsP_s, List.length_append]; rfl
  | n + 1, k => by
    rw [show k + (n + 1) + 1 = (k + 1) + n + 1 by omega, bfsP_bl w L n (k + 1), bfsP_s, List.length_append, bl, Nat.add_assoc]
    rfl
theorem map_sum_flat {α β : Type} (f : α → List β) (g : β → Nat) : ∀ X : List α, ((X.flatMap f).map g).sum = (X.map (fun a => ((f a).map g).sum)).sum
  | [] => rfl
  | a :: X => by rw [List.flatMap_cons, List.map_append, List.sum_append, List.map_cons, List.sum_cons, map_sum_flat f g X]
theorem sum_one {α : Type} (g : α → Nat) : ∀ X : List α, (X.map (fun a => 1 + g a)).sum = X.length + (X.map g).sum
  | [] => rfl
  | a :: X => by rw [List.map_cons, List.sum_cons, sum_one g X, List.map_cons, List.sum_cons, List.length_cons]; omega
theorem bl_tr (w : Nat → Nat) (L : Nat) : ∀ (n : Nat) (X : List RW), bl w L n X = (X.map (tr w L n)).sum
  | 0, X => by
    unfold bl
    have : X.map (tr w L 0) = X.map (fun _ => 1 + 0) := List.map_congr_left (fun _ _ => rfl)
    rw [this, sum_one (fun _ => 0)]
    have h0 : ∀ X : List RW, (X.map (fun _ => 0)).sum = 0 := fun X => by
      induction X with
      | nil => rfl
      | cons a X ih => rw [List.map_cons, List.sum_cons, ih]
    rw [h0]
    rfl
  | n + 1, X => by
    rw [bl, bl_tr w L n, map_sum_flat, ← sum_one]
    rfl
def av (w : Nat → Nat) (q : RW) (k : Nat) : Nat := (List.range 10).countP (fun b => (w b != 0 && !q.2.2.testBit b) && wk (w b) == k)
def avv (w : Nat → Nat) (q : RW) : CV := (av w q 1, av w q 2, av w q 3, av w q 4, av w q 5)
theorem countP_ne (P : Nat → Bool) (b : Nat) : ∀ n, (List.range n).countP (fun x => P x && !(x == b)) + (if b < n ∧ P b = true then 1 else 0) = (List.range n).countP P
  | 0 => by simp
  | n + 1 => by
    have ih := countP_ne P b n
    rw [List.range_succ, List.countP_append, List.countP_append, List.countP_cons, List.countP_cons, List.countP_nil, List.countP_nil]
    by_cases e : n = b
    · subst e
      have h1 : ¬ n < n := by omega
      have h2 : n < n + 1 := by omega
      cases hP : P n <;> simp [h1, h2, hP] at ih ⊢ <;> omega
    · by_cases h : b < n
      · have h2 : b < n + 1 := by omega
        cases hb : P b <;> cases hP : P n <;> simp [h, h2, hb, hP, e] at ih ⊢ <;> omega
      · have h2 : ¬ b < n + 1 := by omega
        cases hP : P n <;> simp [h, h2, hP, e] at ih ⊢ <;> omega
theorem av_x {w : Nat → Nat} {q : RW} {b : Nat} (hb : b < 10) (h0 : (w b != 0 && !q.2.2.testBit b) = true) (k : Nat) : av w (exq w q b) k = av w q k - (if wk (w b) = k then 1 else 0) := by
  unfold av
  have h := countP_ne (fun x => (w x != 0 && !q.2.2.testBit x) && wk (w x) == k) b 10
  have h2 : (fun x => (w x != 0 && !(exq w q b).2.2.testBit x) && wk (w x) == k) = fun x => ((w x != 0 && !q.2.2.testBit x) && wk (w x) == k) && !(x == b) := by
    funext x
    show ((w x != 0 && !(q.2.2 ||| 2 ^ b).testBit x) && wk (w x) == k) = _
    rw [Nat.testBit_or, Nat.testBit_two_pow]
    by_cases e : x = b
    · subst e; simp
    · have : ¬ b = x := fun h => e h.symm
      simp [e, this]
  rw [h2]
  rw [h0, Bool.true_and] at h
  by_cases e : wk (w b) = k
  · rw [if_pos ⟨hb, by simp [e]⟩] at h
    rw [if_pos e]
    omega
  · rw [if_neg (fun x => e (by simpa using x.2))] at h
    rw [if_neg e]
    omega
theorem avv_x {w : Nat → Nat} {q : RW} {b : Nat} (hb : b < 10) (h0 : (w b != 0 && !q.2.2.testBit b) = true) (hk : wk (w b) < 6) (hk0 : wk (w b) ≠ 0) : avv w (exq w q b) = cvd (avv w q) (wk (w b)) := by
  unfold avv
  rw [av_x hb h0, av_x hb h0, av_x hb h0, av_x hb h0, av_x hb h0]
  generalize wk (w b) = k at *
  match k, hk, hk0 with
  | 1, _, _ | 2, _, _ | 3, _, _ | 4, _, _ | 5, _, _ => rfl
theorem grp (A C : Nat → Bool) (κ g : Nat → Nat) (hC : C 0 = false) : ∀ l : List Nat, (∀ b ∈ l, A b = true → κ b < 6) → ((l.filter (fun b => A b && C (κ b))).map (fun b => g (κ b))).sum = (if C 1 = true then l.countP (fun b => A b && κ b == 1) * g 1 else 0) + ((if C 2 = true then l.countP (fun b => A b && κ b == 2) * g 2 else 0) + ((if C 3 = true then l.countP (fun b => A b && κ b == 3) * g 3 else 0) + ((if C 4 = true then l.countP (fun b => A b && κ b == 4) * g 4 else 0) + (if C 5 = true then l.countP (fun b => A b && κ b == 5) * g 5 else 0))))
  | [], _ => by simp
  | b :: l, h => by
    have ih := grp A C κ g hC l (fun x hx => h x (List.mem_cons_of_mem _ hx))
    have hb := h b List.mem_cons_self
    simp only [List.countP_cons]
    cases hA : A b with
    | false =>
      rw [List.filter_cons_of_neg (by rw [hA]; exact Bool.false_ne_true), ih]
      simp [hA]
    | true =>
      have hk := hb hA
      rcases (show κ b = 0 ∨ κ b = 1 ∨ κ b = 2 ∨ κ b = 3 ∨ κ b = 4 ∨ κ b = 5 by omega) with e | e | e | e | e | e
      · rw [List.filter_cons_of_neg (by rw [e, hC, Bool.and_false]; exact Bool.false_ne_true), ih]
        simp [e]
      all_goals
        by_cases hc : C (κ b) = true
        · rw [List.filter_cons_of_pos (by rw [hA, hc]; rfl), List.map_cons, List.sum_cons, ih]
          rw [e] at hc
          simp [e, hc, Nat.succ_mul]
          omega
        · rw [List.filter_cons_of_neg (by rw [hA, Bool.true_and]; exact hc), ih]
          rw [e] at hc
          simp [e, hc]
def okE (p n k : Nat) : Bool := nx p k != 7 && decide (wts (nx p k) ≤ n)
theorem cntv_s {n p : Nat} (hp : p < 7) (c : CV) : cntv (n + 1) p c = 1 + ((if okE p n 1 = true then c.1 * cntv n (nx p 1) (cvd c 1) else 0) + ((if okE p n 2 = true then c.2.1 * cntv n (nx p 2) (cvd c 2) else 0) + ((if okE p n 3 = true then c.2.2.1 * cntv n (nx p 3) (cvd c 3) else 0) + ((if okE p n 4 = true then c.2.2.2.1 * cntv n (nx p 4) (cvd c 4) else 0) + (if okE p n 5 = true then c.2.2.2.2 * cntv n (nx p 5) (cvd c 5) else 0))))) := by
  have hm : ∀ (x y t : Nat), m0 x t n y = if decide (t ≤ n) = true then x * y else 0 := by
    intro x y t
    cases x with
    | zero => simp [m0]
    | succ m =>
      show (bif Nat.ble t n then (m + 1) * y else 0) = _
      by_cases h : t ≤ n
      · rw [Nat.ble_eq_true_of_le h, cond_true, if_pos (by rw [decide_eq_true_eq]; exact h)]
      · rw [show Nat.ble t n = false from Bool.eq_false_iff.mpr (fun x => h (Nat.le_of_ble_eq_true x)), cond_false, if_neg (by rw [decide_eq_true_eq]; exact h)]
  rw [cntv]
  simp only [hm]
  have f0 : ∀ x : Nat, (if false = true then x else 0) = 0 := fun x => if_neg Bool.false_ne_true
  match p, hp with
  | 0, _ | 1, _ | 2, _ | 3, _ | 4, _ | 5, _ | 6, _ =>
    simp only [okE, nx, nxT, edges, ewt, List.foldr, cvg]
    simp [show wts 0 = 2 from rfl, show wts 1 = 2 from rfl, show wts 2 = 1 from rfl, show wts 3 = 1 from rfl, show wts 4 = 0 from rfl, show wts 5 = 1 from rfl, show wts 6 = 0 from rfl]
    try omega
theorem tr_eq {R : RV} (hW : Wf R) {L : Nat} : ∀ (n : Nat) (q : RW), wfq R L q → q.1.length + n = L → tr (wR R) L n q = cntv n q.2.1 (avv (wR R) q)
  | 0, q, _, _ => rfl
  | n + 1, q, hq, hl => by
    obtain ⟨q1, q2, q3, q4⟩ := wfq_f hW hq
    have hkk : ∀ b, (wR R b != 0 && !q.2.2.testBit b) = true → wk (wR R b) < 6 := by
      intro b h
      rw [Bool.and_eq_true, bne_iff_ne] at h
      have hb : b < R.nb ∧ R.lv.testBit b = true := by
        by_cases e : b < R.nb ∧ R.lv.testBit b = true
        · exact e
        · exact absurd (show wR R b = 0 by unfold wR; rw [if_neg e]) h.1
      rw [wR_wM, (wk_wM hW hb.1 hb.2).2.1]
      exact (hW.2.2.2.1 b hb.1).1
    rw [tr, cntv_s q1]
    congr 1
    have h1 : extsP (wR R) L q = ((List.range 10).filter (fun b => (wR R b != 0 && !q.2.2.testBit b) && okE q.2.1 n (wk (wR R b)))).map (exq (wR R) q) := by
      unfold extsP
      congr 1
      refine filter_congr' (fun b hb => ?_)
      unfold exbP exb okE
      rw [Bool.and_assoc]
      congr 1
      congr 1
      exact decide_eq_decide.mpr (by omega)
    have hC : okE q.2.1 n 0 = false := by
      unfold okE
      have : ∀ p, p < 7 → nx p 0 = 7 := by decide
      rw [this _ q1]
      rfl
    rw [h1, List.map_map]
    have h2 : ((List.range 10).filter (fun b => (wR R b != 0 && !q.2.2.testBit b) && okE q.2.1 n (wk (wR R b)))).map (tr (wR R) L n ∘ exq (wR R) q) = ((List.range 10).filter (fun b => (wR R b != 0 && !q.2.2.testBit b) && okE q.2.1 n (wk (wR R b)))).map (fun b => (fun k => cntv n (nx q.2.1 k) (cvd (avv (wR R) q) k)) (wk (wR R b))) := by
      refine List.map_congr_left (fun b hb => ?_)
      rw [List.mem_filter, List.mem_range] at hb
      have hok := hb.2
      rw [Bool.and_eq_true] at hok
      have hp : exbP (wR R) L q b = true := by
        have h3 := hok.2
        unfold okE at h3
        rw [Bool.and_eq_true, decide_eq_true_eq] at h3
        unfold exbP exb
        rw [hok.1, Bool.true_and, h3.1, Bool.true_and, decide_eq_true_eq]
        omega
      show tr (wR R) L n (exq (wR R) q b) = _
      rw [tr_eq hW n _ (wfq_x hq hp) (by show (q.1 ++ [b]).length + n = L; rw [List.length_append]; simp; omega), avv_x hb.1 hok.1 (hkk b hok.1) (fun h0 => by
        have h3 := hok.2
        rw [h0, hC] at h3
        cases h3)]
      rfl
    rw [h2, grp (fun b => wR R b != 0 && !q.2.2.testBit b) (okE q.2.1 n) (fun b => wk (wR R b)) (fun k => cntv n (nx q.2.1 k) (cvd (avv (wR R) q) k)) hC _ (fun b _ h => hkk b h)]
    rfl
theorem sum_le_10 (w : Nat → Nat) (q : RW) : av w q 1 + av w q 2 + av w q 3 + av w q 4 + av w q 5 ≤ 10 := by
  unfold av
  have key : ∀ l : List Nat, l.countP (fun b => (w b != 0 && !q.2.2.testBit b) && wk (w b) == 1) + l.countP (fun b => (w b != 0 && !q.2.2.testBit b) && wk (w b) == 2) + l.countP (fun b => (w b != 0 && !q.2.2.testBit b) && wk (w b) == 3) + l.countP (fun b => (w b != 0 && !q.2.2.testBit b) && wk (w b) == 4) + l.countP (fun b => (w b != 0 && !q.2.2.testBit b) && wk (w b) == 5) ≤ l.length := by
    intro l
    induction l with
    | nil => simp
    | cons b l ih =>
      simp only [List.countP_cons, List.length_cons]
      cases (w b != 0 && !q.2.2.testBit b) with
      | false => simp; omega
      | true =>
        simp only [Bool.true_and, beq_iff_eq]
        by_cases e1 : wk (w b) = 1
        · simp [e1]; omega
        by_cases e2 : wk (w b) = 2
        · simp [e2]; omega
        by_cases e3 : wk (w b) = 3
        · simp [e3]; omega
        by_cases e4 : wk (w b) = 4
        · simp [e4]; omega
        by_cases e5 : wk (w b) = 5
        · simp [e5]; omega
        simp [e1, e2, e3, e4, e5]; omega
  exact Nat.le_trans (key _) (by simp)
theorem allv_at {P : CV → Bool} {t : Nat} (h : allv P t = true) {a b c d e : Nat} (hs : a + b + c + d + e ≤ t) : P (a, b, c, d, e) = true := by
  unfold allv at h
  simp only [List.all_eq_true, List.mem_range] at h
  exact h a (by omega) b (by omega) c (by omega) d (by omega) e (by omega)
theorem cap {R : RV} (hW : Wf R) {o L rm : Nat} (ho : SO o L rm) : (bfsP (wR R) L (L + 1)).length ≤ rm := by
  have h := bfsP_bl (wR R) L L 0
  rw [Nat.zero_add] at h
  rw [h, bl_tr]
  have h1 : tr (wR R) L L ([], 0, 0) = cntv L 0 (avv (wR R) ([], 0, 0)) := tr_eq hW L _ ⟨[], rfl, trivial, by simp⟩ (by simp)
  have h2 := sum_le_10 (wR R) ([], 0, 0)
  show (bfsP (wR R) L 0).length + (tr (wR R) L L ([], 0, 0) + 0) ≤ rm
  rw [h1]
  show 0 + _ ≤ _
  unfold avv
  rcases ho with ⟨rfl, rfl, rfl⟩ | ⟨rfl, rfl, rfl⟩
  · have := allv_at cap6 h2
    have := Nat.le_of_ble_eq_true this
    omega
  · have := allv_at cap5 h2
    have := Nat.le_of_ble_eq_true this
    omega
theorem lvl_len {w : Nat → Nat} : ∀ k q, q ∈ lvl w k → q.1.length = k
  | 0, q, h => by
    simp only [lvl, List.mem_singleton] at h
    subst h
    rfl
  | k + 1, q, h => by
    rw [lvl, List.mem_flatMap] at h
    obtain ⟨q0, h1, h2⟩ := h
    unfold exts at h2
    rw [List.mem_map] at h2
    obtain ⟨b, hb, rfl⟩ := h2
    show (q0.1 ++ [b]).length = _
    rw [List.length_append, lvl_len k q0 h1]
    rfl
theorem VL_app (w : Nat → Nat) {j L : Nat} (h : j ≤ L) : ∃ X, VL w L = VL w j ++ X ∧ ∀ q ∈ X, j < q.1.length := by
  induction L with
  | zero =>
    obtain rfl : j = 0 := by omega
    exact ⟨[], by simp, fun q h => by simp at h⟩
  | succ L ih =>
    by_cases e : j = L + 1
    · subst e
      exact ⟨[], by simp, fun q h => by simp at h⟩
    · obtain ⟨X, h1, h2⟩ := ih (by omega)
      refine ⟨X ++ Vn w (L + 1), ?_, fun q hq => ?_⟩
      · rw [← List.append_assoc, ← h1]
        unfold VL
        rw [List.range_succ (n := L + 1), List.flatMap_append]
        simp
      · rcases List.mem_append.mp hq with hq | hq
        · exact h2 q hq
        · unfold Vn at hq
          rw [List.mem_filter] at hq
          rw [lvl_len _ _ hq.1]
          omega
theorem VL_le {w : Nat → Nat} {L : Nat} {q : RW} (h : q ∈ VL w L) : q.1.length ≤ L := by
  obtain ⟨k, h1, h2, _⟩ := VL_mem h
  rw [lvl_len k q h2]
  exact h1
theorem cumU_VL (w : Nat → Nat) (L j : Nat) : cumU (VL w L) j = (VL w (min j L)).length := by
  unfold cumU
  by_cases h : j ≤ L
  · obtain ⟨X, h1, h2⟩ := VL_app w h
    rw [Nat.min_eq_left h, h1, List.countP_append, List.countP_eq_length.mpr (fun q hq => by rw [decide_eq_true_eq]; exact VL_le hq), List.countP_eq_zero.mpr (fun q hq => by rw [decide_eq_true_eq]; have := h2 q hq; omega)]
    rfl
  · rw [Nat.min_eq_right (by omega), List.countP_eq_length.mpr (fun q hq => by rw [decide_eq_true_eq]; have := VL_le hq; omega)]
def fu (o : Nat) (M M' : XM) : Prop := (∀ a j, a ≠ o + 1 → M'.2 a j = M.2 a j) ∧ ∀ a j, ¬ (a = o ∧ j = 2) → ¬ (o + 1 ≤ a ∧ a ≤ o + 7) → M'.1 a j = M.1 a j
theorem fu.rf {o : Nat} {M : XM} : fu o M M := ⟨fun _ _ _ => rfl, fun _ _ _ _ => rfl⟩
theorem fu.tr {o : Nat} {M M' M'' : XM} (h : fu o M M') (h' : fu o M' M'') : fu o M M'' := ⟨fun a j h1 => (h'.1 a j h1).trans (h.1 a j h1), fun a j h1 h2 => (h'.2 a j h1 h2).trans (h.2 a j h1 h2)⟩
theorem fq.fu {o : Nat} {M M' : XM} (h : fq o M M') : fu o M M' := ⟨h.1, fun a j h1 h2 => h.2 a j h1 (by omega)⟩
theorem fu.fr {o : Nat} {M M' : XM} (h : fu o M M') : fr o (o + 8) M M' := fun a ha => ⟨funext fun j => h.2 a j (by omega) (by omega), funext fun j => h.1 a j (by omega)⟩
theorem v_update {N : Nat} (hN : 10000 < N) {o L rm p : Nat} (ho : SO o L rm) (hp : PO p) {R : RV} (hW : Wf R) {M : XM} (hG : GB o L rm p R M) {w : Nat → Nat} (hS : SYw o L rm w M) : ∃ M', fX4_update N [.ref o, .ref p] M = some M' ∧ SYw o L rm (wR R) M' ∧ fu o M M' := by
  have hL := ho.L
  have hne := hp.ne ho
  rw [eX4_update _ _ _ ho.o hp, eX4_isMadeOf _ _ _ ho.o hp]
  rcases l_made (N := N) ho hp hW (fun b hb => (hS.1 b hb).2) hG.1 (fun b hb => (hS.1 b hb).1) 10 0 N (by omega) (by omega) (fun b hb => by omega) with ⟨h1, h2⟩ | h1
  · have h1 : gX4_isMadeOf N N 2 [.ref o, .ref p, .int (Int32.ofInt 0)] [] M = some (bi true, M) := h1
    rw [h1, e_bd, b_z]
    exact ⟨M, rfl, SYw_congr h2 hS, fu.rf⟩
  · have h1 : gX4_isMadeOf N N 2 [.ref o, .ref p, .int (Int32.ofInt 0)] [] M = some (bi false, M) := h1
    rw [h1, e_bd, b_z, cond_false]
    obtain ⟨n, hn⟩ : ∃ n, N = n + 1 + 10 := ⟨N - 11, by omega⟩
    obtain ⟨M1, a1, a2, a3, a4⟩ := l_words (N := N) ho hp hW 10 0 n M (by omega) hG.1 (fun b hb => by omega)
    obtain ⟨M2, b1, b2, b3, b4⟩ := v_begin (N := N) ho M1 (by rw [a3 _ _ (by omega)]; exact hG.2.2.2)
    have a1 : gX4_update N N 11 [.ref o, .ref p, .int (Int32.ofInt 0)] [] M = ((fX4_add N [.ref o, .long (Int64.ofNat 0), .int (Int32.ofInt 0), .int (Int32.ofInt 0), .int (Int32.ofInt 0)] (xwi M1 o 2 (Int32.ofInt 0))).bind fun q0 => gX4_update N n 49 [.ref o, .ref p, .int (Int32.ofInt 0)] [] q0) := by
      rw [← a1, ← hn]
      rfl
    have f1 : fu o M M1 := ⟨fun a j _ => by rw [a2], fun a j h1 h2 => a3 a j (by omega)⟩
    have hG1 : GB o L rm p R M1 := ⟨hG.1.fr f1.fr (by omega), hG.2.1.fr f1.fr (by have := ho.o; omega), by rw [a3 _ _ (by omega)]; exact hG.2.2.1, by rw [a3 _ _ (by omega)]; exact hG.2.2.2⟩
    have hG2 := hG1.fq ho hp b2
    have hc := cap hW ho
    have e1 : bfsP (wR R) L (0 + 1) = [([], 0, 0)] := by
      rw [bfsP_s]
      rfl
    obtain ⟨M3, n', c1, c2, c3, c4⟩ := l_bfs (N := N) (by omega) ho hp hW hc (L + 1) 0 n M2 (by omega) hG2 (by rw [e1]; exact b3) (by rw [e1]; exact b4) (by
      show (bfsP (wR R) L (L + 1)).length - 0 < n
      omega)
    have hG3 := hG2.fq ho hp c2
    have hwf : ∀ q ∈ bfsP (wR R) L (L + 1), wfq R L q := fun q hq => by
      unfold bfsP at hq
      rw [List.mem_flatMap] at hq
      obtain ⟨k, _, hk⟩ := hq
      exact (lvlP_wf k q hk).1
    obtain ⟨M4, d1, d2, d5, d3, d4⟩ := v_keep (N := N) (by omega) ho hp hW hwf hG3 c3 c4 hc
    rw [bfs_fin hW (by omega)] at d3 d4 d5
    refine ⟨M4, ?_, ⟨fun b hb => ⟨?_, wR_60 hW b⟩, ?_, d3, fun n hn => by rw [d4 n hn, cumU_VL], ho, ?_, d5⟩, ((f1.tr b2.fu).tr c2.fu).tr d2.fu⟩
    · dsimp only
      rw [a1, b1, e_bd]
      have c1 : gX4_update N n 49 [.ref o, .ref p, .int (Int32.ofInt 0)] [] M2 = gX4_update N (n' + 1) 49 [.ref o, .ref p, .int (Int32.ofInt (bfsP (wR R) L (L + 1)).length)] [] M3 := c1
      rw [c1, eX4_update_49 _ _ _ _ _ ho.o hp, c4, i_lt (by omega) (by omega), decide_eq_false (by omega), cond_false, d1, e_bd]
      rfl
    · rw [d2.2 _ _ (by omega) (by omega), c2.2 _ _ (by omega) (by omega), b2.2 _ _ (by omega) (by omega)]
      exact a4 b hb
    · rw [← bfs_fin hW (by omega)]
      exact Nat.le_trans (List.length_filter_le _ _) hc
    · exact (hG3.fq ho hp d2).2.2.2
