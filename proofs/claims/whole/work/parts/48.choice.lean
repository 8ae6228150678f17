def Aff (a : Int) (s0 s1 sa : Int × Int × Int × Int) : Prop := sa.1 = s0.1 + a * (s1.1 - s0.1) ∧ sa.2.1 = s0.2.1 + a * (s1.2.1 - s0.2.1) ∧ sa.2.2.1 = s0.2.2.1 + a * (s1.2.2.1 - s0.2.2.1) ∧ s1.2.2.2 = s0.2.2.2 ∧ sa.2.2.2 = s0.2.2.2
theorem aff_rf (a : Int) (s : Int × Int × Int × Int) : Aff a s s s := by
  refine ⟨?_, ?_, ?_, rfl, rfl⟩ <;> rw [Int.sub_self, Int.mul_zero, Int.add_zero]
theorem af_1 (a x0 x1 y : Int) : (x0 + a * (x1 - x0)) * y = x0 * y + a * (x1 * y - x0 * y) := by
  rw [Int.add_mul, Int.mul_assoc, Int.sub_mul]
theorem af_2 (a x0 x1 y0 y1 : Int) : (x0 + a * (x1 - x0)) + (y0 + a * (y1 - y0)) = (x0 + y0) + a * ((x1 + y1) - (x0 + y0)) := by
  rw [show (x1 + y1) - (x0 + y0) = (x1 - x0) + (y1 - y0) by omega, Int.mul_add]
  omega
theorem af_3 (a x0 x1 y : Int) : y * (x0 + a * (x1 - x0)) = y * x0 + a * (y * x1 - y * x0) := by
  rw [Int.mul_comm y, af_1, Int.mul_comm x0, Int.mul_comm x1]
theorem aff_st {a : Int} {w0 w1 wa' : Nat → Nat} {b : Nat} (h1 : w1 b = w0 b) (ha : wa' b = w0 b) {s0 s1 sa : Int × Int × Int × Int} (h : Aff a s0 s1 sa) : Aff a (mst w0 s0 b) (mst w1 s1 b) (mst wa' sa b) := by
  obtain ⟨g1, g2, g3, g4, g5⟩ := h
  unfold mst
  rw [h1, ha]
  by_cases k3 : wk (w0 b) = 3
  · rw [if_pos k3, if_pos k3, if_pos k3]
    refine ⟨g1, g2, ?_, g4, g5⟩
    show (wa (w0 b) : Int) + 1 = ((wa (w0 b) : Int) + 1) + a * (((wa (w0 b) : Int) + 1) - ((wa (w0 b) : Int) + 1))
    rw [Int.sub_self, Int.mul_zero, Int.add_zero]
  rw [if_neg k3, if_neg k3, if_neg k3]
  by_cases k1 : wk (w0 b) = 1
  · rw [if_pos k1, if_pos k1, if_pos k1]
    refine ⟨g1, ?_, ?_, g4, g5⟩
    · show sa.2.1 + sa.2.2.1 * (wa (w0 b) : Int) = (s0.2.1 + s0.2.2.1 * (wa (w0 b) : Int)) + a * ((s1.2.1 + s1.2.2.1 * (wa (w0 b) : Int)) - (s0.2.1 + s0.2.2.1 * (wa (w0 b) : Int)))
      rw [g2, g3, af_1, af_2]
    · show (1 : Int) = 1 + a * (1 - 1)
      omega
  rw [if_neg k1, if_neg k1, if_neg k1]
  by_cases k4 : wk (w0 b) = 4
  · rw [if_pos k4, if_pos k4, if_pos k4]
    exact ⟨g1, g2, g3, rfl, rfl⟩
  rw [if_neg k4, if_neg k4, if_neg k4]
  by_cases k2 : wk (w0 b) = 2
  · rw [if_pos k2, if_pos k2, if_pos k2]
    refine ⟨g1, ?_, g3, g4, g5⟩
    show sa.2.1 * (wa (w0 b) : Int) = s0.2.1 * (wa (w0 b) : Int) + a * (s1.2.1 * (wa (w0 b) : Int) - s0.2.1 * (wa (w0 b) : Int))
    rw [g2, af_1]
  rw [if_neg k2, if_neg k2, if_neg k2]
  refine ⟨?_, ?_, g3, rfl, rfl⟩
  · show sa.1 + sa.2.2.2 * sa.2.1 = (s0.1 + s0.2.2.2 * s0.2.1) + a * ((s1.1 + s1.2.2.2 * s1.2.1) - (s0.1 + s0.2.2.2 * s0.2.1))
    rw [g1, g2, g4, g5, af_3, af_2]
  · show (0 : Int) = 0 + a * (0 - 0)
    omega
theorem wk_w {K a : Nat} (ha : a ≤ 9) : wk (1 + 10 * K + a) = K ∧ wa (1 + 10 * K + a) = a := by
  unfold wk wa
  omega
theorem aff_new {a K b : Nat} (ha : a ≤ 9) {w0 w1 wa' : Nat → Nat} (h0 : w0 b = 1 + 10 * K + 0) (h1 : w1 b = 1 + 10 * K + 1) (h2 : wa' b = 1 + 10 * K + a) (s : Int × Int × Int × Int) : Aff a (mst w0 s b) (mst w1 s b) (mst wa' s b) := by
  unfold mst
  rw [h0, h1, h2, (wk_w (K := K) (show 0 ≤ 9 by omega)).1, (wk_w (K := K) (show 0 ≤ 9 by omega)).2, (wk_w (K := K) (show 1 ≤ 9 by omega)).1, (wk_w (K := K) (show 1 ≤ 9 by omega)).2, (wk_w (K := K) ha).1, (wk_w (K := K) ha).2]
  have rf := aff_rf (a : Int) s
  by_cases k3 : K = 3
  · rw [if_pos k3, if_pos k3, if_pos k3]
    refine ⟨rf.1, rf.2.1, ?_, rfl, rfl⟩
    show (a : Int) + 1 = ((0 : Nat) : Int) + 1 + (a : Int) * ((((1 : Nat) : Int) + 1) - (((0 : Nat) : Int) + 1))
    omega
  rw [if_neg k3, if_neg k3, if_neg k3]
  by_cases k1 : K = 1
  · rw [if_pos k1, if_pos k1, if_pos k1]
    refine ⟨rf.1, ?_, ?_, rfl, rfl⟩
    · show s.2.1 + s.2.2.1 * (a : Int) = (s.2.1 + s.2.2.1 * ((0 : Nat) : Int)) + (a : Int) * ((s.2.1 + s.2.2.1 * ((1 : Nat) : Int)) - (s.2.1 + s.2.2.1 * ((0 : Nat) : Int)))
      rw [show ((0 : Nat) : Int) = 0 from rfl, show ((1 : Nat) : Int) = 1 from rfl, Int.mul_zero, Int.mul_one, Int.add_zero, show s.2.1 + s.2.2.1 - s.2.1 = s.2.2.1 by omega, Int.mul_comm]
    · show (1 : Int) = 1 + (a : Int) * (1 - 1)
      omega
  rw [if_neg k1, if_neg k1, if_neg k1]
  by_cases k4 : K = 4
  · rw [if_pos k4, if_pos k4, if_pos k4]
    exact ⟨rf.1, rf.2.1, rf.2.2.1, rfl, rfl⟩
  rw [if_neg k4, if_neg k4, if_neg k4]
  by_cases k2 : K = 2
  · rw [if_pos k2, if_pos k2, if_pos k2]
    refine ⟨rf.1, ?_, rf.2.2.1, rfl, rfl⟩
    show s.2.1 * (a : Int) = s.2.1 * ((0 : Nat) : Int) + (a : Int) * (s.2.1 * ((1 : Nat) : Int) - s.2.1 * ((0 : Nat) : Int))
    rw [show ((0 : Nat) : Int) = 0 from rfl, show ((1 : Nat) : Int) = 1 from rfl, Int.mul_zero, Int.mul_one, Int.zero_add, Int.sub_zero, Int.mul_comm]
  rw [if_neg k2, if_neg k2, if_neg k2]
  exact aff_rf _ _
theorem aff_fo {a : Int} {w0 w1 wa' : Nat → Nat} : ∀ (l : List Nat) (s0 s1 sa : Int × Int × Int × Int), (∀ b ∈ l, w1 b = w0 b ∧ wa' b = w0 b) → Aff a s0 s1 sa → Aff a (l.foldl (mst w0) s0) (l.foldl (mst w1) s1) (l.foldl (mst wa') sa)
  | [], _, _, _, _, h => h
  | b :: l, _, _, _, hw, h => aff_fo l _ _ _ (fun c hc => hw c (List.mem_cons_of_mem _ hc)) (aff_st (hw b List.mem_cons_self).1 (hw b List.mem_cons_self).2 h)
theorem aff_l {a K nb : Nat} (ha : a ≤ 9) {w0 w1 wa' : Nat → Nat} (h0 : w0 nb = 1 + 10 * K + 0) (h1 : w1 nb = 1 + 10 * K + 1) (h2 : wa' nb = 1 + 10 * K + a) : ∀ (l : List Nat) (s : Int × Int × Int × Int), (∀ b ∈ l, b ≠ nb → w1 b = w0 b ∧ wa' b = w0 b) → l.Nodup → Aff a (l.foldl (mst w0) s) (l.foldl (mst w1) s) (l.foldl (mst wa') s)
  | [], s, _, _ => aff_rf _ s
  | b :: l, s, hw, hn => by
    obtain ⟨n1, n2⟩ := List.nodup_cons.mp hn
    by_cases e : b = nb
    · subst e
      exact aff_fo l _ _ _ (fun c hc => hw c (List.mem_cons_of_mem _ hc) (fun x => n1 (x ▸ hc))) (aff_new ha h0 h1 h2 s)
    · obtain ⟨e1, e2⟩ := hw b List.mem_cons_self e
      have m1 : mst w1 s b = mst w0 s b := by unfold mst; rw [e1]
      have m2 : mst wa' s b = mst w0 s b := by unfold mst; rw [e2]
      show Aff a (l.foldl (mst w0) (mst w0 s b)) (l.foldl (mst w1) (mst w1 s b)) (l.foldl (mst wa') (mst wa' s b))
      rw [m1, m2]
      exact aff_l ha h0 h1 h2 l _ (fun c hc => hw c (List.mem_cons_of_mem _ hc)) n2
theorem mean_aff {a K nb : Nat} (ha : a ≤ 9) {w0 w1 wa' : Nat → Nat} (h0 : w0 nb = 1 + 10 * K + 0) (h1 : w1 nb = 1 + 10 * K + 1) (h2 : wa' nb = 1 + 10 * K + a) {l : List Nat} (hw : ∀ b ∈ l, b ≠ nb → w1 b = w0 b ∧ wa' b = w0 b) (hn : l.Nodup) : mean wa' l = mean w0 l + a * (mean w1 l - mean w0 l) := by
  obtain ⟨g1, g2, g3, g4, g5⟩ := aff_l ha h0 h1 h2 l (0, 0, 1, 1) hw hn
  show (l.foldl (mst wa') (0, 0, 1, 1)).1 + (l.foldl (mst wa') (0, 0, 1, 1)).2.2.2 * (l.foldl (mst wa') (0, 0, 1, 1)).2.1 = ((l.foldl (mst w0) (0, 0, 1, 1)).1 + (l.foldl (mst w0) (0, 0, 1, 1)).2.2.2 * (l.foldl (mst w0) (0, 0, 1, 1)).2.1) + a * (((l.foldl (mst w1) (0, 0, 1, 1)).1 + (l.foldl (mst w1) (0, 0, 1, 1)).2.2.2 * (l.foldl (mst w1) (0, 0, 1, 1)).2.1) - ((l.foldl (mst w0) (0, 0, 1, 1)).1 + (l.foldl (mst w0) (0, 0, 1, 1)).2.2.2 * (l.foldl (mst w0) (0, 0, 1, 1)).2.1))
  rw [g1, g2, g4, g5, af_3, af_2]
theorem exts_kd {w w' : Nat → Nat} (h : ∀ b, (w b != 0) = (w' b != 0) ∧ (w b ≠ 0 → wk (w b) = wk (w' b))) (q : RW) : exts w q = exts w' q := by
  have h1 : exb w q = exb w' q := by
    funext b
    unfold exb
    rw [← (h b).1]
    by_cases e : w b = 0
    · rw [e]; rfl
    · rw [(h b).2 e]
  unfold exts
  rw [h1]
  refine List.map_congr_left (fun b hb => ?_)
  have hb2 := (List.mem_filter.mp hb).2
  rw [← h1] at hb2
  have : w b ≠ 0 := fun e => by
    unfold exb at hb2
    rw [e] at hb2
    simp at hb2
  unfold exq
  rw [(h b).2 this]
theorem lvl_kd {w w' : Nat → Nat} (h : ∀ b, (w b != 0) = (w' b != 0) ∧ (w b ≠ 0 → wk (w b) = wk (w' b))) : ∀ n, lvl w n = lvl w' n
  | 0 => rfl
  | n + 1 => by
    rw [lvl, lvl, lvl_kd h n]
    exact congrArg (fun f => List.flatMap f (lvl w' n)) (funext (exts_kd h))
theorem VL_kd {w w' : Nat → Nat} (h : ∀ b, (w b != 0) = (w' b != 0) ∧ (w b ≠ 0 → wk (w b) = wk (w' b))) (L : Nat) : VL w L = VL w' L := by
  unfold VL
  refine congrArg (fun f => List.flatMap f (List.range (L + 1))) (funext fun n => ?_)
  unfold Vn
  rw [lvl_kd h]
