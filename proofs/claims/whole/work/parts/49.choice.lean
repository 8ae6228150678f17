theorem lv_nb {R : RV} (hW : Wf R) : R.lv.testBit R.nb = false := Nat.testBit_lt_two_pow hW.2.1
theorem wR_add {R : RV} (hW : Wf R) (K a : Nat) (b : Nat) : wR (R.add K a 0) b = if b = R.nb then 1 + 10 * K + a else wR R b := by
  show (if b < R.nb + 1 ∧ (R.lv ||| 2 ^ R.nb).testBit b = true then 1 + 10 * upn R.kd R.nb K b + upn R.am R.nb a b else 0) = _
  rw [Nat.testBit_or, Nat.testBit_two_pow]
  by_cases e : b = R.nb
  · subst e
    rw [if_pos rfl, upn_eq, upn_eq, if_pos ⟨by omega, by simp⟩]
  · rw [if_neg e, upn_ne _ _ e, upn_ne _ _ e]
    unfold wR
    by_cases h : b < R.nb ∧ R.lv.testBit b = true
    · rw [if_pos h, if_pos ⟨by omega, by simp [h.2]⟩]
    · rw [if_neg h, if_neg (fun x => h ⟨by omega, by
        have := x.2
        rw [decide_eq_false (show ¬ R.nb = b by omega), Bool.or_false] at this
        exact this⟩)]
theorem VL_add {R : RV} (hW : Wf R) {K a a' : Nat} (ha : a ≤ 9) (ha' : a' ≤ 9) (L : Nat) : VL (wR (R.add K a 0)) L = VL (wR (R.add K a' 0)) L := by
  refine VL_kd (fun b => ?_) L
  rw [wR_add hW, wR_add hW]
  by_cases e : b = R.nb
  · rw [if_pos e, if_pos e, (wk_w ha).1, (wk_w ha').1]
    refine ⟨?_, fun _ => rfl⟩
    rw [bne_iff_ne.mpr (by omega), bne_iff_ne.mpr (by omega)]
  · rw [if_neg e, if_neg e]
    exact ⟨rfl, fun _ => rfl⟩
theorem wM_add {R : RV} (hW : Wf R) (K a : Nat) : wM (R.add K a 0) R.lv = wM R R.lv := by
  funext b
  show (if b < R.nb + 1 ∧ R.lv.testBit b = true then 1 + 10 * upn R.kd R.nb K b + upn R.am R.nb a b else 0) = (if b < R.nb ∧ R.lv.testBit b = true then 1 + 10 * R.kd b + R.am b else 0)
  by_cases e : b = R.nb
  · subst e
    rw [if_neg (fun h => by rw [lv_nb hW] at h; exact Bool.false_ne_true h.2), if_neg (fun h => Nat.lt_irrefl _ h.1)]
  · rw [upn_ne _ _ e, upn_ne _ _ e]
    by_cases h : b < R.nb ∧ R.lv.testBit b = true
    · rw [if_pos h, if_pos ⟨by omega, h.2⟩]
    · rw [if_neg h, if_neg (fun x => h ⟨by omega, x.2⟩)]
theorem any_or {α : Type} (f g : α → Bool) : ∀ l : List α, l.any (fun x => f x || g x) = (l.any f || l.any g)
  | [] => rfl
  | a :: l => by
    rw [List.any_cons, List.any_cons, List.any_cons, any_or f g l]
    cases f a <;> cases g a <;> cases l.any f <;> cases l.any g <;> rfl
theorem any_cg {α : Type} {f g : α → Bool} : ∀ {l : List α}, (∀ x ∈ l, f x = g x) → l.any f = l.any g
  | [], _ => rfl
  | a :: l, h => by
    rw [List.any_cons, List.any_cons, h a List.mem_cons_self, any_cg (fun x hx => h x (List.mem_cons_of_mem _ hx))]
theorem any_VL (R : RV) (f : List Nat → Bool) (L : Nat) : (VL (wR R) L).any (fun q => f q.1) = (List.range (L + 1)).any (fun n => (rowsM R R.lv false n).any f) := by
  unfold VL
  rw [List.any_flatMap]
  refine any_cg (fun n _ => ?_)
  rw [rows_Vn, List.any_map]
  rfl
theorem any_fl {α : Type} (f p : α → Bool) : ∀ l : List α, (l.filter p).any f = l.any (fun x => p x && f x)
  | [] => rfl
  | a :: l => by
    rw [List.any_cons, ← any_fl f p l]
    by_cases h : p a = true
    · rw [List.filter_cons_of_pos h, List.any_cons, h, Bool.true_and]
    · rw [List.filter_cons_of_neg h, (Bool.not_eq_true _).mp h, Bool.false_and, Bool.false_or]
theorem any_add {R : RV} (hW : Wf R) (K a : Nat) (f : List Nat → Bool) (L : Nat) : (VL (wR R) L).any (fun q => f q.1) = (VL (wR (R.add K a 0)) L).any (fun q => allm R.lv q.1 && f q.1) := by
  rw [any_VL, any_VL (R.add K a 0) (fun l => allm R.lv l && f l)]
  refine any_cg (fun n _ => ?_)
  have h1 : rowsM R R.lv false n = rowsM (R.add K a 0) R.lv false n := by
    unfold rowsM
    rw [exM_fun, exM_fun, wM_add hW]
  rw [h1, rows_sub (R := R.add K a 0) (m := R.lv) (fun c hc => by
    show (R.lv ||| 2 ^ R.nb).testBit c = true
    rw [Nat.testBit_or, hc]
    rfl), any_fl]
theorem mean_cg {w w' : Nat → Nat} : ∀ {l : List Nat} (s : Int × Int × Int × Int), (∀ b ∈ l, w b = w' b) → l.foldl (mst w) s = l.foldl (mst w') s
  | [], _, _ => rfl
  | b :: l, s, h => by
    show l.foldl (mst w) (mst w s b) = l.foldl (mst w') (mst w' s b)
    have : mst w s b = mst w' s b := by unfold mst; rw [h b List.mem_cons_self]
    rw [this]
    exact mean_cg _ (fun c hc => h c (List.mem_cons_of_mem _ hc))
def lin (R : RV) (K a : Nat) (l : List Nat) : Int := mean (wR (R.add K 0 0)) l + a * (mean (wR (R.add K 1 0)) l - mean (wR (R.add K 0 0)) l)
theorem cm_add {R : RV} (hW : Wf R) (hn : R.nb < 10) {K a : Nat} (hK : K < 6) (ha : a ≤ 9) (z : Int) : cm (R.add K a 0) (R.add K a 0).lv z = (cm R R.lv z || (VL (wR (R.add K 0 0)) 5).any (fun q => q.2.2.testBit R.nb && decide (lin R K a q.1 = z))) := by
  have hWa := wf_add hW hn hK ha (show cellok 0 by unfold cellok; omega)
  have e1 : cm R R.lv z = (VL (wR (R.add K a 0)) 5).any (fun q => allm R.lv q.1 && (mez R z q.1 && allm R.lv q.1)) := any_add hW K a (fun l => mez R z l && allm R.lv l) 5
  rw [e1, VL_add hW (show 0 ≤ 9 by omega) ha, ← any_or]
  refine any_cg (fun q hq => ?_)
  obtain ⟨⟨g1, _, g0⟩, g2, g3, _, g5⟩ := VL_row hWa hq
  have hall : allm (R.add K a 0).lv q.1 = true := List.all_eq_true.mpr (fun c hc => (g1 c hc).2)
  have hlin : mean (wR (R.add K a 0)) q.1 = lin R K a q.1 := mean_aff (nb := R.nb) ha (by rw [wR_add hW, if_pos rfl]) (by rw [wR_add hW, if_pos rfl]) (by rw [wR_add hW, if_pos rfl]) (fun b _ hb => by
    rw [wR_add hW, wR_add hW, wR_add hW, if_neg hb, if_neg hb, if_neg hb]
    exact ⟨rfl, rfl⟩) g0
  rw [hall, Bool.and_true, g5]
  show decide (mean (wR (R.add K a 0)) q.1 = z) = _
  by_cases hin : R.nb ∈ q.1
  · have hno : allm R.lv q.1 = false := by
      cases h : allm R.lv q.1 with
      | false => rfl
      | true =>
        have := List.all_eq_true.mp h _ hin
        rw [lv_nb hW] at this
        cases this
    rw [hno, Bool.false_and, Bool.false_or, decide_eq_true hin, Bool.true_and, hlin]
  · have hyes : allm R.lv q.1 = true := List.all_eq_true.mpr (fun c hc => by
      have h1 := (g1 c hc).2
      have h2 : c ≠ R.nb := fun e => hin (e ▸ hc)
      have h1 : (R.lv ||| 2 ^ R.nb).testBit c = true := h1
      rw [Nat.testBit_or, Nat.testBit_two_pow, decide_eq_false (fun x => h2 x.symm), Bool.or_false] at h1
      exact h1)
    rw [hyes, Bool.true_and, Bool.and_true, decide_eq_false hin, Bool.false_and, Bool.or_false]
    show _ = decide (mean (wR R) q.1 = z)
    have hm : mean (wR (R.add K a 0)) q.1 = mean (wR R) q.1 := by
      unfold mean
      rw [mean_cg (w' := wR R) _ (fun b hb => by rw [wR_add hW, if_neg (fun (e : b = R.nb) => hin (e ▸ hb))])]
    rw [hm]
