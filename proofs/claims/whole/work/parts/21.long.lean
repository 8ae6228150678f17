theorem both_refx {t : Nat} {S : SV} (hW : WfS S) {f g : XM → Option (Int32 × XM)} (k : Nat) (hk : k < 5) (N : Nat) (hf : ∀ M, CX t S M → ∃ M', f M = ((fX8_refuse N [.ref 0, .int (Int32.ofInt (-2 - k))] M').bind fun q => xrI (some (.int q.1)) q.2) ∧ CX t S M' ∧ fr 0 64 M M') (hg : ∀ M, CM S M → ∃ M', g M = ((fX9_no N [.ref 64, .int (Int32.ofInt (-2 - k))] M').bind fun q => xrI (some (.int q.1)) q.2) ∧ f8 M M') : both t S f g := by
  refine ⟨rfu S k, Int32.ofInt (-2 - k), rfu_wf hW k, fun M hM => ?_, fun M hM => ?_⟩
  · obtain ⟨M', h1, h2, h3⟩ := hf M hM
    refine ⟨_, ?_, (CX_rfu h2 hk).1, h3.tr (CX_rfu h2 hk).2⟩
    rw [h1, x_ref N hk]
    rfl
  · obtain ⟨M', h1, h2⟩ := hg M hM
    refine ⟨_, ?_, (CM_rfu (CM_f8 hM h2) hk).1, h2.fr.tr (CM_rfu (CM_f8 hM h2) hk).2⟩
    rw [h1, x_no N hk]
    rfl
theorem both_refy {t : Nat} {S : SV} (hW : WfS S) {f g : XM → Option (Int32 × XM)} (k : Nat) (hk : k < 5) (N : Nat) (hf : ∀ M, CX t S M → ∃ M', f M = ((fX8_refuse N [.ref 0, .int (Int32.ofInt (-2 - k))] M').bind fun q => xrI (some (.int ((-100000000) + q.1))) q.2) ∧ CX t S M' ∧ fr 0 64 M M') (hg : ∀ M, CM S M → ∃ M', g M = ((fX9_noMeaning N [.ref 64, .int (Int32.ofInt (-2 - k))] M').bind fun q => xrI (some (.int q.1)) q.2) ∧ f8 M M') : both t S f g := by
  refine ⟨rfu S k, (-100000000) + Int32.ofInt (-2 - k), rfu_wf hW k, fun M hM => ?_, fun M hM => ?_⟩
  · obtain ⟨M', h1, h2, h3⟩ := hf M hM
    refine ⟨_, ?_, (CX_rfu h2 hk).1, h3.tr (CX_rfu h2 hk).2⟩
    rw [h1, x_ref N hk]
    rfl
  · obtain ⟨M', h1, h2⟩ := hg M hM
    refine ⟨_, ?_, (CM_rfu (CM_f8 hM h2) hk).1, h2.fr.tr (CM_rfu (CM_f8 hM h2) hk).2⟩
    rw [h1, eX9_noMeaning, x_no N hk]
    rfl
def cnd (R : RV) (cf : Bool) (q : RW) : Bool := !cf || clm R q.1
theorem rows_cf (R : RV) (cf : Bool) (n : Nat) : rowsM R R.lv cf n = ((Vn (wR R) n).filter (cnd R cf)).map Prod.fst := by
  cases cf with
  | false =>
    rw [rows_Vn]
    congr 1
    exact (List.filter_eq_self.mpr (fun q _ => rfl)).symm
  | true =>
    rw [rows_calm, rows_Vn, List.filter_map]
    rfl
def lastL (R : RV) (cf : Bool) (P : List RW) : Nat := match (P.filter (cnd R cf)).getLast? with | some q => q.1.length | none => 0
theorem lastL_snoc (R : RV) (cf : Bool) (P : List RW) (q : RW) : lastL R cf (P ++ [q]) = if cnd R cf q = true then q.1.length else lastL R cf P := by
  unfold lastL
  rw [List.filter_append]
  by_cases h : cnd R cf q = true
  · rw [if_pos h, List.filter_cons_of_pos h, List.filter_nil, List.getLast?_append]
    rfl
  · rw [if_neg h, List.filter_cons_of_neg h, List.filter_nil, List.append_nil]
theorem lastL_app (R : RV) (cf : Bool) (P Q : List RW) (n : Nat) (hQ : ∀ q ∈ Q, q.1.length = n) : lastL R cf (P ++ Q) = if Q.filter (cnd R cf) = [] then lastL R cf P else n := by
  unfold lastL
  rw [List.filter_append]
  by_cases h : Q.filter (cnd R cf) = []
  · rw [if_pos h, h, List.append_nil]
  · rw [if_neg h, List.getLast?_append]
    cases e : (Q.filter (cnd R cf)).getLast? with
    | none => exact absurd (List.getLast?_eq_none_iff.mp e) h
    | some q => exact hQ q (List.mem_filter.mp (List.mem_of_getLast? e)).1
def f_long (R : RV) (cf : Bool) : Nat → Nat
  | 0 => 0
  | n + 1 => if rowsM R R.lv cf (n + 1) = [] then f_long R cf n else n + 1
theorem f_long_eq (R : RV) (cf : Bool) : ∀ n, lastL R cf (VL (wR R) n) = f_long R cf n
  | 0 => rfl
  | n + 1 => by
    rw [VL_s, lastL_app R cf _ _ (n + 1) (fun q hq => Vn_len hq), f_long_eq R cf n, f_long, rows_cf]
    by_cases h : (Vn (wR R) (n + 1)).filter (cnd R cf) = []
    · rw [if_pos h, if_pos (by rw [h]; rfl)]
    · rw [if_neg h, if_neg (fun x => h (List.map_eq_nil_iff.mp x))]
theorem l_most {N : Nat} (hN : 11 < N) {o L rm p : Nat} (ho : SO o L rm) (hp : PO p) {R : RV} (hW : Wf R) {M : XM} (hR : cv p R M) (hS : SYw o L rm (wR R) M) (cf : Bool) : ∀ (u : Nat) (P : List RW) (n : Nat), P.length = u → (∃ X, VL (wR R) L = P ++ X) → u < n → gX4_most N n 11 [.ref o, .ref p, .int (bi cf), .int (Int32.ofInt (P.length : Int) - Int32.ofInt 1)] [] M = some (Int32.ofInt (lastL R cf P), M)
  | 0, P, n + 1, hu, hX, hn => by
    obtain rfl := List.eq_nil_of_length_eq_zero hu
    rw [eX4_most_11 _ _ _ _ _ _ ho.o hp, i_sub, show ((([] : List RW).length : Nat) : Int) - 1 = -1 from rfl, show (0 : Int32) = Int32.ofInt 0 from rfl, i_lt (by omega) (by omega), decide_eq_true (by omega)]
    rfl
  | u + 1, P, n + 1, hu, hX, hn => by
    obtain ⟨X, hX⟩ := hX
    have hL := ho.L
    have hrm := hS.2.1
    obtain ⟨P', q, rfl⟩ : ∃ P' q, P = P' ++ [q] := by
      rcases List.eq_nil_or_concat P with h | ⟨P', q, h⟩
      · rw [h] at hu; simp at hu
      · exact ⟨P', q, by rw [h, List.concat_eq_append]⟩
    rw [List.length_append] at hu
    simp only [List.length_cons, List.length_nil] at hu
    have hq : (VL (wR R) L)[P'.length]? = some q := by
      rw [hX, List.append_assoc, List.getElem?_append_right (Nat.le_refl _)]
      simp
    have hql := (List.getElem?_eq_some_iff.mp hq).1
    obtain ⟨m1, m2, m3, m4⟩ := SM_j (SM_0 hS (Nat.le_refl _)) hq
    rw [Nat.zero_add] at m1 m2
    rw [lastL_snoc, eX4_most_11 _ _ _ _ _ _ ho.o hp, List.length_append, i_sub, show (((P'.length + [q].length : Nat) : Int) - 1) = (P'.length : Int) by simp, show (0 : Int32) = Int32.ofInt 0 from rfl, i_lt (by omega) (by omega), decide_eq_false (by omega), cond_false]
    show (bif xeq (bi cf) 0 then _ else _) = _
    rw [b_z]
    cases cf with
    | false =>
      rw [cond_false, m2]
      rfl
    | true =>
      rw [cond_true, v_isCalm hN ho hp hW hR (List.mem_of_getElem? hq) (by omega) m1 m2, e_bd]
      show (bif xeq (bi (clm R q.1)) 0 then _ else _) = _
      rw [b_z]
      have hc : cnd R true q = clm R q.1 := rfl
      rw [hc]
      cases clm R q.1 with
      | true =>
        rw [cond_true, if_pos rfl]
        dsimp only
        rw [m2]
        rfl
      | false =>
        rw [cond_false, if_neg Bool.false_ne_true]
        dsimp only
        rw [i_add, show (P'.length : Int) + -1 = (P'.length : Int) - 1 by omega, ← i_sub]
        exact l_most hN ho hp hW hR hS true u P' n (by omega) ⟨[q] ++ X, by rw [hX, List.append_assoc]⟩ (by omega)
theorem l_long9 {N : Nat} (hN : big N) {R : RV} (hW : Wf R) (cf : Bool) : ∀ (k n : Nat) (M : XM), k ≤ 6 → k < n → mv R M → M.1 80 0 = Int32.ofInt 0 → ∃ M', gX9_longest N n 19 [.ref 64, .int (bi cf), .int (Int32.ofInt k)] [] M = some (Int32.ofInt (f_long R cf k), M') ∧ fe M M'
  | 0, n + 1, M, hk, hn, hR, h80 => by
    rw [eX9_longest_19, show (0 : Int32) = Int32.ofInt 0 from rfl, i_lt (by omega) (by omega), decide_eq_false (by omega)]
    exact ⟨M, rfl, fe.rf⟩
  | k + 1, n + 1, M, hk, hn, hR, h80 => by
    have hN' := hN
    unfold big at hN'
    obtain ⟨M1, a1, a2, a3⟩ := v_begins (N := N) (R := R) (m := R.lv) (cf := cf) (many := k + 1) (by omega) h80
    have hx : ∀ A B : Option (Int32 × XM), (bif xeq (bi cf) (Int32.ofInt 1) then A else B) = bif cf then A else B := by cases cf <;> intro A B <;> rfl
    rw [eX9_longest_19, show (0 : Int32) = Int32.ofInt 0 from rfl, i_lt (by omega) (by omega), decide_eq_true (by omega), cond_true, v_living (by omega) hR hW, e_bd, hx]
    have hb : (bif cf then (fX9_begins N [.ref 64, .int (Int32.ofInt ((k + 1 : Nat) : Int)), .int (Int32.ofInt R.lv), .int (Int32.ofInt 1)] M) else (fX9_begins N [.ref 64, .int (Int32.ofInt ((k + 1 : Nat) : Int)), .int (Int32.ofInt R.lv), .int (Int32.ofInt 0)] M)) = some M1 := by
      rw [← a1]
      cases cf <;> rfl
    have hmk : ((k + 1 : Nat) : Int) + -1 = (k : Int) := by omega
    cases hQ : rowsM R R.lv cf (k + 1) with
    | nil =>
      rw [hQ] at a3
      obtain ⟨M2, b1, b2⟩ := v_goes0 hN hW (lv_small hW) (by omega) (mv_fe hR a2) a3
      obtain ⟨M3, c1, c2⟩ := l_long9 hN hW cf k n M2 (by omega) (by omega) (mv_fe (mv_fe hR a2) b2) (by rw [b2.2 _ _ (by omega) (by omega) (by omega), a2.2 _ _ (by omega) (by omega) (by omega)]; exact h80)
      refine ⟨M3, ?_, (a2.tr b2).tr c2⟩
      rw [f_long, if_pos hQ, ← c1, ← hmk, ← i_add]
      cases cf with
      | true =>
        rw [cond_true] at hb ⊢
        dsimp only
        rw [hb, e_bd, b1]
        rfl
      | false =>
        rw [cond_false] at hb ⊢
        dsimp only
        rw [hb, e_bd, b1]
        rfl
    | cons l Q =>
      rw [hQ] at a3
      obtain ⟨M2, b1, b2, _⟩ := v_goes1 hN hW (lv_small hW) (by omega) (mv_fe hR a2) a3
      refine ⟨M2, ?_, a2.tr b2⟩
      rw [f_long, if_neg (by rw [hQ]; exact List.cons_ne_nil _ _)]
      cases cf with
      | true =>
        rw [cond_true] at hb ⊢
        dsimp only
        rw [hb, e_bd, b1]
        rfl
      | false =>
        rw [cond_false] at hb ⊢
        dsimp only
        rw [hb, e_bd, b1]
        rfl
set_option maxRecDepth 100000 in
theorem op_longest {t : Nat} {S : SV} (hW : WfS S) {N : Nat} (hN : big N) (a : Int32) : both t S (fX8_longest N [.ref 0, .int a]) (fX9_longest N [.ref 64, .int a]) := by
  obtain ⟨x, hx, rfl⟩ := i_ex a
  have hN' := hN
  unfold big at hN'
  by_cases h1 : 0 ≤ x ∧ x ≤ 1
  · obtain ⟨cf, hcf⟩ : ∃ cf : Bool, Int32.ofInt x = bi cf := by
      rcases (show x = 0 ∨ x = 1 by omega) with rfl | rfl
      · exact ⟨false, rfl⟩
      · exact ⟨true, rfl⟩
    have hx1 : ∀ A B : Option (Int32 × XM), (bif xeq (bi cf) (Int32.ofInt 1) then A else B) = bif cf then A else B := by cases cf <;> intro A B <;> rfl
    refine both_v hW (Int32.ofInt (f_long S.R cf 6)) (fun M hM => ?_) (fun M hM => ?_)
    · obtain ⟨M', a1, a2, a3, a4⟩ := v_now hN hW hM
      have so : SO 22 6 2400 := .inl ⟨rfl, rfl, rfl⟩
      have po : PO 1 := .inl rfl
      refine ⟨M', ?_, a2, a4⟩
      have hrm := VL_rm a3 (n := 6) (by omega)
      have hc := l_most (N := N) (by omega) so po hW.1 a2.1 a3 cf (VL (wR S.R) 6).length (VL (wR S.R) 6) N rfl ⟨[], by simp⟩ (by omega)
      rw [f_long_eq] at hc
      have hm : fX4_most N [.ref 22, .ref 1, .int (bi cf)] M' = some (Int32.ofInt (f_long S.R cf 6), M') := by
        rw [eX4_most _ _ _ _ (by omega) (by omega), a2.2.2.2.2.2.2.2.1.1]
        show ((fX4_upTo N [.ref 22, .int (Int32.ofInt ((6 : Nat) : Int))] M').bind _) = _
        rw [v_upTo so a3 (by omega), e_bd]
        exact hc
      rw [eX8_longest, chk0 hx (by omega), decide_eq_true h1, cond_true, a1, e_bd, hcf, hx1]
      show (bif cf then ((fX4_most N [.ref 22, .ref 1, .int (bi true)] M').bind _) else ((fX4_most N [.ref 22, .ref 1, .int (bi false)] M').bind _)) = _
      cases cf with
      | true => rw [cond_true, hm]; rfl
      | false => rw [cond_false, hm]; rfl
    · obtain ⟨M', b1, b2⟩ := l_long9 hN hW.1 cf 6 N M (by omega) (by omega) hM.1 hM.2.2.2.2.2.2.2.1
      refine ⟨M', ?_, b2.f8⟩
      rw [eX9_longest, v_win hx (by omega) (by omega), e_bd, b_z, decide_eq_true h1, cond_true, hcf]
      exact b1
  · refine both_ref' hW 0 (by omega) N (fun M hM => ?_) (fun M hM => ?_)
    · rw [eX8_longest, chk0 hx (by omega), decide_eq_false h1]; rfl
    · rw [eX9_longest, v_win hx (by omega) (by omega), e_bd, b_z, decide_eq_false h1]; rfl
