theorem find_congr {α : Type} {P Q : α → Bool} : ∀ {X : List α}, (∀ q ∈ X, P q = Q q) → X.find? P = X.find? Q
  | [], _ => rfl
  | q :: X, h => by
    rw [List.find?_cons, List.find?_cons, h q List.mem_cons_self, find_congr (fun x hx => h x (List.mem_cons_of_mem _ hx))]
theorem allm_lv {R : RV} (hW : Wf R) {L : Nat} {q : RW} (h : q ∈ VL (wR R) L) : allm R.lv q.1 = true := by
  unfold allm
  rw [List.all_eq_true]
  intro c hc
  exact ((VL_row hW h).1.1 c hc).2
theorem mzc_lv {R : RV} (hW : Wf R) (cf : Bool) (z : Int) (h : Nat) : (VL (wR R) h).find? (mzc R R.lv cf z) = (VL (wR R) h).find? (fun q => mez R z q.1 && cnd R cf q) := find_congr (fun q hq => by
  unfold mzc cndm
  rw [allm_lv hW hq, Bool.and_true])
theorem v_isTold {N : Nat} {z : Int} (hz : rg z) (M : XM) : fX8_isTold N [.int (Int32.ofInt z)] M = some (bi (decide (-9999 ≤ z ∧ z ≤ 9999)), M) := by
  rw [eX8_isTold, chk hz (by omega) (by omega)]
  cases decide (-9999 ≤ z ∧ z ≤ 9999) <;> rfl
theorem v_find {N : Nat} (hN : big N) {t : Nat} {S : SV} (hW : WfS S) {M : XM} (hM : CX t S M) (hS : SYw 22 6 2400 (wR S.R) M) {h : Nat} (hh : h ≤ 6) (cf : Bool) {z : Int} (hz : rg z) : ((VL (wR S.R) h).find? (fun q => mez S.R z q.1 && cnd S.R cf q) = none ∧ fX4_find N [.ref 22, .ref 1, .int (Int32.ofInt z), .int (Int32.ofInt h), .int (bi cf)] M = some (Int32.ofInt (-1), M)) ∨ (∃ (j : Nat) (q : RW), (VL (wR S.R) h).find? (fun q => mez S.R z q.1 && cnd S.R cf q) = some q ∧ q ∈ VL (wR S.R) 6 ∧ j < 2400 ∧ (∀ N, fX4_rowOf N [.ref 22, .int (Int32.ofInt j)] M = some (Int32.ofInt (pack q.1 : Nat), M)) ∧ (∀ N, fX4_lengthOf N [.ref 22, .int (Int32.ofInt j)] M = some (Int32.ofInt (q.1.length : Nat), M)) ∧ fX4_find N [.ref 22, .ref 1, .int (Int32.ofInt z), .int (Int32.ofInt h), .int (bi cf)] M = some (Int32.ofInt j, M)) := by
  unfold big at hN
  have so : SO 22 6 2400 := .inl ⟨rfl, rfl, rfl⟩
  have po : PO 1 := .inl rfl
  have hrm := VL_rm hS hh
  obtain ⟨X, hX, _⟩ := VL_app (wR S.R) hh
  rw [eX4_find _ _ _ _ _ _ (by omega) (by omega)]
  rcases l_find (N := N) (by omega) so po hW.1 hM.1 hS hh cf hz (VL (wR S.R) h) 0 N (SM_0 hS hh) (fun q hq => by rw [hX]; exact List.mem_append_left _ hq) (by omega) (by omega) with ⟨e1, e2⟩ | ⟨j, q, e1, e2, e3⟩
  · exact .inl ⟨e1, e2⟩
  · rw [Nat.zero_add] at e3
    have hj := (List.getElem?_eq_some_iff.mp e1).1
    have h0 := SM_j (SM_0 hS hh) e1
    rw [Nat.zero_add] at h0
    exact .inr ⟨j, q, e2, by rw [hX]; exact List.mem_append_left _ (List.mem_of_getElem? e1), by omega, h0.1, h0.2.1, e3⟩
set_option maxRecDepth 100000 in
theorem op_shortest {t : Nat} {S : SV} (hW : WfS S) {N : Nat} (hN : big N) (a b c : Int32) (cf : Bool) : both t S (fX8_shortest N [.ref 0, .int a, .int b, .int (bi cf), .int c]) (fX9_shortest N [.ref 64, .int a, .int b, .int (bi cf), .int c]) := by
  obtain ⟨z, hz, rfl⟩ := i_ex a
  obtain ⟨h, hh, rfl⟩ := i_ex b
  obtain ⟨i, hi, rfl⟩ := i_ex c
  have hN' := hN
  unfold big at hN'
  by_cases h1 : -9999 ≤ z ∧ z ≤ 9999
  · by_cases h2 : 1 ≤ h ∧ h ≤ 6
    · by_cases h3 : i < -1
      · refine both_ref' hW 0 (by omega) N (fun M hM => ?_) (fun M hM => ?_)
        · rw [eX8_shortest, v_isTold hz, e_bd, b_z, decide_eq_true h1, cond_true, chk hh (by omega) (by omega), decide_eq_true h2, cond_true, i_lt hi (by omega), decide_eq_true h3]; rfl
        · rw [eX9_shortest, v_win hz (by omega) (by omega), e_bd, b_z, decide_eq_true h1, cond_true, v_win hh (by omega) (by omega), e_bd, b_z, decide_eq_true h2, cond_true, i_lt hi (by omega), decide_eq_true h3]; rfl
      · obtain ⟨h, rfl⟩ := Int.eq_ofNat_of_zero_le (show 0 ≤ h by omega)
        have cls : ∀ M, fX8_shortest N [.ref 0, .int (Int32.ofInt z), .int (Int32.ofInt h), .int (bi cf), .int (Int32.ofInt i)] M = ((fX8_sayingsNow N [.ref 0] M).bind fun q1 => (fX4_find N [.ref 22, .ref 1, .int (Int32.ofInt z), .int (Int32.ofInt h), .int (bi cf)] q1).bind fun q2 => bif xeq q2.1 (Int32.ofInt (-1)) then (bif decide (i = -1) then (xrI (some (.int (Int32.ofInt (-1)))) q2.2) else ((fX8_refuse N [.ref 0, .int (Int32.ofInt (-5))] q2.2).bind fun q3 => xrI (some (.int q3.1)) q3.2)) else ((fX4_lengthOf N [.ref 22, .int q2.1] q2.2).bind fun q3 => bif decide (i = -1) then (xrI (some (.int q3.1)) q3.2) else (bif xlt (Int32.ofInt i) q3.1 then ((fX4_rowOf N [.ref 22, .int q2.1] q3.2).bind fun q4 => (fX2_at N [.long q4.1.toInt64, .int (Int32.ofInt i)] q4.2).bind fun q5 => xrI (some (.int q5.1)) q5.2) else ((fX8_refuse N [.ref 0, .int (Int32.ofInt (-5))] q3.2).bind fun q4 => xrI (some (.int q4.1)) q4.2)))) := by
          intro M
          rw [eX8_shortest, v_isTold hz, e_bd, b_z, decide_eq_true h1, cond_true, chk hh (by omega) (by omega), decide_eq_true h2, cond_true, i_lt hi (by omega), decide_eq_false h3, cond_false]
          simp only [cond_false, i_eq hi (show rg (-1) by omega)]
        have mdl : ∀ M, CM S M → fX9_shortest N [.ref 64, .int (Int32.ofInt z), .int (Int32.ofInt h), .int (bi cf), .int (Int32.ofInt i)] M = ((fX9_shortestBy N [.ref 64, .int (Int32.ofInt z), .int (Int32.ofInt h), .int (Int32.ofInt S.R.lv), .int (bi cf)] M).bind fun q3 => bif decide (i = -1) then (xrI (some (.int q3.1)) q3.2) else (bif xlt (Int32.ofInt i) q3.1 then (bif xin (Int32.ofInt i) 10 then xrI (some (.int (q3.2.1 79 (Int32.ofInt i).toNatClampNeg))) q3.2 else none) else ((fX9_no N [.ref 64, .int (Int32.ofInt (-5))] q3.2).bind fun q4 => xrI (some (.int q4.1)) q4.2))) := by
          intro M hM
          rw [eX9_shortest, v_win hz (by omega) (by omega), e_bd, b_z, decide_eq_true h1, cond_true, v_win hh (by omega) (by omega), e_bd, b_z, decide_eq_true h2, cond_true, i_lt hi (by omega), decide_eq_false h3, cond_false, v_living (by omega) hM.1 hW.1, e_bd, i_eq hi (by omega)]
          rfl
        have hmn : xeq (Int32.ofInt (-1)) (Int32.ofInt (-1)) = true := by decide +kernel
        cases hF : (VL (wR S.R) h).find? (fun q => mez S.R z q.1 && cnd S.R cf q) with
        | none =>
          have cl2 : ∀ M, CX t S M → ∃ M', fX8_shortest N [.ref 0, .int (Int32.ofInt z), .int (Int32.ofInt h), .int (bi cf), .int (Int32.ofInt i)] M = (bif decide (i = -1) then (xrI (some (.int (Int32.ofInt (-1)))) M') else ((fX8_refuse N [.ref 0, .int (Int32.ofInt (-5))] M').bind fun q3 => xrI (some (.int q3.1)) q3.2)) ∧ CX t S M' ∧ fr 0 64 M M' := by
            intro M hM
            obtain ⟨M', a1, a2, a3, a4⟩ := v_now hN hW hM
            refine ⟨M', ?_, a2, a4⟩
            rcases v_find hN hW a2 a3 (h := h) (by omega) cf hz with ⟨e1, e2⟩ | ⟨j, q, e1, _⟩
            · rw [cls, a1, e_bd, e2, e_bd, hmn, cond_true]
            · rw [hF] at e1; cases e1
          have ml2 : ∀ M, CM S M → ∃ M', fX9_shortest N [.ref 64, .int (Int32.ofInt z), .int (Int32.ofInt h), .int (bi cf), .int (Int32.ofInt i)] M = (bif decide (i = -1) then (xrI (some (.int (Int32.ofInt (-1)))) M') else ((fX9_no N [.ref 64, .int (Int32.ofInt (-5))] M').bind fun q3 => xrI (some (.int q3.1)) q3.2)) ∧ f8 M M' := by
            intro M hM
            rcases v_sb hN hW.1 (m := S.R.lv) (fun _ x => x) (cf := cf) hz (h := h) (by omega) hM.1 hM.2.2.2.2.2.2.2.1 with ⟨e1, M', e2, e3⟩ | ⟨q, e1, _⟩
            · refine ⟨M', ?_, e3.f8⟩
              rw [mdl M hM, e2, e_bd]
              dsimp only
              rw [i_lt hi (by omega), decide_eq_false (show ¬ i < -1 by omega), cond_false]
            · rw [mzc_lv hW.1, hF] at e1; cases e1
          by_cases h4 : i = -1
          · refine both_v hW (Int32.ofInt (-1)) (fun M hM => ?_) (fun M hM => ?_)
            · obtain ⟨M', g1, g2, g3⟩ := cl2 M hM
              exact ⟨M', by rw [g1, decide_eq_true h4]; rfl, g2, g3⟩
            · obtain ⟨M', g1, g2⟩ := ml2 M hM
              exact ⟨M', by rw [g1, decide_eq_true h4]; rfl, g2⟩
          · refine both_refx hW 3 (by omega) N (fun M hM => ?_) (fun M hM => ?_)
            · obtain ⟨M', g1, g2, g3⟩ := cl2 M hM
              exact ⟨M', by rw [g1, decide_eq_false h4]; rfl, g2, g3⟩
            · obtain ⟨M', g1, g2⟩ := ml2 M hM
              exact ⟨M', by rw [g1, decide_eq_false h4]; rfl, g2⟩
        | some q =>
          have hq6 : q ∈ VL (wR S.R) 6 := by
            obtain ⟨X, hX, _⟩ := VL_app (wR S.R) (j := h) (L := 6) (by omega)
            rw [hX]
            exact List.mem_append_left _ (List.mem_of_find?_eq_some hF)
          obtain ⟨v1, v2, v3, v4, v5⟩ := VL_row hW.1 hq6
          have h16 : ∀ c ∈ q.1, c < 16 := fun c hc => by have := (v1.1 c hc).1; have := hW.1.1; omega
          have hpk : pack q.1 < 2147483648 := by have := pack_24 h16 (by omega); omega
          have cl2 : ∀ M, CX t S M → ∃ M', fX8_shortest N [.ref 0, .int (Int32.ofInt z), .int (Int32.ofInt h), .int (bi cf), .int (Int32.ofInt i)] M = (bif decide (i = -1) then (xrI (some (.int (Int32.ofInt q.1.length))) M') else (bif decide (i < q.1.length) then (fX2_at N [.long (Int64.ofInt (pack q.1 : Nat)), .int (Int32.ofInt i)] M').bind fun q3 => xrI (some (.int q3.1)) q3.2 else ((fX8_refuse N [.ref 0, .int (Int32.ofInt (-5))] M').bind fun q3 => xrI (some (.int q3.1)) q3.2))) ∧ CX t S M' ∧ fr 0 64 M M' := by
            intro M hM
            obtain ⟨M', a1, a2, a3, a4⟩ := v_now hN hW hM
            refine ⟨M', ?_, a2, a4⟩
            rcases v_find hN hW a2 a3 (h := h) (by omega) cf hz with ⟨e1, e2⟩ | ⟨j, q', e1, e2, e3, e4, e5, e6⟩
            · rw [hF] at e1; cases e1
            · rw [hF] at e1
              cases e1
              rw [cls, a1, e_bd, e6, e_bd]
              dsimp only
              rw [i_eq (by omega) (by omega), decide_eq_false (by omega), cond_false, e5, e_bd]
              dsimp only
              rw [i_lt hi (by omega), e4, e_bd]
              dsimp only
              rw [i_64 hpk]
          have ml2 : ∀ M, CM S M → ∃ M', fX9_shortest N [.ref 64, .int (Int32.ofInt z), .int (Int32.ofInt h), .int (bi cf), .int (Int32.ofInt i)] M = (bif decide (i = -1) then (xrI (some (.int (Int32.ofInt q.1.length))) M') else (bif decide (i < q.1.length) then (bif xin (Int32.ofInt i) 10 then xrI (some (.int (M'.1 79 (Int32.ofInt i).toNatClampNeg))) M' else none) else ((fX9_no N [.ref 64, .int (Int32.ofInt (-5))] M').bind fun q3 => xrI (some (.int q3.1)) q3.2))) ∧ f8 M M' ∧ rowAt q.1 M' := by
            intro M hM
            rcases v_sb hN hW.1 (m := S.R.lv) (fun _ x => x) (cf := cf) hz (h := h) (by omega) hM.1 hM.2.2.2.2.2.2.2.1 with ⟨e1, _⟩ | ⟨q', e1, M', e2, e3, e4⟩
            · rw [mzc_lv hW.1, hF] at e1; cases e1
            · rw [mzc_lv hW.1, hF] at e1
              cases e1
              refine ⟨M', ?_, e3.f8, e4⟩
              rw [mdl M hM, e2, e_bd]
              dsimp only
              rw [i_lt hi (by omega)]
          by_cases h4 : i = -1
          · refine both_v hW (Int32.ofInt q.1.length) (fun M hM => ?_) (fun M hM => ?_)
            · obtain ⟨M', g1, g2, g3⟩ := cl2 M hM
              exact ⟨M', by rw [g1, decide_eq_true h4]; rfl, g2, g3⟩
            · obtain ⟨M', g1, g2, _⟩ := ml2 M hM
              exact ⟨M', by rw [g1, decide_eq_true h4]; rfl, g2⟩
          · obtain ⟨i, rfl⟩ := Int.eq_ofNat_of_zero_le (show 0 ≤ i by omega)
            by_cases h5 : i < q.1.length
            · have hx : q.1[i]? = some q.1[i] := List.getElem?_eq_getElem h5
              refine both_v hW (Int32.ofInt (q.1[i] : Nat)) (fun M hM => ?_) (fun M hM => ?_)
              · obtain ⟨M', g1, g2, g3⟩ := cl2 M hM
                refine ⟨M', ?_, g2, g3⟩
                rw [g1, decide_eq_false h4, decide_eq_true (by omega), cond_false, cond_true, v_at h16 (by omega) hx]
                rfl
              · obtain ⟨M', g1, g2, g3⟩ := ml2 M hM
                refine ⟨M', ?_, g2⟩
                rw [g1, decide_eq_false h4, decide_eq_true (by omega), cond_false, cond_true, i_inn (by omega), decide_eq_true (by omega), cond_true, i_natn (by omega), g3 _ _ hx]
                rfl
            · refine both_refx hW 3 (by omega) N (fun M hM => ?_) (fun M hM => ?_)
              · obtain ⟨M', g1, g2, g3⟩ := cl2 M hM
                refine ⟨M', ?_, g2, g3⟩
                rw [g1, decide_eq_false h4, decide_eq_false (by omega)]
                rfl
              · obtain ⟨M', g1, g2, _⟩ := ml2 M hM
                refine ⟨M', ?_, g2⟩
                rw [g1, decide_eq_false h4, decide_eq_false (by omega)]
                rfl
    · refine both_ref' hW 0 (by omega) N (fun M hM => ?_) (fun M hM => ?_)
      · rw [eX8_shortest, v_isTold hz, e_bd, b_z, decide_eq_true h1, cond_true, chk hh (by omega) (by omega), decide_eq_false h2]; rfl
      · rw [eX9_shortest, v_win hz (by omega) (by omega), e_bd, b_z, decide_eq_true h1, cond_true, v_win hh (by omega) (by omega), e_bd, b_z, decide_eq_false h2]; rfl
  · refine both_ref' hW 0 (by omega) N (fun M hM => ?_) (fun M hM => ?_)
    · rw [eX8_shortest, v_isTold hz, e_bd, b_z, decide_eq_false h1]; rfl
    · rw [eX9_shortest, v_win hz (by omega) (by omega), e_bd, b_z, decide_eq_false h1]; rfl
