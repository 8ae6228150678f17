def tk8 (tz : Nat) (tb : Nat → Nat) (f : Nat) (M : XM) : Prop := M.1 44 3 = Int32.ofInt f ∧ M.1 44 4 = Int32.ofInt (tke tz tb f : Nat) ∧ M.1 44 5 = Int32.ofInt (tkk tz tb f : Nat)
def tk9 (tz : Nat) (tb : Nat → Nat) (f : Nat) (M : XM) : Prop := M.1 64 13 = Int32.ofInt f ∧ M.1 64 14 = Int32.ofInt (tke tz tb f : Nat) ∧ M.1 64 15 = Int32.ofInt (mk9 tz tb f : Nat)
def rst (N : Nat) (M : XM) : Option (Int32 × XM) := (fX6_isWord N [.ref 44, .ref 210] M).bind fun q1 => bif xeq q1.1 (0 : Int32) then ((fX6_isWord N [.ref 44, .ref 211] q1.2).bind fun q2 => bif xeq q2.1 (0 : Int32) then ((fX6_isWord N [.ref 44, .ref 212] q2.2).bind fun q3 => bif xeq q3.1 (0 : Int32) then ((fX6_isWord N [.ref 44, .ref 213] q3.2).bind fun q4 => bif xeq q4.1 (0 : Int32) then ((fX6_isWord N [.ref 44, .ref 214] q4.2).bind fun q5 => bif xeq q5.1 (0 : Int32) then ((fX6_isWord N [.ref 44, .ref 215] q5.2).bind fun q6 => bif xeq q6.1 (0 : Int32) then ((fX6_isWord N [.ref 44, .ref 216] q6.2).bind fun q7 => bif xeq q7.1 (0 : Int32) then (xrZ (some (.int (Int32.ofInt 0))) q7.2) else ((fX6_readDeath N [.ref 44, .ref 15] q7.2).bind fun q8 => bif xeq q8.1 (0 : Int32) then (xrZ (some (.int (Int32.ofInt 0))) q8.2) else (xrZ (some (.int (Int32.ofInt 1))) q8.2))) else ((fX6_readAge N [.ref 44, .ref 15] q6.2).bind fun q7 => xrZ (some (.int q7.1)) q7.2)) else ((fX6_readNeed N [.ref 44, .ref 15, .int (Int32.ofInt (-1))] q5.2).bind fun q6 => xrZ (some (.int q6.1)) q6.2)) else ((fX6_readNeed N [.ref 44, .ref 15, .int (Int32.ofInt 1)] q4.2).bind fun q5 => xrZ (some (.int q5.1)) q5.2)) else ((fX6_readFeud N [.ref 44, .ref 15, .int (Int32.ofInt 0)] q3.2).bind fun q4 => xrZ (some (.int q4.1)) q4.2)) else ((fX6_readFeud N [.ref 44, .ref 15, .int (Int32.ofInt 1)] q2.2).bind fun q3 => xrZ (some (.int q3.1)) q3.2)) else ((fX6_readBrother N [.ref 44, .ref 15] q1.2).bind fun q2 => xrZ (some (.int q2.1)) q2.2)
theorem rst_eq (N : Nat) (M : XM) : fX6_readStatement N [.ref 44, .ref 15] M = (fX6_step N [.ref 44] M).bind (rst N) := eX6_readStatement N 15 (.inr (.inr rfl)) M
def sgoal (N tz : Nat) (tb : Nat → Nat) (R : RV) (f : Nat) : Prop := ∃ (ok : Bool) (R' : RV) (f' e' : Nat), Wf R' ∧ R.nb ≤ R'.nb ∧ tke tz tb f ≤ e' ∧ f' ≤ tz ∧ e' ≤ tz ∧ (ok = true → tkk tz tb f = 1) ∧ (∀ M, cv 15 R M → tpc tz tb M → fgn M → tk8 tz tb f M → ∃ M', rst N M = some (bi ok, M') ∧ cv 15 R' M' ∧ q8 M M' ∧ M'.1 44 3 = Int32.ofInt f' ∧ M'.1 44 4 = Int32.ofInt e') ∧ (∀ M, mv R M → tpm tz tb M → fgn M → tk9 tz tb f M → ∃ M', fX9_statement N [.ref 64] M = some (bi ok, M') ∧ mv R' M' ∧ q9 M M' ∧ M'.1 64 13 = Int32.ofInt f' ∧ M'.1 64 14 = Int32.ofInt e')
theorem b_case {N tz : Nat} {tb : Nat → Nat} {R : RV} {f : Nat} {F G : XM → Option (Int32 × XM)} (hs : sres tz tb R f (tke tz tb f) F G) (hw : tkk tz tb f = 1) (hF : ∀ M M' (v : Bool), tpc tz tb M → fgn M → tk8 tz tb f M → F M = some (bi v, M') → rst N M = some (bi v, M')) (hG : ∀ M M' (v : Bool), tpm tz tb M → fgn M → tk9 tz tb f M → G M = some (bi v, M') → fX9_statement N [.ref 64] M = some (bi v, M')) : sgoal N tz tb R f := by
  obtain ⟨ok, R', f', e', g1, g2, g3, g4, g5, gc, gm⟩ := hs
  refine ⟨ok, R', f', e', g1, g2, g3, g4, g5, fun _ => hw, fun M a b c d => ?_, fun M a b c d => ?_⟩
  · obtain ⟨M', s1, s2⟩ := gc M a b d.1 d.2.1
    exact ⟨M', hF M M' ok b c d s1, s2⟩
  · obtain ⟨M', s1, s2⟩ := gm M a b d.1 d.2.1
    exact ⟨M', hG M M' ok b c d s1, s2⟩
theorem w8s {N tz f : Nat} {tb : Nat → Nat} (hN : big N) (hf : f ≤ tz) {M : XM} (hT : tpc tz tb M) (hg : fgn M) (ht : tk8 tz tb f M) : fX6_isWord N [.ref 44, .ref 210] M = some (bi (isW tz tb f 0), M) ∧ fX6_isWord N [.ref 44, .ref 211] M = some (bi (isW tz tb f 1), M) ∧ fX6_isWord N [.ref 44, .ref 212] M = some (bi (isW tz tb f 2), M) ∧ fX6_isWord N [.ref 44, .ref 213] M = some (bi (isW tz tb f 3), M) ∧ fX6_isWord N [.ref 44, .ref 214] M = some (bi (isW tz tb f 4), M) ∧ fX6_isWord N [.ref 44, .ref 215] M = some (bi (isW tz tb f 5), M) ∧ fX6_isWord N [.ref 44, .ref 216] M = some (bi (isW tz tb f 6), M) := by
  have h8 : 8 < N := by unfold big at hN; omega
  have w : ∀ i : Nat, i < 7 → fX6_isWord N [.ref 44, .ref (210 + i)] M = some (bi (isW tz tb f i), M) := fun i hi => v_isW8 h8 hi hT hg hf ht.1 ht.2.1 ht.2.2
  exact ⟨w 0 (by omega), w 1 (by omega), w 2 (by omega), w 3 (by omega), w 4 (by omega), w 5 (by omega), w 6 (by omega)⟩
theorem w9s {N tz f : Nat} {tb : Nat → Nat} (hN : big N) (hf : f ≤ tz) {M : XM} (hT : tpm tz tb M) (hg : fgn M) (ht : tk9 tz tb f M) : fX9_isWord N [.ref 64, .ref 210] M = some (bi (isW tz tb f 0), M) ∧ fX9_isWord N [.ref 64, .ref 211] M = some (bi (isW tz tb f 1), M) ∧ fX9_isWord N [.ref 64, .ref 212] M = some (bi (isW tz tb f 2), M) ∧ fX9_isWord N [.ref 64, .ref 213] M = some (bi (isW tz tb f 3), M) ∧ fX9_isWord N [.ref 64, .ref 214] M = some (bi (isW tz tb f 4), M) ∧ fX9_isWord N [.ref 64, .ref 215] M = some (bi (isW tz tb f 5), M) ∧ fX9_isWord N [.ref 64, .ref 216] M = some (bi (isW tz tb f 6), M) := by
  have h8 : 8 < N := by unfold big at hN; omega
  have w : ∀ i : Nat, i < 7 → fX9_isWord N [.ref 64, .ref (210 + i)] M = some (bi (isW tz tb f i), M) := fun i hi => v_isW9 h8 hi hT hg hf ht.1 ht.2.1 ht.2.2
  exact ⟨w 0 (by omega), w 1 (by omega), w 2 (by omega), w 3 (by omega), w 4 (by omega), w 5 (by omega), w 6 (by omega)⟩
theorem isW_34 {tz f : Nat} {tb : Nat → Nat} (h : isW tz tb f 3 = true) : isW tz tb f 4 = false := by
  cases e : isW tz tb f 4 with
  | false => rfl
  | true =>
    unfold isW at h e
    simp only [Bool.and_eq_true, decide_eq_true_eq] at h e
    have h2 : weq tb f 3 (3 + 1) 0 = true := h.2.2
    have e2 : weq tb f 4 (3 + 1) 0 = true := e.2.2
    rw [weq] at h2 e2
    simp only [Bool.and_eq_true, decide_eq_true_eq] at h2 e2
    have a1 : tb (f + 0) = 110 := h2.1
    have a2 : tb (f + 0) = 108 := e2.1
    omega
theorem isW_k {tz f i : Nat} {tb : Nat → Nat} (h : isW tz tb f i = true) : tkk tz tb f = 1 := by
  unfold isW at h
  simp only [Bool.and_eq_true, decide_eq_true_eq] at h
  exact h.1
set_option maxRecDepth 100000 in
theorem b_stmt {N tz : Nat} (hN : big N) (htz : tz ≤ 250) (tb : Nat → Nat) {R : RV} (hW : Wf R) {f : Nat} (hf : f ≤ tz) : sgoal N tz tb R f := by
  have ht := tke_rg (tz := tz) (tb := tb) hf
  cases h0 : isW tz tb f 0 with
  | true =>
    refine b_case (b_bro hN htz tb hW hf ht.2) (isW_k h0) (fun M M' v a b c r => ?_) (fun M M' v a b c r => ?_)
    · obtain ⟨w0, w1, w2, w3, w4, w5, w6⟩ := w8s hN hf a b c
      rw [rst, w0, e_bd, b_z, h0, cond_true]
      dsimp only
      rw [r, e_bd]
      exact e_Zb v M'
    · obtain ⟨w0, w1, w2, w3, w4, w5, w6⟩ := w9s hN hf a b c
      rw [eX9_statement, w0, e_bd, b_z, h0, cond_true]
      exact r
  | false =>
    cases h1 : isW tz tb f 1 with
    | true =>
      refine b_case (b_two hN htz tb hW (Int32.ofInt 1) (f := f) ht.2) (isW_k h1) (fun M M' v a b c r => ?_) (fun M M' v a b c r => ?_)
      · obtain ⟨w0, w1, w2, w3, w4, w5, w6⟩ := w8s hN hf a b c
        rw [rst, w0, e_bd, b_z, h0, cond_false]
        dsimp only
        rw [w1, e_bd, b_z, h1, cond_true]
        dsimp only
        rw [r, e_bd]
        exact e_Zb v M'
      · obtain ⟨w0, w1, w2, w3, w4, w5, w6⟩ := w9s hN hf a b c
        rw [eX9_statement, w0, e_bd, b_z, h0, cond_false]
        dsimp only
        rw [w1, e_bd, b_z, h1, cond_true]
        dsimp only
        rw [r, e_bd]
        exact e_Zb v M'
    | false =>
      cases h2 : isW tz tb f 2 with
      | true =>
        refine b_case (b_two hN htz tb hW (Int32.ofInt 0) (f := f) ht.2) (isW_k h2) (fun M M' v a b c r => ?_) (fun M M' v a b c r => ?_)
        · obtain ⟨w0, w1, w2, w3, w4, w5, w6⟩ := w8s hN hf a b c
          rw [rst, w0, e_bd, b_z, h0, cond_false]
          dsimp only
          rw [w1, e_bd, b_z, h1, cond_false]
          dsimp only
          rw [w2, e_bd, b_z, h2, cond_true]
          dsimp only
          rw [r, e_bd]
          exact e_Zb v M'
        · obtain ⟨w0, w1, w2, w3, w4, w5, w6⟩ := w9s hN hf a b c
          rw [eX9_statement, w0, e_bd, b_z, h0, cond_false]
          dsimp only
          rw [w1, e_bd, b_z, h1, cond_false]
          dsimp only
          rw [w2, e_bd, b_z, h2, cond_true]
          dsimp only
          rw [r, e_bd]
          exact e_Zb v M'
      | false =>
        cases h3 : isW tz tb f 3 with
        | true =>
          have h4 := isW_34 h3
          refine b_case (b_need hN htz tb hW false hf ht.2) (isW_k h3) (fun M M' v a b c r => ?_) (fun M M' v a b c r => ?_)
          · obtain ⟨w0, w1, w2, w3, w4, w5, w6⟩ := w8s hN hf a b c
            have r : fX6_readNeed N [.ref 44, .ref 15, .int (Int32.ofInt 1)] M = some (bi v, M') := r
            rw [rst, w0, e_bd, b_z, h0, cond_false]
            dsimp only
            rw [w1, e_bd, b_z, h1, cond_false]
            dsimp only
            rw [w2, e_bd, b_z, h2, cond_false]
            dsimp only
            rw [w3, e_bd, b_z, h3, cond_true]
            dsimp only
            rw [r, e_bd]
            exact e_Zb v M'
          · obtain ⟨w0, w1, w2, w3, w4, w5, w6⟩ := w9s hN hf a b c
            rw [eX9_statement, w0, e_bd, b_z, h0, cond_false]
            dsimp only
            rw [w1, e_bd, b_z, h1, cond_false]
            dsimp only
            rw [w2, e_bd, b_z, h2, cond_false]
            dsimp only
            rw [w4, e_bd, b_z, h4, cond_false]
            dsimp only
            rw [w3, e_bd, b_z, h3, cond_true]
            exact r
        | false =>
          cases h4 : isW tz tb f 4 with
          | true =>
            refine b_case (b_need hN htz tb hW true hf ht.2) (isW_k h4) (fun M M' v a b c r => ?_) (fun M M' v a b c r => ?_)
            · obtain ⟨w0, w1, w2, w3, w4, w5, w6⟩ := w8s hN hf a b c
              have r : fX6_readNeed N [.ref 44, .ref 15, .int (Int32.ofInt (-1))] M = some (bi v, M') := r
              rw [rst, w0, e_bd, b_z, h0, cond_false]
              dsimp only
              rw [w1, e_bd, b_z, h1, cond_false]
              dsimp only
              rw [w2, e_bd, b_z, h2, cond_false]
              dsimp only
              rw [w3, e_bd, b_z, h3, cond_false]
              dsimp only
              rw [w4, e_bd, b_z, h4, cond_true]
              dsimp only
              rw [r, e_bd]
              exact e_Zb v M'
            · obtain ⟨w0, w1, w2, w3, w4, w5, w6⟩ := w9s hN hf a b c
              rw [eX9_statement, w0, e_bd, b_z, h0, cond_false]
              dsimp only
              rw [w1, e_bd, b_z, h1, cond_false]
              dsimp only
              rw [w2, e_bd, b_z, h2, cond_false]
              dsimp only
              rw [w4, e_bd, b_z, h4, cond_true]
              exact r
          | false =>
            cases h5 : isW tz tb f 5 with
            | true =>
              refine b_case (b_age hN htz tb hW (f := f) ht.2) (isW_k h5) (fun M M' v a b c r => ?_) (fun M M' v a b c r => ?_)
              · obtain ⟨w0, w1, w2, w3, w4, w5, w6⟩ := w8s hN hf a b c
                rw [rst, w0, e_bd, b_z, h0, cond_false]
                dsimp only
                rw [w1, e_bd, b_z, h1, cond_false]
                dsimp only
                rw [w2, e_bd, b_z, h2, cond_false]
                dsimp only
                rw [w3, e_bd, b_z, h3, cond_false]
                dsimp only
                rw [w4, e_bd, b_z, h4, cond_false]
                dsimp only
                rw [w5, e_bd, b_z, h5, cond_true]
                dsimp only
                rw [r, e_bd]
                exact e_Zb v M'
              · obtain ⟨w0, w1, w2, w3, w4, w5, w6⟩ := w9s hN hf a b c
                rw [eX9_statement, w0, e_bd, b_z, h0, cond_false]
                dsimp only
                rw [w1, e_bd, b_z, h1, cond_false]
                dsimp only
                rw [w2, e_bd, b_z, h2, cond_false]
                dsimp only
                rw [w4, e_bd, b_z, h4, cond_false]
                dsimp only
                rw [w3, e_bd, b_z, h3, cond_false]
                dsimp only
                rw [w5, e_bd, b_z, h5, cond_true]
                exact r
            | false =>
              cases h6 : isW tz tb f 6 with
              | true =>
                refine b_case (b_die hN htz tb hW (f := f) ht.2) (isW_k h6) (fun M M' v a b c r => ?_) (fun M M' v a b c r => ?_)
                · obtain ⟨w0, w1, w2, w3, w4, w5, w6⟩ := w8s hN hf a b c
                  rw [rst, w0, e_bd, b_z, h0, cond_false]
                  dsimp only
                  rw [w1, e_bd, b_z, h1, cond_false]
                  dsimp only
                  rw [w2, e_bd, b_z, h2, cond_false]
                  dsimp only
                  rw [w3, e_bd, b_z, h3, cond_false]
                  dsimp only
                  rw [w4, e_bd, b_z, h4, cond_false]
                  dsimp only
                  rw [w5, e_bd, b_z, h5, cond_false]
                  dsimp only
                  rw [w6, e_bd, b_z, h6, cond_true]
                  dsimp only
                  rw [r, e_bd, b_z]
                  cases v <;> rfl
                · obtain ⟨w0, w1, w2, w3, w4, w5, w6⟩ := w9s hN hf a b c
                  rw [eX9_statement, w0, e_bd, b_z, h0, cond_false]
                  dsimp only
                  rw [w1, e_bd, b_z, h1, cond_false]
                  dsimp only
                  rw [w2, e_bd, b_z, h2, cond_false]
                  dsimp only
                  rw [w4, e_bd, b_z, h4, cond_false]
                  dsimp only
                  rw [w3, e_bd, b_z, h3, cond_false]
                  dsimp only
                  rw [w5, e_bd, b_z, h5, cond_false]
                  dsimp only
                  rw [w6, e_bd, b_z, h6, cond_true]
                  exact r
              | false =>
                refine ⟨false, R, f, tke tz tb f, hW, Nat.le_refl _, Nat.le_refl _, hf, ht.2, fun h => absurd h Bool.false_ne_true, fun M a b c d => ⟨M, ?_, a, q8_rf, d.1, d.2.1⟩, fun M a b c d => ⟨M, ?_, a, q9_rf, d.1, d.2.1⟩⟩
                · obtain ⟨w0, w1, w2, w3, w4, w5, w6⟩ := w8s hN hf b c d
                  rw [rst, w0, e_bd, b_z, h0, cond_false]
                  dsimp only
                  rw [w1, e_bd, b_z, h1, cond_false]
                  dsimp only
                  rw [w2, e_bd, b_z, h2, cond_false]
                  dsimp only
                  rw [w3, e_bd, b_z, h3, cond_false]
                  dsimp only
                  rw [w4, e_bd, b_z, h4, cond_false]
                  dsimp only
                  rw [w5, e_bd, b_z, h5, cond_false]
                  dsimp only
                  rw [w6, e_bd, b_z, h6, cond_false]
                  all_goals rfl
                · obtain ⟨w0, w1, w2, w3, w4, w5, w6⟩ := w9s hN hf b c d
                  rw [eX9_statement, w0, e_bd, b_z, h0, cond_false]
                  dsimp only
                  rw [w1, e_bd, b_z, h1, cond_false]
                  dsimp only
                  rw [w2, e_bd, b_z, h2, cond_false]
                  dsimp only
                  rw [w4, e_bd, b_z, h4, cond_false]
                  dsimp only
                  rw [w3, e_bd, b_z, h3, cond_false]
                  dsimp only
                  rw [w5, e_bd, b_z, h5, cond_false]
                  dsimp only
                  rw [w6, e_bd, b_z, h6, cond_false]
                  all_goals rfl
