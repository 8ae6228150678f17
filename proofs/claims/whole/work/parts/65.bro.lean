def q8 (M M' : XM) : Prop := (∀ a, a < 15 ∨ 22 ≤ a → M'.2 a = M.2 a) ∧ ∀ a j, ¬ (15 ≤ a ∧ a < 22) → ¬ (a = 44 ∧ 2 ≤ j ∧ j ≤ 5) → M'.1 a j = M.1 a j
theorem q8_rf {M : XM} : q8 M M := ⟨fun _ _ => rfl, fun _ _ _ _ => rfl⟩
theorem q8_tr {M M' M'' : XM} (h : q8 M M') (h' : q8 M' M'') : q8 M M'' := ⟨fun a ha => (h'.1 a ha).trans (h.1 a ha), fun a j h1 h2 => (h'.2 a j h1 h2).trans (h.2 a j h1 h2)⟩
theorem q8_ft {M M' : XM} (h : ft M M') : q8 M M' := ⟨fun a _ => by rw [h.1], fun a j h1 h2 => h.2 a j (by omega)⟩
theorem q8_fr {M M' : XM} (h : fr 15 22 M M') : q8 M M' := ⟨fun a ha => (h a ha).2, fun a j h1 h2 => h.i (by omega) j⟩
theorem tpc_q8 {tz : Nat} {tb : Nat → Nat} {M M' : XM} (h : tpc tz tb M) (hf : q8 M M') : tpc tz tb M' := ⟨h.1, by rw [hf.2 _ _ (by omega) (by omega)]; exact h.2.1, fun j hj => by rw [hf.2 _ _ (by omega) (by omega)]; exact h.2.2 j hj⟩
theorem fgn_q8 {M M' : XM} (h : fgn M) (hf : q8 M M') : fgn M' := ⟨fun j hj => by rw [hf.2 _ _ (by omega) (by omega)]; exact h.1 j hj, fun j hj => by rw [hf.2 _ _ (by omega) (by omega)]; exact h.2.1 j hj, fun i hi j hj => by rw [hf.2 _ _ (by omega) (by omega)]; exact h.2.2 i hi j hj⟩
theorem cv_ft {R : RV} {M M' : XM} (h : cv 15 R M) (hf : ft M M') : cv 15 R M' := h.fr (lo := 44) (hi := 45) (fun a ha => ⟨funext fun j => hf.2 a j (by omega), by rw [hf.1]⟩) (by omega)
def q9 (M M' : XM) : Prop := fr 64 72 M M' ∧ M'.1 64 11 = M.1 64 11 ∧ M'.1 64 21 = M.1 64 21
theorem q9_rf {M : XM} : q9 M M := ⟨fr.rf, rfl, rfl⟩
theorem q9_tr {M M' M'' : XM} (h : q9 M M') (h' : q9 M' M'') : q9 M M'' := ⟨h.1.tr h'.1, h'.2.1.trans h.2.1, h'.2.2.trans h.2.2⟩
theorem q9_fm {M M' : XM} (h : fm M M') : q9 M M' := ⟨fun a ha => ⟨funext fun j => h.2 a j (by omega), by rw [h.1]⟩, h.2 _ _ (by omega), h.2 _ _ (by omega)⟩
theorem q9_w {M : XM} {c k : Nat} {v : Int32} (h : (65 ≤ c ∧ c ≤ 71) ∨ (c = 64 ∧ k = 7)) : q9 M (xwi M c k v) := ⟨fr.rf.wi (by omega) (by omega), by rw [m_ne _ (by omega)], by rw [m_ne _ (by omega)]⟩
theorem tpm_q9 {tz : Nat} {tb : Nat → Nat} {M M' : XM} (h : tpm tz tb M) (hf : q9 M M') : tpm tz tb M' := ⟨h.1, by rw [hf.2.1]; exact h.2.1, fun j hj => by rw [hf.1.i (by omega)]; exact h.2.2 j hj⟩
theorem fgn_q9 {M M' : XM} (h : fgn M) (hf : q9 M M') : fgn M' := h.fr hf.1 (by omega)
theorem mv_fm {R : RV} {M M' : XM} (h : mv R M) (hf : fm M M') : mv R M' := by
  obtain ⟨r1, r2, r3, r4, r5, r6⟩ := h
  have g := hf.2
  refine ⟨by rw [g _ _ (by omega)]; exact r1, by rw [g _ _ (by omega)]; exact r2, by rw [g _ _ (by omega)]; exact r3, by rw [g _ _ (by omega)]; exact r4, fun b hb => ?_, fun i hi => by rw [g _ _ (by omega)]; exact r6 i hi⟩
  rw [g 65 _ (by omega), g 66 _ (by omega), g 67 _ (by omega), g 68 _ (by omega), g 69 _ (by omega), g 70 _ (by omega)]
  exact r5 b hb
theorem nlim_in {hi v : Int} (h : 0 ≤ v ∧ v ≤ hi) : nlim hi v = v := by unfold nlim; rw [if_pos h]
theorem nlim_out {hi v : Int} (h : ¬ (0 ≤ v ∧ v ≤ hi)) : nlim hi v = -1 := by unfold nlim; rw [if_neg h]
theorem x_m1 : xeq (Int32.ofInt (-1)) (Int32.ofInt (-1)) = true := by decide +kernel
theorem x_nm1 {v : Int} (h : 0 ≤ v ∧ v ≤ 999) : xeq (Int32.ofInt v) (Int32.ofInt (-1)) = false := by rw [i_eq (by omega) (by omega), decide_eq_false (by omega)]
def sres (tz : Nat) (tb : Nat → Nat) (R : RV) (f e : Nat) (F G : XM → Option (Int32 × XM)) : Prop := ∃ (ok : Bool) (R' : RV) (f' e' : Nat), Wf R' ∧ R.nb ≤ R'.nb ∧ e ≤ e' ∧ f' ≤ tz ∧ e' ≤ tz ∧ (∀ M, cv 15 R M → tpc tz tb M → M.1 44 3 = Int32.ofInt f → M.1 44 4 = Int32.ofInt e → ∃ M', F M = some (bi ok, M') ∧ cv 15 R' M' ∧ q8 M M' ∧ M'.1 44 3 = Int32.ofInt f' ∧ M'.1 44 4 = Int32.ofInt e') ∧ (∀ M, mv R M → tpm tz tb M → M.1 64 13 = Int32.ofInt f → M.1 64 14 = Int32.ofInt e → ∃ M', G M = some (bi ok, M') ∧ mv R' M' ∧ q9 M M' ∧ M'.1 64 13 = Int32.ofInt f' ∧ M'.1 64 14 = Int32.ofInt e')
theorem sres_no {tz : Nat} {tb : Nat → Nat} {R : RV} {f e f' e' : Nat} {F G : XM → Option (Int32 × XM)} (hW : Wf R) (h1 : e ≤ e') (h2 : f' ≤ tz) (h3 : e' ≤ tz) (hF : ∀ M, cv 15 R M → tpc tz tb M → M.1 44 3 = Int32.ofInt f → M.1 44 4 = Int32.ofInt e → ∃ M', F M = some (Int32.ofInt 0, M') ∧ ft M M' ∧ M'.1 44 3 = Int32.ofInt f' ∧ M'.1 44 4 = Int32.ofInt e') (hG : ∀ M, mv R M → tpm tz tb M → M.1 64 13 = Int32.ofInt f → M.1 64 14 = Int32.ofInt e → ∃ M', G M = some (Int32.ofInt 0, M') ∧ fm M M' ∧ M'.1 64 13 = Int32.ofInt f' ∧ M'.1 64 14 = Int32.ofInt e') : sres tz tb R f e F G :=
  ⟨false, R, f', e', hW, Nat.le_refl _, h1, h2, h3, fun M a b c d => by
    obtain ⟨M', r1, r2, r3, r4⟩ := hF M a b c d
    exact ⟨M', r1, cv_ft a r2, q8_ft r2, r3, r4⟩, fun M a b c d => by
    obtain ⟨M', r1, r2, r3, r4⟩ := hG M a b c d
    exact ⟨M', r1, mv_fm a r2, q9_fm r2, r3, r4⟩⟩
theorem s43a {N : Nat} (hN : 0 < N) (l1 : Int32) (M : XM) : gX9_statement N N 43 [.ref 64, .int l1, .retAddr 0, .retAddr 0] [.int (Int32.ofInt (-1))] M = some (Int32.ofInt 0, M) := by
  obtain ⟨n, rfl⟩ : ∃ n, N = n + 1 := ⟨N - 1, by omega⟩
  rw [eX9_statement_43, x_m1, cond_true, (v_isCell (by omega)).2, e_bd, b_z, show cokZ (-1) = false from rfl, cond_false]
  all_goals rfl
theorem s43b {N : Nat} (hN : 0 < N) (l1 s0 : Int32) (h : xeq s0 (Int32.ofInt (-1)) = false) (M : XM) : gX9_statement N N 43 [.ref 64, .int l1, .retAddr 0, .retAddr 0] [.int s0] M = ((fX9_number N [.ref 64, .int (Int32.ofInt 0), .int (Int32.ofInt 55)] M).bind fun q0 => (fX9_isCell N [.int q0.1] q0.2).bind fun q1 => bif xeq q1.1 (0 : Int32) then (xrZ (some (.int (Int32.ofInt 0))) q1.2) else ((fX9_newBrother N [.ref 64, .int l1, .int s0, .int q0.1] q1.2).bind fun q2 => xrZ (some (.int (Int32.ofInt 1))) q2.2)) := by
  obtain ⟨n, rfl⟩ : ∃ n, N = n + 1 := ⟨N - 1, by omega⟩
  rw [eX9_statement_43, h, cond_false]
theorem s211a {N : Nat} (hN : 0 < N) (l1 : Int32) (M : XM) : gX9_statement N N 211 [.ref 64, .int l1, .retAddr 0, .retAddr 0] [.int (Int32.ofInt (-1))] M = some (Int32.ofInt 0, M) := by
  obtain ⟨n, rfl⟩ : ∃ n, N = n + 1 := ⟨N - 1, by omega⟩
  rw [eX9_statement_211, x_m1, cond_true]
  all_goals rfl
theorem s211b {N : Nat} (hN : 0 < N) {b : Nat} (hb : b < 11) (s0 : Int32) (h : xeq s0 (Int32.ofInt (-1)) = false) (M : XM) : gX9_statement N N 211 [.ref 64, .int (Int32.ofInt (b : Int)), .retAddr 0, .retAddr 0] [.int s0] M = some (Int32.ofInt 1, xwi M 68 b s0) := by
  obtain ⟨n, rfl⟩ : ∃ n, N = n + 1 := ⟨N - 1, by omega⟩
  rw [eX9_statement_211, h, cond_false, i_inn (by omega), show xlen M (64 + 4) = 11 from rfl, decide_eq_true hb, cond_true, i_natn (by omega)]
  all_goals rfl
theorem cok_nl {v : Int} (h : -1 ≤ v ∧ v ≤ 999) : cokZ (nlim 55 v) = cokZ v ∧ rg (nlim 55 v) ∧ (cokZ v = true → nlim 55 v = v) := by
  by_cases c : 0 ≤ v ∧ v ≤ 55
  · rw [nlim_in c]
    exact ⟨rfl, by omega, fun _ => rfl⟩
  · have e : cokZ v = false := by
      cases e : cokZ v with
      | false => rfl
      | true =>
        obtain ⟨k, rfl, ⟨k1, k2⟩, k3⟩ := cok_of e
        omega
    rw [nlim_out c, e]
    exact ⟨rfl, by omega, fun h => absurd h Bool.false_ne_true⟩
theorem v_newB9 {N : Nat} {M : XM} {R : RV} (hR : mv R M) (hn : R.nb < 10) (k a c : Nat) : ∃ M', fX9_newBrother N [.ref 64, .int (Int32.ofInt k), .int (Int32.ofInt a), .int (Int32.ofInt c)] M = some (Int32.ofInt R.nb, M') ∧ mv (R.add k a c) M' ∧ q9 M M' ∧ M'.1 64 13 = M.1 64 13 ∧ M'.1 64 14 = M.1 64 14 := by
  obtain ⟨M1, a1, a2, a3, a4, a5⟩ := v_newBrother (N := N) hR hn k a c
  refine ⟨M1, a1, a2, ⟨a3.wide (by omega) (by omega), a4, a5⟩, ?_⟩
  obtain ⟨h1, h3, h4, h5, h6, h7⟩ := hR
  rw [eX9_newBrother] at a1
  have l1 : ∀ M, xlen M 65 = 11 := fun _ => rfl
  have l2 : ∀ M, xlen M 66 = 11 := fun _ => rfl
  have l3 : ∀ M, xlen M 67 = 11 := fun _ => rfl
  have l4 : ∀ M, xlen M 68 = 11 := fun _ => rfl
  have l5 : ∀ M, xlen M 69 = 11 := fun _ => rfl
  have l6 : ∀ M, xlen M 70 = 11 := fun _ => rfl
  simp (disch := omega) only [Nat.reduceAdd, m_wi, if_neg, h1, i_natn (show R.nb < 2147483648 by omega), i_inn (show R.nb < 2147483648 by omega), l1, l2, l3, l4, l5, l6, decide_eq_true (show R.nb < 11 by omega), cond_true, e_I, i_isb1] at a1
  have a1 := (Prod.mk.inj (Option.some.inj a1)).2
  rw [← a1]
  constructor
  · simp (disch := omega) only [m_wi, if_neg]
  · simp (disch := omega) only [m_wi, if_neg]
def gbro (N : Nat) (M : XM) : Option (Int32 × XM) := bif xeq (M.1 64 0) (Int32.ofInt 10) then (xrZ (some (.int (Int32.ofInt 0))) M) else ((fX9_number N [.ref 64, .int (Int32.ofInt 0), .int (Int32.ofInt 5)] M).bind fun q1 => bif xeq q1.1 (Int32.ofInt (-1)) then (gX9_statement N N 43 [.ref 64, .int q1.1, .retAddr 0, .retAddr 0] [.int (Int32.ofInt (-1))] q1.2) else ((fX9_number N [.ref 64, .int (Int32.ofInt 0), .int (Int32.ofInt 9)] q1.2).bind fun q2 => gX9_statement N N 43 [.ref 64, .int q1.1, .retAddr 0, .retAddr 0] [.int q2.1] q2.2))
set_option maxRecDepth 100000 in
theorem b_bro {N tz : Nat} (hN : big N) (htz : tz ≤ 250) (tb : Nat → Nat) {R : RV} (hW : Wf R) {f e : Nat} (hf : f ≤ tz) (he : e ≤ tz) : sres tz tb R f e (fX6_readBrother N [.ref 44, .ref 15]) (gbro N) := by
  have hNb : 0 < N := by unfold big at hN; omega
  have h10 := hW.1
  by_cases hn : R.nb < 10
  · obtain ⟨v1, f1, e1, r1, i1, j1, k1, c1, m1⟩ := b_num hN htz tb he
    obtain ⟨v2, f2, e2, r2, i2, j2, k2, c2, m2⟩ := b_num hN htz tb k1
    obtain ⟨v3, f3, e3, r3, i3, j3, k3, c3, m3⟩ := b_num hN htz tb k2
    have g1 : rg v1 := by omega
    have g2 : rg v2 := by omega
    have g3 : rg v3 := by omega
    by_cases h1 : 0 ≤ v1 ∧ v1 ≤ 5
    · have d1 : (decide (0 ≤ v1) && decide (v1 ≤ 5)) = true := by rw [decide_eq_true h1.1, decide_eq_true h1.2] <;> rfl
      by_cases h2 : 0 ≤ v2 ∧ v2 ≤ 9
      · have d2 : (decide (0 ≤ v2) && decide (v2 ≤ 9)) = true := by rw [decide_eq_true h2.1, decide_eq_true h2.2] <;> rfl
        obtain ⟨n1, n2, n3⟩ := cok_nl r3
        cases h3 : cokZ v3 with
        | false =>
          refine sres_no hW (show e ≤ e3 by omega) j3 k3 (fun M hR hT p3 p4 => ?_) (fun M hR hT p3 p4 => ?_)
          · obtain ⟨M1, a1, a2, a3, a4⟩ := c1 M hT p4
            obtain ⟨M2, b1, b2, b3, b4⟩ := c2 M1 (hT.ft a2) a4
            obtain ⟨M3, t1, t2, t3, t4⟩ := c3 M2 ((hT.ft a2).ft b2) b4
            refine ⟨M3, ?_, (a2.tr b2).tr t2, t3, t4⟩
            rw [eX6_readBrother _ _ (.inr (.inr rfl)), v_hasRoom (.inr (.inr rfl)) hR h10, e_bd, b_z, decide_eq_true hn, cond_true, a1, e_bd, (v_isKind g1).1, e_bd, b_z, d1, cond_true, b1, e_bd, (v_isAmount g2).1, e_bd, b_z, d2, cond_true, t1, e_bd, (v_isCell g3).1, e_bd, b_z, h3, cond_false]
            all_goals rfl
          · obtain ⟨M1, a1, a2, a3, a4⟩ := m1 5 M (by omega) hT p4
            obtain ⟨M2, b1, b2, b3, b4⟩ := m2 9 M1 (by omega) (hT.fm a2) a4
            obtain ⟨M3, t1, t2, t3, t4⟩ := m3 55 M2 (by omega) ((hT.fm a2).fm b2) b4
            refine ⟨M3, ?_, (a2.tr b2).tr t2, t3, t4⟩
            rw [nlim_in h1] at a1
            rw [nlim_in h2] at b1
            rw [gbro, hR.1, i_eq (by omega) (by omega), decide_eq_false (by omega), cond_false, a1, e_bd, x_nm1 (by omega), cond_false, b1, e_bd]
            dsimp only
            rw [s43b hNb _ _ (x_nm1 (by omega)), t1, e_bd, (v_isCell n2).2, e_bd, b_z, n1, h3, cond_false]
            all_goals rfl
        | true =>
          obtain ⟨x, rfl⟩ := Int.eq_ofNat_of_zero_le h1.1
          obtain ⟨y, rfl⟩ := Int.eq_ofNat_of_zero_le h2.1
          obtain ⟨z, rfl, hz1, hz2⟩ := cok_of h3
          refine ⟨true, R.add x y z, f3, e3, wf_add hW hn (by omega) (by omega) hz1, Nat.le_succ _, by omega, j3, k3, fun M hR hT p3 p4 => ?_, fun M hR hT p3 p4 => ?_⟩
          · obtain ⟨M1, a1, a2, a3, a4⟩ := c1 M hT p4
            obtain ⟨M2, b1, b2, b3, b4⟩ := c2 M1 (hT.ft a2) a4
            obtain ⟨M3, t1, t2, t3, t4⟩ := c3 M2 ((hT.ft a2).ft b2) b4
            obtain ⟨M4, s1, s2, s3⟩ := v_addBrother (N := N) (o := 15) (.inr (.inr rfl)) (cv_ft (cv_ft (cv_ft hR a2) b2) t2) hn x y z
            refine ⟨M4, ?_, s2, q8_tr (q8_ft ((a2.tr b2).tr t2)) (q8_fr s3), by rw [s3.i (by omega)]; exact t3, by rw [s3.i (by omega)]; exact t4⟩
            rw [eX6_readBrother _ _ (.inr (.inr rfl)), v_hasRoom (.inr (.inr rfl)) hR h10, e_bd, b_z, decide_eq_true hn, cond_true, a1, e_bd, (v_isKind g1).1, e_bd, b_z, d1, cond_true, b1, e_bd, (v_isAmount g2).1, e_bd, b_z, d2, cond_true, t1, e_bd, (v_isCell g3).1, e_bd, b_z, h3, cond_true]
            dsimp only
            rw [s1]
            all_goals rfl
          · obtain ⟨M1, a1, a2, a3, a4⟩ := m1 5 M (by omega) hT p4
            obtain ⟨M2, b1, b2, b3, b4⟩ := m2 9 M1 (by omega) (hT.fm a2) a4
            obtain ⟨M3, t1, t2, t3, t4⟩ := m3 55 M2 (by omega) ((hT.fm a2).fm b2) b4
            obtain ⟨M4, s1, s2, s3, s4, s5⟩ := v_newB9 (N := N) (mv_fm (mv_fm (mv_fm hR a2) b2) t2) hn x y z
            refine ⟨M4, ?_, s2, q9_tr (q9_fm ((a2.tr b2).tr t2)) s3, s4.trans t3, s5.trans t4⟩
            rw [nlim_in h1] at a1
            rw [nlim_in h2] at b1
            rw [n3 h3] at t1
            rw [gbro, hR.1, i_eq (by omega) (by omega), decide_eq_false (by omega), cond_false, a1, e_bd, x_nm1 (by omega), cond_false, b1, e_bd]
            dsimp only
            rw [s43b hNb _ _ (x_nm1 (by omega)), t1, e_bd, (v_isCell g3).2, e_bd, b_z, h3, cond_true]
            dsimp only
            rw [s1]
            all_goals rfl
      · have d2 : (decide (0 ≤ v2) && decide (v2 ≤ 9)) = false := by
          rw [← Bool.decide_and]
          exact decide_eq_false h2
        refine sres_no hW (show e ≤ e2 by omega) j2 k2 (fun M hR hT p3 p4 => ?_) (fun M hR hT p3 p4 => ?_)
        · obtain ⟨M1, a1, a2, a3, a4⟩ := c1 M hT p4
          obtain ⟨M2, b1, b2, b3, b4⟩ := c2 M1 (hT.ft a2) a4
          refine ⟨M2, ?_, a2.tr b2, b3, b4⟩
          rw [eX6_readBrother _ _ (.inr (.inr rfl)), v_hasRoom (.inr (.inr rfl)) hR h10, e_bd, b_z, decide_eq_true hn, cond_true, a1, e_bd, (v_isKind g1).1, e_bd, b_z, d1, cond_true, b1, e_bd, (v_isAmount g2).1, e_bd, b_z, d2, cond_false]
          all_goals rfl
        · obtain ⟨M1, a1, a2, a3, a4⟩ := m1 5 M (by omega) hT p4
          obtain ⟨M2, b1, b2, b3, b4⟩ := m2 9 M1 (by omega) (hT.fm a2) a4
          refine ⟨M2, ?_, a2.tr b2, b3, b4⟩
          rw [nlim_in h1] at a1
          rw [nlim_out h2] at b1
          rw [gbro, hR.1, i_eq (by omega) (by omega), decide_eq_false (by omega), cond_false, a1, e_bd, x_nm1 (by omega), cond_false, b1, e_bd]
          exact s43a hNb _ _
    · have d1 : (decide (0 ≤ v1) && decide (v1 ≤ 5)) = false := by
        rw [← Bool.decide_and]
        exact decide_eq_false h1
      refine sres_no hW i1 j1 k1 (fun M hR hT p3 p4 => ?_) (fun M hR hT p3 p4 => ?_)
      · obtain ⟨M1, a1, a2, a3, a4⟩ := c1 M hT p4
        refine ⟨M1, ?_, a2, a3, a4⟩
        rw [eX6_readBrother _ _ (.inr (.inr rfl)), v_hasRoom (.inr (.inr rfl)) hR h10, e_bd, b_z, decide_eq_true hn, cond_true, a1, e_bd, (v_isKind g1).1, e_bd, b_z, d1, cond_false]
        all_goals rfl
      · obtain ⟨M1, a1, a2, a3, a4⟩ := m1 5 M (by omega) hT p4
        refine ⟨M1, ?_, a2, a3, a4⟩
        rw [nlim_out h1] at a1
        rw [gbro, hR.1, i_eq (by omega) (by omega), decide_eq_false (by omega), cond_false, a1, e_bd, x_m1, cond_true]
        exact s43a hNb _ _
  · refine sres_no hW (Nat.le_refl e) hf he (fun M hR hT p3 p4 => ⟨M, ?_, ft.rf, p3, p4⟩) (fun M hR hT p3 p4 => ⟨M, ?_, fm.rf, p3, p4⟩)
    · rw [eX6_readBrother _ _ (.inr (.inr rfl)), v_hasRoom (.inr (.inr rfl)) hR h10, e_bd, b_z, decide_eq_false hn, cond_false]
      all_goals rfl
    · rw [gbro, hR.1, i_eq (by omega) (by omega), decide_eq_true (by omega), cond_true]
      all_goals rfl
