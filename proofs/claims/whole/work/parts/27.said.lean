theorem unl_nil : unl [] = 0 := List.countP_eq_zero.mpr (fun x _ => by simp [hit])
theorem l_any {N : Nat} (hN : big N) {R : RV} (hW : Wf R) {h : Nat} (h6 : h ≤ 6) : ∀ (d k n : Nat) (M : XM), k + d = h + 1 → 0 < k → d < n → mv R M → M.1 80 0 = Int32.ofInt 0 → ∃ M', gX9_isAny N n 2 [.ref 64, .int (Int32.ofInt h), .int (Int32.ofInt k)] [] M = some (bi (!(VR (wR R) d k).isEmpty), M') ∧ fe M M'
  | 0, k, n + 1, M, hk, h0, hn, hR, h80 => by
    rw [eX9_isAny_2, i_lt (by omega) (by omega), decide_eq_true (by omega), cond_true]
    exact ⟨M, rfl, fe.rf⟩
  | d + 1, k, n + 1, M, hk, h0, hn, hR, h80 => by
    have hN' := hN
    unfold big at hN'
    obtain ⟨M1, a1, a2, a3⟩ := v_begins (N := N) (R := R) (m := R.lv) (cf := false) (many := k) h0 h80
    rw [eX9_isAny_2, i_lt (by omega) (by omega), decide_eq_false (by omega), cond_false, v_living (by omega) hR hW, e_bd]
    have a1 : fX9_begins N [.ref 64, .int (Int32.ofInt k), .int (Int32.ofInt R.lv), .int (Int32.ofInt 0)] M = some M1 := a1
    dsimp only
    rw [a1, e_bd, VR]
    have hv : (Vn (wR R) k).isEmpty = (rowsM R R.lv false k).isEmpty := by
      rw [rows_Vn]
      cases Vn (wR R) k <;> rfl
    cases hQ : rowsM R R.lv false k with
    | nil =>
      rw [hQ] at a3 hv
      obtain ⟨M2, b1, b2⟩ := v_goes0 hN hW (lv_small hW) (by omega) (mv_fe hR a2) a3
      obtain ⟨M3, c1, c2⟩ := l_any hN hW h6 d (k + 1) n M2 (by omega) (by omega) (by omega) (mv_fe (mv_fe hR a2) b2) (by rw [b2.2 _ _ (by omega) (by omega) (by omega), a2.2 _ _ (by omega) (by omega) (by omega)]; exact h80)
      have hV : Vn (wR R) k = [] := by
        cases e : Vn (wR R) k with
        | nil => rfl
        | cons q X => rw [e] at hv; cases hv
      refine ⟨M3, ?_, (a2.tr b2).tr c2⟩
      rw [hV, List.nil_append, ← c1, ← i_suc, b1]
      rfl
    | cons l Q =>
      rw [hQ] at a3 hv
      obtain ⟨M2, b1, b2, _⟩ := v_goes1 hN hW (lv_small hW) (by omega) (mv_fe hR a2) a3
      refine ⟨M2, ?_, a2.tr b2⟩
      rw [b1, e_bd]
      cases e : Vn (wR R) k with
      | nil => rw [e] at hv; cases hv
      | cons q X => rfl
theorem v_any {N : Nat} (hN : big N) {R : RV} (hW : Wf R) {h : Nat} (h6 : h ≤ 6) {M : XM} (hR : mv R M) (h80 : M.1 80 0 = Int32.ofInt 0) : ∃ M', fX9_isAny N [.ref 64, .int (Int32.ofInt h)] M = some (bi (!(VL (wR R) h).isEmpty), M') ∧ fe M M' := by
  have hN' := hN
  unfold big at hN'
  have := l_any hN hW h6 h 1 N M (by omega) (by omega) (by omega) hR h80
  rw [VR_1] at this
  rw [eX9_isAny]
  exact this
theorem zs_lv {R : RV} (hW : Wf R) {h : Nat} : zs R R.lv (VL (wR R) h) = (VL (wR R) h).map (fun q => mean (wR R) q.1) := by
  unfold zs
  rw [List.filter_eq_self.mpr (fun q hq => by
    unfold cndm
    rw [allm_lv hW hq]
    rfl)]
theorem v_means1 {N : Nat} (hN : big N) {R : RV} (hW : Wf R) {h what : Nat} (h6 : h ≤ 6) (hw : what ≤ 2) {M : XM} (hR : mv R M) (h80 : M.1 80 0 = Int32.ofInt 0) : ∃ M', fX9_means N [.ref 64, .int (Int32.ofInt 1), .int (Int32.ofInt h), .int (Int32.ofInt R.lv), .int (Int32.ofInt what)] M = some (Int32.ofInt (m80 (hit ((VL (wR R) h).map (fun q => mean (wR R) q.1))) what 2001 0 0), M') ∧ f8 M M' ∧ mk81 M' (hit ((VL (wR R) h).map (fun q => mean (wR R) q.1))) := by
  have := v_means hN hW (m := R.lv) (fun _ x => x) (lo := 1) (hi := h) (what := what) (by omega) (by omega) h6 hw hR h80
  rw [show h + 1 - 1 = h by omega, VR_1, zs_lv hW] at this
  exact this
theorem CX_k {t : Nat} {S : SV} {M M' : XM} (h : CX t S M) (hf : fk 22 M M') : CX t S M' := by
  obtain ⟨h1, h2, h3, h4, h5, h6, h7, ⟨s1, s2, w, s3⟩, h9, h10⟩ := h
  have hff := hf.fr
  refine ⟨h1.fr hff (by omega), by rw [hff.i (by omega)]; exact h2, fun h => (h3 h).fr hff (by omega), by rw [hff.i (by omega)]; exact h4, fun j hj => by rw [hff.i (by omega)]; exact h5 j hj, fun s hs => ?_, fun k hk => by rw [hff.i (by omega)]; exact h7 k hk, ⟨by rw [hf.1]; exact s1, by rw [hf.1]; exact s2, w, SYw_k s3 hf⟩, h9.fr hff (by omega), h10.fr hff (by omega)⟩
  rw [hff.i (by omega), hff.i (by omega)]
  exact ⟨(h6 s hs).1, fun a b => ⟨((h6 s hs).2 a b).1, fun i hi => by rw [hff.l (by omega)]; exact ((h6 s hs).2 a b).2 i hi⟩⟩
theorem v_unlike {N : Nat} (hN : big N) {t : Nat} (_ : t < 1000000) {S : SV} (hW : WfS S) {M : XM} (hM : CX t S M) (hS : SYw 22 6 2400 (wR S.R) M) {h : Nat} (hh : h ≤ 6) : ∃ M', fX4_unlike N [.ref 22, .int (Int32.ofInt h)] M = some (Int32.ofInt (unl ((VL (wR S.R) h).map (fun q => mean (wR S.R) q.1))), M') ∧ CX (t + 1) S M' ∧ fr 0 64 M M' := by
  unfold big at hN
  have so : SO 22 6 2400 := .inl ⟨rfl, rfl, rfl⟩
  have hrm := VL_rm hS hh
  obtain ⟨X, hX, _⟩ := VL_app (wR S.R) hh
  have hsub : ∀ q ∈ VL (wR S.R) h, q ∈ VL (wR S.R) 6 := fun q hq => by rw [hX]; exact List.mem_append_left _ hq
  obtain ⟨M1, a1, a2, a3⟩ := v_forg (N := N) (by omega) so M
  obtain ⟨M', g1, g2, g3⟩ := l_unl (N := N) so hW.1 hh (VL (wR S.R) h) 0 N [] M1 (SYw_k hS a2) (SM_0 (SYw_k hS a2) hh) hsub (by omega) (by omega) a3
  rw [List.nil_append] at g1
  rw [unl_nil] at g1
  have hf : fk 22 M M' := a2.tr g2
  refine ⟨M', ?_, (CX_k hM hf).tick, hf.fr.wide (by omega) (by omega)⟩
  rw [eX4_unlike _ _ _ (by omega), a1, e_bd]
  exact g1
theorem VL_cons {N : Nat} {R : RV} {M : XM} (hS : SYw 22 6 2400 (wR R) M) {h : Nat} (hh : h ≤ 6) {q : RW} {T : List RW} (he : VL (wR R) h = q :: T) : (∀ N, fX4_meaningOf N [.ref 22, .int (Int32.ofInt 0)] M = some (Int32.ofInt (mean (wR R) q.1), M)) ∧ SM 22 (wR R) 1 T M := by
  have h0 := SM_0 hS hh
  rw [he] at h0
  obtain ⟨_, _, _, m4, m5⟩ := SM_t h0
  exact ⟨m4, m5⟩
set_option maxRecDepth 100000 in
theorem v_ends {N : Nat} (hN : big N) {S : SV} (hW : WfS S) {h : Nat} (hh : h ≤ 6) (hne : VL (wR S.R) h ≠ []) : ∃ lo hi : Int, (lo ∈ (VL (wR S.R) h).map (fun q => mean (wR S.R) q.1) ∧ ∀ z ∈ (VL (wR S.R) h).map (fun q => mean (wR S.R) q.1), lo ≤ z) ∧ (hi ∈ (VL (wR S.R) h).map (fun q => mean (wR S.R) q.1) ∧ ∀ z ∈ (VL (wR S.R) h).map (fun q => mean (wR S.R) q.1), z ≤ hi) ∧ ∀ M, SYw 22 6 2400 (wR S.R) M → fX4_least N [.ref 22, .int (Int32.ofInt h)] M = some (Int32.ofInt lo, M) ∧ fX4_greatest N [.ref 22, .int (Int32.ofInt h)] M = some (Int32.ofInt hi, M) := by
  unfold big at hN
  have so : SO 22 6 2400 := .inl ⟨rfl, rfl, rfl⟩
  cases he : VL (wR S.R) h with
  | nil => exact absurd he hne
  | cons q T =>
    obtain ⟨X, hX, _⟩ := VL_app (wR S.R) hh
    have hsub : ∀ x ∈ q :: T, x ∈ VL (wR S.R) 6 := fun x hx => by rw [hX, he]; exact List.mem_append_left _ hx
    have hb := VL_b9 hW.1 (L := 6) (by omega) (hsub q List.mem_cons_self)
    have hlen : 1 + T.length = (VL (wR S.R) h).length := by rw [he]; simp; omega
    have mn : ∀ Z : List Int, ∀ z : Int, ∃ r, (r = z ∨ r ∈ Z) ∧ r ≤ z ∧ ∀ y ∈ Z, r ≤ y := by
      intro Z
      induction Z with
      | nil => intro z; exact ⟨z, .inl rfl, Int.le_refl _, fun y hy => by simp at hy⟩
      | cons a Z ih =>
        intro z
        obtain ⟨r, r1, r2, r3⟩ := ih z
        by_cases e : a < r
        · exact ⟨a, .inr List.mem_cons_self, by omega, fun y hy => by
            rcases List.mem_cons.mp hy with rfl | hy
            · exact Int.le_refl _
            · have := r3 y hy; omega⟩
        · exact ⟨r, r1.elim .inl (fun h => .inr (List.mem_cons_of_mem _ h)), r2, fun y hy => by
            rcases List.mem_cons.mp hy with rfl | hy
            · omega
            · exact r3 y hy⟩
    have mx : ∀ Z : List Int, ∀ z : Int, ∃ r, (r = z ∨ r ∈ Z) ∧ z ≤ r ∧ ∀ y ∈ Z, y ≤ r := by
      intro Z
      induction Z with
      | nil => intro z; exact ⟨z, .inl rfl, Int.le_refl _, fun y hy => by simp at hy⟩
      | cons a Z ih =>
        intro z
        obtain ⟨r, r1, r2, r3⟩ := ih z
        by_cases e : r < a
        · exact ⟨a, .inr List.mem_cons_self, by omega, fun y hy => by
            rcases List.mem_cons.mp hy with rfl | hy
            · exact Int.le_refl _
            · have := r3 y hy; omega⟩
        · exact ⟨r, r1.elim .inl (fun h => .inr (List.mem_cons_of_mem _ h)), r2, fun y hy => by
            rcases List.mem_cons.mp hy with rfl | hy
            · omega
            · exact r3 y hy⟩
    obtain ⟨lo, l1, l2, l3⟩ := mn (T.map (fun q => mean (wR S.R) q.1)) (mean (wR S.R) q.1)
    obtain ⟨hi, u1, u2, u3⟩ := mx (T.map (fun q => mean (wR S.R) q.1)) (mean (wR S.R) q.1)
    refine ⟨lo, hi, ⟨?_, fun z hz => ?_⟩, ⟨?_, fun z hz => ?_⟩, fun M hS => ⟨?_, ?_⟩⟩
    · rw [List.map_cons]
      exact l1.elim (fun h => by rw [h]; exact List.mem_cons_self) (fun h => List.mem_cons_of_mem _ h)
    · rw [List.map_cons] at hz
      rcases List.mem_cons.mp hz with rfl | hz
      · exact l2
      · exact l3 z hz
    · rw [List.map_cons]
      exact u1.elim (fun h => by rw [h]; exact List.mem_cons_self) (fun h => List.mem_cons_of_mem _ h)
    · rw [List.map_cons] at hz
      rcases List.mem_cons.mp hz with rfl | hz
      · exact u2
      · exact u3 z hz
    · obtain ⟨c1, c2⟩ := VL_cons (N := N) hS hh he
      have hrm := VL_rm hS hh
      obtain ⟨r, r1, r2, r3, r4⟩ := l_leas (N := N) so hW.1 hS hh T 1 N _ hb c2 (fun x hx => hsub x (List.mem_cons_of_mem _ hx)) hlen (by omega)
      have e : r = lo := by
        have a1 : lo ≤ r := r2.elim (fun h => by rw [h]; exact l2) (fun h => l3 _ h)
        have a2 : r ≤ lo := l1.elim (fun h => by rw [h]; exact r3) (fun h => r4 _ h)
        omega
      rw [eX4_least _ _ _ (by omega), v_upTo so hS (by omega), e_bd, Nat.min_eq_left hh]
      dsimp only
      rw [show (0 : Int32) = Int32.ofInt 0 from rfl, i_lt (by omega) (by omega), decide_eq_true (by omega), cond_true, c1, e_bd]
      dsimp only
      rw [← e]
      exact r1
    · obtain ⟨c1, c2⟩ := VL_cons (N := N) hS hh he
      have hrm := VL_rm hS hh
      obtain ⟨r, r1, r2, r3, r4⟩ := l_grea (N := N) so hW.1 hS hh T 1 N _ hb c2 (fun x hx => hsub x (List.mem_cons_of_mem _ hx)) hlen (by omega)
      have e : r = hi := by
        have a1 : r ≤ hi := r2.elim (fun h => by rw [h]; exact u2) (fun h => u3 _ h)
        have a2 : hi ≤ r := u1.elim (fun h => by rw [h]; exact r3) (fun h => r4 _ h)
        omega
      rw [eX4_greatest _ _ _ (by omega), v_upTo so hS (by omega), e_bd, Nat.min_eq_left hh]
      dsimp only
      rw [show (0 : Int32) = Int32.ofInt 0 from rfl, i_lt (by omega) (by omega), decide_eq_true (by omega), cond_true, c1, e_bd]
      dsimp only
      rw [← e]
      exact r1
set_option maxRecDepth 100000 in
theorem op_said {t : Nat} (ht : t < 1000000) {S : SV} (hW : WfS S) {N : Nat} (hN : big N) (a b : Int32) : both t S (fX8_said N [.ref 0, .int a, .int b]) (fX9_said N [.ref 64, .int a, .int b]) := by
  obtain ⟨x, hx, rfl⟩ := i_ex a
  obtain ⟨y, hy, rfl⟩ := i_ex b
  have hN' := hN
  unfold big at hN'
  have so : SO 22 6 2400 := .inl ⟨rfl, rfl, rfl⟩
  by_cases h1 : 1 ≤ x ∧ x ≤ 5
  · by_cases h2 : 0 ≤ y ∧ y ≤ 2
    · obtain ⟨h, rfl⟩ := Int.eq_ofNat_of_zero_le (show 0 ≤ x by omega)
      obtain ⟨w, rfl⟩ := Int.eq_ofNat_of_zero_le (show 0 ≤ y by omega)
      have cls : ∀ M, fX8_said N [.ref 0, .int (Int32.ofInt h), .int (Int32.ofInt w)] M = ((fX8_sayingsNow N [.ref 0] M).bind fun q0 => bif xeq (Int32.ofInt w) (0 : Int32) then ((fX4_unlike N [.ref 22, .int (Int32.ofInt h)] q0).bind fun q1 => xrI (some (.int q1.1)) q1.2) else ((fX4_upTo N [.ref 22, .int (Int32.ofInt h)] q0).bind fun q1 => bif xeq q1.1 (0 : Int32) then ((fX8_refuse N [.ref 0, .int (Int32.ofInt (-5))] q1.2).bind fun q2 => xrI (some (.int ((-100000000) + q2.1))) q2.2) else (bif xeq (Int32.ofInt w) (Int32.ofInt 1) then ((fX4_least N [.ref 22, .int (Int32.ofInt h)] q1.2).bind fun q2 => xrI (some (.int q2.1)) q2.2) else ((fX4_greatest N [.ref 22, .int (Int32.ofInt h)] q1.2).bind fun q2 => xrI (some (.int q2.1)) q2.2)))) := by
        intro M
        rw [eX8_said, chk0 hy (by omega), decide_eq_true h2, cond_true, chk hx (by omega) (by omega), decide_eq_true h1, cond_true]
      by_cases h3 : w = 0
      · subst h3
        refine ⟨S, Int32.ofInt (unl ((VL (wR S.R) h).map (fun q => mean (wR S.R) q.1))), hW, fun M hM => ?_, fun M hM => ?_⟩
        · obtain ⟨M', a1, a2, a3, a4⟩ := v_now hN hW hM
          obtain ⟨M2, b1, b2, b3⟩ := v_unlike hN ht hW a2 a3 (h := h) (by omega)
          refine ⟨M2, ?_, b2, a4.tr b3⟩
          rw [cls, a1, e_bd, show xeq (Int32.ofInt (0 : Nat)) 0 = true from rfl, cond_true, b1]
          rfl
        · obtain ⟨M', b1, b2, _⟩ := v_means1 hN hW.1 (h := h) (what := 0) (by omega) (by omega) hM.1 hM.2.2.2.2.2.2.2.1
          rw [m80_unl] at b1
          refine ⟨M', ?_, CM_f8 hM b2, b2.fr⟩
          rw [eX9_said, v_win hx (by omega) (by omega), e_bd, b_z, decide_eq_true h1, cond_true, v_win hy (by omega) (by omega), e_bd, b_z, decide_eq_true h2, cond_true, show xlt 0 (Int32.ofInt (0 : Nat)) = false from rfl, cond_false, v_living (by omega) hM.1 hW.1, e_bd, b1]
          rfl
      · have hw0 : xeq (Int32.ofInt w) 0 = false := by rw [show (0 : Int32) = Int32.ofInt 0 from rfl, i_eq (by omega) (by omega), decide_eq_false (by omega)]
        have mdl : ∀ M, CM S M → ∃ M', fX9_said N [.ref 64, .int (Int32.ofInt h), .int (Int32.ofInt w)] M = (bif !(VL (wR S.R) h).isEmpty then ((fX9_living N [.ref 64] M').bind fun q3 => (fX9_means N [.ref 64, .int (Int32.ofInt 1), .int (Int32.ofInt h), .int q3.1, .int (Int32.ofInt w)] q3.2).bind fun q4 => xrI (some (.int q4.1)) q4.2) else ((fX9_noMeaning N [.ref 64, .int (Int32.ofInt (-5))] M').bind fun q3 => xrI (some (.int q3.1)) q3.2)) ∧ f8 M M' := by
          intro M hM
          obtain ⟨M', c1, c2⟩ := v_any hN hW.1 (h := h) (by omega) hM.1 hM.2.2.2.2.2.2.2.1
          refine ⟨M', ?_, c2.f8⟩
          rw [eX9_said, v_win hx (by omega) (by omega), e_bd, b_z, decide_eq_true h1, cond_true, v_win hy (by omega) (by omega), e_bd, b_z, decide_eq_true h2, cond_true, show (0 : Int32) = Int32.ofInt 0 from rfl, i_lt (by omega) (by omega), decide_eq_true (by omega), cond_true, c1, e_bd]
          show (bif xeq (bi _) 0 then _ else _) = _
          rw [b_z]
        by_cases hne : VL (wR S.R) h = []
        · refine both_refy hW 3 (by omega) N (fun M hM => ?_) (fun M hM => ?_)
          · obtain ⟨M', a1, a2, a3, a4⟩ := v_now hN hW hM
            refine ⟨M', ?_, a2, a4⟩
            rw [cls, a1, e_bd, hw0, cond_false, v_upTo so a3 (by omega), e_bd, Nat.min_eq_left (by omega), hne]
            rfl
          · obtain ⟨M', g1, g2⟩ := mdl M hM
            refine ⟨M', ?_, g2⟩
            rw [g1, hne]
            rfl
        · obtain ⟨lo, hi, k1, k2, k3⟩ := v_ends hN hW (h := h) (by omega) hne
          have hpos : 0 < (VL (wR S.R) h).length := List.length_pos_iff.mpr hne
          have hemp : (!(VL (wR S.R) h).isEmpty) = true := by
            cases e : VL (wR S.R) h with
            | nil => exact absurd e hne
            | cons a X => rfl
          have hb : ∀ z ∈ (VL (wR S.R) h).map (fun q => mean (wR S.R) q.1), b9 z := by
            intro z hz
            rw [List.mem_map] at hz
            obtain ⟨q, hq, rfl⟩ := hz
            exact VL_b9 hW.1 (L := h) (by omega) hq
          have b1 := hb lo k1.1
          have b2 := hb hi k2.1
          unfold b9 at b1 b2
          have mdl2 : ∀ M, CM S M → ∃ M', fX9_said N [.ref 64, .int (Int32.ofInt h), .int (Int32.ofInt w)] M = some (Int32.ofInt (m80 (hit ((VL (wR S.R) h).map (fun q => mean (wR S.R) q.1))) w 2001 0 0), M') ∧ f8 M M' := by
            intro M hM
            obtain ⟨M', g1, g2⟩ := mdl M hM
            have hM' := CM_f8 hM g2
            obtain ⟨M2, f1, f2, _⟩ := v_means1 hN hW.1 (h := h) (what := w) (by omega) (by omega) hM'.1 hM'.2.2.2.2.2.2.2.1
            refine ⟨M2, ?_, g2.tr f2⟩
            rw [g1, hemp, cond_true, v_living (by omega) hM'.1 hW.1, e_bd, f1]
            rfl
          rcases (show w = 1 ∨ w = 2 by omega) with rfl | rfl
          · refine both_v hW (Int32.ofInt lo) (fun M hM => ?_) (fun M hM => ?_)
            · obtain ⟨M', a1, a2, a3, a4⟩ := v_now hN hW hM
              refine ⟨M', ?_, a2, a4⟩
              rw [cls, a1, e_bd, hw0, cond_false, v_upTo so a3 (by omega), e_bd, Nat.min_eq_left (by omega)]
              have hrm := VL_rm a3 (n := h) (by omega)
              dsimp only
              rw [show (0 : Int32) = Int32.ofInt 0 from rfl, i_eq (by omega) (by omega), decide_eq_false (by omega), cond_false, show xeq (Int32.ofInt (1 : Nat)) (Int32.ofInt 1) = true from rfl, cond_true, (k3 M' a3).1]
              rfl
            · obtain ⟨M', g1, g2⟩ := mdl2 M hM
              refine ⟨M', ?_, g2⟩
              rw [g1, m80_1 k1.1 k1.2 2001 0 0 (by omega) (by omega)]
          · refine both_v hW (Int32.ofInt hi) (fun M hM => ?_) (fun M hM => ?_)
            · obtain ⟨M', a1, a2, a3, a4⟩ := v_now hN hW hM
              refine ⟨M', ?_, a2, a4⟩
              rw [cls, a1, e_bd, hw0, cond_false, v_upTo so a3 (by omega), e_bd, Nat.min_eq_left (by omega)]
              have hrm := VL_rm a3 (n := h) (by omega)
              dsimp only
              rw [show (0 : Int32) = Int32.ofInt 0 from rfl, i_eq (by omega) (by omega), decide_eq_false (by omega), cond_false, show xeq (Int32.ofInt (2 : Nat)) (Int32.ofInt 1) = false by decide +kernel, cond_false, (k3 M' a3).2]
              rfl
            · obtain ⟨M', g1, g2⟩ := mdl2 M hM
              refine ⟨M', ?_, g2⟩
              rw [g1, m80_2 k2.1 k2.2 2001 0 0 (by omega), if_pos (by omega)]
    · refine both_refy hW 0 (by omega) N (fun M hM => ⟨M, ?_, hM, fr.rf⟩) (fun M hM => ⟨M, ?_, f8.rf⟩)
      · rw [eX8_said, chk0 hy (by omega), decide_eq_false h2, cond_false, chk hx (by omega) (by omega), decide_eq_true h1]; rfl
      · rw [eX9_said, v_win hx (by omega) (by omega), e_bd, b_z, decide_eq_true h1, cond_true, v_win hy (by omega) (by omega), e_bd, b_z, decide_eq_false h2]; rfl
  · refine both_refy hW 0 (by omega) N (fun M hM => ⟨M, ?_, hM, fr.rf⟩) (fun M hM => ⟨M, ?_, f8.rf⟩)
    · rw [eX8_said, chk hx (by omega) (by omega), decide_eq_false h1]; rfl
    · rw [eX9_said, v_win hx (by omega) (by omega), e_bd, b_z, decide_eq_false h1]; rfl
