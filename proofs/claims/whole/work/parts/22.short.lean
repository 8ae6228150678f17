def VR (w : Nat → Nat) : Nat → Nat → List RW
  | 0, _ => []
  | d + 1, k => Vn w k ++ VR w d (k + 1)
theorem VR_VL (w : Nat → Nat) : ∀ d k, VL w k ++ VR w d (k + 1) = VL w (k + d)
  | 0, k => by rw [VR, List.append_nil]; rfl
  | d + 1, k => by
    rw [VR, ← List.append_assoc, ← VL_s, VR_VL w d (k + 1)]
    congr 1
    omega
theorem VR_1 (w : Nat → Nat) (n : Nat) : VR w n 1 = VL w n := by
  have h := VR_VL w n 0
  rw [show VL w 0 = [] from rfl, List.nil_append, Nat.zero_add, Nat.zero_add] at h
  exact h
def cndm (R : RV) (m : Nat) (cf : Bool) (q : RW) : Bool := cnd R cf q && allm m q.1
theorem rows_m {R : RV} {m : Nat} (hm : ∀ c, m.testBit c = true → R.lv.testBit c = true) (cf : Bool) (n : Nat) : rowsM R m cf n = ((Vn (wR R) n).filter (cndm R m cf)).map Prod.fst := by
  rw [rows_sub hm, rows_cf, List.filter_map, List.filter_filter]
  congr 1
  refine filter_congr' (fun q _ => ?_)
  rw [Bool.and_comm]
  rfl
theorem find_map (c : RW → Bool) (f : List Nat → Bool) : ∀ X : List RW, ((X.filter c).map Prod.fst).find? f = (X.find? (fun q => f q.1 && c q)).map Prod.fst
  | [] => rfl
  | q :: X => by
    rw [List.filter_cons, List.find?_cons]
    cases hc : c q with
    | false =>
      rw [if_neg Bool.false_ne_true, Bool.and_false]
      exact find_map c f X
    | true =>
      rw [if_pos rfl, Bool.and_true, List.map_cons, List.find?_cons]
      cases hf : f q.1 with
      | true => rfl
      | false => exact find_map c f X
def mez (R : RV) (z : Int) (l : List Nat) : Bool := decide (mean (wR R) l = z)
theorem l_sb18 {N : Nat} (hN : big N) {R : RV} (hW : Wf R) {m : Nat} (hms : ∀ c, m.testBit c = true → R.lv.testBit c = true) (hm : m < 1024) {cf : Bool} {many : Nat} (hmany : many ≤ 6) {z : Int} (hz : rg z) (x : Int32) : ∀ (Q : List (List Nat)) (n : Nat) (M : XM), mv R M → EN R m cf many Q M → (∀ l ∈ Q, okl R m l ∧ l.length = many) → (Q.find? (mez R z) = none ∧ ∃ M', gX9_shortestBy N (n + 1 + Q.length) 18 [.ref 64, .int (Int32.ofInt z), .int x, .int (Int32.ofInt m), .int (bi cf), .int (Int32.ofInt many)] [] M = gX9_shortestBy N n 3 [.ref 64, .int (Int32.ofInt z), .int x, .int (Int32.ofInt m), .int (bi cf), .int (Int32.ofInt ((many + 1 : Nat) : Int))] [] M' ∧ fe M M') ∨ (∃ l, Q.find? (mez R z) = some l ∧ ∃ M', gX9_shortestBy N (n + 1 + Q.length) 18 [.ref 64, .int (Int32.ofInt z), .int x, .int (Int32.ofInt m), .int (bi cf), .int (Int32.ofInt many)] [] M = some (Int32.ofInt many, M') ∧ fe M M' ∧ rowAt l M')
  | [], n, M, hR, hE, hQ => by
    obtain ⟨M', h1, h2⟩ := v_goes0 hN hW hm hmany hR hE
    refine .inl ⟨rfl, M', ?_, h2⟩
    rw [List.length_nil, Nat.add_zero, eX9_shortestBy_18, h1, e_bd]
    show gX9_shortestBy N n 3 [.ref 64, .int (Int32.ofInt z), .int x, .int (Int32.ofInt m), .int (bi cf), .int (Int32.ofInt many + Int32.ofInt 1)] [] M' = _
    rw [i_suc]
  | l :: Q, n, M, hR, hE, hQ => by
    have hN' := hN
    unfold big at hN'
    obtain ⟨M', h1, h2, h3, h4, _⟩ := v_goes1 hN hW hm hmany hR hE
    obtain ⟨k1, k2⟩ := hQ l List.mem_cons_self
    obtain ⟨k3, k4⟩ := okl_sub hms k1
    have hb := mean_b hW k1 (by omega)
    have hme := v_meaning9 (N := N) (by omega) hW (mv_fe hR h2) k1 (by omega) h4
    rw [k4] at hme hb
    rw [k2] at hme
    rw [List.length_cons, show n + 1 + (Q.length + 1) = n + 1 + Q.length + 1 by omega, eX9_shortestBy_18, h1, e_bd]
    show ((fX9_meaning N [.ref 64, .int (Int32.ofInt many)] M').bind _ = _ ∧ _) ∨ _
    sorry
