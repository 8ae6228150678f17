def ct (S : SV) (a b : Int32) : Int := if rtr S a = -2 then -2 else if rtr S b = -2 then -2 else if rtr S a = -3 then -3 else if rtr S b = -3 then -3 else if rtr S a = -4 then -4 else if rtr S b = -4 then -4 else if S.th a.toNatClampNeg = S.th b.toNatClampNeg then 0 else -3
theorem x_eqi {x y : Int} (hx : rg x) (hy : rg y) : xeq (Int32.ofInt x) (Int32.ofInt y) = decide (x = y) := i_eq hx hy
theorem v_ct {N : Nat} {t : Nat} {S : SV} {M : XM} (hW : WfS S) (hM : CX t S M) (a b : Int32) : fX8_copyTrouble N [.ref 0, .int a, .int b] M = some (Int32.ofInt (ct S a b), M) := by
  have h10 := hW.1.1
  have ra := rtr_rg S a
  have rb := rtr_rg S b
  rw [eX8_copyTrouble, v_rowTrouble hW hM, e_bd]
  dsimp only
  rw [v_rowTrouble hW hM, e_bd]
  dsimp only
  rw [i_eq (by omega) (by omega), i_eq (by omega) (by omega), i_eq (by omega) (by omega), i_eq (by omega) (by omega), i_eq (by omega) (by omega), i_eq (by omega) (by omega)]
  unfold ct
  by_cases h1 : rtr S a = -2
  · rw [decide_eq_true h1, if_pos h1]; rfl
  rw [decide_eq_false h1, if_neg h1, cond_false]
  by_cases h2 : rtr S b = -2
  · rw [decide_eq_true h2, if_pos h2]; rfl
  rw [decide_eq_false h2, if_neg h2, cond_false]
  by_cases h3 : rtr S a = -3
  · rw [decide_eq_true h3, if_pos h3]; rfl
  rw [decide_eq_false h3, if_neg h3, cond_false]
  by_cases h4 : rtr S b = -3
  · rw [decide_eq_true h4, if_pos h4]; rfl
  rw [decide_eq_false h4, if_neg h4, cond_false]
  by_cases h5 : rtr S a = -4
  · rw [decide_eq_true h5, if_pos h5]; rfl
  rw [decide_eq_false h5, if_neg h5, cond_false]
  by_cases h6 : rtr S b = -4
  · rw [decide_eq_true h6, if_pos h6]; rfl
  rw [decide_eq_false h6, if_neg h6, cond_false]
  obtain ⟨k1, hk1, rfl, -, -⟩ := rtr_sh (show rtr S a = 0 by omega)
  obtain ⟨k2, hk2, rfl, -, -⟩ := rtr_sh (show rtr S b = 0 by omega)
  have w1 := hW.2.2.2.2 k1 hk1
  have w2 := hW.2.2.2.2 k2 hk2
  rw [i_inn (by omega), show xlen M (0 + 46) = 8 from rfl, decide_eq_true hk1, cond_true, i_inn (by omega), decide_eq_true hk2, i_natn (by omega), i_natn (by omega), (x_shelf hk1).1, (x_shelf hk1).2, (x_shelf hk2).1, (x_shelf hk2).2]
  show (bif xeq (M.1 (48 + 2 * k1) 0) (M.1 (48 + 2 * k2) 0) then (xrI (some (.int (Int32.ofInt 0))) M) else (xrI (some (.int (Int32.ofInt (-3)))) M)) = _
  rw [(hM.2.2.2.2.2.1 k1 hk1).1, (hM.2.2.2.2.2.1 k2 hk2).1, i_eq (by omega) (by omega)]
  by_cases h7 : S.th k1 = S.th k2
  · rw [decide_eq_true h7, if_pos h7]; rfl
  · rw [decide_eq_false h7, if_neg h7]; rfl
theorem l_cmp' (v w : Int64) : xlt (0 : Int32) (lg_cmp v w) = decide (w.toInt < v.toInt) := by
  unfold lg_cmp
  by_cases h1 : v > w
  · rw [if_pos h1, show xlt 0 1 = true from rfl, eq_comm, decide_eq_true_eq]
    exact Int64.lt_iff_toInt_lt.mp h1
  · rw [if_neg h1]
    have h1' : ¬ w.toInt < v.toInt := fun h => h1 (Int64.lt_iff_toInt_lt.mpr h)
    rw [decide_eq_false h1']
    by_cases h2 : v = w
    · rw [if_pos h2]; rfl
    · rw [if_neg h2]; decide +kernel
theorem l_sm64 {a b c : Nat} (ha : a < 2147483648) (hb : b < 2147483648) (hc : c < 2147483648) : xlt (0 : Int32) (lg_cmp ((Int32.ofInt (a : Int)).toInt64 + (Int32.ofInt (b : Int)).toInt64) ((Int32.ofInt (c : Int)).toInt64)) = decide (c < a + b) := by
  rw [l_cmp', i_64 ha, i_64 hb, i_64 hc, l_toInt hc, ← Int64.ofInt_add, Int64.toInt_ofInt_of_le (by omega) (by omega)]
  exact decide_eq_decide.mpr (by omega)
def cpx (M : XM) (s d lo hi : Nat) : XM := (M.1, fun c k => if c = 75 then (if d + lo ≤ k ∧ k < d + hi then M.2 75 (s + (k - d)) else M.2 75 k) else M.2 c k)
theorem cpx_0 (M : XM) (s d lo : Nat) : cpx M s d lo lo = M := by
  refine Prod.ext rfl (funext fun c => funext fun k => ?_)
  show (if c = 75 then (if d + lo ≤ k ∧ k < d + lo then M.2 75 (s + (k - d)) else M.2 75 k) else M.2 c k) = _
  by_cases e : c = 75
  · rw [if_pos e, if_neg (by omega), e]
  · rw [if_neg e]
theorem cpx_f {M : XM} {s d j : Nat} (h : ¬ (d ≤ s + j ∧ s + j < d + j)) : xwl (cpx M s d 0 j) 75 (d + j) ((cpx M s d 0 j).2 75 (s + j)) = cpx M s d 0 (j + 1) := by
  refine Prod.ext rfl (funext fun c => funext fun k => ?_)
  rw [m_wl2]
  show (if c = 75 ∧ k = d + j then (if (75 : Nat) = 75 then (if d + 0 ≤ s + j ∧ s + j < d + j then M.2 75 (s + (s + j - d)) else M.2 75 (s + j)) else M.2 75 (s + j)) else (if c = 75 then (if d + 0 ≤ k ∧ k < d + j then M.2 75 (s + (k - d)) else M.2 75 k) else M.2 c k)) = (if c = 75 then (if d + 0 ≤ k ∧ k < d + (j + 1) then M.2 75 (s + (k - d)) else M.2 75 k) else M.2 c k)
  by_cases e : c = 75
  · by_cases e2 : k = d + j
    · rw [if_pos ⟨e, e2⟩, if_pos rfl, if_neg (by omega), if_pos e, if_pos (by omega), show s + (k - d) = s + j by omega]
    · rw [if_neg (fun h => e2 h.2), if_pos e, if_pos e]
      by_cases e3 : d + 0 ≤ k ∧ k < d + j
      · rw [if_pos e3, if_pos (by omega)]
      · rw [if_neg e3, if_neg (by omega)]
  · rw [if_neg (fun h => e h.1), if_neg e, if_neg e]
theorem cpx_b {M : XM} {s d j e : Nat} (h : s ≤ d) (hj : j < e) : xwl (cpx M s d (j + 1) e) 75 (d + j) ((cpx M s d (j + 1) e).2 75 (s + j)) = cpx M s d j e := by
  refine Prod.ext rfl (funext fun c => funext fun k => ?_)
  rw [m_wl2]
  show (if c = 75 ∧ k = d + j then (if (75 : Nat) = 75 then (if d + (j + 1) ≤ s + j ∧ s + j < d + e then M.2 75 (s + (s + j - d)) else M.2 75 (s + j)) else M.2 75 (s + j)) else (if c = 75 then (if d + (j + 1) ≤ k ∧ k < d + e then M.2 75 (s + (k - d)) else M.2 75 k) else M.2 c k)) = (if c = 75 then (if d + j ≤ k ∧ k < d + e then M.2 75 (s + (k - d)) else M.2 75 k) else M.2 c k)
  by_cases ee : c = 75
  · by_cases e2 : k = d + j
    · rw [if_pos ⟨ee, e2⟩, if_pos rfl, if_neg (by omega), if_pos ee, if_pos (by omega), show s + (k - d) = s + j by omega]
    · rw [if_neg (fun h => e2 h.2), if_pos ee, if_pos ee]
      by_cases e3 : d + (j + 1) ≤ k ∧ k < d + e
      · rw [if_pos e3, if_pos (by omega)]
      · rw [if_neg e3, if_neg (by omega)]
  · rw [if_neg (fun h => ee h.1), if_neg ee, if_neg ee]
theorem i_at40 {k c j : Nat} : ((Int32.ofInt 40 * Int32.ofInt (k : Int)) + Int32.ofInt (c : Int)) + Int32.ofInt (j : Int) = Int32.ofInt ((40 * k + c + j : Nat) : Int) := by
  rw [i_mul, i_add, i_add]
  rfl
theorem l_cpf {N k1 k2 c d e : Nat} (h1 : 40 * k1 + c + e ≤ 320) (h2 : 40 * k2 + d + e ≤ 320) (ho : 40 * k2 + d ≤ 40 * k1 + c ∨ 40 * k1 + c + e ≤ 40 * k2 + d) (M : XM) : ∀ (u j n : Nat), j + u = e → u < n → gX9_copy N n 225 [.ref 64, .int (Int32.ofInt k1), .int (Int32.ofInt k2), .int (Int32.ofInt c), .int (Int32.ofInt d), .int (Int32.ofInt e), .int (Int32.ofInt j)] [] (cpx M (40 * k1 + c) (40 * k2 + d) 0 j) = some (Int32.ofInt e, cpx M (40 * k1 + c) (40 * k2 + d) 0 e)
  | 0, j, n + 1, hj, hn => by
    obtain rfl : j = e := by omega
    rw [eX9_copy_225, i_lt (by omega) (by omega), decide_eq_false (by omega), cond_false, e_I]
  | u + 1, j, n + 1, hj, hn => by
    rw [eX9_copy_225, i_lt (by omega) (by omega), decide_eq_true (by omega), cond_true, i_at40, i_at40, show ∀ M, xlen M (64 + 11) = 320 from fun _ => rfl, i_inn (by omega), decide_eq_true (by omega), cond_true, i_inn (by omega), decide_eq_true (by omega), cond_true, i_natn (by omega), i_natn (by omega), show 64 + 11 = 75 from rfl, cpx_f (by omega), i_suc]
    exact l_cpf h1 h2 ho M u (j + 1) n (by omega) (by omega)
theorem l_cpb {N k1 k2 c d e : Nat} (h1 : 40 * k1 + c + e ≤ 320) (h2 : 40 * k2 + d + e ≤ 320) (ho : 40 * k1 + c ≤ 40 * k2 + d) (M : XM) : ∀ (u n : Nat), u ≤ e → u < n → gX9_copy N n 179 [.ref 64, .int (Int32.ofInt k1), .int (Int32.ofInt k2), .int (Int32.ofInt c), .int (Int32.ofInt d), .int (Int32.ofInt e), .int (Int32.ofInt ((u : Int) - 1))] [] (cpx M (40 * k1 + c) (40 * k2 + d) u e) = some (Int32.ofInt e, cpx M (40 * k1 + c) (40 * k2 + d) 0 e)
  | 0, n + 1, hj, hn => by
    rw [eX9_copy_179, show (0 : Int32) = Int32.ofInt 0 from rfl, i_lt (by omega) (by omega), decide_eq_true (by omega), cond_true, e_I]
  | u + 1, n + 1, hj, hn => by
    rw [show (((u + 1 : Nat) : Int) - 1) = (u : Int) by omega, eX9_copy_179, show (0 : Int32) = Int32.ofInt 0 from rfl, i_lt (by omega) (by omega), decide_eq_false (by omega), cond_false, i_at40, i_at40, show ∀ M, xlen M (64 + 11) = 320 from fun _ => rfl, i_inn (by omega), decide_eq_true (by omega), cond_true, i_inn (by omega), decide_eq_true (by omega), cond_true, i_natn (by omega), i_natn (by omega), show 64 + 11 = 75 from rfl, cpx_b ho (by omega), i_add, show (u : Int) + -1 = (u : Int) - 1 by omega]
    exact l_cpb h1 h2 ho M u n (by omega) (by omega)
theorem x_sh3 {s : Nat} (hs : s < 8) : xal (48 + 2 * s + 1) = 40 ∧ Nat.beq (xak (48 + 2 * s + 1)) 1 = false ∧ Nat.beq (xak (48 + 2 * s + 1)) 2 = true := by
  match s, hs with
  | 0, _ | 1, _ | 2, _ | 3, _ | 4, _ | 5, _ | 6, _ | 7, _ => exact ⟨rfl, rfl, rfl⟩
theorem i_lt0 {n : Nat} (h : n < 2147483648) : ¬ Int32.ofInt (n : Int) < 0 := by
  rw [show (0 : Int32) = Int32.ofInt 0 from rfl, Int32.lt_iff_toInt_lt, i_toInt (by omega), i_toInt (by omega)]
  omega
theorem x_cpl {k1 k2 c d e : Nat} (h1 : k1 < 8) (h2 : k2 < 8) (hc : c + e ≤ 40) (hd : d + e ≤ 40) (M : XM) : xcopy [.ref (48 + 2 * k1 + 1), .int (Int32.ofInt c), .ref (48 + 2 * k2 + 1), .int (Int32.ofInt d), .int (Int32.ofInt e)] M = some (xcpl M (48 + 2 * k1 + 1) (48 + 2 * k2 + 1) c d e) := by
  show (bif (Nat.beq (xak (48 + 2 * k1 + 1)) 1 && Nat.beq (xak (48 + 2 * k2 + 1)) 1) then _ else bif (Nat.beq (xak (48 + 2 * k1 + 1)) 2 && Nat.beq (xak (48 + 2 * k2 + 1)) 2) then (if Int32.ofInt (c : Int) < 0 then none else if Int32.ofInt (d : Int) < 0 then none else if Int32.ofInt (e : Int) < 0 then none else if (Int32.ofInt (c : Int)).toNatClampNeg + (Int32.ofInt (e : Int)).toNatClampNeg ≤ xal (48 + 2 * k1 + 1) then (if (Int32.ofInt (d : Int)).toNatClampNeg + (Int32.ofInt (e : Int)).toNatClampNeg ≤ xal (48 + 2 * k2 + 1) then some (xcpl M (48 + 2 * k1 + 1) (48 + 2 * k2 + 1) (Int32.ofInt (c : Int)).toNatClampNeg (Int32.ofInt (d : Int)).toNatClampNeg (Int32.ofInt (e : Int)).toNatClampNeg) else none) else none) else none) = _
  rw [(x_sh3 h1).2.1, (x_sh3 h1).2.2, (x_sh3 h2).2.2, Bool.false_and, Bool.and_self, cond_false, cond_true, if_neg (i_lt0 (by omega)), if_neg (i_lt0 (by omega)), if_neg (i_lt0 (by omega)), i_natn (by omega), i_natn (by omega), i_natn (by omega), (x_sh3 h1).1, (x_sh3 h2).1, if_pos hc, if_pos hd]
def cpel (S : SV) (k1 k2 c d e : Nat) : Nat → Nat → Int64 := upn S.el k2 (va_cpy (S.el k1) (S.el k2) c d e)
theorem copy_c {t : Nat} {S : SV} {M : XM} (hM : CX t S M) {k1 k2 c d e : Nat} (h1 : k1 < 8) (h2 : k2 < 8) (r1 : 0 ≤ S.th k1 ∧ S.th k1 < 5) (hc : c + e ≤ 40) (hd : d + e ≤ 40) : CX (t + 1) (S.wS S.th S.ln (cpel S k1 k2 c d e)) (xcpl M (48 + 2 * k1 + 1) (48 + 2 * k2 + 1) c d e) ∧ fr 48 64 M (xcpl M (48 + 2 * k1 + 1) (48 + 2 * k2 + 1) c d e) := by
  have hf : fr 48 64 M (xcpl M (48 + 2 * k1 + 1) (48 + 2 * k2 + 1) c d e) := fun a ha => by
    refine ⟨rfl, ?_⟩
    funext k
    show (if a = 48 + 2 * k2 + 1 then _ else M.2 a k) = _
    rw [if_neg (by omega)]
  refine ⟨CX_S hM (fun s hs => ⟨(hM.2.2.2.2.2.1 s hs).1, fun q1 q2 => ⟨((hM.2.2.2.2.2.1 s hs).2 q1 q2).1, fun i hi => ?_⟩⟩) hf, hf⟩
  show (if 49 + 2 * s = 48 + 2 * k2 + 1 then va_cpy (M.2 (48 + 2 * k1 + 1)) (M.2 (48 + 2 * k2 + 1)) c d e i else M.2 (49 + 2 * s) i) = cpel S k1 k2 c d e s i
  unfold cpel
  by_cases es : s = k2
  · subst es
    rw [if_pos (by omega), upn_eq]
    unfold va_cpy
    by_cases hi2 : d ≤ i ∧ i < d + e
    · rw [if_pos hi2, if_pos hi2, show 48 + 2 * k1 + 1 = 49 + 2 * k1 by omega, ((hM.2.2.2.2.2.1 k1 h1).2 r1.1 r1.2).2 _ (by omega)]
    · rw [if_neg hi2, if_neg hi2, show 48 + 2 * s + 1 = 49 + 2 * s by omega, ((hM.2.2.2.2.2.1 s hs).2 q1 q2).2 _ hi]
  · rw [if_neg (by omega), upn_ne _ _ es, ((hM.2.2.2.2.2.1 s hs).2 q1 q2).2 _ hi]
theorem copy_m {S : SV} {M : XM} (hM : CM S M) {k1 k2 c d e : Nat} (h1 : k1 < 8) (h2 : k2 < 8) (r1 : 0 ≤ S.th k1 ∧ S.th k1 < 5) (hc : c + e ≤ 40) (hd : d + e ≤ 40) : CM (S.wS S.th S.ln (cpel S k1 k2 c d e)) (cpx M (40 * k1 + c) (40 * k2 + d) 0 e) ∧ fr 64 82 M (cpx M (40 * k1 + c) (40 * k2 + d) 0 e) := by
  have hf : fr 73 76 M (cpx M (40 * k1 + c) (40 * k2 + d) 0 e) := fun a ha => by
    refine ⟨rfl, ?_⟩
    funext k
    show (if a = 75 then _ else M.2 a k) = _
    rw [if_neg (by omega)]
  refine ⟨CM_S hM (fun s hs => ⟨(hM.2.2.2.2.2.1 s hs).1, fun q1 q2 => ⟨((hM.2.2.2.2.2.1 s hs).2 q1 q2).1, fun i hi => ?_⟩⟩) hf, hf.wide (by omega) (by omega)⟩
  show (if (75 : Nat) = 75 then (if 40 * k2 + d + 0 ≤ 40 * s + i ∧ 40 * s + i < 40 * k2 + d + e then M.2 75 (40 * k1 + c + (40 * s + i - (40 * k2 + d))) else M.2 75 (40 * s + i)) else M.2 75 (40 * s + i)) = cpel S k1 k2 c d e s i
  rw [if_pos rfl]
  unfold cpel
  by_cases es : s = k2
  · subst es
    rw [upn_eq]
    unfold va_cpy
    by_cases hi2 : d ≤ i ∧ i < d + e
    · rw [if_pos (by omega), if_pos hi2, show 40 * k1 + c + (40 * s + i - (40 * s + d)) = 40 * k1 + (c + (i - d)) by omega, ((hM.2.2.2.2.2.1 k1 h1).2 r1.1 r1.2).2 _ (by omega)]
    · rw [if_neg (by omega), if_neg hi2, ((hM.2.2.2.2.2.1 s hs).2 q1 q2).2 _ hi]
  · rw [if_neg (by omega), upn_ne _ _ es, ((hM.2.2.2.2.2.1 s hs).2 q1 q2).2 _ hi]
theorem bf3 {w : Int32} {M : XM} (hx : xeq w 0 = true) (F G H : Int32 × XM → Option (Int32 × XM)) : ((some (w, M)).bind fun q0 => bif xeq q0.1 0 then F q0 else bif xeq q0.1 0 then G q0 else H q0) = F (w, M) := by
  rw [e_bd]
  show (bif xeq w 0 then F (w, M) else bif xeq w 0 then G (w, M) else H (w, M)) = _
  rw [hx]
  rfl
theorem ct_rg (S : SV) (a b : Int32) : ct S a b = 0 ∨ ∃ j : Nat, j < 5 ∧ ct S a b = -2 - j := by
  unfold ct
  by_cases h1 : rtr S a = -2
  · rw [if_pos h1]; exact .inr ⟨0, by omega, rfl⟩
  rw [if_neg h1]
  by_cases h2 : rtr S b = -2
  · rw [if_pos h2]; exact .inr ⟨0, by omega, rfl⟩
  rw [if_neg h2]
  by_cases h3 : rtr S a = -3
  · rw [if_pos h3]; exact .inr ⟨1, by omega, rfl⟩
  rw [if_neg h3]
  by_cases h4 : rtr S b = -3
  · rw [if_pos h4]; exact .inr ⟨1, by omega, rfl⟩
  rw [if_neg h4]
  by_cases h5 : rtr S a = -4
  · rw [if_pos h5]; exact .inr ⟨2, by omega, rfl⟩
  rw [if_neg h5]
  by_cases h6 : rtr S b = -4
  · rw [if_pos h6]; exact .inr ⟨2, by omega, rfl⟩
  rw [if_neg h6]
  by_cases h7 : S.th a.toNatClampNeg = S.th b.toNatClampNeg
  · rw [if_pos h7]; exact .inl rfl
  · rw [if_neg h7]; exact .inr ⟨1, by omega, rfl⟩
theorem ct_row {S : SV} (hW : WfS S) {a b : Int32} (h : ct S a b = 0) : ∃ k1 k2 : Nat, k1 < 8 ∧ k2 < 8 ∧ a = Int32.ofInt k1 ∧ b = Int32.ofInt k2 ∧ (0 ≤ S.th k1 ∧ S.th k1 < 5) ∧ (0 ≤ S.th k2 ∧ S.th k2 < 5) ∧ S.th k1 = S.th k2 := by
  have ra := rtr_rg S a
  have rb := rtr_rg S b
  have ha : rtr S a = 0 ∧ rtr S b = 0 := by
    unfold ct at h
    repeat' split at h
    all_goals omega
  obtain ⟨k1, hk1, rfl, n1, n2⟩ := rtr_sh ha.1
  obtain ⟨k2, hk2, rfl, n3, n4⟩ := rtr_sh ha.2
  have w1 := hW.2.2.2.2 k1 hk1
  have w2 := hW.2.2.2.2 k2 hk2
  refine ⟨k1, k2, hk1, hk2, rfl, rfl, by omega, by omega, ?_⟩
  unfold ct at h
  rw [ha.1, ha.2, i_natn (by omega), i_natn (by omega)] at h
  by_cases h7 : S.th k1 = S.th k2
  · exact h7
  · rw [if_neg h7] at h
    simp at h
theorem rtr_v {S : SV} {k : Nat} (hk : k < 8) : rtr S (Int32.ofInt k) = if S.th k = -1 then -4 else if S.th k < 5 then 0 else -3 := by
  unfold rtr
  rw [i_inn (by omega), decide_eq_true hk, i_natn (by omega)]
  rfl
theorem cp81 {N n : Nat} {S : SV} (hW : WfS S) {M : XM} (hM : CM S M) {k1 k2 : Nat} (h1 : k1 < 8) (h2 : k2 < 8) (hr : ¬ (0 ≤ S.th k1 ∧ 0 ≤ S.th k2)) (c d e : Int32) : gX9_copy N (n + 1) 81 [.ref 64, .int (Int32.ofInt k1), .int (Int32.ofInt k2), .int c, .int d, .int e, .retAddr 0] [] M = (fX9_no N [.ref 64, .int (Int32.ofInt (-4))] M).bind fun q => xrI (some (.int q.1)) q.2 := by
  have w1 := hW.2.2.2.2 k1 h1
  have w2 := hW.2.2.2.2 k2 h2
  have h10 := hW.1.1
  rw [eX9_copy_81, show xlen M (64 + 9) = 8 from rfl, i_inn (by omega), decide_eq_true h1, cond_true, i_natn (by omega), show 64 + 9 = 73 from rfl, (hM.2.2.2.2.2.1 k1 h1).1, show (0 : Int32) = Int32.ofInt 0 from rfl, i_lt (by omega) (by omega)]
  by_cases q1 : S.th k1 < 0
  · rw [decide_eq_true q1, cond_true]
  · rw [decide_eq_false q1, cond_false, i_inn (by omega), decide_eq_true h2, cond_true, i_natn (by omega), (hM.2.2.2.2.2.1 k2 h2).1, i_lt (by omega) (by omega), decide_eq_true (by omega), cond_true]
theorem cp9 {N : Nat} {S : SV} (hW : WfS S) {M : XM} (hM : CM S M) {k1 k2 : Nat} (h1 : k1 < 8) (h2 : k2 < 8) (c d e : Int32) : fX9_copy N [.ref 64, .int (Int32.ofInt k1), .int (Int32.ofInt k2), .int c, .int d, .int e] M = if S.th k1 < 10 ∧ S.th k2 < 10 ∧ (0 ≤ S.th k1 → 0 ≤ S.th k2 → S.th k1 = S.th k2) then gX9_copy N N 81 [.ref 64, .int (Int32.ofInt k1), .int (Int32.ofInt k2), .int c, .int d, .int e, .retAddr 0] [] M else (fX9_no N [.ref 64, .int (Int32.ofInt (-3))] M).bind fun q => xrI (some (.int q.1)) q.2 := by
  have w1 := hW.2.2.2.2 k1 h1
  have w2 := hW.2.2.2.2 k2 h2
  have h10 := hW.1.1
  rw [eX9_copy, v_isShelf.2, e_bd, b_z, i_inn (by omega), decide_eq_true h1, cond_true, v_isShelf.2, e_bd, b_z, i_inn (by omega), decide_eq_true h2, cond_true]
  dsimp only
  rw [show xlen M (64 + 9) = 8 from rfl, i_inn (by omega), decide_eq_true h1, cond_true, i_natn (by omega), show 64 + 9 = 73 from rfl, (hM.2.2.2.2.2.1 k1 h1).1, i_lt (by omega) (by omega)]
  by_cases q1 : S.th k1 < 10
  · rw [decide_eq_true q1, cond_true, i_inn (by omega), decide_eq_true h2, cond_true, i_natn (by omega), (hM.2.2.2.2.2.1 k2 h2).1, i_lt (by omega) (by omega)]
    by_cases q2 : S.th k2 < 10
    · rw [decide_eq_true q2, cond_true, v_isRow9 hW hM h1, e_bd, b_z]
      dsimp only
      by_cases q3 : 0 ≤ S.th k1
      · rw [decide_eq_true q3, decide_eq_true (show S.th k1 < 5 by omega), Bool.and_self, cond_true, v_isRow9 hW hM h2, e_bd, b_z]
        dsimp only
        by_cases q4 : 0 ≤ S.th k2
        · rw [decide_eq_true q4, decide_eq_true (show S.th k2 < 5 by omega), Bool.and_self, cond_true, show xlen M 73 = 8 from rfl, i_inn (show k1 < 2147483648 by omega), decide_eq_true h1, cond_true, i_inn (show k2 < 2147483648 by omega), decide_eq_true h2, cond_true, (hM.2.2.2.2.2.1 k1 h1).1, (hM.2.2.2.2.2.1 k2 h2).1, i_eq (by omega) (by omega)]
          by_cases q5 : S.th k1 = S.th k2
          · rw [decide_eq_true q5, cond_true, if_pos ⟨q1, q2, fun _ _ => q5⟩]
          · rw [decide_eq_false q5, cond_false, if_neg (fun h => q5 (h.2.2 q3 q4))]
        · rw [decide_eq_false q4, Bool.false_and, cond_false, if_pos ⟨q1, q2, fun _ h => absurd h q4⟩]
      · rw [decide_eq_false q3, Bool.false_and, cond_false, if_pos ⟨q1, q2, fun h => absurd h q3⟩]
    · rw [decide_eq_false q2, cond_false, if_neg (fun h => q2 h.2.1)]
  · rw [decide_eq_false q1, cond_false, if_neg (fun h => q1 h.1)]
theorem cp9a {N : Nat} (hN : 0 < N) {S : SV} (hW : WfS S) {M : XM} (hM : CM S M) (a b c d e : Int32) (h : ct S a b ≠ 0) : fX9_copy N [.ref 64, .int a, .int b, .int c, .int d, .int e] M = (fX9_no N [.ref 64, .int (Int32.ofInt (ct S a b))] M).bind fun q => xrI (some (.int q.1)) q.2 := by
  obtain ⟨n, rfl⟩ : ∃ n, N = n + 1 := ⟨N - 1, by omega⟩
  cases hx1 : xin a 8 with
  | false =>
    have hr : rtr S a = -2 := by unfold rtr; rw [hx1]; rfl
    rw [eX9_copy, v_isShelf.2, e_bd, b_z, hx1, cond_false, ct, if_pos hr]
  | true =>
    cases hx2 : xin b 8 with
    | false =>
      have hr : rtr S b = -2 := by unfold rtr; rw [hx2]; rfl
      rw [eX9_copy, v_isShelf.2, e_bd, b_z, hx1, cond_true, v_isShelf.2, e_bd, b_z, hx2, cond_false, ct, if_pos hr]
      by_cases h1 : rtr S a = -2
      · rw [if_pos h1]
      · rw [if_neg h1]
    | true =>
      obtain ⟨k1, hk1, rfl⟩ := xin_ex (by omega) hx1
      obtain ⟨k2, hk2, rfl⟩ := xin_ex (by omega) hx2
      have w1 := hW.2.2.2.2 k1 hk1
      have w2 := hW.2.2.2.2 k2 hk2
      rw [cp9 hW hM hk1 hk2]
      unfold ct at h ⊢
      rw [rtr_v hk1, rtr_v hk2, i_natn (by omega), i_natn (by omega)] at h ⊢
      by_cases q : S.th k1 < 10 ∧ S.th k2 < 10 ∧ (0 ≤ S.th k1 → 0 ≤ S.th k2 → S.th k1 = S.th k2)
      · rw [if_pos q]
        obtain ⟨q1, q2, q3⟩ := q
        by_cases e1 : S.th k1 = -1
        · rw [cp81 hW hM hk1 hk2 (by omega)]
          simp only [e1]
          by_cases e2 : S.th k2 = -1
          · simp only [e2]; rfl
          · simp only [e2, show S.th k2 < 5 by omega, if_true, if_false]; rfl
        · by_cases e2 : S.th k2 = -1
          · rw [cp81 hW hM hk1 hk2 (by omega)]
            simp only [e1, e2, show S.th k1 < 5 by omega, if_true, if_false]
            rfl
          · exact absurd (by simp only [e1, e2, show S.th k1 < 5 by omega, show S.th k2 < 5 by omega, if_true, if_false, q3 (by omega) (by omega)]; rfl) h
      · rw [if_neg q]
        have : (if (if S.th k1 = -1 then (-4 : Int) else if S.th k1 < 5 then 0 else -3) = -2 then (-2 : Int) else if (if S.th k2 = -1 then (-4 : Int) else if S.th k2 < 5 then 0 else -3) = -2 then -2 else if (if S.th k1 = -1 then (-4 : Int) else if S.th k1 < 5 then 0 else -3) = -3 then -3 else if (if S.th k2 = -1 then (-4 : Int) else if S.th k2 < 5 then 0 else -3) = -3 then -3 else if (if S.th k1 = -1 then (-4 : Int) else if S.th k1 < 5 then 0 else -3) = -4 then -4 else if (if S.th k2 = -1 then (-4 : Int) else if S.th k2 < 5 then 0 else -3) = -4 then -4 else if S.th k1 = S.th k2 then 0 else -3) = -3 := by
          repeat' split
          all_goals omega
        rw [this]
set_option maxRecDepth 100000 in
theorem cp8 {N : Nat} {t : Nat} {S : SV} {M : XM} (hW : WfS S) (hM : CX t S M) {k1 k2 : Nat} (h1 : k1 < 8) (h2 : k2 < 8) (r1 : 0 ≤ S.th k1 ∧ S.th k1 < 5) (r2 : 0 ≤ S.th k2 ∧ S.th k2 < 5) (hct : ct S (Int32.ofInt k1) (Int32.ofInt k2) = 0) {zc zd ze : Int} (hc : rg zc) (hd : rg zd) (he : rg ze) : fX8_copy N [.ref 0, .int (Int32.ofInt k1), .int (Int32.ofInt k2), .int (Int32.ofInt zc), .int (Int32.ofInt zd), .int (Int32.ofInt ze)] M = if (0 ≤ zc ∧ 0 ≤ ze ∧ zc + ze ≤ S.ln k1) ∧ (0 ≤ zd ∧ 0 ≤ ze ∧ zd + ze ≤ S.ln k2) then some (Int32.ofInt ze, xcpl M (48 + 2 * k1 + 1) (48 + 2 * k2 + 1) zc.toNat zd.toNat ze.toNat) else (fX8_refuse N [.ref 0, .int (Int32.ofInt (-2))] M).bind fun q => xrI (some (.int q.1)) q.2 := by
  have l1 := (hW.2.2.2.2 k1 h1).2 r1.1 r1.2
  have l2 := (hW.2.2.2.2 k2 h2).2 r2.1 r2.2
  have hx1 : xin (Int32.ofInt k1) 8 = true := by rw [i_inn (by omega), decide_eq_true h1]
  have hx2 : xin (Int32.ofInt k2) 8 = true := by rw [i_inn (by omega), decide_eq_true h2]
  have hm2 : xeq (Int32.ofInt (-2)) 0 = false := by decide +kernel
  rw [eX8_copy, v_ct hW hM, hct, e_bd, show xeq (Int32.ofInt 0) 0 = true from rfl, cond_true, show xlen M (0 + 46) = 8 from rfl, hx1, cond_true, i_natn (show k1 < 2147483648 by omega), i_natn (show k2 < 2147483648 by omega), (x_shelf h1).1, (x_shelf h1).2, (x_shelf h2).1, (x_shelf h2).2]
  show (fX5_spans N [.ref (48 + 2 * k1), .int (Int32.ofInt zc), .int (Int32.ofInt ze)] M).bind _ = _
  rw [v_spans hW hM h1 r1.1 r1.2 hc he, e_bd, b_z]
  by_cases hP : 0 ≤ zc ∧ 0 ≤ ze ∧ zc + ze ≤ S.ln k1
  · rw [decide_eq_true hP, cond_true]
    show (bif xin (Int32.ofInt k2) 8 then (fX5_spans N [.ref (48 + 2 * k2), .int (Int32.ofInt zd), .int (Int32.ofInt ze)] M).bind _ else none) = _
    rw [hx2, cond_true, v_spans hW hM h2 r2.1 r2.2 hd he, e_bd, b_z]
    by_cases hQ : 0 ≤ zd ∧ 0 ≤ ze ∧ zd + ze ≤ S.ln k2
    · rw [decide_eq_true hQ, cond_true, if_pos ⟨hP, hQ⟩]
      show (bif xin (Int32.ofInt k1) 8 then (bif xin (Int32.ofInt k2) 8 then (xcopy [.ref (48 + 2 * k1 + 1), .int (Int32.ofInt zc), .ref (48 + 2 * k2 + 1), .int (Int32.ofInt zd), .int (Int32.ofInt ze)] M).bind _ else none) else none) = _
      obtain ⟨c, rfl⟩ := Int.eq_ofNat_of_zero_le hP.1
      obtain ⟨d, rfl⟩ := Int.eq_ofNat_of_zero_le hQ.1
      obtain ⟨e, rfl⟩ := Int.eq_ofNat_of_zero_le hP.2.1
      rw [hx1, cond_true, hx2, cond_true, x_cpl h1 h2 (by omega) (by omega), e_bd, e_I]
      rfl
    · rw [decide_eq_false hQ, cond_false, if_neg (fun h => hQ h.2)]
      show (bif xeq (Int32.ofInt (-2)) 0 then _ else ((fX8_refuse N [.ref 0, .int (Int32.ofInt (-2))] M).bind fun q => xrI (some (.int q.1)) q.2)) = _
      rw [hm2, cond_false]
  · rw [decide_eq_false hP, cond_false, if_neg (fun h => hP h.1)]
    show (bif xeq (Int32.ofInt (-2)) 0 then _ else ((fX8_refuse N [.ref 0, .int (Int32.ofInt (-2))] M).bind fun q => xrI (some (.int q.1)) q.2)) = _
    rw [hm2, cond_false]
set_option maxRecDepth 100000 in
theorem cp9r {N : Nat} (hN : 100 < N) {S : SV} {M : XM} (hW : WfS S) (hM : CM S M) {k1 k2 : Nat} (h1 : k1 < 8) (h2 : k2 < 8) (r1 : 0 ≤ S.th k1 ∧ S.th k1 < 5) (r2 : 0 ≤ S.th k2 ∧ S.th k2 < 5) (hq : S.th k1 = S.th k2) {zc zd ze : Int} (hc : rg zc) (hd : rg zd) (he : rg ze) : fX9_copy N [.ref 64, .int (Int32.ofInt k1), .int (Int32.ofInt k2), .int (Int32.ofInt zc), .int (Int32.ofInt zd), .int (Int32.ofInt ze)] M = if (0 ≤ zc ∧ 0 ≤ ze ∧ zc + ze ≤ S.ln k1) ∧ (0 ≤ zd ∧ 0 ≤ ze ∧ zd + ze ≤ S.ln k2) then some (Int32.ofInt ze, cpx M (40 * k1 + zc.toNat) (40 * k2 + zd.toNat) 0 ze.toNat) else (fX9_no N [.ref 64, .int (Int32.ofInt (-2))] M).bind fun q => xrI (some (.int q.1)) q.2 := by
  obtain ⟨n, rfl⟩ : ∃ n, N = n + 1 := ⟨N - 1, by omega⟩
  have l1 := (hW.2.2.2.2 k1 h1).2 r1.1 r1.2
  have l2 := (hW.2.2.2.2 k2 h2).2 r2.1 r2.2
  rw [cp9 hW hM h1 h2, if_pos ⟨by omega, by omega, fun _ _ => hq⟩, eX9_copy_81, show xlen M (64 + 9) = 8 from rfl, show xlen M (64 + 10) = 8 from rfl, i_inn (show k1 < 2147483648 by omega), decide_eq_true h1, cond_true, i_natn (show k1 < 2147483648 by omega), i_inn (show k2 < 2147483648 by omega), decide_eq_true h2, cond_true, i_natn (show k2 < 2147483648 by omega), show 64 + 9 = 73 from rfl, show 64 + 10 = 74 from rfl, (hM.2.2.2.2.2.1 k1 h1).1, (hM.2.2.2.2.2.1 k2 h2).1, ((hM.2.2.2.2.2.1 k1 h1).2 r1.1 r1.2).1, ((hM.2.2.2.2.2.1 k2 h2).2 r2.1 r2.2).1, show (0 : Int32) = Int32.ofInt 0 from rfl, i_lt (x := S.th k1) (by omega) (by omega), decide_eq_false (show ¬ S.th k1 < 0 by omega), cond_false, i_lt (x := S.th k2) (by omega) (by omega), decide_eq_false (show ¬ S.th k2 < 0 by omega), cond_false, i_lt he (by omega), i_lt hc (by omega), i_lt hd (by omega)]
  by_cases z1 : ze < 0
  · rw [decide_eq_true z1, cond_true, if_neg (by omega)]
  rw [decide_eq_false z1, cond_false]
  by_cases z2 : zc < 0
  · rw [decide_eq_true z2, cond_true, if_neg (by omega)]
  rw [decide_eq_false z2, cond_false]
  by_cases z3 : zd < 0
  · rw [decide_eq_true z3, cond_true, if_neg (by omega)]
  rw [decide_eq_false z3, cond_false, cond_true]
  obtain ⟨c, rfl⟩ := Int.eq_ofNat_of_zero_le (show 0 ≤ zc by omega)
  obtain ⟨d, rfl⟩ := Int.eq_ofNat_of_zero_le (show 0 ≤ zd by omega)
  obtain ⟨e, rfl⟩ := Int.eq_ofNat_of_zero_le (show 0 ≤ ze by omega)
  rw [show Int32.ofInt 0 = (0 : Int32) from rfl, l_sm64 (by omega) (by omega) (by omega), l_sm64 (by omega) (by omega) (by omega)]
  by_cases z4 : S.ln k1 < c + e
  · rw [decide_eq_true z4, cond_true, if_neg (by omega)]
  rw [decide_eq_false z4, cond_false, cond_true]
  by_cases z5 : S.ln k2 < d + e
  · rw [decide_eq_true z5, cond_true, if_neg (by omega)]
  rw [decide_eq_false z5, cond_false, if_pos (by omega), Int.toNat_natCast, Int.toNat_natCast, Int.toNat_natCast, i_eq (by omega) (by omega), i_lt (by omega) (by omega)]
  have fw : ∀ (_ : 40 * k2 + d ≤ 40 * k1 + c ∨ 40 * k1 + c + e ≤ 40 * k2 + d), gX9_copy (n + 1) n 225 [.ref 64, .int (Int32.ofInt k1), .int (Int32.ofInt k2), .int (Int32.ofInt c), .int (Int32.ofInt d), .int (Int32.ofInt e), .int (Int32.ofInt 0)] [] M = some (Int32.ofInt e, cpx M (40 * k1 + c) (40 * k2 + d) 0 e) := fun ho => by
    have := l_cpf (N := n + 1) (k1 := k1) (k2 := k2) (c := c) (d := d) (e := e) (by omega) (by omega) ho M e 0 n (by omega) (by omega)
    rw [cpx_0] at this
    exact this
  by_cases ek : k1 = k2
  · rw [decide_eq_true (show (k1 : Int) = k2 by omega), cond_true]
    by_cases ec : c < d
    · rw [decide_eq_true (show (c : Int) < d by omega), cond_true, i_sub]
      have := l_cpb (N := n + 1) (k1 := k1) (k2 := k2) (c := c) (d := d) (e := e) (by omega) (by omega) (by omega) M e n (by omega) (by omega)
      rw [cpx_0] at this
      exact this
    · rw [decide_eq_false (show ¬ (c : Int) < d by omega), cond_false]; exact fw (by omega)
  · rw [decide_eq_false (show ¬ (k1 : Int) = k2 by omega), cond_false]; exact fw (by omega)
theorem op_copy {t : Nat} {S : SV} (hW : WfS S) {N : Nat} (hN : big N) (a b c d e : Int32) : both t S (fX8_copy N [.ref 0, .int a, .int b, .int c, .int d, .int e]) (fX9_copy N [.ref 64, .int a, .int b, .int c, .int d, .int e]) := by
  unfold big at hN
  rcases ct_rg S a b with h | ⟨j, hj, h⟩
  · obtain ⟨k1, k2, h1, h2, rfl, rfl, r1, r2, hq⟩ := ct_row hW h
    obtain ⟨zc, hc, rfl⟩ := i_ex c
    obtain ⟨zd, hd, rfl⟩ := i_ex d
    obtain ⟨ze, he, rfl⟩ := i_ex e
    have l1 := (hW.2.2.2.2 k1 h1).2 r1.1 r1.2
    have l2 := (hW.2.2.2.2 k2 h2).2 r2.1 r2.2
    by_cases hP : (0 ≤ zc ∧ 0 ≤ ze ∧ zc + ze ≤ S.ln k1) ∧ (0 ≤ zd ∧ 0 ≤ ze ∧ zd + ze ≤ S.ln k2)
    · refine ⟨S.wS S.th S.ln (cpel S k1 k2 zc.toNat zd.toNat ze.toNat), Int32.ofInt ze, hW, fun M hM => ?_, fun M hM => ?_⟩
      · obtain ⟨g1, g2⟩ := copy_c (c := zc.toNat) (d := zd.toNat) (e := ze.toNat) hM h1 h2 r1 (by omega) (by omega)
        exact ⟨_, by rw [cp8 hW hM h1 h2 r1 r2 h hc hd he, if_pos hP], g1, g2.wide (by omega) (by omega)⟩
      · obtain ⟨g1, g2⟩ := copy_m (c := zc.toNat) (d := zd.toNat) (e := ze.toNat) hM h1 h2 r1 (by omega) (by omega)
        exact ⟨_, by rw [cp9r (by omega) hW hM h1 h2 r1 r2 hq hc hd he, if_pos hP], g1, g2⟩
    · refine both_ref' hW 0 (by omega) N (fun M hM => ?_) (fun M hM => ?_)
      · rw [cp8 hW hM h1 h2 r1 r2 h hc hd he, if_neg hP]
        rfl
      · rw [cp9r (by omega) hW hM h1 h2 r1 r2 hq hc hd he, if_neg hP]
        rfl
  · refine both_ref' hW j hj N (fun M hM => ?_) (fun M hM => ?_)
    · rw [eX8_copy, v_ct hW hM, ← h]
      refine (bf2 ?_ _ _ _).trans rfl
      rw [h, xeq0 (by omega), decide_eq_false (by omega)]
    · rw [cp9a (by omega) hW hM a b c d e (by omega), h]
