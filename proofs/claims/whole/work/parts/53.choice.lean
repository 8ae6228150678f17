def vch (R : RV) (k : Nat) : Nat := pop (mba R (k / 10) (k % 10) (metW R R.lv) (VL (wR (R.add (k / 10) 0 0)) 5))
def fch (v : Nat → Nat) : Nat → Nat → Int × Int → Int × Int
  | 0, _, s => s
  | d + 1, k, s => fch v d (k + 1) (if s.2 < (v k : Int) then ((k : Int), (v k : Int)) else s)
theorem fch_add (v : Nat → Nat) : ∀ d1 d2 k s, fch v (d1 + d2) k s = fch v d2 (k + d1) (fch v d1 k s)
  | 0, d2, k, s => by rw [Nat.zero_add]; rfl
  | d1 + 1, d2, k, s => by
    rw [show d1 + 1 + d2 = (d1 + d2) + 1 by omega, fch, fch, fch_add v d1 d2, show k + 1 + d1 = k + (d1 + 1) by omega]
theorem fch_c {v : Nat → Nat} : ∀ d k (s : Int × Int), (∀ i, k ≤ i → i < k + d → (v i : Int) ≤ s.2) → fch v d k s = s
  | 0, _, _, _ => rfl
  | d + 1, k, s, h => by
    have := h k (by omega) (by omega)
    rw [fch, if_neg (by omega)]
    exact fch_c d (k + 1) s (fun i h1 h2 => h i (by omega) (by omega))
def sok (s : Int × Int) : Prop := 0 ≤ s.1 ∧ s.1 < 100 ∧ -1 ≤ s.2 ∧ s.2 ≤ 10
theorem fch_ok (R : RV) : ∀ d k s, k + d ≤ 60 → sok s → sok (fch (vch R) d k s)
  | 0, _, _, _, h => h
  | d + 1, k, s, hk, h => by
    rw [fch]
    refine fch_ok R d (k + 1) _ (by omega) ?_
    have := pop_10 (mba R (k / 10) (k % 10) (metW R R.lv) (VL (wR (R.add (k / 10) 0 0)) 5))
    split
    · refine ⟨by show (0 : Int) ≤ (k : Int); omega, by show (k : Int) < 100; omega, by show (-1 : Int) ≤ (vch R k : Int); omega, ?_⟩
      show (vch R k : Int) ≤ 10
      unfold vch
      omega
    · exact h
theorem mba_lt {R : RV} (hW : Wf R) (K a : Nat) : ∀ (T : List RW) (l : Nat), l < 2 ^ 10 → mba R K a l T < 1024
  | [], l, h => h
  | q :: T, l, h => by
    rw [mba]
    refine mba_lt hW K a T _ ?_
    split
    · exact Nat.or_lt_two_pow h (by have := nof_lt hW (lin R K a q.1); omega)
    · exact h
theorem l_59 {N : Nat} {R : RV} {K : Nat} (hK : K < 6) {g : Nat → Nat} (hg : ∀ j, j < 10 → g j < 1024 ∧ vch R (10 * K + j) = pop (g j)) (l4 : Int32) : ∀ (d a n : Nat) (s : Int × Int) (M : XM), a + d = 10 → d < n → sok s → M.1 31 0 = Int32.ofInt s.1 → M.1 31 1 = Int32.ofInt s.2 → (∀ j, j < 10 → M.1 41 j = Int32.ofInt (g j)) → ∃ M', gX1_choose N n 59 [.ref 31, .ref 1, .retAddr 0, .ref 15, .int l4, .int (Int32.ofInt K), .retAddr 0, .int (Int32.ofInt a)] [] M = gX1_choose N (n - d - 1) 26 [.ref 31, .ref 1, .retAddr 0, .ref 15, .int l4, .int (Int32.ofInt ((K + 1 : Nat) : Int)), .retAddr 0, .retAddr 0] [] M' ∧ fr 31 32 M M' ∧ M'.1 31 0 = Int32.ofInt (fch (vch R) d (10 * K + a) s).1 ∧ M'.1 31 1 = Int32.ofInt (fch (vch R) d (10 * K + a) s).2
  | 0, a, n + 1, s, M, ha, hn, hs, h0, h1, hm => by
    refine ⟨M, ?_, fr.rf, h0, h1⟩
    rw [eX1_choose_59 _ _ _ _ _ _ _ (by omega) (by omega), i_lt (by omega) (by omega), decide_eq_false (by omega), cond_false, i_suc]
    rfl
  | d + 1, a, n + 1, s, M, ha, hn, hs, h0, h1, hm => by
    obtain ⟨s1, s2, s3, s4⟩ := hs
    obtain ⟨g1, g2⟩ := hg a (by omega)
    have p10 := pop_10 (g a)
    have st : gX1_choose N (n + 1) 59 [.ref 31, .ref 1, .retAddr 0, .ref 15, .int l4, .int (Int32.ofInt K), .retAddr 0, .int (Int32.ofInt a)] [] M = bif decide (s.2 < (pop (g a) : Int)) then gX1_choose N n 59 [.ref 31, .ref 1, .retAddr 0, .ref 15, .int l4, .int (Int32.ofInt K), .retAddr 0, .int (Int32.ofInt ((a + 1 : Nat) : Int))] [] (xwi (xwi M 31 0 (Int32.ofInt ((10 * K + a : Nat) : Int))) 31 1 (Int32.ofInt (pop (g a)))) else gX1_choose N n 59 [.ref 31, .ref 1, .retAddr 0, .ref 15, .int l4, .int (Int32.ofInt K), .retAddr 0, .int (Int32.ofInt ((a + 1 : Nat) : Int))] [] M := by
      rw [eX1_choose_59 _ _ _ _ _ _ _ (by omega) (by omega), i_lt (by omega) (by omega), decide_eq_true (by omega), cond_true, show ∀ M, xlen M (31 + 10) = 10 from fun _ => rfl, i_inn (by omega), decide_eq_true (by omega), cond_true, i_natn (by omega), show 31 + 10 = 41 from rfl, hm a (by omega), v_pop N g1, e_bd]
      dsimp only
      rw [h1, i_lt (by omega) (by omega), i_suc]
      by_cases e : s.2 < (pop (g a) : Int)
      · rw [decide_eq_true e, cond_true, cond_true, show ∀ M, xlen M 41 = 10 from fun _ => rfl, i_inn (by omega), decide_eq_true (by omega), cond_true, m_ne _ (by omega), hm a (by omega), v_pop N g1, e_bd]
        dsimp only
        rw [i_mul, i_add]
        rfl
      · rw [decide_eq_false e, cond_false, cond_false]
    rw [st, fch, g2]
    by_cases e : s.2 < (pop (g a) : Int)
    · obtain ⟨M', r1, r2, r3, r4⟩ := l_59 (N := N) hK hg l4 d (a + 1) n (((10 * K + a : Nat) : Int), (pop (g a) : Int)) (xwi (xwi M 31 0 (Int32.ofInt ((10 * K + a : Nat) : Int))) 31 1 (Int32.ofInt (pop (g a)))) (by omega) (by omega) ⟨by show (0 : Int) ≤ ((10 * K + a : Nat) : Int); omega, by show ((10 * K + a : Nat) : Int) < 100; omega, by show (-1 : Int) ≤ (pop (g a) : Int); omega, by show (pop (g a) : Int) ≤ 10; omega⟩ (by rw [m_ne _ (by omega), m_eq]) (by rw [m_eq]) (fun j hj => by rw [m_ne _ (by omega), m_ne _ (by omega)]; exact hm j hj)
      refine ⟨M', ?_, ((fr.rf.wi (by omega) (by omega)).wi (by omega) (by omega)).tr r2, ?_, ?_⟩
      · rw [decide_eq_true e, cond_true, r1, show n + 1 - (d + 1) - 1 = n - d - 1 by omega]
      · rw [if_pos e]; exact r3
      · rw [if_pos e]; exact r4
    · obtain ⟨M', r1, r2, r3, r4⟩ := l_59 (N := N) hK hg l4 d (a + 1) n s M (by omega) (by omega) ⟨s1, s2, s3, s4⟩ h0 h1 hm
      refine ⟨M', ?_, r2, ?_, ?_⟩
      · rw [decide_eq_false e, cond_false, r1, show n + 1 - (d + 1) - 1 = n - d - 1 by omega]
      · rw [if_neg e]; exact r3
      · rw [if_neg e]; exact r4
theorem l_26 {N : Nat} (hN : big N) {t : Nat} {S : SV} (hW : WfS S) (hn10 : S.R.nb < 10) : ∀ (e K n : Nat) (s : Int × Int) (M : XM), CX t S M → K + e = 6 → 15 * e < n → sok s → M.1 31 0 = Int32.ofInt s.1 → M.1 31 1 = Int32.ofInt s.2 → ∃ M', gX1_choose N n 26 [.ref 31, .ref 1, .retAddr 0, .ref 15, .int (Int32.ofInt (metW S.R S.R.lv)), .int (Int32.ofInt K), .retAddr 0, .retAddr 0] [] M = some M' ∧ CX t S M' ∧ fr 0 64 M M' ∧ M'.1 31 0 = Int32.ofInt (fch (vch S.R) (10 * e) (10 * K) s).1 ∧ M'.1 31 1 = Int32.ofInt (fch (vch S.R) (10 * e) (10 * K) s).2
  | 0, K, n + 1, s, M, hM, hK, hn, hs, h0, h1 => by
    refine ⟨M, ?_, hM, fr.rf, h0, h1⟩
    rw [eX1_choose_26 _ _ _ _ _ _ (by omega) (by omega), i_lt (by omega) (by omega), decide_eq_true (by omega), cond_true]
    rfl
  | e + 1, K, n + 1, s, M, hM, hK, hn, hs, h0, h1 => by
    have hw := hW.1
    obtain ⟨M1, a1, a2, a3⟩ := v_take (N := N) (o := 15) (p := 1) (.inr (.inr rfl)) (.inl rfl) (by omega) hM.1 hw
    obtain ⟨M2, b1, b2, b3⟩ := v_addBrother (N := N) (o := 15) (by omega) a2 hn10 K 0 0
    obtain ⟨-, -, -, -, -, -, -, -, ⟨c0, c1, cs⟩, cf⟩ := id hM
    have f12 : fr 15 22 M M2 := a3.tr b3
    obtain ⟨M3, d1, d2, d3, d4, d5⟩ := v_guess hN hw hn10 (show K < 6 by omega) (metW S.R S.R.lv) (M := M2) b2 (cf.fr f12 (by omega)) (by rw [f12.i (by omega)]; exact c0) (by rw [f12.i (by omega)]; exact c1) (by
      obtain ⟨w, cs⟩ := cs
      exact ⟨w, SYw_m cs (fun a j h1 h2 => by rw [f12.i (by omega)]) (fun j => by rw [f12.l (by omega)])⟩)
    have gz13 : gz M M3 := (gz_fr f12 (by omega)).tr d2
    have hM3 : CX t S M3 := CX_gz hM gz13 d4
    have hm8 := metW_lt hw S.R.lv
    obtain ⟨M4, e1, e2, e3, e4⟩ := l_59 (N := N) (R := S.R) (K := K) (by omega) (g := fun j => mba S.R K j (metW S.R S.R.lv) (VL (wR (S.R.add K 0 0)) 5)) (fun j hj => ⟨mba_lt hw K j _ _ (by omega), by
      unfold vch
      rw [show (10 * K + j) / 10 = K by omega, show (10 * K + j) % 10 = j by omega]⟩) (Int32.ofInt (metW S.R S.R.lv)) 10 0 n s M3 (by omega) (by omega) hs (by rw [d3, f12.i (by omega)]; exact h0) (by rw [d3, f12.i (by omega)]; exact h1) d5
    have hM4 : CX t S M4 := CX_gz hM3 (gz_fr e2 (by omega)) (by
      obtain ⟨w, d4⟩ := d4
      exact ⟨w, SYw_m d4 (fun a j h1 h2 => by rw [e2.i (by omega)]) (fun j => by rw [e2.l (by omega)])⟩)
    obtain ⟨M5, r1, r2, r3, r4, r5⟩ := l_26 hN hW hn10 e (K + 1) (n - 10 - 1) (fch (vch S.R) 10 (10 * K + 0) s) M4 hM4 (by omega) (by omega) (fch_ok S.R 10 (10 * K + 0) s (by omega) hs) e3 e4
    have hsp : fch (vch S.R) (10 * (e + 1)) (10 * K) s = fch (vch S.R) (10 * e) (10 * (K + 1)) (fch (vch S.R) 10 (10 * K + 0) s) := by
      rw [show 10 * (e + 1) = 10 + 10 * e by omega, fch_add, show 10 * K + 10 = 10 * (K + 1) by omega]
      rfl
    refine ⟨M5, ?_, r2, ((gz_15 gz13).wide (by omega) (by omega)).tr ((e2.wide (by omega) (by omega)).tr r3), by rw [hsp]; exact r4, by rw [hsp]; exact r5⟩
    rw [eX1_choose_26 _ _ _ _ _ _ (by omega) (by omega), i_lt (by omega) (by omega), decide_eq_false (by omega), cond_false, a1, e_bd]
    have b1' : fX3_addBrother N [.ref 15, .int (Int32.ofInt K), .int (Int32.ofInt 0), .int (Int32.ofInt 0)] M1 = _ := b1
    rw [b1', e_bd]
    dsimp only
    rw [d1, e_bd]
    exact Eq.trans e1 r1
