/-! a method's contract out of its run -/
theorem xent_len {ad : Nat → Nat} {fm : Value} (hf : fm.category = 1) (as : List Value) : (lg_sl (as.map (xc ad fm))).length = (xent as).length := by
  induction as with
  | nil => rfl
  | cons v l ih =>
    have h1 : lg_sl ((v :: l).map (xc ad fm)) = (if (xc ad fm v).category = 2 then [Slot.val (xc ad fm v), Slot.second] else [Slot.val (xc ad fm v)]) ++ lg_sl (l.map (xc ad fm)) := by simp [lg_sl]
    rw [h1, xc_cat hf]
    unfold xent
    cases hb : Nat.beq v.category 2 with
    | true =>
      have := Nat.eq_of_beq_eq_true hb
      rw [if_pos this]
      simp [ih]
    | false =>
      have : ¬ v.category = 2 := fun q => by rw [q] at hb; cases hb
      rw [if_neg this]
      simp [ih]
theorem xnth_app {a b : List Value} {i : Nat} : xnth (a ++ b) i = if i < a.length then xnth a i else xnth b (i - a.length) := by
  induction a generalizing i with
  | nil => simp
  | cons v a ih =>
    cases i with
    | zero => simp [xnth]
    | succ i => simp [xnth, ih]
theorem xnth_rep {n i : Nat} : xnth (List.replicate n (.retAddr 0)) i = .retAddr 0 := by
  induction n generalizing i with
  | zero => rfl
  | succ n ih =>
    cases i with
    | zero => rfl
    | succ i => exact ih
theorem xent_arg {ad : Nat → Nat} {fm : Value} (hf : fm.category = 1) : ∀ (as : List Value) (k i : Nat) (v : Value), xnth (xent as) i = v → xph v = false → (k + i, xc ad fm v) ∈ lv_args k (as.map (xc ad fm))
  | [], k, i, v, h, hp => by
    simp [xent, xnth] at h
    subst h
    cases hp
  | w :: l, k, i, v, h, hp => by
    unfold xent at h
    simp only [List.map_cons, lv_args]
    rw [xc_cat hf]
    cases hb : Nat.beq w.category 2 with
    | true =>
      rw [hb] at h
      rw [if_pos (Nat.eq_of_beq_eq_true hb)]
      match i, h with
      | 0, h =>
        have h : w = v := h
        subst h
        exact List.mem_cons_self
      | 1, h =>
        have h : Value.retAddr 0 = v := h
        subst h
        cases hp
      | i + 2, h =>
        have h : xnth (xent l) i = v := h
        have := xent_arg (ad := ad) hf l (k + 2) i v h hp
        rw [show k + (i + 2) = k + 2 + i by omega]
        exact List.mem_cons_of_mem _ this
    | false =>
      rw [hb] at h
      rw [if_neg (fun q => by rw [q] at hb; cases hb)]
      match i, h with
      | 0, h =>
        have h : w = v := h
        subst h
        exact List.mem_cons_self
      | i + 1, h =>
        have h : xnth (xent l) i = v := h
        have := xent_arg (ad := ad) hf l (k + 1) i v h hp
        rw [show k + (i + 1) = k + 1 + i by omega]
        exact List.mem_cons_of_mem _ this
theorem xlr_entry {ad : Nat → Nat} {fm : Value} (hf : fm.category = 1) {as : List Value} {n : Nat} (hn : (xent as).length ≤ n) : xlr ad fm ((lg_sl (as.map (xc ad fm)) ++ List.replicate (n - (lg_sl (as.map (xc ad fm))).length) Slot.unset).toArray) (xpad n (xent as)) ∧ (xpad n (xent as)).length = n := by
  have h1 := lv_entry (as.map (xc ad fm)) (n := n) (by rw [xent_len hf]; exact hn)
  have h2 : (xpad n (xent as)).length = n := by simp [xpad]; omega
  refine ⟨⟨by rw [h1.1, h2], h1.2.1, fun i v hv hp => ?_⟩, h2⟩
  unfold xpad at hv
  rw [xnth_app] at hv
  by_cases hi : i < (xent as).length
  · rw [if_pos hi] at hv
    have := xent_arg (ad := ad) hf as 0 i v hv hp
    rw [Nat.zero_add] at this
    exact h1.2.2 (i, xc ad fm v) this
  · rw [if_neg hi, xnth_rep] at hv
    subst hv
    cases hp
theorem xwalk {ρ : Type} {l : Launch} {y : MethodName} {cc : ByteArray} {maxL : Nat} {ret0 : Option FieldType} {rm : Room} {L : XT} {fld : Nat → Nat × Nat × Nat × Nat} {cal : Nat → XC} {cst : Nat → Value} {ret : Option Value → XM → Option ρ} {cuts : List (Nat × List Bool)} (hy : plainName y.cls = true) (hL : xchk cc L = true) (hfld : ∀ n, xfldok y.cls n (fld n)) (hcal : ∀ n, xcalok l y.cls rm n (cal n)) (hcst : ∀ n, xcstok y.cls n (cst n))
    {N : Nat} {D : va_G} {dA : Nat → ClassId} {ad : Nat → Nat} {fm : Value} {as : List Value} {M : XM} {r : ρ} (h : xrun0 (xloop xlt xeq xin xisb L fld cal cst ret cuts N) maxL as M = some r) {Qc : Array Value → State → Outcome → State → Prop}
    (hend : ∀ (p : Program) (e : Env) (s : State) (m : MethodId) (below : List Frame) (meth : Method) (c : Code) (v : Option Value) (M1 : XM) (H : Heap) (locs : List Loc) (ls : Array Slot) (pc : Nat), ret v M1 = some r → p.tables.exec = Jvm.exec → c.code = cc → meth.sig.returnType = ret0 → meth.locks = false → xOK D dA ad fm (xA ad) s M H locs M1 →
      (∀ x, v = some (.int x) → decode cc pc = .ok (.ireturn, 1) → W p l e rm s m (as.map (xc ad fm)).toArray below meth c H locs 0 0 (MQ below Qc (as.map (xc ad fm)).toArray s 0 0 (xA ad)) (F0 m pc ls [.int x])) ∧
      (∀ x, v = some (.long x) → decode cc pc = .ok (.lreturn, 1) → W p l e rm s m (as.map (xc ad fm)).toArray below meth c H locs 0 0 (MQ below Qc (as.map (xc ad fm)).toArray s 0 0 (xA ad)) (F0 m pc ls [.long x])) ∧
      (∀ x, v = some (.ref x) → decode cc pc = .ok (.areturn, 1) → W p l e rm s m (as.map (xc ad fm)).toArray below meth c H locs 0 0 (MQ below Qc (as.map (xc ad fm)).toArray s 0 0 (xA ad)) (F0 m pc ls [.ref (ad x)])) ∧
      (v = none → decode cc pc = .ok (.return_, 1) → W p l e rm s m (as.map (xc ad fm)).toArray below meth c H locs 0 0 (MQ below Qc (as.map (xc ad fm)).toArray s 0 0 (xA ad)) (F0 m pc ls []))) :
    Met l y (Cond.code y cc maxL ret0 :: XB) rm (xPc D dA ad fm as M) Qc 0 0 (xA ad) := by
  unfold xrun0 at h
  split at h
  · rename_i hbl
    have hle := Nat.le_of_ble_eq_true hbl
    refine Met.ofW (cc := cc) (maxL := maxL) (ret := ret0) hy rfl ?_
    intro p e s m args below meth c s₁ B hml hv
    obtain ⟨rfl, hP, hD, hK, hF, hf⟩ := hv
    have hts := atoms_spec (ws := Cond.code y cc maxL ret0 :: XB) B.pre
    have hlocks := B.notSynchronized
    have S : CallFix p m c cc c.maxLocals s (as.map (xc ad fm)).toArray XB y.cls := ⟨B.exec, B.bytes, rfl, findClass_of_methodNamed B.named, fun w hw => hts w (List.mem_cons_of_mem _ hw)⟩
    obtain ⟨hl1, hl2⟩ := xlr_entry (ad := ad) hf hle
    rw [lg_entry_eq]
    refine xloop_ok (R := rm) (A := xA ad) (M0 := M) (Q := MQ below Qc (as.map (xc ad fm)).toArray s 0 0 (xA ad)) S ⟨Nat.zero_le _, Nat.zero_le _⟩ hL hfld hcal hcst (r := r) ?_ N 0 _ [] M h s.heap [] _ ⟨hP, hD, hK, va_S.rf, hF, xkp.rf, hf⟩ hl1 (hl2.trans hml.symm)
    intro M1 H locs ls pc hO
    exact ⟨fun x hx hd => (hend p e s m below meth c _ M1 H locs ls pc hx B.exec B.bytes B.returns hlocks hO).1 x rfl hd, fun x hx hd => (hend p e s m below meth c _ M1 H locs ls pc hx B.exec B.bytes B.returns hlocks hO).2.1 x rfl hd,
      fun x hx hd => (hend p e s m below meth c _ M1 H locs ls pc hx B.exec B.bytes B.returns hlocks hO).2.2.1 x rfl hd, fun hx hd => (hend p e s m below meth c _ M1 H locs ls pc hx B.exec B.bytes B.returns hlocks hO).2.2.2 rfl hd⟩
  · cases h
theorem xmetI {l : Launch} {y : MethodName} {cc : ByteArray} {maxL : Nat} {ty : FieldType} {rm : Room} {L : XT} {fld : Nat → Nat × Nat × Nat × Nat} {cal : Nat → XC} {cst : Nat → Value} {ret : Option Value → XM → Option (Int32 × XM)} {cuts : List (Nat × List Bool)} (hy : plainName y.cls = true) (hr : ∀ v M r, ret v M = some r → ∃ x, v = some (.int x) ∧ r = (x, M) ∧ narrow ty (.int x) = .int x) (hL : xchk cc L = true) (hfld : ∀ n, xfldok y.cls n (fld n)) (hcal : ∀ n, xcalok l y.cls rm n (cal n)) (hcst : ∀ n, xcstok y.cls n (cst n)) (N : Nat) :
    xsnd l y cc maxL (some ty) rm (.inl (xrun0 (xloop xlt xeq xin xisb L fld cal cst ret cuts N) maxL)) := by
  intro D dA ad fm as M x M' h
  refine xwalk hy hL hfld hcal hcst h ?_
  intro p e s m below meth c v M1 H locs ls pc hv hx hb hrt hlocks hO
  obtain ⟨x0, rfl, h2, h3⟩ := hr v M1 _ hv
  cases h2
  refine ⟨fun x1 h1 hd => ?_, fun x1 h1 hd => (by cases h1), fun x1 h1 hd => (by cases h1), fun h1 hd => (by cases h1)⟩
  cases h1
  obtain ⟨hP, hD, hK, hS, hF, hkp, hf⟩ := hO
  exact W.zret hx hb hrt h3 (fun t ht hW => ⟨⟨x, (), rfl, ⟨rfl, hkp⟩, by show va_P _ _ _ t.heap; rw [ht]; exact hP⟩, hS.F ht⟩) hS.2.2 hd hlocks
theorem xmetL {l : Launch} {y : MethodName} {cc : ByteArray} {maxL : Nat} {rm : Room} {L : XT} {fld : Nat → Nat × Nat × Nat × Nat} {cal : Nat → XC} {cst : Nat → Value} {cuts : List (Nat × List Bool)} (hy : plainName y.cls = true) (hL : xchk cc L = true) (hfld : ∀ n, xfldok y.cls n (fld n)) (hcal : ∀ n, xcalok l y.cls rm n (cal n)) (hcst : ∀ n, xcstok y.cls n (cst n)) (N : Nat) :
    xsnd l y cc maxL (some .long) rm (.inr (.inl (xrun0 (xloop xlt xeq xin xisb L fld cal cst xrL cuts N) maxL))) := by
  intro D dA ad fm as M x M' h
  refine xwalk hy hL hfld hcal hcst h ?_
  intro p e s m below meth c v M1 H locs ls pc hv hx hb hrt hlocks hO
  have hv2 : v = some (.long x) ∧ M1 = M' := by
    unfold xrL at hv
    split at hv
    · cases hv
      exact ⟨rfl, rfl⟩
    · cases hv
  obtain ⟨rfl, rfl⟩ := hv2
  refine ⟨fun x1 h1 hd => (by cases h1), fun x1 h1 hd => ?_, fun x1 h1 hd => (by cases h1), fun h1 hd => (by cases h1)⟩
  cases h1
  obtain ⟨hP, hD, hK, hS, hF, hkp, hf⟩ := hO
  exact W.lret hx hb hrt (fun t ht hW => ⟨⟨x, (), rfl, ⟨rfl, hkp⟩, by show va_P _ _ _ t.heap; rw [ht]; exact hP⟩, hS.F ht⟩) hS.2.2 hd hlocks
theorem xmetV {l : Launch} {y : MethodName} {cc : ByteArray} {maxL : Nat} {rm : Room} {L : XT} {fld : Nat → Nat × Nat × Nat × Nat} {cal : Nat → XC} {cst : Nat → Value} {cuts : List (Nat × List Bool)} (hy : plainName y.cls = true) (hL : xchk cc L = true) (hfld : ∀ n, xfldok y.cls n (fld n)) (hcal : ∀ n, xcalok l y.cls rm n (cal n)) (hcst : ∀ n, xcstok y.cls n (cst n)) (N : Nat) :
    xsnd l y cc maxL none rm (.inr (.inr (.inl (xrun0 (xloop xlt xeq xin xisb L fld cal cst xrV cuts N) maxL)))) := by
  intro D dA ad fm as M M' h
  refine xwalk hy hL hfld hcal hcst h ?_
  intro p e s m below meth c v M1 H locs ls pc hv hx hb hrt hlocks hO
  have hv2 : v = none ∧ M1 = M' := by
    unfold xrV at hv
    split at hv
    · cases hv
      exact ⟨rfl, rfl⟩
    · cases hv
  obtain ⟨rfl, rfl⟩ := hv2
  refine ⟨fun x1 h1 hd => (by cases h1), fun x1 h1 hd => (by cases h1), fun x1 h1 hd => (by cases h1), fun h1 hd => ?_⟩
  obtain ⟨hP, hD, hK, hS, hF, hkp, hf⟩ := hO
  exact W.vret hx hb hrt (fun t ht hW => ⟨⟨(), rfl, hkp, by show va_P _ _ _ t.heap; rw [ht]; exact hP⟩, hS.F ht⟩) hS.2.2 hd hlocks
theorem xmetR {l : Launch} {y : MethodName} {cc : ByteArray} {maxL : Nat} {rm : Room} {rt : FieldType} {L : XT} {fld : Nat → Nat × Nat × Nat × Nat} {cal : Nat → XC} {cst : Nat → Value} {cuts : List (Nat × List Bool)} {t9 : Nat} (hy : plainName y.cls = true) (hrt9 : (∃ n, rt = .object n) ∨ ∃ t, rt = .array t) (hL : xchk cc L = true) (hfld : ∀ n, xfldok y.cls n (fld n)) (hcal : ∀ n, xcalok l y.cls rm n (cal n)) (hcst : ∀ n, xcstok y.cls n (cst n)) (N : Nat) :
    xsnd l y cc maxL (some rt) rm (.inr (.inr (.inr (xrun0 (xloop xlt xeq xin xisb L fld cal cst (xrR t9) cuts N) maxL, fun _ => t9)))) := by
  intro D dA ad fm as M M' h
  refine xwalk hy hL hfld hcal hcst h ?_
  intro p e s m below meth c v M1 H locs ls pc hv hx hb hrt hlocks hO
  have hv2 : v = some (.ref t9) ∧ M1 = M' := by
    unfold xrR at hv
    split at hv
    · rename_i M2 a
      cases hb9 : Nat.beq a t9 with
      | true =>
        rw [hb9] at hv
        cases hv
        exact ⟨by rw [Nat.eq_of_beq_eq_true hb9], rfl⟩
      | false =>
        rw [hb9] at hv
        cases hv
    · cases hv
  obtain ⟨rfl, rfl⟩ := hv2
  refine ⟨fun x1 h1 hd => (by cases h1), fun x1 h1 hd => (by cases h1), fun x1 h1 hd => ?_, fun h1 hd => (by cases h1)⟩
  cases h1
  obtain ⟨hP, hD, hK, hS, hF, hkp, hf⟩ := hO
  exact W.aret hx hb hrt hrt9 (Or.inr ⟨_, rfl⟩) (fun t ht hW => ⟨⟨(), ad t9, rfl, hkp, rfl, by show va_P _ _ _ t.heap; rw [ht]; exact hP⟩, hS.F ht⟩) hS.2.2 hd hlocks
theorem xrI_ok : ∀ v M r, xrI v M = some r → ∃ x, v = some (.int x) ∧ r = (x, M) ∧ narrow .int (.int x) = .int x := by
  intro v M r h
  unfold xrI at h
  split at h
  · cases h
    exact ⟨_, rfl, rfl, rfl⟩
  · cases h
theorem xrZ_ok : ∀ v M r, xrZ v M = some r → ∃ x, v = some (.int x) ∧ r = (x, M) ∧ narrow .boolean (.int x) = .int x := by
  intro v M r h
  unfold xrZ at h
  split at h
  · obtain ⟨h1, h2⟩ := xb_ok h
    cases h2
    refine ⟨_, rfl, rfl, ?_⟩
    rcases xisb_ok h1 with rfl | rfl <;> decide +kernel
  · cases h
theorem xrCh_ok : ∀ v M r, xrCh v M = some r → ∃ x, v = some (.int x) ∧ r = (x, M) ∧ narrow .char (.int x) = .int x := by
  intro v M r h
  unfold xrCh at h
  split at h
  · split at h
    · rename_i M1 x h1
      cases h
      refine ⟨_, rfl, rfl, ?_⟩
      have := pk_nc x
      rw [h1] at this
      exact this
    · cases h
  · cases h
theorem xrB_ok : ∀ v M r, xrB v M = some r → ∃ x, v = some (.int x) ∧ r = (x, M) ∧ narrow .byte (.int x) = .int x := by
  intro v M r h
  unfold xrB at h
  split at h
  · split at h
    · rename_i M1 x h1
      cases h
      refine ⟨_, rfl, rfl, ?_⟩
      have := pk_nb x
      rw [h1] at this
      exact this
    · cases h
  · cases h
