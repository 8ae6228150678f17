/-! THE INTERPRETER IS SOUND: a run that comes to an answer is walked by the machine -/
def xc (ad : Nat → Nat) (fm : Value) : Value → Value
  | .ref a => .ref (ad a)
  | .retAddr _ => fm
  | v => v
def xnf (ci : Nat) : Nat := xgl [5, 11, 7, 3, 6, 2, 10, 33] ci 0
def xfv (ad : Nat → Nat) (M : XM) (i k : Nat) : Value :=
  if xft (xcl i) k = 1 then .long (M.2 i k) else if xft (xcl i) k = 2 then .ref (ad (xrf i k)) else .int (M.1 i k)
def xw1 (dA : Nat → ClassId) (ad : Nat → Nat) (M : XM) (i : Nat) : va_E :=
  if xak i = 1 then .inl (dA 1, xal i, .inl (M.1 i)) else if xak i = 3 then .inl (dA 3, xal i, .inl (M.1 i)) else if xak i = 2 then .inl (dA 2, xal i, .inr (.inl (M.2 i)))
  else if xak i = 4 then .inl (dA 4, xal i, .inr (.inr (.inr (.inr (fun k => some (ad (xrf i k)))))))
  else .inr (xcl i, (List.range (xnf (xcl i))).map (fun k => xfv ad M i k))
/-! places in the world: the cells but for the numbers that hold none -/
def xpos (i : Nat) : Nat := if i < 24 then i else if i < 34 then i - 4 else i - 8
def xnum (j : Nat) : Nat := if j < 24 then j else if j < 30 then j + 4 else j + 8
def xlv (i : Nat) : Prop := i < 24 ∨ (28 ≤ i ∧ i < 34) ∨ (38 ≤ i ∧ i < 82)
theorem xlv_lt {i : Nat} (h : xlv i) : i < xN := by
  unfold xlv at h
  show i < 82
  omega
theorem xpos_lt {i : Nat} (h : xlv i) : xpos i < 74 := by
  unfold xlv at h
  unfold xpos
  split
  · omega
  · split <;> omega
theorem xnum_pos {i : Nat} (h : xlv i) : xnum (xpos i) = i := by
  unfold xlv at h
  unfold xnum xpos
  by_cases h1 : i < 24
  · rw [if_pos h1, if_pos h1]
  · by_cases h2 : i < 34
    · rw [if_neg h1, if_pos h2, if_neg (by omega), if_pos (by omega)]
      omega
    · rw [if_neg h1, if_neg h2, if_neg (by omega), if_neg (by omega)]
      omega
theorem xpos_num {j : Nat} (h : j < 74) : xpos (xnum j) = j ∧ xlv (xnum j) := by
  unfold xlv xnum xpos
  by_cases h1 : j < 24
  · rw [if_pos h1, if_pos h1]
    exact ⟨rfl, Or.inl h1⟩
  · by_cases h2 : j < 30
    · rw [if_neg h1, if_pos h2, if_neg (by omega), if_pos (by omega)]
      omega
    · rw [if_neg h1, if_neg h2, if_neg (by omega), if_neg (by omega)]
      omega
def xws (dA : Nat → ClassId) (ad : Nat → Nat) (M : XM) : va_W := (List.range 74).map (fun j => (ad (xnum j), xw1 dA ad M (xnum j)))
def xtys (dA : Nat → ClassId) : List (ClassId × FieldType) := [(dA 1, .int), (dA 2, .long), (dA 3, .boolean), (dA 4, .object "VowOfOneWord$Shelf")]
theorem xws_n {dA : Nat → ClassId} {ad : Nat → Nat} {M : XM} {j : Nat} (h : j < 74) : (xws dA ad M)[j]? = some (ad (xnum j), xw1 dA ad M (xnum j)) := by
  simp [xws, h]
theorem xws_at {dA : Nat → ClassId} {ad : Nat → Nat} {M : XM} {i : Nat} (h : xlv i) : (xws dA ad M)[xpos i]? = some (ad i, xw1 dA ad M i) := by
  rw [xws_n (xpos_lt h), xnum_pos h]
theorem xw1_congr {dA : Nat → ClassId} {ad : Nat → Nat} {M M' : XM} {i : Nat} (h1 : M'.1 i = M.1 i) (h2 : M'.2 i = M.2 i) : xw1 dA ad M' i = xw1 dA ad M i := by
  simp [xw1, xfv, h1, h2]
theorem xws_set {dA : Nat → ClassId} {ad : Nat → Nat} {M M' : XM} {c : Nat} {z : va_E} (hc0 : xlv c) (hz : z = xw1 dA ad M' c) (h1 : ∀ i, i ≠ c → M'.1 i = M.1 i) (h2 : ∀ i, i ≠ c → M'.2 i = M.2 i) : (xws dA ad M).set (xpos c) (ad c, z) = xws dA ad M' := by
  apply List.ext_getElem?
  intro i
  rw [List.getElem?_set]
  have e3 : (xws dA ad M).length = 74 := by simp [xws]
  by_cases hi : i < 74
  · by_cases hc : xpos c = i
    · subst hc
      rw [if_pos rfl, if_pos (by omega), xws_n hi, xnum_pos hc0, hz]
    · have hne : xnum i ≠ c := fun e => hc (by rw [← e]; exact (xpos_num hi).1)
      rw [if_neg hc, xws_n hi, xws_n hi, xw1_congr (h1 _ hne) (h2 _ hne)]
  · have e2 : (xws dA ad M').length = 74 := by simp [xws]
    have e4 : (xws dA ad M')[i]? = none := List.getElem?_eq_none (by omega)
    have e5 : (xws dA ad M)[i]? = none := List.getElem?_eq_none (by omega)
    by_cases hc : xpos c = i
    · have := xpos_lt hc0
      omega
    · rw [if_neg hc, e5, e4]
theorem xws_ad {dA : Nat → ClassId} {ad : Nat → Nat} {M : XM} {k : Nat} {q : Nat × va_E} (h : (xws dA ad M)[k]? = some q) : k < 74 ∧ q = (ad (xnum k), xw1 dA ad M (xnum k)) := by
  have hk : k < 74 := by
    have := (List.getElem?_eq_some_iff.mp h).1
    simpa [xws] using this
  rw [xws_n hk] at h
  exact ⟨hk, (Option.some.inj h).symm⟩
theorem xD_irrel {dA : Nat → ClassId} {ad : Nat → Nat} {M M' : XM} {A B : Nat → Prop} (h : va_D A (xws dA ad M)) (hAB : ∀ i, xlv i → B (ad i)) : va_D B (xws dA ad M') := by
  refine ⟨fun i j p q hi hj e => ?_, fun k q hk => ?_⟩
  · obtain ⟨hi', rfl⟩ := xws_ad hi
    obtain ⟨hj', rfl⟩ := xws_ad hj
    exact h.1 i j _ _ (xws_n hi') (xws_n hj') e
  · obtain ⟨hk', rfl⟩ := xws_ad hk
    exact hAB _ (xpos_num hk').2
def xA (ad : Nat → Nat) : Nat → Prop := fun q => ∃ i, xlv i ∧ q = ad i
/-- what memory holds that nobody writes -/
def xkp (M M' : XM) : Prop := ∀ a, 200 ≤ a → M'.1 a = M.1 a
theorem xkp.rf {M : XM} : xkp M M := fun _ _ => rfl
theorem xkp.tr {M M' M'' : XM} (h : xkp M M') (h' : xkp M' M'') : xkp M M'' := fun a ha => (h' a ha).trans (h a ha)
def xstrs : List (String × Nat × Nat) := [("VowOfOneWord$Tape", 42, 0), ("VowOfOneWord$Tape", 51, 1), ("VowOfOneWord$Tape", 57, 2), ("VowOfOneWord$Tape", 59, 3), ("VowOfOneWord$Tape", 65, 4), ("VowOfOneWord$Tape", 67, 5), ("VowOfOneWord$Tape", 72, 6), ("VowOfOneWordModel", 166, 0), ("VowOfOneWordModel", 172, 1), ("VowOfOneWordModel", 178, 2), ("VowOfOneWordModel", 183, 5), ("VowOfOneWordModel", 180, 4), ("VowOfOneWordModel", 182, 3), ("VowOfOneWordModel", 184, 6)]
def xtxt (i : Nat) : String := xgl ["brother", "feud", "peace", "need", "less", "age", "dies"] i ""
/-- the cells that nobody writes: tables, the script, the words' texts -/
def xF (ad : Nat → Nat) (fm : Value) (F : Nat → Nat → Int32) (A : Nat → Prop) (U : State) (H : Heap) : Prop :=
  va_Z "VowOfOneWord$Grammar" "NEXT" "[I" (.ref (ad 200)) A U H ∧ va_Z "VowOfOneWord$Grammar" "WANTS" "[I" (.ref (ad 201)) A U H ∧
  va_Z "java/lang/String" "COMPACT_STRINGS" "Z" (.int 1) A U H ∧ va_Z "jdk/internal/util/Preconditions" "SIOOBE_FORMATTER" "Ljava/util/function/BiFunction;" fm A U H ∧
  va_T .int (ad 200) 42 (fun j => .int (F 200 j)) A U H ∧ va_T .int (ad 201) 7 (fun j => .int (F 201 j)) A U H ∧ va_T .int (ad 202) (F 203 0).toNatClampNeg (fun j => .int (F 202 j)) A U H ∧
  (∀ i, i < 7 → va_O "java/lang/String" (ad (210 + i)) A U H ∧ va_OF "java/lang/String" "coder" "B" (.int 0) (ad (210 + i)) A U H ∧ va_OF "java/lang/String" "value" "[B" (.ref (ad (230 + i))) (ad (210 + i)) A U H ∧ va_T .byte (ad (230 + i)) (xal (230 + i)) (fun j => .int (F (230 + i) j)) A U H) ∧
  (∀ q ∈ xstrs, vk_R q.1 q.2.1 (xtxt q.2.2) (ad (210 + q.2.2)) U)
theorem xF.warm {ad : Nat → Nat} {fm : Value} {F : Nat → Nat → Int32} {A B : Nat → Prop} {u U : State} {H H1 : Heap} (h : xF ad fm F A u H) (hW : u.WarmedH U.vm) (hq : ∀ a : Nat, a < H.size → ¬ A a → H1[a]? = H[a]?) (hAB : ∀ q, B q → A q) : xF ad fm F B U H1 := by
  obtain ⟨h1, h2, h3, h4, h5, h6, h7, h8, h9⟩ := h
  have hvm := hW.alike
  exact ⟨((h1.moved hvm).kept hq).narrow hAB, ((h2.moved hvm).kept hq).narrow hAB, ((h3.moved hvm).kept hq).narrow hAB, ((h4.moved hvm).kept hq).narrow hAB, ((h5.moved hvm).kept hq).narrow hAB, ((h6.moved hvm).kept hq).narrow hAB, ((h7.moved hvm).kept hq).narrow hAB,
    fun i hi => ⟨(((h8 i hi).1.moved hvm).kept hq).narrow hAB, (((h8 i hi).2.1.moved hvm).kept hq).narrow hAB, (((h8 i hi).2.2.1.moved hvm).kept hq).narrow hAB, (((h8 i hi).2.2.2.moved hvm).kept hq).narrow hAB⟩,
    fun q hq => (h9 q hq).warm hW⟩
theorem xF.same {ad : Nat → Nat} {fm : Value} {F : Nat → Nat → Int32} {A : Nat → Prop} {u U : State} {H : Heap} (h : xF ad fm F A u H) (hv : U.vm = u.vm) : xF ad fm F A U H := by
  obtain ⟨h1, h2, h3, h4, h5, h6, h7, h8, h9⟩ := h
  have hvm : u.vm.Alike U.vm := by rw [hv]; exact Vm.Alike.refl u.vm
  exact ⟨h1.moved hvm, h2.moved hvm, h3.moved hvm, h4.moved hvm, h5.moved hvm, h6.moved hvm, h7.moved hvm,
    fun i hi => ⟨(h8 i hi).1.moved hvm, (h8 i hi).2.1.moved hvm, (h8 i hi).2.2.1.moved hvm, (h8 i hi).2.2.2.moved hvm⟩,
    fun q hq => (h9 q hq).same hv⟩
/-- a method's start: the world holds the memory -/
def xPre (D : va_G) (dA : Nat → ClassId) (ad : Nat → Nat) (fm : Value) (M : XM) (U : State) : Prop :=
  va_P D vwCl (xws dA ad M) U.heap ∧ va_D (xA ad) (xws dA ad M) ∧ va_K D vwCl (xtys dA) U ∧ xF ad fm M.1 (xA ad) U U.heap ∧ fm.category = 1
def xPc (D : va_G) (dA : Nat → ClassId) (ad : Nat → Nat) (fm : Value) (as : List Value) (M : XM) : Array Value → State → Prop := va_Pc (as.map (xc ad fm)) (xPre D dA ad fm M)
theorem xPc_blind {D : va_G} {dA : Nat → ClassId} {ad : Nat → Nat} {fm : Value} {as : List Value} {M : XM} : FrameBlind (xPc D dA ad fm as M) := fun a U g mk q => by
  obtain ⟨q0, qP, qD, qK, qF, qf⟩ := q
  exact ⟨q0, qP, qD, va_K.moved (u := U) (U := U.calling g mk a) (Vm.Alike.refl U.vm) qK, xF.same (u := U) (U := U.calling g mk a) qF rfl, qf⟩
def xbh (D : va_G) (dA : Nat → ClassId) (ad : Nat → Nat) (M' : XM) : Unit → State → Prop := fun _ t => va_P D vwCl (xws dA ad M') t.heap
/-- what a call does, and that the method's contract says so -/
def xsnd (l : Launch) (y : MethodName) (bytes : ByteArray) (maxL : Nat) (ret : Option FieldType) (rm : Room) : XS → Prop
  | .inl f => ∀ (D : va_G) (dA : Nat → ClassId) (ad : Nat → Nat) (fm : Value) (as : List Value) (M : XM) (x : Int32) (M' : XM), f as M = some (x, M') → Met l y (Cond.code y bytes maxL ret :: XB) rm (xPc D dA ad fm as M) (va_Qi (fun r (_ : Unit) => r = x ∧ xkp M M') (xbh D dA ad M') (xA ad)) 0 0 (xA ad)
  | .inr (.inl f) => ∀ (D : va_G) (dA : Nat → ClassId) (ad : Nat → Nat) (fm : Value) (as : List Value) (M : XM) (x : Int64) (M' : XM), f as M = some (x, M') → Met l y (Cond.code y bytes maxL ret :: XB) rm (xPc D dA ad fm as M) (va_Ql (fun r (_ : Unit) => r = x ∧ xkp M M') (xbh D dA ad M') (xA ad)) 0 0 (xA ad)
  | .inr (.inr (.inl f)) => ∀ (D : va_G) (dA : Nat → ClassId) (ad : Nat → Nat) (fm : Value) (as : List Value) (M : XM) (M' : XM), f as M = some M' → Met l y (Cond.code y bytes maxL ret :: XB) rm (xPc D dA ad fm as M) (va_Qv (fun (_ : Unit) => xkp M M') (xbh D dA ad M') (xA ad)) 0 0 (xA ad)
  | .inr (.inr (.inr f)) => ∀ (D : va_G) (dA : Nat → ClassId) (ad : Nat → Nat) (fm : Value) (as : List Value) (M : XM) (M' : XM), f.1 as M = some M' → Met l y (Cond.code y bytes maxL ret :: XB) rm (xPc D dA ad fm as M) (va_Qr (fun (_ : Unit) => xkp M M') (fun u a t => a = ad (f.2 as) ∧ xbh D dA ad M' u t) (xA ad)) 0 0 (xA ad)
/-- a row of a method's call table is right -/
def xcalok (l : Launch) (own : String) (R : Room) (n : Nat) (z : XC) : Prop :=
  (z.1 = 0 ∧ z.2.1 = 98) ∨
  (∃ (y : MethodName) (bytes : ByteArray) (maxL : Nat) (ret : Option FieldType) (rm : Room) (na : Nat), (rm.cells = 0 ∧ rm.slots = 0 ∧ rm.frames + 1 ≤ R.frames ∧ 8 + (maxL + 11) + rm.locals ≤ R.locals) ∧ Cond.code y bytes maxL ret ∈ XB ∧ Cond.methodLink own n y ∈ XB ∧ Cond.initialized y.cls ∈ XB ∧
    (y.cls ≠ "java/lang/invoke/MethodHandle" ∧ y.cls ≠ "java/lang/invoke/VarHandle" ∧ (parseMethodDescriptor y.desc).map (fun d => d.parameters.length) = some na) ∧
    ((z.2.1 = 0 ∧ z.1 = na ∧ Cond.static y ∈ XB) ∨ (z.2.1 ≠ 0 ∧ z.1 = na + 1 ∧ Cond.instanceMethod y ∈ XB ∧ Cond.selects y.cls y y ∈ XB ∧ ((z.2.1 = 60 ∧ y.cls = "java/lang/String") ∨ (z.2.1 < 60 ∧ ∃ q, vwCl[z.2.1 - 1]? = some q ∧ q.1 = y.cls)))) ∧ xsnd l y bytes maxL ret rm z.2.2) ∨
  (z = (2, 0, .inl xmax) ∧ Cond.methodLink own n Lib.Math.max.name ∈ XB ∧ Cond.static Lib.Math.max.name ∈ XB ∧ Cond.initialized "java/lang/Math" ∈ XB ∧ Cond.code Lib.Math.max.name Lib.Math.max.code 2 (some .int) ∈ XB ∧ 1 ≤ R.frames ∧ 21 ≤ R.locals) ∨
  (z = (2, 0, .inl xmin) ∧ Cond.methodLink own n Lib.Math.min.name ∈ XB ∧ Cond.static Lib.Math.min.name ∈ XB ∧ Cond.initialized "java/lang/Math" ∈ XB ∧ Cond.code Lib.Math.min.name Lib.Math.min.code 2 (some .int) ∈ XB ∧ 1 ≤ R.frames ∧ 21 ≤ R.locals) ∨
  (z = (1, 0, .inl xabs) ∧ Cond.methodLink own n Lib.Math.abs.name ∈ XB ∧ Cond.static Lib.Math.abs.name ∈ XB ∧ Cond.initialized "java/lang/Math" ∈ XB ∧ Cond.code Lib.Math.abs.name Lib.Math.abs.code 1 (some .int) ∈ XB ∧ 1 ≤ R.frames ∧ 21 ≤ R.locals) ∨
  (z = (5, 0, .inr (.inr (.inl xcopy))) ∧ Cond.methodLink own n arraycopyName ∈ XB ∧ Cond.native arraycopyName ∈ XB ∧ Cond.static arraycopyName ∈ XB ∧ Cond.initialized "java/lang/System" ∈ XB ∧ 1 ≤ R.frames ∧ 8 + (nativeFrameWords "java/lang/System" "arraycopy" 5 + 11) ≤ R.locals)
def xfldok (own : String) (n : Nat) (z : Nat × Nat × Nat × Nat) : Prop :=
  (z.2.2.1 < 5 ∨ z.2.2.1 = 7 → ∃ (C : String) (T : u_T) (N : Nat), vwCl[z.1]? = some (C, T, N) ∧ z.2.1 < N ∧ Cond.fieldLink own n (T z.2.1).1 (T z.2.1).2.1 (T z.2.1).2.2.1 ∈ XB ∧ (z.2.2.1 = 7 → xft z.1 z.2.1 = 0) ∧ (z.2.2.1 < 2 ∨ z.2.2.1 = 3 → xft z.1 z.2.1 = z.2.2.1 ∧ (T z.2.1).2.2.2 = false) ∧ (z.2.2.1 = 4 → xft z.1 z.2.1 = 2 ∧ ∀ a, xcl a = z.1 → xrf a z.2.1 = a + z.2.2.2) ∧ z.2.2.1 ≠ 2) ∧
  (z.2.2.1 = 5 → Cond.fieldLink own n "java/lang/String" "value" "[B" ∈ XB) ∧ (z.2.2.1 = 6 → Cond.fieldLink own n "java/lang/String" "coder" "B" ∈ XB)
def xcstok (own : String) (n : Nat) (v : Value) : Prop :=
  (n < 100000 → v = .null ∨ (∃ x, v = .int x ∧ Cond.constant own n x ∈ XB) ∨ (∃ x, v = .long x ∧ Cond.constantLong own n x ∈ XB) ∨ ∃ i, i < 7 ∧ v = .ref (210 + i) ∧ (own, n, i) ∈ xstrs) ∧
  (∀ k, n = k + 100000 → v = .null ∨ (v = .ref 200 ∧ Cond.fieldLink own k "VowOfOneWord$Grammar" "NEXT" "[I" ∈ XB) ∨ (v = .ref 201 ∧ Cond.fieldLink own k "VowOfOneWord$Grammar" "WANTS" "[I" ∈ XB) ∨ (v = .int 1 ∧ Cond.fieldLink own k "java/lang/String" "COMPACT_STRINGS" "Z" ∈ XB) ∨
    (v = .retAddr 1 ∧ Cond.fieldLink own k "jdk/internal/util/Preconditions" "SIOOBE_FORMATTER" "Ljava/util/function/BiFunction;" ∈ XB))
def xilen : Instr → Nat
  | .iconst _ | .lconst _ | .iload_n _ | .lload_n _ | .aload_n _ | .istore_n _ | .astore_n _ | .lstore_n _ | .iadd | .isub | .imul | .idiv | .irem | .ineg | .iand | .ior | .ixor | .ishl | .ishr | .iushr | .ladd | .land | .lor | .lshl | .lshr | .lcmp
  | .i2l | .l2i | .i2b | .i2s | .i2c | .dup | .pop | .dup_x1 | .dup2 | .arraylength | .iaload | .baload | .laload | .aaload | .iastore | .bastore | .lastore | .ireturn | .lreturn | .areturn | .return_ => 1
  | .bipush _ | .ldc _ | .iload _ | .lload _ | .aload _ | .istore _ | .astore _ | .lstore _ => 2
  | .sipush _ | .ldc_w _ | .ldc2_w _ | .getstatic _ | .iinc _ _ | .ifCond _ _ | .if_icmp _ _ | .goto _ | .getfield _ | .putfield _ | .invokestatic _ | .invokevirtual _ => 3
  | _ => 0
def xiok2 (pc : Nat) : Instr → Bool
  | .bipush n => decide ((Int8.ofInt n).toInt32 = Int32.ofInt n)
  | .sipush n => decide ((Int16.ofInt n).toInt32 = Int32.ofInt n)
  | .ifCond _ off => decide (0 ≤ (pc : Int) + off)
  | .if_icmp _ off => decide (0 ≤ (pc : Int) + off)
  | .goto off => decide (0 ≤ (pc : Int) + off)
  | .ldc n => decide (n < 100000)
  | .ldc_w n => decide (n < 100000)
  | .ldc2_w n => decide (n < 100000)
  | .tableswitch d lo hi offs => decide (0 ≤ (pc : Int) + d) && offs.toList.all (fun o => decide (0 ≤ (pc : Int) + o)) && decide ((offs.toList.length : Int) = hi - lo + 1) && decide (-2147483648 ≤ lo) && decide (hi ≤ 2147483647)
  | _ => true
def xiok (pc : Nat) (i : Instr) (len : Nat) : Bool := (Nat.beq (xilen i) len || Nat.beq (xilen i) 0) && xiok2 pc i
def xchk (cc : ByteArray) (L : XT) : Bool := L.all (fun ch => ch.all (fun z => decide (decode cc z.1 = .ok (z.2.1, z.2.2)) && xiok z.1 z.2.1 z.2.2))
theorem xlk_mem {l : List (Nat × Instr × Nat)} {pc : Nat} {i : Instr} (h : xlk l pc = some i) : ∃ z ∈ l, z.1 = pc ∧ z.2.1 = i := by
  induction l with
  | nil => simp [xlk] at h
  | cons z l ih =>
    unfold xlk at h
    cases hb : Nat.beq z.1 pc with
    | true =>
      rw [hb] at h
      exact ⟨z, List.mem_cons_self, Nat.eq_of_beq_eq_true hb, Option.some.inj h⟩
    | false =>
      rw [hb] at h
      obtain ⟨z', h1, h2⟩ := ih h
      exact ⟨z', List.mem_cons_of_mem _ h1, h2⟩
theorem xgl_mem {α : Type} : ∀ (l : List α) (n : Nat) (d : α), xgl l n d ∈ l ∨ xgl l n d = d
  | [], _, _ => Or.inr rfl
  | a :: _, 0, _ => Or.inl List.mem_cons_self
  | _ :: l, n + 1, d => (xgl_mem l n d).elim (fun h => Or.inl (List.mem_cons_of_mem _ h)) Or.inr
theorem xat_ok {cc : ByteArray} {L : XT} (hc : xchk cc L = true) {pc : Nat} {i : Instr} (h : xat L pc = some i) : ∃ len, decode cc pc = .ok (i, len) ∧ xiok pc i len = true := by
  obtain ⟨z, hz, e1, e2⟩ := xlk_mem h
  subst e1
  subst e2
  rcases xgl_mem L (z.1 / 16) [] with hm | hm
  · have h1 := List.all_eq_true.mp (List.all_eq_true.mp hc _ hm) z hz
    rw [Bool.and_eq_true, decide_eq_true_eq] at h1
    exact ⟨z.2.2, h1.1, h1.2⟩
  · rw [hm] at hz
    cases hz
theorem xlkV_ok {own : String} {l : List (Nat × Value)} (h : ∀ z ∈ l, xcstok own z.1 z.2) (n : Nat) : xcstok own n (xlkV l n) := by
  induction l with
  | nil => exact ⟨fun _ => Or.inl rfl, fun _ _ => Or.inl rfl⟩
  | cons z l ih =>
    unfold xlkV
    cases hb : Nat.beq z.1 n with
    | true =>
      have e := Nat.eq_of_beq_eq_true hb
      subst e
      exact h z List.mem_cons_self
    | false => exact ih (fun z hz => h z (List.mem_cons_of_mem _ hz))
theorem xlkF_ok {own : String} {l : List (Nat × Nat × Nat × Nat × Nat)} (h : ∀ z ∈ l, xfldok own z.1 z.2) (n : Nat) : xfldok own n (xlkF l n) := by
  induction l with
  | nil => exact ⟨fun h => absurd h (show ¬ ((9 : Nat) < 5 ∨ (9 : Nat) = 7) by decide), fun h => absurd h (show ¬ (9 : Nat) = 5 by decide), fun h => absurd h (show ¬ (9 : Nat) = 6 by decide)⟩
  | cons z l ih =>
    unfold xlkF
    cases hb : Nat.beq z.1 n with
    | true =>
      have e := Nat.eq_of_beq_eq_true hb
      subst e
      exact h z List.mem_cons_self
    | false => exact ih (fun z hz => h z (List.mem_cons_of_mem _ hz))
theorem xlkC_ok {l : Launch} {own : String} {R : Room} {ls : List (Nat × XC)} (h : ∀ z ∈ ls, xcalok l own R z.1 z.2) (n : Nat) : xcalok l own R n (xlkC ls n) := by
  induction ls with
  | nil => exact Or.inl ⟨rfl, rfl⟩
  | cons z ls ih =>
    unfold xlkC
    cases hb : Nat.beq z.1 n with
    | true =>
      have e := Nat.eq_of_beq_eq_true hb
      subst e
      exact h z List.mem_cons_self
    | false => exact ih (fun z hz => h z (List.mem_cons_of_mem _ hz))
/-! locals -/
def xlr (ad : Nat → Nat) (fm : Value) (ls : Array Slot) (l : List Value) : Prop := ls.size = l.length ∧ lv_wf ls ∧ ∀ (i : Nat) (v : Value), xnth l i = v → xph v = false → ls[i]? = some (.val (xc ad fm v))
def xas (ad : Nat → Nat) (fm : Value) (l : List Value) : List (Nat × Value) := (List.range l.length).filterMap (fun j => if xph (xnth l j) = true then none else some (j, xc ad fm (xnth l j)))
theorem xnth_out : ∀ {l : List Value} {i : Nat}, l.length ≤ i → xnth l i = .retAddr 0
  | [], _, _ => rfl
  | _ :: l, 0, h => absurd h (by simp)
  | _ :: l, n + 1, h => xnth_out (l := l) (i := n) (by simpa using h)
theorem xnth_lt {l : List Value} {i : Nat} {v : Value} (h : xnth l i = v) (hp : xph v = false) : i < l.length := by
  rcases Nat.lt_or_ge i l.length with q | q
  · exact q
  · rw [xnth_out q] at h
    subst h
    cases hp
theorem xnth_set : ∀ (l : List Value) (i j : Nat) (v : Value), xnth (xset l i v) j = if j = i then (if i < l.length then v else .retAddr 0) else xnth l j
  | [], i, j, v => by simp [xset, xnth]
  | w :: l, 0, 0, v => by simp [xset, xnth]
  | w :: l, 0, j + 1, v => by simp [xset, xnth]
  | w :: l, i + 1, 0, v => by simp [xset, xnth]
  | w :: l, i + 1, j + 1, v => by simp [xset, xnth, xnth_set l i j v]
theorem xset_len : ∀ (l : List Value) (i : Nat) (v : Value), (xset l i v).length = l.length
  | [], _, _ => rfl
  | _ :: l, 0, _ => by simp [xset]
  | _ :: l, i + 1, v => by simp [xset, xset_len l i v]
theorem xas_mem {ad : Nat → Nat} {fm : Value} {l : List Value} {j : Nat} {w : Value} : (j, w) ∈ xas ad fm l ↔ ∃ v, xnth l j = v ∧ xph v = false ∧ w = xc ad fm v := by
  unfold xas
  rw [List.mem_filterMap]
  constructor
  · rintro ⟨k, hk, h⟩
    by_cases hp : xph (xnth l k) = true
    · rw [if_pos hp] at h; cases h
    · rw [if_neg hp] at h
      cases h
      exact ⟨_, rfl, by simpa using hp, rfl⟩
  · rintro ⟨v, h1, h2, h3⟩
    refine ⟨j, List.mem_range.mpr (xnth_lt h1 h2), ?_⟩
    rw [h1, if_neg (by rw [h2]; decide), h3]
theorem xlr_has {ad : Nat → Nat} {fm : Value} {ls : Array Slot} {l : List Value} (h : xlr ad fm ls l) : lv_has ls l.length (xas ad fm l) := by
  refine ⟨h.1, h.2.1, fun q hq => ?_⟩
  obtain ⟨v, h1, h2, h3⟩ := xas_mem.mp (show (q.1, q.2) ∈ xas ad fm l from hq)
  rw [h3]
  exact h.2.2 _ _ h1 h2
theorem xc_cat {ad : Nat → Nat} {fm : Value} (hf : fm.category = 1) (v : Value) : (xc ad fm v).category = v.category := by
  cases v <;> simp [xc, Value.category]
  exact hf
theorem xst1 {ad : Nat → Nat} {fm : Value} (hf : fm.category = 1) {ls' : Array Slot} {l : List Value} {i : Nat} {v : Value} (hi : i < l.length) (hn : xnl l i = true) (h : lv_has ls' l.length ((i, xc ad fm v) :: (xas ad fm l).filter (fun q => !(q.1 == i) && !(q.1 + 1 == i && q.2.category == 2)))) : xlr ad fm ls' (xset l i v) := by
  refine ⟨by rw [xset_len]; exact h.1, h.2.1, fun j w hj hp => ?_⟩
  rw [xnth_set] at hj
  by_cases e : j = i
  · rw [if_pos e, if_pos hi] at hj
    subst hj; subst e
    exact h.2.2 (j, xc ad fm v) List.mem_cons_self
  · rw [if_neg e] at hj
    refine h.2.2 (j, xc ad fm w) (List.mem_cons_of_mem _ (List.mem_filter.mpr ⟨xas_mem.mpr ⟨w, hj, hp, rfl⟩, ?_⟩))
    have e1 : (j == i) = false := by simpa using e
    by_cases e2 : j + 1 = i
    · subst e2
      have h1 : w.category = 1 := by
        have hn : Nat.beq (xnth l j).category 1 = true := hn
        rw [hj] at hn
        exact Nat.eq_of_beq_eq_true hn
      have h2 : (xc ad fm w).category = 1 := by rw [xc_cat hf]; exact h1
      simp [e1, h2]
    · have e3 : (j + 1 == i) = false := by simpa using e2
      simp [e1, e3]
theorem xst2 {ad : Nat → Nat} {fm : Value} (hf : fm.category = 1) {ls' : Array Slot} {l : List Value} {i : Nat} {v : Value} (hi : i + 1 < l.length) (hn : xnl l i = true) (h : lv_has ls' l.length ((i, xc ad fm v) :: (xas ad fm l).filter (fun q => !(q.1 == i) && (!(q.1 == i + 1) && !(q.1 + 1 == i && q.2.category == 2))))) : xlr ad fm ls' (xset (xset l i v) (i + 1) (.retAddr 0)) := by
  refine ⟨by rw [xset_len, xset_len]; exact h.1, h.2.1, fun j w hj hp => ?_⟩
  rw [xnth_set, xset_len] at hj
  by_cases e0 : j = i + 1
  · rw [if_pos e0, if_pos hi] at hj
    subst hj
    cases hp
  rw [if_neg e0, xnth_set] at hj
  by_cases e : j = i
  · rw [if_pos e, if_pos (by omega)] at hj
    subst hj; subst e
    exact h.2.2 (j, xc ad fm v) List.mem_cons_self
  · rw [if_neg e] at hj
    refine h.2.2 (j, xc ad fm w) (List.mem_cons_of_mem _ (List.mem_filter.mpr ⟨xas_mem.mpr ⟨w, hj, hp, rfl⟩, ?_⟩))
    have e1 : (j == i) = false := by simpa using e
    have e4 : (j == i + 1) = false := by simpa using e0
    by_cases e2 : j + 1 = i
    · subst e2
      have h1 : w.category = 1 := by
        have hn : Nat.beq (xnth l j).category 1 = true := hn
        rw [hj] at hn
        exact Nat.eq_of_beq_eq_true hn
      have h2 : (xc ad fm w).category = 1 := by rw [xc_cat hf]; exact h1
      simp [e1, e4, h2]
    · have e3 : (j + 1 == i) = false := by simpa using e2
      simp [e1, e3, e4]
theorem xmask_nth : ∀ (m : List Bool) (l : List Value) (i : Nat) (v : Value), xnth (xmask m l) i = v → xph v = false → xnth l i = v
  | [], l, i, v, h, hp => by
    simp [xmask, xnth] at h
    subst h
    cases hp
  | b :: m, [], i, v, h, hp => by
    simp [xmask, xnth] at h
    subst h
    cases hp
  | b :: m, w :: l, 0, v, h, hp => by
    cases b with
    | true => simpa [xmask, xnth] using h
    | false =>
      simp [xmask, xnth] at h
      subst h
      cases hp
  | b :: m, w :: l, i + 1, v, h, hp => by
    simp only [xmask, xnth] at h ⊢
    exact xmask_nth m l i v h hp
theorem xmask_len : ∀ (m : List Bool) (l : List Value), m.length = l.length → (xmask m l).length = l.length
  | [], [], _ => rfl
  | [], _ :: _, h => by cases h
  | _ :: _, [], h => by cases h
  | b :: m, w :: l, h => by simp [xmask, xmask_len m l (by simpa using h)]
theorem xlr_mask {ad : Nat → Nat} {fm : Value} {ls : Array Slot} {l : List Value} {m : List Bool} (h : xlr ad fm ls l) (hm : m.length = l.length) : xlr ad fm ls (xmask m l) :=
  ⟨by rw [xmask_len m l hm]; exact h.1, h.2.1, fun i v hv hp => h.2.2 i v (xmask_nth m l i v hv hp) hp⟩
theorem xcats_map {ad : Nat → Nat} {fm : Value} (hf : fm.category = 1) (l : List Value) : ((l.map (xc ad fm)).map fun v => v.category).sum = xcats l := by
  induction l with
  | nil => rfl
  | cons v l ih =>
    simp only [List.map_cons, List.sum_cons, xcats]
    rw [xc_cat hf]
    omega
theorem xtake_ok : ∀ (n : Nat) (a st as rest : List Value), xtake n a st = some (as, rest) → ∃ b, b.length = n ∧ as = b.reverse ++ a ∧ st = b ++ rest
  | 0, a, st, as, rest, h => by
    simp only [xtake, Option.some.injEq, Prod.mk.injEq] at h
    exact ⟨[], rfl, by simp [h.1], by simp [h.2]⟩
  | n + 1, a, [], as, rest, h => by cases h
  | n + 1, a, v :: st, as, rest, h => by
    obtain ⟨b, h1, h2, h3⟩ := xtake_ok n (v :: a) st as rest h
    exact ⟨v :: b, by simp [h1], by simp [h2], by simp [h3]⟩
theorem xlv_of {a : Nat} (h : a < 82) (h2 : xcl a < 8 ∨ (1 ≤ xak a ∧ xak a ≤ 4)) : xlv a := by
  have key : ∀ a, a < 82 → (xcl a < 8 ∨ (1 ≤ xak a ∧ xak a ≤ 4)) → (a < 24 ∨ (28 ≤ a ∧ a < 34) ∨ (38 ≤ a ∧ a < 82)) := by decide +kernel
  exact key a h h2
theorem xcl_lt {a ci : Nat} (h : xcl a = ci) (hc : ci < 8) : xlv a ∧ xak a = 0 ∧ a < 200 := by
  have key : ∀ a, a < 82 → xcl a < 8 → xak a = 0 := by decide +kernel
  have hl : a < 82 := by
    rcases Nat.lt_or_ge a 82 with q | q
    · exact q
    · exfalso
      have e : ∀ (l : List Nat) (n d : Nat), l.length ≤ n → xgl l n d = d := by
        intro l
        induction l with
        | nil => intro n d _; rfl
        | cons b l ih =>
          intro n d hn
          cases n with
          | zero => simp at hn
          | succ n => exact ih n d (by simpa using hn)
      have : xcl a = 99 := e xclL a 99 (show 82 ≤ a from q)
      omega
  exact ⟨xlv_of hl (Or.inl (by omega)), key a hl (by omega), by omega⟩
theorem xak_lt {a k : Nat} (h : xak a = k) (h1 : 1 ≤ k) (h2 : k ≤ 4) : xlv a ∧ a < 200 := by
  have hl : a < 82 := by
    rcases Nat.lt_or_ge a 82 with q | q
    · exact q
    · exfalso
      have e : ∀ (l : List Nat) (n d : Nat), l.length ≤ n → xgl l n d = d := by
        intro l
        induction l with
        | nil => intro n d _; rfl
        | cons b l ih =>
          intro n d hn
          cases n with
          | zero => simp at hn
          | succ n => exact ih n d (by simpa using hn)
      have h5 : xgl xakL a 0 = 0 := e xakL a 0 (show 82 ≤ a from q)
      unfold xak at h
      rw [h5] at h
      cases hb : Nat.ble 200 a <;> cases hb2 : Nat.ble 230 a <;> cases hb3 : Nat.ble a 236 <;> cases hb4 : Nat.ble a 202 <;> simp [hb, hb2, hb3, hb4] at h <;> omega
  exact ⟨xlv_of hl (Or.inr (by omega)), by omega⟩
theorem xlen_lt {a : Nat} (M : XM) (h : a < 200) : xlen M a = xal a := by
  have : Nat.beq a 202 = false := by
    cases hb : Nat.beq a 202 with
    | false => rfl
    | true => have := Nat.eq_of_beq_eq_true hb; omega
  simp [xlen, this]
theorem blt_ok {a b : Nat} (h : Nat.blt a b = true) : a < b := by
  unfold Nat.blt at h
  exact Nat.le_of_ble_eq_true h
theorem xin_ok {i : Int32} {n : Nat} (h : xin i n = true) : vp_in i n := by
  unfold xin at h
  rw [Bool.and_eq_true, Bool.not_eq_true', decide_eq_false_iff_not] at h
  intro q
  rcases q with q | q
  · exact h.1 q
  · have h2 : i.toNatClampNeg < n := blt_ok h.2
    omega
theorem xisb_ok {x : Int32} (h : xisb x = true) : x = 0 ∨ x = 1 := by
  unfold xisb at h
  rw [Bool.or_eq_true, decide_eq_true_eq, decide_eq_true_eq] at h
  exact h
/-- the kinds of objects: their words, their fields' types -/
def xclsok (ci : Nat) (q : vw_C) : Prop := ci < 8 ∧ xnf ci = q.2.2 ∧ (∀ w ∈ u_ws q.1 q.2.1 q.2.2, w ∈ XB) ∧ (∃ ty0 : Nat → FieldType, (∀ k, k < q.2.2 → parseFieldDescriptor (q.2.1 k).2.2.1 = some (ty0 k)) ∧ ∀ k, k < q.2.2 → (xft ci k = 0 → ty0 k = .int) ∧ (xft ci k = 1 → ty0 k = .long) ∧ (xft ci k = 3 → ty0 k = .boolean)) ∧ (∀ a, a < q.2.2 → ∀ b, b < q.2.2 → a ≠ b → (q.2.1 a).2.1 ≠ (q.2.1 b).2.1)
theorem xcls {ci : Nat} {q : vw_C} (h : vwCl[ci]? = some q) : xclsok ci q := by
  match ci, h with
  | 0, h => cases h; exact ⟨by decide, rfl, xinX1, ⟨tyX1, tyX1_ok, by decide +kernel⟩, nmX1⟩
  | 1, h => cases h; exact ⟨by decide, rfl, xinX3, ⟨tyX3, tyX3_ok, by decide +kernel⟩, nmX3⟩
  | 2, h => cases h; exact ⟨by decide, rfl, xinX4, ⟨tyX4, tyX4_ok, by decide +kernel⟩, nmX4⟩
  | 3, h => cases h; exact ⟨by decide, rfl, xinX5, ⟨tyX5, tyX5_ok, by decide +kernel⟩, nmX5⟩
  | 4, h => cases h; exact ⟨by decide, rfl, xinX6, ⟨tyX6, tyX6_ok, by decide +kernel⟩, nmX6⟩
  | 5, h => cases h; exact ⟨by decide, rfl, xinX7, ⟨tyX7, tyX7_ok, by decide +kernel⟩, nmX7⟩
  | 6, h => cases h; exact ⟨by decide, rfl, xinX8, ⟨tyX8, tyX8_ok, by decide +kernel⟩, nmX8⟩
  | 7, h => cases h; exact ⟨by decide, rfl, xinX9, ⟨tyX9, tyX9_ok, by decide +kernel⟩, nmX9⟩
  | k + 8, h => simp [vwCl] at h
theorem xw1_obj {dA : Nat → ClassId} {ad : Nat → Nat} {M : XM} {a : Nat} (h : xak a = 0) : xw1 dA ad M a = .inr (xcl a, (List.range (xnf (xcl a))).map (fun k => xfv ad M a k)) := by
  simp [xw1, h]
theorem xrange_set {α : Type} (n f : Nat) (g g' : Nat → α) (v : α) (h1 : g' f = v) (h2 : ∀ k, k ≠ f → g' k = g k) : ((List.range n).map g).set f v = (List.range n).map g' := by
  apply List.ext_getElem
  · simp
  · intro i hi hi'
    rw [List.getElem_set]
    by_cases h : f = i
    · subst h
      simp [h1]
    · rw [if_neg h]
      simp [h2 i (fun q => h q.symm)]
theorem xw1_put {dA : Nat → ClassId} {ad : Nat → Nat} {M : XM} {a f : Nat} {x : Int32} (h : xak a = 0) (h1 : xft (xcl a) f ≠ 1) (h2 : xft (xcl a) f ≠ 2) : (.inr (xcl a, ((List.range (xnf (xcl a))).map (fun k => xfv ad M a k)).set f (.int x)) : va_E) = xw1 dA ad (xwi M a f x) a := by
  rw [xw1_obj h, xrange_set (g' := fun k => xfv ad (xwi M a f x) a k)]
  · simp [xfv, h1, h2, xwi]
  · intro k hk
    simp [xfv, xwi, hk]
theorem xw1_putl {dA : Nat → ClassId} {ad : Nat → Nat} {M : XM} {a f : Nat} {x : Int64} (h : xak a = 0) (h1 : xft (xcl a) f = 1) : (.inr (xcl a, ((List.range (xnf (xcl a))).map (fun k => xfv ad M a k)).set f (.long x)) : va_E) = xw1 dA ad (xwl M a f x) a := by
  rw [xw1_obj h, xrange_set (g' := fun k => xfv ad (xwl M a f x) a k)]
  · simp [xfv, h1, xwl]
  · intro k hk
    simp [xfv, xwl, hk]
theorem xwi_ne {M : XM} {a f : Nat} {x : Int32} {i : Nat} (h : i ≠ a) : (xwi M a f x).1 i = M.1 i := by
  funext j
  simp [xwi, h]
theorem xwl_ne {M : XM} {a f : Nat} {x : Int64} {i : Nat} (h : i ≠ a) : (xwl M a f x).2 i = M.2 i := by
  funext j
  simp [xwl, h]
theorem xwi_eq {M : XM} {a f : Nat} {x : Int32} : (xwi M a f x).1 a = upd (M.1 a) f x := by
  funext j
  simp [xwi, upd]
theorem xwl_eq {M : XM} {a f : Nat} {x : Int64} : (xwl M a f x).2 a = vp_updL (M.2 a) f x := by
  funext j
  simp [xwl, vp_updL]
theorem xkp_wi {M : XM} {a f : Nat} {x : Int32} (h : a < 200) : xkp M (xwi M a f x) := fun b hb => xwi_ne (by omega)
section XSOUND
variable {p : Program} {l : Launch} {e : Env} {R : Room} {s : State} {m : MethodId} {args : Array Value} {below : List Frame} {meth : Method} {c : Code} {cells slots : Nat} {Q : State → Prop} {D : va_G} {dA : Nat → ClassId} {ad : Nat → Nat} {fm : Value} {A : Nat → Prop} {M0 : XM}
def xOK (D : va_G) (dA : Nat → ClassId) (ad : Nat → Nat) (fm : Value) (A : Nat → Prop) (s : State) (M0 : XM) (H : Heap) (locs : List Loc) (M : XM) : Prop :=
  va_P D vwCl (xws dA ad M) H ∧ va_D A (xws dA ad M) ∧ va_K D vwCl (xtys dA) s ∧ va_S A s.heap H locs ∧ xF ad fm M0.1 A s s.heap ∧ xkp M0 M ∧ fm.category = 1
def XG (p : Program) (l : Launch) (e : Env) (R : Room) (s : State) (m : MethodId) (args : Array Value) (below : List Frame) (meth : Method) (c : Code) (cells slots : Nat) (Q : State → Prop) (D : va_G) (dA : Nat → ClassId) (ad : Nat → Nat) (fm : Value) (A : Nat → Prop) (M0 : XM) (pc : Nat) (lo st : List Value) (M : XM) : Prop :=
  ∀ (H : Heap) (locs : List Loc) (ls : Array Slot), xOK D dA ad fm A s M0 H locs M → xlr ad fm ls lo → lo.length = c.maxLocals → W p l e R s m args below meth c H locs cells slots Q (F0 m pc ls (st.map (xc ad fm)))
theorem xtgt_ok {pc : Nat} {off : Int} (h : decide (0 ≤ (pc : Int) + off) = true) : (pc : Int) + off = (xtgt pc off : Int) := by
  unfold xtgt
  have := of_decide_eq_true h
  omega
theorem xsw_ok {ρ : Type} {k : Int → Option ρ} {d : Int} {x : Int32} {r : ρ} : ∀ (offs : List Int) (v : Int), xsw xeq k d x v offs = some r → (∃ (j : Nat) (o : Int), offs[j]? = some o ∧ x = Int32.ofInt (v + j) ∧ k o = some r) ∨ ((∀ j : Nat, j < offs.length → x ≠ Int32.ofInt (v + j)) ∧ k d = some r)
  | [], v, h => Or.inr ⟨fun j hj => absurd hj (by simp), h⟩
  | o :: l, v, h => by
    unfold xsw at h
    by_cases hx : x = Int32.ofInt v
    · rw [show xeq x (Int32.ofInt v) = true from decide_eq_true hx] at h
      exact Or.inl ⟨0, o, rfl, by simpa using hx, h⟩
    · rw [show xeq x (Int32.ofInt v) = false from decide_eq_false hx] at h
      rcases xsw_ok l (v + 1) h with ⟨j, o', h1, h2, h3⟩ | ⟨h1, h2⟩
      · refine Or.inl ⟨j + 1, o', by simpa using h1, ?_, h3⟩
        rw [h2]
        congr 1
        omega
      · refine Or.inr ⟨fun j hj => ?_, h2⟩
        cases j with
        | zero => simpa using hx
        | succ j =>
          have := h1 j (by simpa using hj)
          rw [show v + ((j + 1 : Nat) : Int) = v + 1 + (j : Int) by omega]
          exact this
/-- an int array that nobody writes -/
theorem xtld {cc : ByteArray} {pc : Nat} {ls : Array Slot} {rest : List Value} {H : Heap} {locs : List Loc} (hexec : p.tables.exec = Jvm.exec) (hb : c.code = cc) {t N : Nat} {f : Nat → Int32} (hX : va_T .int t N (fun j => .int (f j)) A s s.heap) (hS : va_S A s.heap H locs) {i : Int32} (hin : vp_in i N) (hdg : decode cc pc = .ok (.iaload, 1))
    (kk : W p l e R s m args below meth c H locs cells slots Q (F0 m (pc + 1) ls (.int (f i.toNatClampNeg) :: rest))) : W p l e R s m args below meth c H locs cells slots Q (F0 m pc ls (.int i :: .ref t :: rest)) := by
  obtain ⟨cell, h1, h2, h3, h4, h5, h6, h7⟩ := hX
  have hlt : i.toNatClampNeg < N := Nat.not_le.mp fun q => hin (Or.inr q)
  exact W.iald (v := .int (f i.toNatClampNeg)) hexec hb (by rw [hS.2.1 t (Array.getElem?_eq_some_iff.mp h1).1 h7]; exact h1) h2 h3 (fun q => q.elim (fun q => hin (Or.inl q)) (fun q => by omega)) (h6 _ hlt) rfl rfl hdg kk
theorem xtldb {cc : ByteArray} {pc : Nat} {ls : Array Slot} {rest : List Value} {H : Heap} {locs : List Loc} (hexec : p.tables.exec = Jvm.exec) (hb : c.code = cc) {t N : Nat} {f : Nat → Int32} (hX : va_T .byte t N (fun j => .int (f j)) A s s.heap) (hS : va_S A s.heap H locs) {i : Int32} (hin : vp_in i N) (hdg : decode cc pc = .ok (.baload, 1))
    (kk : W p l e R s m args below meth c H locs cells slots Q (F0 m (pc + 1) ls (.int (f i.toNatClampNeg) :: rest))) : W p l e R s m args below meth c H locs cells slots Q (F0 m pc ls (.int i :: .ref t :: rest)) := by
  obtain ⟨cell, h1, h2, h3, h4, h5, h6, h7⟩ := hX
  have hlt : i.toNatClampNeg < N := Nat.not_le.mp fun q => hin (Or.inr q)
  exact W.bald (v := .int (f i.toNatClampNeg)) hexec hb (by rw [hS.2.1 t (Array.getElem?_eq_some_iff.mp h1).1 h7]; exact h1) h2 h3 (fun q => q.elim (fun q => hin (Or.inl q)) (fun q => by omega)) (h6 _ hlt) rfl rfl hdg kk
theorem xtlen {cc : ByteArray} {pc : Nat} {ls : Array Slot} {rest : List Value} {H : Heap} {locs : List Loc} (hexec : p.tables.exec = Jvm.exec) (hb : c.code = cc) {ty : FieldType} {t N : Nat} {f : Nat → Value} (hX : va_T ty t N f A s s.heap) (hS : va_S A s.heap H locs) (hdg : decode cc pc = .ok (.arraylength, 1))
    (kk : W p l e R s m args below meth c H locs cells slots Q (F0 m (pc + 1) ls (.int (Int32.ofNat N) :: rest))) : W p l e R s m args below meth c H locs cells slots Q (F0 m pc ls (.ref t :: rest)) := by
  obtain ⟨cell, h1, h2, h3, h4, h5, h6, h7⟩ := hX
  exact W.alen (n := Int32.ofNat N) hexec hb (by rw [hS.2.1 t (Array.getElem?_eq_some_iff.mp h1).1 h7]; exact h1) h2 h5 rfl rfl hdg kk
theorem xiok_len {pc : Nat} {i : Instr} {len k : Nat} (h : xiok pc i len = true) (hk : xilen i = k) (h0 : k ≠ 0) : len = k := by
  unfold xiok at h
  rw [Bool.and_eq_true, Bool.or_eq_true] at h
  rcases h.1 with q | q
  · rw [← hk]; exact (Nat.eq_of_beq_eq_true q).symm
  · exact absurd (hk.symm.trans (Nat.eq_of_beq_eq_true q)) h0
theorem xiok_2 {pc : Nat} {i : Instr} {len : Nat} (h : xiok pc i len = true) : xiok2 pc i = true := by
  unfold xiok at h
  rw [Bool.and_eq_true] at h
  exact h.2
theorem xb_ok {α : Type} {b : Bool} {X : Option α} {r : α} (h : (bif b then X else none) = some r) : b = true ∧ X = some r := by
  cases b with
  | true => exact ⟨rfl, h⟩
  | false => cases h
theorem xin_A (hD : va_D A (xws dA ad M0)) : ∀ i, xlv i → A (ad i) := fun i hi => hD.2 _ _ (xws_at hi)
theorem xF_congr {F F' : Nat → Nat → Int32} {B : Nat → Prop} {U : State} {H : Heap} (hk : ∀ a, 200 ≤ a → F' a = F a) (h : xF ad fm F B U H) : xF ad fm F' B U H := by
  obtain ⟨h1, h2, h3, h4, h5, h6, h7, h8, h9⟩ := h
  refine ⟨h1, h2, h3, h4, by rw [hk 200 (by omega)]; exact h5, by rw [hk 201 (by omega)]; exact h6, by rw [hk 202 (by omega), hk 203 (by omega)]; exact h7, fun i hi => ?_, h9⟩
  obtain ⟨g1, g2, g3, g4⟩ := h8 i hi
  exact ⟨g1, g2, g3, by rw [hk (230 + i) (by omega)]; exact g4⟩

theorem x_get {own : String} {cc : ByteArray} (S : CallFix p m c cc c.maxLocals s args XB own) {H : Heap} {locs : List Loc} {M : XM} (hO : xOK D dA ad fm A s M0 H locs M) {n : Nat} {z : Nat × Nat × Nat × Nat} (hz : xfldok own n z) (ht : z.2.2.1 < 5 ∨ z.2.2.1 = 7) {a : Nat} (hc : xcl a = z.1) {pc : Nat} {ls : Array Slot} {rest : List Value} (hd : decode cc pc = .ok (.getfield n, 3))
    (kk : W p l e R s m args below meth c H locs cells slots Q (F0 m (pc + 3) ls (xfv ad M a z.2.1 :: rest))) : W p l e R s m args below meth c H locs cells slots Q (F0 m pc ls (.ref (ad a) :: rest)) := by
  obtain ⟨hx, hb, -, hown, hts⟩ := S
  obtain ⟨hP, hD, hK, hS, hF, hkp, hf⟩ := hO
  obtain ⟨C, T, N, h1, h2, h3, -⟩ := hz.1 ht
  obtain ⟨c1, c2, c3, -, -⟩ := xcls h1
  have c2 : xnf z.1 = N := c2
  obtain ⟨l1, l2, l3⟩ := xcl_lt hc c1
  refine va_get (D := D) (ci := z.1) (v := xfv ad M a z.2.1) (C := C) (T := T) (N := N) (ref := (T z.2.1).1) hx hb hts c3 hown hK hP (xpos a) (fs := (List.range (xnf (xcl a))).map (fun k => xfv ad M a k)) ?_ h1 z.2.1 h2 (hts _ h3) (fun _ h9 => h9) ?_ hd kk
  · rw [xws_at l1, xw1_obj l2, hc]
  · rw [hc, c2]
    simp [h2]
theorem x_put {own : String} {cc : ByteArray} (S : CallFix p m c cc c.maxLocals s args XB own) {H : Heap} {locs : List Loc} {M M' : XM} (hO : xOK D dA ad fm A s M0 H locs M) {n : Nat} {z : Nat × Nat × Nat × Nat} (hz : xfldok own n z) {a : Nat} (hc : xcl a = z.1) {v : Value}
    (hv : (z.2.2.1 = 0 ∧ ∃ x, v = .int x ∧ M' = xwi M a z.2.1 x) ∨ (z.2.2.1 = 3 ∧ ∃ x, (x = 0 ∨ x = 1) ∧ v = .int x ∧ M' = xwi M a z.2.1 x) ∨ (z.2.2.1 = 1 ∧ ∃ x, v = .long x ∧ M' = xwl M a z.2.1 x)) {pc : Nat} {ls : Array Slot} {rest : List Value} (hd : decode cc pc = .ok (.putfield n, 3))
    (kk : ∀ (H1 : Heap) (locs1 : List Loc), xOK D dA ad fm A s M0 H1 locs1 M' → W p l e R s m args below meth c H1 locs1 cells slots Q (F0 m (pc + 3) ls rest)) : W p l e R s m args below meth c H locs cells slots Q (F0 m pc ls (v :: .ref (ad a) :: rest)) := by
  obtain ⟨hx, hb, -, hown, hts⟩ := S
  obtain ⟨hP, hD, hK, hS, hF, hkp, hf⟩ := hO
  have ht : z.2.2.1 < 2 ∨ z.2.2.1 = 3 := by rcases hv with h | h | h <;> omega
  obtain ⟨C, T, N, h1, h2, h3, -, h4, -, -⟩ := hz.1 (by omega)
  obtain ⟨h4, h5⟩ := h4 ht
  obtain ⟨c1, c2, c3, ⟨ty0, c4, c5⟩, c6⟩ := xcls h1
  have c2 : xnf z.1 = N := c2
  obtain ⟨l1, l2, l3⟩ := xcl_lt hc c1
  have key : ∀ (ty : FieldType), ty0 z.2.1 = ty → narrow ty v = v → fits ty v = true → (.inr (xcl a, ((List.range (xnf (xcl a))).map (fun k => xfv ad M a k)).set z.2.1 v) : va_E) = xw1 dA ad M' a → (∀ i, i ≠ a → M'.1 i = M.1 i) → (∀ i, i ≠ a → M'.2 i = M.2 i) → W p l e R s m args below meth c H locs cells slots Q (F0 m pc ls (v :: .ref (ad a) :: rest)) := by
    intro ty e1 e2 e3 e4 e5 e6
    refine va_put (D := D) (ci := z.1) (v := v) (ty := ty) (C := C) (T := T) (N := N) (ref := (T z.2.1).1) hx hb hts c3 ty0 c4 c6 hown hK hP hD hS (xpos a) (fs := (List.range (xnf (xcl a))).map (fun k => xfv ad M a k)) ?_ h1 z.2.1 h2 (hts _ h3) (fun _ h9 => h9) h5 (by rw [c4 _ h2, e1]) e2 e3 ?_ hd (fun H1 locs1 g1 g2 g3 => ?_)
    · rw [xws_at l1, xw1_obj l2, hc]
    · rw [hc, c2]
      simpa using h2
    · rw [← hc] at g1 g2
      rw [xws_set (M' := M') l1 e4 e5 e6] at g1 g2
      exact kk H1 locs1 ⟨g1, g2, hK, g3, hF, hkp.tr (fun b hb9 => e5 b (by omega)), hf⟩
  rcases hv with ⟨q, x, rfl, rfl⟩ | ⟨q, x, qx, rfl, rfl⟩ | ⟨q, x, rfl, rfl⟩
  · exact key .int ((c5 _ h2).1 (h4.trans q)) rfl rfl (xw1_put l2 (by rw [hc, h4]; omega) (by rw [hc, h4]; omega)) (fun i hi => xwi_ne hi) (fun _ _ => rfl)
  · refine key .boolean ((c5 _ h2).2.2 (h4.trans q)) ?_ ?_ (xw1_put l2 (by rw [hc, h4]; omega) (by rw [hc, h4]; omega)) (fun i hi => xwi_ne hi) (fun _ _ => rfl)
    · rcases qx with rfl | rfl <;> decide +kernel
    · rcases qx with rfl | rfl <;> decide +kernel
  · exact key .long ((c5 _ h2).2.1 (h4.trans q)) rfl rfl (xw1_putl l2 (by rw [hc, h4]; omega)) (fun _ _ => rfl) (fun i hi => xwl_ne hi)
theorem xrun {own : String} {cc : ByteArray} (S : CallFix p m c cc c.maxLocals s args XB own) (hcell : cells ≤ R.cells ∧ slots ≤ R.slots) {H : Heap} {locs : List Loc} {M : XM} (hO : xOK D dA ad fm A s M0 H locs M) {n : Nat} {z : XC} {y : MethodName} {bytes : ByteArray} {maxL : Nat} {ret : Option FieldType} {rm : Room} {na : Nat} (r0 : rm.cells = 0 ∧ rm.slots = 0 ∧ rm.frames + 1 ≤ R.frames ∧ 8 + (maxL + 11) + rm.locals ≤ R.locals) (w1 : Cond.code y bytes maxL ret ∈ XB) (w2 : Cond.methodLink own n y ∈ XB) (w3 : Cond.initialized y.cls ∈ XB)
    (w4 : y.cls ≠ "java/lang/invoke/MethodHandle" ∧ y.cls ≠ "java/lang/invoke/VarHandle" ∧ (parseMethodDescriptor y.desc).map (fun d => d.parameters.length) = some na)
    (w5 : (z.2.1 = 0 ∧ z.1 = na ∧ Cond.static y ∈ XB) ∨ (z.2.1 ≠ 0 ∧ z.1 = na + 1 ∧ Cond.instanceMethod y ∈ XB ∧ Cond.selects y.cls y y ∈ XB ∧ ((z.2.1 = 60 ∧ y.cls = "java/lang/String") ∨ (z.2.1 < 60 ∧ ∃ q, vwCl[z.2.1 - 1]? = some q ∧ q.1 = y.cls)))) {pc : Nat} {ls : Array Slot} {as rest st : List Value} (hi : (z.2.1 = 0 ∧ decode cc pc = .ok (.invokestatic n, 3)) ∨ (z.2.1 ≠ 0 ∧ decode cc pc = .ok (.invokevirtual n, 3)))
    (ha : as.length = z.1) (hst : st = as.reverse ++ rest) (hr : xrec z.2.1 as = true) (hc : xcats rest ≤ 8) (hsz : ls.size = c.maxLocals) {Qc : Array Value → State → Outcome → State → Prop} (hM : Met l y (Cond.code y bytes maxL ret :: XB) rm (xPc D dA ad fm as M) Qc 0 0 (xA ad)) :
    va_Run p l e R s m args below meth c H locs cells slots 0 0 (F0 m pc ls (st.map (xc ad fm))) (rest.map (xc ad fm)) (Qc (as.map (xc ad fm)).toArray) (xA ad) := by
  obtain ⟨hP, hD, hK, hS, hF, hkp, hf⟩ := id hO
  have hts := S.2.2.2.2
  have good : ∀ w ∈ XB, (w.onTables && w.keeps) = true ∨ ∃ ty, w = .arrayClass ty := fun w hw => (xb_good w hw).2
  have hAB : ∀ q, xA ad q → A q := fun q ⟨i, h1, h2⟩ => by rw [h2]; exact hD.2 _ _ (xws_at h1)
  have hpre : ∀ U : State, U.heap = H → s.WarmedH U.vm → xPc D dA ad fm as M (as.map (xc ad fm)).toArray U := by
    intro U hU hW
    refine ⟨rfl, by rw [hU]; exact hP, xD_irrel hD (fun i hi => ⟨i, hi, rfl⟩), va_K.moved hW.alike hK, ?_, hf⟩
    rw [hU]
    exact xF_congr hkp (hF.warm hW hS.2.1 hAB)
  have hW8 : 2 * (F0 m pc ls (st.map (xc ad fm))).monitorRoom + ((rest.map (xc ad fm)).map fun v => v.category).sum ≤ 8 := lv_room (by rw [xcats_map hf]; exact hc)
  rcases w5 with ⟨k0, k1, k2⟩ | ⟨k0, k1, k2, k3, k4⟩
  · have hd : decode cc pc = .ok (.invokestatic n, 3) := by
      rcases hi with h | h
      · exact h.2
      · exact absurd k0 h.1
    refine va_runS (As := as.map (xc ad fm)) S hM (va_cwS na hts (ws' := XB) ?_ rfl r0.1 r0.2.1 w4 r0.2.2) ⟨xPc_blind, hpre⟩ rfl (by simp [ha, k1]) hsz ?_ hW8 hd hcell
    · intro w hw
      rcases List.mem_append.mp hw with h | h
      · have : w ∈ XB := by
          rcases List.mem_cons.mp h with rfl | h
          · exact w2
          · rcases List.mem_cons.mp h with rfl | h
            · exact k2
            · rcases List.mem_cons.mp h with rfl | h
              · exact w3
              · cases h
        exact ⟨this, good w this⟩
      · have : w ∈ XB := (List.mem_cons.mp h).elim (fun q => q ▸ w1) id
        exact ⟨this, good w this⟩
    · simp [hst]
  · have hd : decode cc pc = .ok (.invokevirtual n, 3) := by
      rcases hi with h | h
      · exact absurd h.1 k0
      · exact h.2
    have hb0 : Nat.beq z.2.1 0 = false := by
      cases hq : Nat.beq z.2.1 0 with
      | false => rfl
      | true => exact absurd (Nat.eq_of_beq_eq_true hq) k0
    unfold xrec at hr
    rw [hb0] at hr
    cases as with
    | nil => cases hr
    | cons v0 as' =>
      cases v0 with
      | ref a =>
        have hrecv : ∃ cellB : Cell, H[ad a]? = some cellB ∧ cellB.vm.isStatics = false ∧ s.vm.findClass y.cls = some cellB.cls := by
          rcases k4 with ⟨k5, k6⟩ | ⟨k5, q, k6, k7⟩
          · rw [k5] at hr
            have h1 : (Nat.ble 210 a && Nat.ble a 216) = true := hr
            rw [Bool.and_eq_true] at h1
            have h2 := Nat.le_of_ble_eq_true h1.1
            have h3 := Nat.le_of_ble_eq_true h1.2
            obtain ⟨cell, g1, g2, g3, -⟩ := (hF.2.2.2.2.2.2.2.1 (a - 210) (by omega)).1.kept hS.2.1
            have e9 : 210 + (a - 210) = a := Nat.add_sub_cancel' h2
            rw [e9] at g1
            exact ⟨cell, g1, g2, by rw [k6]; exact g3⟩
          · have hb6 : Nat.beq z.2.1 60 = false := by
              cases hq : Nat.beq z.2.1 60 with
              | false => rfl
              | true => have := Nat.eq_of_beq_eq_true hq; omega
            have h1 : (bif Nat.beq z.2.1 60 then (Nat.ble 210 a && Nat.ble a 216) else Nat.beq (xcl a + 1) z.2.1) = true := hr
            rw [hb6] at h1
            have h2 := Nat.eq_of_beq_eq_true h1
            have hci : xcl a = z.2.1 - 1 := by omega
            obtain ⟨c1, -⟩ := xcls k6
            obtain ⟨l1, l2, l3⟩ := xcl_lt hci c1
            rw [← k7]
            exact va_recv (ci := z.2.1 - 1) (q0 := xpos a) hK hP k6 (by rw [xws_at l1, xw1_obj l2, hci])
        refine va_runV (As := as'.map (xc ad fm)) S hM (cwV na hts (ws' := XB) ?_ rfl r0.1 r0.2.1 ⟨rfl, w4⟩ r0.2.2) ⟨xPc_blind, hrecv, hpre⟩ rfl (by have := ha; simp at this ⊢; omega) hsz ?_ hW8 hd hcell
        · intro w hw
          rcases List.mem_append.mp hw with h | h
          · have : w ∈ XB := by
              rcases List.mem_cons.mp h with rfl | h
              · exact w2
              · rcases List.mem_cons.mp h with rfl | h
                · exact k2
                · rcases List.mem_cons.mp h with rfl | h
                  · exact k3
                  · rcases List.mem_cons.mp h with rfl | h
                    · exact w3
                    · cases h
            exact ⟨this, good w this⟩
          · have : w ∈ XB := (List.mem_cons.mp h).elim (fun q => q ▸ w1) id
            exact ⟨this, good w this⟩
        · simp [hst, xc]
      | _ => cases hr

theorem xcopy_ok {as : List Value} {M M' : XM} (h : xcopy as M = some M') : ∃ (a b : Nat) (sp dp n : Int32), as = [.ref a, .int sp, .ref b, .int dp, .int n] ∧ ¬ sp < 0 ∧ ¬ dp < 0 ∧ ¬ n < 0 ∧ sp.toNatClampNeg + n.toNatClampNeg ≤ xal a ∧ dp.toNatClampNeg + n.toNatClampNeg ≤ xal b ∧
    ((xak a = 1 ∧ xak b = 1 ∧ M' = xcpi M a b sp.toNatClampNeg dp.toNatClampNeg n.toNatClampNeg) ∨ (xak a = 2 ∧ xak b = 2 ∧ M' = xcpl M a b sp.toNatClampNeg dp.toNatClampNeg n.toNatClampNeg)) := by
  unfold xcopy at h
  split at h
  · rename_i a sp b dp n
    refine ⟨a, b, sp, dp, n, rfl, ?_⟩
    cases h1 : (Nat.beq (xak a) 1 && Nat.beq (xak b) 1) with
    | true =>
      rw [h1] at h
      rw [Bool.and_eq_true] at h1
      simp only [cond_true] at h
      split at h
      · cases h
      · split at h
        · cases h
        · split at h
          · cases h
          · split at h
            · split at h
              · rename_i q1 q2 q3 q4 q5
                exact ⟨q1, q2, q3, q4, q5, Or.inl ⟨Nat.eq_of_beq_eq_true h1.1, Nat.eq_of_beq_eq_true h1.2, (Option.some.inj h).symm⟩⟩
              · cases h
            · cases h
    | false =>
      rw [h1] at h
      simp only [cond_false] at h
      cases h2 : (Nat.beq (xak a) 2 && Nat.beq (xak b) 2) with
      | true =>
        rw [h2] at h
        rw [Bool.and_eq_true] at h2
        simp only [cond_true] at h
        split at h
        · cases h
        · split at h
          · cases h
          · split at h
            · cases h
            · split at h
              · split at h
                · rename_i q1 q2 q3 q4 q5
                  exact ⟨q1, q2, q3, q4, q5, Or.inr ⟨Nat.eq_of_beq_eq_true h2.1, Nat.eq_of_beq_eq_true h2.2, (Option.some.inj h).symm⟩⟩
                · cases h
              · cases h
      | false =>
        rw [h2] at h
        cases h
  · cases h
theorem xw1_i {M : XM} {a : Nat} (h : xak a = 1) : xw1 dA ad M a = .inl (dA 1, xal a, .inl (M.1 a)) := by simp [xw1, h]
theorem xw1_z {M : XM} {a : Nat} (h : xak a = 3) : xw1 dA ad M a = .inl (dA 3, xal a, .inl (M.1 a)) := by simp [xw1, h]
theorem xw1_l {M : XM} {a : Nat} (h : xak a = 2) : xw1 dA ad M a = .inl (dA 2, xal a, .inr (.inl (M.2 a))) := by simp [xw1, h]
theorem xw1_r {M : XM} {a : Nat} (h : xak a = 4) : xw1 dA ad M a = .inl (dA 4, xal a, .inr (.inr (.inr (.inr (fun k => some (ad (xrf a k))))))) := by simp [xw1, h]
theorem x_call {ρ : Type} {own : String} {cc : ByteArray} (S : CallFix p m c cc c.maxLocals s args XB own) (hcell : cells ≤ R.cells ∧ slots ≤ R.slots) {n : Nat} {z : XC} (hz : xcalok l own R n z) {k : List Value → XM → Option ρ} {r : ρ} {st : List Value} {M : XM} {pc : Nat} {lo : List Value} (hi : (z.2.1 = 0 ∧ decode cc pc = .ok (.invokestatic n, 3)) ∨ (z.2.1 ≠ 0 ∧ decode cc pc = .ok (.invokevirtual n, 3)))
    (hk : ∀ st M, k st M = some r → XG p l e R s m args below meth c cells slots Q D dA ad fm A M0 (pc + 3) lo st M) (h : xcall z k st M = some r) : XG p l e R s m args below meth c cells slots Q D dA ad fm A M0 pc lo st M := by
  intro H locs ls hO hL hn
  obtain ⟨hP, hD, hK, hS, hF, hkp, hf⟩ := id hO
  have hAB : ∀ q, xA ad q → A q := fun q ⟨i, h1, h2⟩ => by rw [h2]; exact hD.2 _ _ (xws_at h1)
  have hsz : ls.size = c.maxLocals := hL.1.trans hn
  unfold xcall at h
  split at h
  · rename_i as rest htk
    split at h
    · rename_i hrec
      split at h
      · rename_i hbl
        obtain ⟨b, b1, b2, b3⟩ := xtake_ok _ _ _ _ _ htk
        have hst : st = as.reverse ++ rest := by rw [b2, b3]; simp
        have hal : as.length = z.1 := by rw [b2]; simpa using b1
        have hcat := Nat.le_of_ble_eq_true hbl
        rcases hz with ⟨e1, e2⟩ | ⟨y, bytes, maxL, ret, rm, na, r0, w1, w2, w3, w4, w5, hsem⟩ | ⟨rfl, w1, w2, w3, w4, w5, w6⟩ | ⟨rfl, w1, w2, w3, w4, w5, w6⟩ | ⟨rfl, w1, w2, w3, w4, w5, w6⟩ | ⟨rfl, w1, w2, w3, w4, w5, w6⟩
        · rw [e1] at hal
          rw [e2, List.length_eq_zero_iff.mp hal] at hrec
          cases hrec
        · split at h
          · rename_i f hzf
            rw [hzf] at hsem
            obtain ⟨q, hq1, hq2⟩ := Option.bind_eq_some_iff.mp h
            exact va_calli (xrun S hcell hO r0 w1 w2 w3 w4 w5 hi hal hst hrec hcat hsz (hsem D dA ad fm as M q.1 q.2 hq1)) hS (fun q _ h => hAB q h) hAB (fun r9 u t H1 locs1 ht hvm hw hB hz1 hk1 hS1 => by
              obtain ⟨hw1, hw2⟩ := hw
              subst hw1
              exact hk _ _ hq2 H1 locs1 ls ⟨by rw [← ht]; exact hB, xD_irrel hD (xin_A hD), hK, hS1, hF, hkp.tr hw2, hf⟩ hL hn)
          · rename_i f hzf
            rw [hzf] at hsem
            obtain ⟨q, hq1, hq2⟩ := Option.bind_eq_some_iff.mp h
            exact va_calll (xrun S hcell hO r0 w1 w2 w3 w4 w5 hi hal hst hrec hcat hsz (hsem D dA ad fm as M q.1 q.2 hq1)) hS (fun q _ h => hAB q h) hAB (fun r9 u t H1 locs1 ht hvm hw hB hz1 hk1 hS1 => by
              obtain ⟨hw1, hw2⟩ := hw
              subst hw1
              exact hk _ _ hq2 H1 locs1 ls ⟨by rw [← ht]; exact hB, xD_irrel hD (xin_A hD), hK, hS1, hF, hkp.tr hw2, hf⟩ hL hn)
          · rename_i f hzf
            rw [hzf] at hsem
            obtain ⟨q, hq1, hq2⟩ := Option.bind_eq_some_iff.mp h
            exact va_callv (xrun S hcell hO r0 w1 w2 w3 w4 w5 hi hal hst hrec hcat hsz (hsem D dA ad fm as M q hq1)) hS (fun q _ h => hAB q h) hAB (fun u t H1 locs1 ht hvm hw hB hz1 hk1 hS1 => by
              exact hk _ _ hq2 H1 locs1 ls ⟨by rw [← ht]; exact hB, xD_irrel hD (xin_A hD), hK, hS1, hF, hkp.tr hw, hf⟩ hL hn)
          · rename_i f hzf
            rw [hzf] at hsem
            obtain ⟨q, hq1, hq2⟩ := Option.bind_eq_some_iff.mp h
            exact va_callr (xrun S hcell hO r0 w1 w2 w3 w4 w5 hi hal hst hrec hcat hsz (hsem D dA ad fm as M q hq1)) hS (fun q _ h => hAB q h) hAB (fun u ra t H1 locs1 ht hvm hw hB hz1 hk1 hS1 => by
              obtain ⟨hB1, hB2⟩ := hB
              subst hB1
              exact hk _ _ hq2 H1 locs1 ls ⟨by rw [← ht]; exact hB2, xD_irrel hD (xin_A hD), hK, hS1, hF, hkp.tr hw, hf⟩ hL hn)
        · have h' : (xmax as M).bind (fun q => k (.int q.1 :: rest) q.2) = some r := h
          obtain ⟨q, hq1, hq2⟩ := Option.bind_eq_some_iff.mp h'
          obtain ⟨x9, y9, rfl, e9⟩ : ∃ x9 y9, as = [.int x9, .int y9] ∧ q = (if x9 < y9 then y9 else x9, M) := by
            unfold xmax at hq1
            split at hq1
            · exact ⟨_, _, rfl, (Option.some.inj hq1).symm⟩
            · cases hq1
          subst e9
          have hd : decode cc pc = .ok (.invokestatic n, 3) := by
            rcases hi with h | h
            · exact h.2
            · exact absurd rfl h.1
          obtain ⟨hx, hb, hml, hown, hts⟩ := S
          subst hst
          exact va_mmax (rest := rest.map (xc ad fm)) hx hb hsz.symm hown (hts _ w1) (hts _ w2) (hts _ w3) (hts _ w4) w5 (by rw [xcats_map hf]; omega) hcell.1 hcell.2 hd (hk _ _ hq2 H locs ls hO hL hn)
        · have h' : (xmin as M).bind (fun q => k (.int q.1 :: rest) q.2) = some r := h
          obtain ⟨q, hq1, hq2⟩ := Option.bind_eq_some_iff.mp h'
          obtain ⟨x9, y9, rfl, e9⟩ : ∃ x9 y9, as = [.int x9, .int y9] ∧ q = (if y9 < x9 then y9 else x9, M) := by
            unfold xmin at hq1
            split at hq1
            · exact ⟨_, _, rfl, (Option.some.inj hq1).symm⟩
            · cases hq1
          subst e9
          have hd : decode cc pc = .ok (.invokestatic n, 3) := by
            rcases hi with h | h
            · exact h.2
            · exact absurd rfl h.1
          obtain ⟨hx, hb, hml, hown, hts⟩ := S
          subst hst
          exact va_mmin (rest := rest.map (xc ad fm)) hx hb hsz.symm hown (hts _ w1) (hts _ w2) (hts _ w3) (hts _ w4) w5 (by rw [xcats_map hf]; omega) hcell.1 hcell.2 hd (hk _ _ hq2 H locs ls hO hL hn)
        · have h' : (xabs as M).bind (fun q => k (.int q.1 :: rest) q.2) = some r := h
          obtain ⟨q, hq1, hq2⟩ := Option.bind_eq_some_iff.mp h'
          obtain ⟨x9, rfl, e9⟩ : ∃ x9, as = [.int x9] ∧ q = (if 0 ≤ x9 then x9 else 0 - x9, M) := by
            unfold xabs at hq1
            split at hq1
            · exact ⟨_, rfl, (Option.some.inj hq1).symm⟩
            · cases hq1
          subst e9
          have hd : decode cc pc = .ok (.invokestatic n, 3) := by
            rcases hi with h | h
            · exact h.2
            · exact absurd rfl h.1
          obtain ⟨hx, hb, hml, hown, hts⟩ := S
          subst hst
          exact va_mabs (rest := rest.map (xc ad fm)) hx hb hsz.symm hown (hts _ w1) (hts _ w2) (hts _ w3) (hts _ w4) w5 (by rw [xcats_map hf]; omega) hcell.1 hcell.2 hd (hk _ _ hq2 H locs ls hO hL hn)
        · have h' : (xcopy as M).bind (fun q => k rest q) = some r := h
          obtain ⟨q, hq1, hq2⟩ := Option.bind_eq_some_iff.mp h'
          obtain ⟨a, b', sp, dp, n', rfl, g1, g2, g3, g4, g5, g6⟩ := xcopy_ok hq1
          have hd : decode cc pc = .ok (.invokestatic n, 3) := by
            rcases hi with h | h
            · exact h.2
            · exact absurd rfl h.1
          obtain ⟨hx, hb, hml, hown, hts⟩ := S
          subst hst
          have hlo : ((rest.map (xc ad fm)).map fun v => v.category).sum + (nativeFrameWords "java/lang/System" "arraycopy" 5 + 11) ≤ R.locals := by
            rw [xcats_map hf]; omega
          rcases g6 with ⟨k1, k2, rfl⟩ | ⟨k1, k2, rfl⟩
          · obtain ⟨l1, -⟩ := xak_lt k1 (by omega) (by omega)
            obtain ⟨l2, l3⟩ := xak_lt k2 (by omega) (by omega)
            exact va_copyi (D := D) hx hb hsz.symm hown (hts _ w1) (hts _ w2) (hts _ w3) (hts _ w4) hK hP hD hS (xpos a) (xpos b') 0 0 (by rw [xws_at l1, xw1_i k1]) (by rw [xws_at l2, xw1_i k2]) (ty := .int) rfl rfl rfl g1 g2 g3 g4 g5 (fun _ _ => rfl) w5 hlo hd (fun H1 locs1 q1 q2 q3 => by
              have e8 : (xws dA ad M).set (xpos b') (ad b', .inl (dA 1, xal b', .inl (va_cpy (M.1 a) (M.1 b') sp.toNatClampNeg dp.toNatClampNeg n'.toNatClampNeg))) = xws dA ad (xcpi M a b' sp.toNatClampNeg dp.toNatClampNeg n'.toNatClampNeg) := xws_set l2 (by rw [xw1_i k2]; simp [xcpi]) (fun i hi9 => by funext j; simp [xcpi, hi9]) (fun _ _ => rfl)
              rw [e8] at q1 q2
              exact hk _ _ hq2 H1 locs1 ls ⟨q1, q2, hK, q3, hF, hkp.tr (fun b9 hb9 => by funext j; simp [xcpi, show ¬ b9 = b' by omega]), hf⟩ hL hn)
          · obtain ⟨l1, -⟩ := xak_lt k1 (by omega) (by omega)
            obtain ⟨l2, l3⟩ := xak_lt k2 (by omega) (by omega)
            exact va_copyl (D := D) hx hb hsz.symm hown (hts _ w1) (hts _ w2) (hts _ w3) (hts _ w4) hK hP hD hS (xpos a) (xpos b') 1 1 (by rw [xws_at l1, xw1_l k1]) (by rw [xws_at l2, xw1_l k2]) (ty := .long) rfl rfl rfl g1 g2 g3 g4 g5 (fun _ _ => rfl) w5 hlo hd (fun H1 locs1 q1 q2 q3 => by
              have e8 : (xws dA ad M).set (xpos b') (ad b', .inl (dA 2, xal b', .inr (.inl (va_cpy (M.2 a) (M.2 b') sp.toNatClampNeg dp.toNatClampNeg n'.toNatClampNeg)))) = xws dA ad (xcpl M a b' sp.toNatClampNeg dp.toNatClampNeg n'.toNatClampNeg) := xws_set l2 (by rw [xw1_l k2]; simp [xcpl]) (fun _ _ => rfl) (fun i hi9 => by funext j; simp [xcpl, hi9])
              rw [e8] at q1 q2
              exact hk _ _ hq2 H1 locs1 ls ⟨q1, q2, hK, q3, hF, hkp, hf⟩ hL hn)
      · cases h
    · cases h
  · cases h
/-- what a method's ends owe -/
def xends {ρ : Type} (p : Program) (l : Launch) (e : Env) (R : Room) (s : State) (m : MethodId) (args : Array Value) (below : List Frame) (meth : Method) (c : Code) (cells slots : Nat) (Q : State → Prop) (D : va_G) (dA : Nat → ClassId) (ad : Nat → Nat) (fm : Value) (A : Nat → Prop) (M0 : XM) (cc : ByteArray) (ret : Option Value → XM → Option ρ) (r : ρ) : Prop :=
  ∀ (M : XM) (H : Heap) (locs : List Loc) (ls : Array Slot) (pc : Nat), xOK D dA ad fm A s M0 H locs M →
    (∀ x, ret (some (.int x)) M = some r → decode cc pc = .ok (.ireturn, 1) → W p l e R s m args below meth c H locs cells slots Q (F0 m pc ls [.int x])) ∧
    (∀ x, ret (some (.long x)) M = some r → decode cc pc = .ok (.lreturn, 1) → W p l e R s m args below meth c H locs cells slots Q (F0 m pc ls [.long x])) ∧
    (∀ a, ret (some (.ref a)) M = some r → decode cc pc = .ok (.areturn, 1) → W p l e R s m args below meth c H locs cells slots Q (F0 m pc ls [.ref (ad a)])) ∧
    (ret none M = some r → decode cc pc = .ok (.return_, 1) → W p l e R s m args below meth c H locs cells slots Q (F0 m pc ls []))
theorem xlt_t {x y : Int32} {α : Type} {X Y : α} (h : x < y) : (bif xlt x y then X else Y) = X := by rw [show xlt x y = true from decide_eq_true h]; rfl
theorem xlt_f {x y : Int32} {α : Type} {X Y : α} (h : ¬ x < y) : (bif xlt x y then X else Y) = Y := by rw [show xlt x y = false from decide_eq_false h]; rfl
theorem xeq_t {x y : Int32} {α : Type} {X Y : α} (h : x = y) : (bif xeq x y then X else Y) = X := by rw [show xeq x y = true from decide_eq_true h]; rfl
theorem xeq_f {x y : Int32} {α : Type} {X Y : α} (h : ¬ x = y) : (bif xeq x y then X else Y) = Y := by rw [show xeq x y = false from decide_eq_false h]; rfl
theorem xak5 {a : Nat} (h : xak a = 5) : a = 200 ∨ a = 201 ∨ a = 202 := by
  have k : ∀ (l : List Nat) (n : Nat), (∀ x ∈ l, x ≤ 4) → xgl l n 0 ≤ 4 := fun l n hl => (xgl_mem l n 0).elim (fun h => hl _ h) (fun h => by rw [h]; omega)
  have h5 : xgl xakL a 0 ≤ 4 := k xakL a (by decide)
  unfold xak at h
  cases hb : Nat.ble 200 a with
  | false => rw [hb] at h; simp only [cond_false] at h; omega
  | true =>
    rw [hb] at h
    simp only [cond_true] at h
    have := Nat.le_of_ble_eq_true hb
    cases hb2 : Nat.ble 230 a with
    | true => rw [hb2] at h; simp only [cond_true] at h; cases hb3 : Nat.ble a 236 <;> rw [hb3] at h <;> simp at h
    | false =>
      rw [hb2] at h
      simp only [cond_false] at h
      cases hb4 : Nat.ble a 202 with
      | false => rw [hb4] at h; simp at h
      | true => have := Nat.le_of_ble_eq_true hb4; omega
theorem xak6 {a : Nat} (h : xak a = 6) : 230 ≤ a ∧ a ≤ 236 := by
  have k : ∀ (l : List Nat) (n : Nat), (∀ x ∈ l, x ≤ 4) → xgl l n 0 ≤ 4 := fun l n hl => (xgl_mem l n 0).elim (fun h => hl _ h) (fun h => by rw [h]; omega)
  have h5 : xgl xakL a 0 ≤ 4 := k xakL a (by decide)
  unfold xak at h
  cases hb : Nat.ble 200 a with
  | false => rw [hb] at h; simp only [cond_false] at h; omega
  | true =>
    rw [hb] at h
    simp only [cond_true] at h
    cases hb2 : Nat.ble 230 a with
    | false => rw [hb2] at h; simp only [cond_false] at h; cases hb4 : Nat.ble a 202 <;> rw [hb4] at h <;> simp at h
    | true =>
      rw [hb2] at h
      simp only [cond_true] at h
      cases hb3 : Nat.ble a 236 with
      | false => rw [hb3] at h; simp at h
      | true => exact ⟨Nat.le_of_ble_eq_true hb2, Nat.le_of_ble_eq_true hb3⟩
theorem xal_tab {i : Nat} (h : i ≤ 6) : xlen M0 (230 + i) = xal (230 + i) := by
  have : Nat.beq (230 + i) 202 = false := by
    cases hb : Nat.beq (230 + i) 202 with
    | false => rfl
    | true => have := Nat.eq_of_beq_eq_true hb; omega
  simp [xlen, this]

theorem xak_le (a : Nat) : xak a ≤ 6 := by
  have k : ∀ (l : List Nat) (n : Nat), (∀ x ∈ l, x ≤ 4) → xgl l n 0 ≤ 4 := fun l n hl => (xgl_mem l n 0).elim (fun h => hl _ h) (fun h => by rw [h]; omega)
  have h5 : xgl xakL a 0 ≤ 4 := k xakL a (by decide)
  unfold xak
  cases Nat.ble 200 a <;> cases Nat.ble 230 a <;> cases Nat.ble a 236 <;> cases Nat.ble a 202 <;> simp <;> omega
theorem xnar {x : Int32} (h : x = 0 ∨ x = 1) : vp_nar .boolean x = x := by
  rcases h with rfl | rfl <;> decide +kernel

set_option maxHeartbeats 4000000 in
set_option maxRecDepth 10000 in
theorem xstep_ok {ρ : Type} {own : String} {cc : ByteArray} (S : CallFix p m c cc c.maxLocals s args XB own) (hcell : cells ≤ R.cells ∧ slots ≤ R.slots) {fld : Nat → Nat × Nat × Nat × Nat} (hfld : ∀ n, xfldok own n (fld n)) {cal : Nat → XC} (hcal : ∀ n, xcalok l own R n (cal n)) {cst : Nat → Value} (hcst : ∀ n, xcstok own n (cst n)) {ret : Option Value → XM → Option ρ} {r : ρ} (hret : xends p l e R s m args below meth c cells slots Q D dA ad fm A M0 cc ret r)
    {k : XK ρ} (hk : ∀ pc lo st M, k pc lo st M = some r → XG p l e R s m args below meth c cells slots Q D dA ad fm A M0 pc lo st M) {i : Instr} {pc len : Nat} (hd : decode cc pc = .ok (i, len)) (hi : xiok pc i len = true) {lo st : List Value} {M : XM} (h : xstep xlt xeq xin xisb fld cal cst ret k i pc lo st M = some r) : XG p l e R s m args below meth c cells slots Q D dA ad fm A M0 pc lo st M := by
  have hx := S.1
  have hb := S.2.1
  have hown := S.2.2.2.1
  have hts := S.2.2.2.2
  intro H locs ls hO hL hn
  obtain ⟨hP, hD, hK, hS, hF, hkp, hf⟩ := id hO
  have hi2 := xiok_2 hi
  cases i with
  | iconst n =>
    obtain rfl : len = 1 := xiok_len hi rfl (by decide)
    simp only [xstep] at h
    exact lv_iconst hx hb hd rfl (hk _ _ _ _ h H locs ls hO hL hn)
  | bipush n =>
    obtain rfl : len = 2 := xiok_len hi rfl (by decide)
    simp only [xstep] at h
    exact lv_bipush hx hb hd (of_decide_eq_true hi2) (hk _ _ _ _ h H locs ls hO hL hn)
  | sipush n =>
    obtain rfl : len = 3 := xiok_len hi rfl (by decide)
    simp only [xstep] at h
    exact lv_sipush hx hb hd (of_decide_eq_true hi2) (hk _ _ _ _ h H locs ls hO hL hn)
  | lconst n =>
    obtain rfl : len = 1 := xiok_len hi rfl (by decide)
    simp only [xstep] at h
    exact lv_lconst hx hb hd rfl (hk _ _ _ _ h H locs ls hO hL hn)
  | iload_n n =>
    obtain rfl : len = 1 := xiok_len hi rfl (by decide)
    simp only [xstep] at h
    split at h
    · rename_i x hq
      exact lv_iload_n hx hb hd rfl (hL.2.2 _ _ hq rfl) (hk _ _ _ _ h H locs ls hO hL hn)
    · cases h
  | lload_n n =>
    obtain rfl : len = 1 := xiok_len hi rfl (by decide)
    simp only [xstep] at h
    split at h
    · rename_i x hq
      exact lv_lload_n hx hb hd rfl (hL.2.2 _ _ hq rfl) (hk _ _ _ _ h H locs ls hO hL hn)
    · cases h
  | aload_n n =>
    obtain rfl : len = 1 := xiok_len hi rfl (by decide)
    simp only [xstep] at h
    split at h
    · rename_i x hq
      exact lv_aload_n hx hb hd rfl (hL.2.2 _ _ hq rfl) (hk _ _ _ _ h H locs ls hO hL hn)
    · cases h
  | iload n =>
    obtain rfl : len = 2 := xiok_len hi rfl (by decide)
    simp only [xstep] at h
    split at h
    · rename_i x hq
      exact lv_iload hx hb hd (hL.2.2 _ _ hq rfl) (hk _ _ _ _ h H locs ls hO hL hn)
    · cases h
  | lload n =>
    obtain rfl : len = 2 := xiok_len hi rfl (by decide)
    simp only [xstep] at h
    split at h
    · rename_i x hq
      exact lv_lload hx hb hd (hL.2.2 _ _ hq rfl) (hk _ _ _ _ h H locs ls hO hL hn)
    · cases h
  | aload n =>
    obtain rfl : len = 2 := xiok_len hi rfl (by decide)
    simp only [xstep] at h
    split at h
    · rename_i x hq
      exact lv_aload hx hb hd (hL.2.2 _ _ hq rfl) (hk _ _ _ _ h H locs ls hO hL hn)
    · cases h
  | istore_n n =>
    obtain rfl : len = 1 := xiok_len hi rfl (by decide)
    simp only [xstep] at h
    split at h
    · rename_i x st'
      split at h
      · rename_i hg
        rw [Bool.and_eq_true] at hg
        exact lv_istore_n hx hb hd rfl (xlr_has hL) (blt_ok hg.1) rfl (fun ls' h' => hk _ _ _ _ h H locs ls' hO (xst1 hf (blt_ok hg.1) hg.2 h') (by rw [xset_len]; exact hn))
      · cases h
    · cases h
  | istore n =>
    obtain rfl : len = 2 := xiok_len hi rfl (by decide)
    simp only [xstep] at h
    split at h
    · rename_i x st'
      split at h
      · rename_i hg
        rw [Bool.and_eq_true] at hg
        exact lv_istore hx hb hd (xlr_has hL) (blt_ok hg.1) rfl (fun ls' h' => hk _ _ _ _ h H locs ls' hO (xst1 hf (blt_ok hg.1) hg.2 h') (by rw [xset_len]; exact hn))
      · cases h
    · cases h
  | astore_n n =>
    obtain rfl : len = 1 := xiok_len hi rfl (by decide)
    simp only [xstep] at h
    split at h
    · rename_i x st'
      split at h
      · rename_i hg
        rw [Bool.and_eq_true] at hg
        exact lv_astore_n hx hb hd rfl (xlr_has hL) (blt_ok hg.1) rfl (fun ls' h' => hk _ _ _ _ h H locs ls' hO (xst1 hf (blt_ok hg.1) hg.2 h') (by rw [xset_len]; exact hn))
      · cases h
    · cases h
  | astore n =>
    obtain rfl : len = 2 := xiok_len hi rfl (by decide)
    simp only [xstep] at h
    split at h
    · rename_i x st'
      split at h
      · rename_i hg
        rw [Bool.and_eq_true] at hg
        exact lv_astore hx hb hd (xlr_has hL) (blt_ok hg.1) rfl (fun ls' h' => hk _ _ _ _ h H locs ls' hO (xst1 hf (blt_ok hg.1) hg.2 h') (by rw [xset_len]; exact hn))
      · cases h
    · cases h
  | lstore_n n =>
    obtain rfl : len = 1 := xiok_len hi rfl (by decide)
    simp only [xstep] at h
    split at h
    · rename_i x st'
      split at h
      · rename_i hg
        rw [Bool.and_eq_true] at hg
        exact lv_lstore_n hx hb hd rfl (xlr_has hL) (blt_ok hg.1) rfl (fun ls' h' => hk _ _ _ _ h H locs ls' hO (xst2 hf (blt_ok hg.1) hg.2 h') (by rw [xset_len, xset_len]; exact hn))
      · cases h
    · cases h
  | lstore n =>
    obtain rfl : len = 2 := xiok_len hi rfl (by decide)
    simp only [xstep] at h
    split at h
    · rename_i x st'
      split at h
      · rename_i hg
        rw [Bool.and_eq_true] at hg
        exact lv_lstore hx hb hd (xlr_has hL) (blt_ok hg.1) rfl (fun ls' h' => hk _ _ _ _ h H locs ls' hO (xst2 hf (blt_ok hg.1) hg.2 h') (by rw [xset_len, xset_len]; exact hn))
      · cases h
    · cases h
  | iinc n z =>
    obtain rfl : len = 3 := xiok_len hi rfl (by decide)
    simp only [xstep] at h
    split at h
    · rename_i x hq
      split at h
      · rename_i hg
        rw [Bool.and_eq_true] at hg
        obtain ⟨k9, hk9⟩ := List.getElem?_of_mem (xas_mem.mpr ⟨_, hq, rfl, rfl⟩ : (n, xc ad fm (.int x)) ∈ xas ad fm lo)
        exact lv_iinc hx hb hd (xlr_has hL) (k := k9) hk9 rfl (blt_ok hg.1) rfl (fun ls' h' => hk _ _ _ _ h H locs ls' hO (xst1 hf (blt_ok hg.1) hg.2 h') (by rw [xset_len]; exact hn))
      · cases h
    · cases h
  | iadd =>
    obtain rfl : len = 1 := xiok_len hi rfl (by decide)
    simp only [xstep] at h
    split at h
    · rename_i y x st'
      exact lv_iadd hx hb hd (hk _ _ _ _ h H locs ls hO hL hn)
    · cases h
  | isub =>
    obtain rfl : len = 1 := xiok_len hi rfl (by decide)
    simp only [xstep] at h
    split at h
    · rename_i y x st'
      exact lv_isub hx hb hd (hk _ _ _ _ h H locs ls hO hL hn)
    · cases h
  | imul =>
    obtain rfl : len = 1 := xiok_len hi rfl (by decide)
    simp only [xstep] at h
    split at h
    · rename_i y x st'
      exact lv_imul hx hb hd (hk _ _ _ _ h H locs ls hO hL hn)
    · cases h
  | iand =>
    obtain rfl : len = 1 := xiok_len hi rfl (by decide)
    simp only [xstep] at h
    split at h
    · rename_i y x st'
      exact lv_iand hx hb hd (hk _ _ _ _ h H locs ls hO hL hn)
    · cases h
  | ior =>
    obtain rfl : len = 1 := xiok_len hi rfl (by decide)
    simp only [xstep] at h
    split at h
    · rename_i y x st'
      exact lv_ior hx hb hd (hk _ _ _ _ h H locs ls hO hL hn)
    · cases h
  | ixor =>
    obtain rfl : len = 1 := xiok_len hi rfl (by decide)
    simp only [xstep] at h
    split at h
    · rename_i y x st'
      exact lv_ixor hx hb hd (hk _ _ _ _ h H locs ls hO hL hn)
    · cases h
  | ishl =>
    obtain rfl : len = 1 := xiok_len hi rfl (by decide)
    simp only [xstep] at h
    split at h
    · rename_i y x st'
      exact lv_ishl hx hb hd (hk _ _ _ _ h H locs ls hO hL hn)
    · cases h
  | ishr =>
    obtain rfl : len = 1 := xiok_len hi rfl (by decide)
    simp only [xstep] at h
    split at h
    · rename_i y x st'
      exact lv_ishr hx hb hd (hk _ _ _ _ h H locs ls hO hL hn)
    · cases h
  | ladd =>
    obtain rfl : len = 1 := xiok_len hi rfl (by decide)
    simp only [xstep] at h
    split at h
    · rename_i y x st'
      exact lv_ladd hx hb hd (hk _ _ _ _ h H locs ls hO hL hn)
    · cases h
  | land =>
    obtain rfl : len = 1 := xiok_len hi rfl (by decide)
    simp only [xstep] at h
    split at h
    · rename_i y x st'
      exact lv_land hx hb hd (hk _ _ _ _ h H locs ls hO hL hn)
    · cases h
  | lor =>
    obtain rfl : len = 1 := xiok_len hi rfl (by decide)
    simp only [xstep] at h
    split at h
    · rename_i y x st'
      exact lv_lor hx hb hd (hk _ _ _ _ h H locs ls hO hL hn)
    · cases h
  | iushr =>
    obtain rfl : len = 1 := xiok_len hi rfl (by decide)
    simp only [xstep] at h
    split at h
    · skip
      exact lv_iushr hx hb hd rfl (hk _ _ _ _ h H locs ls hO hL hn)
    · cases h
  | lshl =>
    obtain rfl : len = 1 := xiok_len hi rfl (by decide)
    simp only [xstep] at h
    split at h
    · skip
      exact lv_lshl hx hb hd rfl (hk _ _ _ _ h H locs ls hO hL hn)
    · cases h
  | lshr =>
    obtain rfl : len = 1 := xiok_len hi rfl (by decide)
    simp only [xstep] at h
    split at h
    · skip
      exact lv_lshr hx hb hd rfl (hk _ _ _ _ h H locs ls hO hL hn)
    · cases h
  | i2l =>
    obtain rfl : len = 1 := xiok_len hi rfl (by decide)
    simp only [xstep] at h
    split at h
    · skip
      exact lv_i2l hx hb hd rfl (hk _ _ _ _ h H locs ls hO hL hn)
    · cases h
  | l2i =>
    obtain rfl : len = 1 := xiok_len hi rfl (by decide)
    simp only [xstep] at h
    split at h
    · skip
      exact lv_l2i hx hb hd rfl (hk _ _ _ _ h H locs ls hO hL hn)
    · cases h
  | i2b =>
    obtain rfl : len = 1 := xiok_len hi rfl (by decide)
    simp only [xstep] at h
    split at h
    · skip
      exact lv_i2b hx hb hd rfl (hk _ _ _ _ h H locs ls hO hL hn)
    · cases h
  | i2s =>
    obtain rfl : len = 1 := xiok_len hi rfl (by decide)
    simp only [xstep] at h
    split at h
    · skip
      exact lv_i2s hx hb hd rfl (hk _ _ _ _ h H locs ls hO hL hn)
    · cases h
  | i2c =>
    obtain rfl : len = 1 := xiok_len hi rfl (by decide)
    simp only [xstep] at h
    split at h
    · skip
      exact lv_i2c hx hb hd rfl (hk _ _ _ _ h H locs ls hO hL hn)
    · cases h
  | ineg =>
    obtain rfl : len = 1 := xiok_len hi rfl (by decide)
    simp only [xstep] at h
    split at h
    · skip
      exact lv_ineg hx hb hd (hk _ _ _ _ h H locs ls hO hL hn)
    · cases h
  | lcmp =>
    obtain rfl : len = 1 := xiok_len hi rfl (by decide)
    simp only [xstep] at h
    split at h
    · skip
      exact W.lcmp hx hb hd (hk _ _ _ _ h H locs ls hO hL hn)
    · cases h
  | idiv =>
    obtain rfl : len = 1 := xiok_len hi rfl (by decide)
    simp only [xstep] at h
    split at h
    · rename_i y x st'
      by_cases hy : y = 0
      · rw [xeq_t hy] at h
        cases h
      · rw [xeq_f hy] at h
        exact lv_idiv hx hb hd hy (hk _ _ _ _ h H locs ls hO hL hn)
    · cases h
  | irem =>
    obtain rfl : len = 1 := xiok_len hi rfl (by decide)
    simp only [xstep] at h
    split at h
    · rename_i y x st'
      by_cases hy : y = 0
      · rw [xeq_t hy] at h
        cases h
      · rw [xeq_f hy] at h
        exact lv_irem hx hb hd hy (hk _ _ _ _ h H locs ls hO hL hn)
    · cases h
  | dup =>
    obtain rfl : len = 1 := xiok_len hi rfl (by decide)
    simp only [xstep] at h
    split at h
    · rename_i v st'
      split at h
      · rename_i hg
        exact lv_dup hx hb hd (by rw [xc_cat hf]; exact Nat.eq_of_beq_eq_true hg) (hk _ _ _ _ h H locs ls hO hL hn)
      · cases h
    · cases h
  | pop =>
    obtain rfl : len = 1 := xiok_len hi rfl (by decide)
    simp only [xstep] at h
    split at h
    · rename_i v st'
      split at h
      · rename_i hg
        exact lv_pop hx hb hd (by rw [xc_cat hf]; exact Nat.eq_of_beq_eq_true hg) (hk _ _ _ _ h H locs ls hO hL hn)
      · cases h
    · cases h
  | dup_x1 =>
    obtain rfl : len = 1 := xiok_len hi rfl (by decide)
    simp only [xstep] at h
    split at h
    · rename_i v w st'
      split at h
      · rename_i hg
        rw [Bool.and_eq_true] at hg
        exact lv_dup_x1 hx hb hd (by rw [xc_cat hf]; exact Nat.eq_of_beq_eq_true hg.1) (by rw [xc_cat hf]; exact Nat.eq_of_beq_eq_true hg.2) (hk _ _ _ _ h H locs ls hO hL hn)
      · cases h
    · cases h
  | dup2 =>
    obtain rfl : len = 1 := xiok_len hi rfl (by decide)
    simp only [xstep] at h
    split at h
    · rename_i v w st'
      split at h
      · rename_i hg
        rw [Bool.and_eq_true] at hg
        exact lv_dup2_11 hx hb hd (by rw [xc_cat hf]; exact Nat.eq_of_beq_eq_true hg.1) (by rw [xc_cat hf]; exact Nat.eq_of_beq_eq_true hg.2) (hk _ _ _ _ h H locs ls hO hL hn)
      · cases h
    · cases h
  | ifCond cd off =>
    obtain rfl : len = 3 := xiok_len hi rfl (by decide)
    simp only [xstep] at h
    split at h
    · skip
      cases cd with
      | eq =>
        simp only [xcond] at h
        refine lv_if_eq hx hb hd (xtgt_ok hi2) (fun q => ?_) (fun q => ?_)
        · rw [xeq_t q] at h
          exact hk _ _ _ _ h H locs ls hO hL hn
        · rw [xeq_f q] at h
          exact hk _ _ _ _ h H locs ls hO hL hn
      | ne =>
        simp only [xcond] at h
        refine lv_if_ne hx hb hd (xtgt_ok hi2) (fun q => ?_) (fun q => ?_)
        · rw [xeq_f q] at h
          exact hk _ _ _ _ h H locs ls hO hL hn
        · rw [xeq_t q] at h
          exact hk _ _ _ _ h H locs ls hO hL hn
      | lt =>
        simp only [xcond] at h
        refine lv_if_lt hx hb hd (xtgt_ok hi2) (fun q => ?_) (fun q => ?_)
        · rw [xlt_t q] at h
          exact hk _ _ _ _ h H locs ls hO hL hn
        · rw [xlt_f q] at h
          exact hk _ _ _ _ h H locs ls hO hL hn
      | ge =>
        simp only [xcond] at h
        refine lv_if_ge hx hb hd (xtgt_ok hi2) (fun q => ?_) (fun q => ?_)
        · rw [xlt_f (Int32.not_lt.mpr q)] at h
          exact hk _ _ _ _ h H locs ls hO hL hn
        · rw [xlt_t (Int32.not_le.mp q)] at h
          exact hk _ _ _ _ h H locs ls hO hL hn
      | gt =>
        simp only [xcond] at h
        refine lv_if_gt hx hb hd (xtgt_ok hi2) (fun q => ?_) (fun q => ?_)
        · rw [xlt_t q] at h
          exact hk _ _ _ _ h H locs ls hO hL hn
        · rw [xlt_f q] at h
          exact hk _ _ _ _ h H locs ls hO hL hn
      | le =>
        simp only [xcond] at h
        refine lv_if_le hx hb hd (xtgt_ok hi2) (fun q => ?_) (fun q => ?_)
        · rw [xlt_f (Int32.not_lt.mpr q)] at h
          exact hk _ _ _ _ h H locs ls hO hL hn
        · rw [xlt_t (Int32.not_le.mp q)] at h
          exact hk _ _ _ _ h H locs ls hO hL hn
    · cases h
  | if_icmp cd off =>
    obtain rfl : len = 3 := xiok_len hi rfl (by decide)
    simp only [xstep] at h
    split at h
    · skip
      cases cd with
      | eq =>
        simp only [xcond] at h
        refine lv_icmp_eq hx hb hd (xtgt_ok hi2) (fun q => ?_) (fun q => ?_)
        · rw [xeq_t q] at h
          exact hk _ _ _ _ h H locs ls hO hL hn
        · rw [xeq_f q] at h
          exact hk _ _ _ _ h H locs ls hO hL hn
      | ne =>
        simp only [xcond] at h
        refine lv_icmp_ne hx hb hd (xtgt_ok hi2) (fun q => ?_) (fun q => ?_)
        · rw [xeq_f q] at h
          exact hk _ _ _ _ h H locs ls hO hL hn
        · rw [xeq_t q] at h
          exact hk _ _ _ _ h H locs ls hO hL hn
      | lt =>
        simp only [xcond] at h
        refine lv_icmp_lt hx hb hd (xtgt_ok hi2) (fun q => ?_) (fun q => ?_)
        · rw [xlt_t q] at h
          exact hk _ _ _ _ h H locs ls hO hL hn
        · rw [xlt_f q] at h
          exact hk _ _ _ _ h H locs ls hO hL hn
      | ge =>
        simp only [xcond] at h
        refine lv_icmp_ge hx hb hd (xtgt_ok hi2) (fun q => ?_) (fun q => ?_)
        · rw [xlt_f (Int32.not_lt.mpr q)] at h
          exact hk _ _ _ _ h H locs ls hO hL hn
        · rw [xlt_t (Int32.not_le.mp q)] at h
          exact hk _ _ _ _ h H locs ls hO hL hn
      | gt =>
        simp only [xcond] at h
        refine lv_icmp_gt hx hb hd (xtgt_ok hi2) (fun q => ?_) (fun q => ?_)
        · rw [xlt_t q] at h
          exact hk _ _ _ _ h H locs ls hO hL hn
        · rw [xlt_f q] at h
          exact hk _ _ _ _ h H locs ls hO hL hn
      | le =>
        simp only [xcond] at h
        refine lv_icmp_le hx hb hd (xtgt_ok hi2) (fun q => ?_) (fun q => ?_)
        · rw [xlt_f (Int32.not_lt.mpr q)] at h
          exact hk _ _ _ _ h H locs ls hO hL hn
        · rw [xlt_t (Int32.not_le.mp q)] at h
          exact hk _ _ _ _ h H locs ls hO hL hn
    · cases h
  | goto off =>
    obtain rfl : len = 3 := xiok_len hi rfl (by decide)
    simp only [xstep] at h
    exact lv_goto hx hb hd (xtgt_ok hi2) (hk _ _ _ _ h H locs ls hO hL hn)
  | tableswitch d lo9 hi9 offs =>
    simp only [xstep] at h
    simp only [xiok2, Bool.and_eq_true, decide_eq_true_eq] at hi2
    obtain ⟨⟨⟨⟨t1, t2⟩, t3⟩, t4⟩, t5⟩ := hi2
    split at h
    · rename_i x st'
      rcases xsw_ok _ _ h with ⟨j, o9, h1, h2, h3⟩ | ⟨h1, h2⟩
      · have hj : j < offs.toList.length := (List.getElem?_eq_some_iff.mp h1).1
        have hxi : x.toInt = lo9 + j := by
          rw [h2, Int32.toInt_ofInt_of_le (by omega) (by omega)]
        have ho9 : decide (0 ≤ (pc : Int) + o9) = true := List.all_eq_true.mp t2 o9 (List.mem_of_getElem? h1)
        refine lv_tableIn hx hb hd (by omega) (by omega) (off := o9) ?_ (xtgt_ok ho9) (hk _ _ _ _ h3 H locs ls hO hL hn)
        rw [← Array.getElem?_toList, show (x.toInt - lo9).toNat = j by omega]
        exact h1
      · refine lv_tableOut hx hb hd ?_ (xtgt_ok (decide_eq_true t1)) (hk _ _ _ _ h2 H locs ls hO hL hn)
        rcases Int.lt_or_le x.toInt lo9 with q | q
        · exact Or.inl q
        · rcases Int.lt_or_le hi9 x.toInt with q2 | q2
          · exact Or.inr q2
          · exfalso
            refine h1 (x.toInt - lo9).toNat (by omega) ?_
            rw [show lo9 + ((x.toInt - lo9).toNat : Int) = x.toInt by omega]
            exact (Int32.ofInt_toInt x).symm
    · cases h
  | ldc n =>
    obtain rfl : len = 2 := xiok_len hi rfl (by decide)
    simp only [xstep] at h
    have hn9 : n < 100000 := of_decide_eq_true hi2
    split at h
    · rename_i x hq
      have hc := (hcst n).1
      rw [hq] at hc
      rcases hc hn9 with q | ⟨x', q, q2⟩ | ⟨x', q, q2⟩ | ⟨i', q, q2, q3⟩
      · cases q
      · cases q
        exact lv_ldc hx hb hown (hts _ q2) hd (hk _ _ _ _ h H locs ls hO hL hn)
      · cases q
      · cases q2
    · rename_i a hq
      have hc := (hcst n).1
      rw [hq] at hc
      rcases hc hn9 with q | ⟨x', q, q2⟩ | ⟨x', q, q2⟩ | ⟨i', q, q2, q3⟩
      · cases q
      · cases q
      · cases q
      · cases q2
        exact va_ldcS hx hb hown (hF.2.2.2.2.2.2.2.2 _ q3) hd (hk _ _ _ _ h H locs ls hO hL hn)
    · cases h
  | ldc_w n =>
    obtain rfl : len = 3 := xiok_len hi rfl (by decide)
    simp only [xstep] at h
    have hn9 : n < 100000 := of_decide_eq_true hi2
    split at h
    · rename_i x hq
      have hc := (hcst n).1
      rw [hq] at hc
      rcases hc hn9 with q | ⟨x', q, q2⟩ | ⟨x', q, q2⟩ | ⟨i', q, q2, q3⟩
      · cases q
      · cases q
        exact lv_ldcw hx hb hown (hts _ q2) hd (hk _ _ _ _ h H locs ls hO hL hn)
      · cases q
      · cases q2
    · cases h
  | ldc2_w n =>
    obtain rfl : len = 3 := xiok_len hi rfl (by decide)
    simp only [xstep] at h
    have hn9 : n < 100000 := of_decide_eq_true hi2
    split at h
    · rename_i x hq
      have hc := (hcst n).1
      rw [hq] at hc
      rcases hc hn9 with q | ⟨x', q, q2⟩ | ⟨x', q, q2⟩ | ⟨i', q, q2, q3⟩
      · cases q
      · cases q
      · cases q
        exact lv_ldc2 hx hb hown (hts _ q2) hd (hk _ _ _ _ h H locs ls hO hL hn)
      · cases q2
    · cases h
  | getstatic n =>
    obtain rfl : len = 3 := xiok_len hi rfl (by decide)
    simp only [xstep] at h
    have hc := (hcst (n + 100000)).2 n rfl
    split at h
    · rename_i x hq
      rw [hq] at hc
      rcases hc with q | ⟨q, q2⟩ | ⟨q, q2⟩ | ⟨q, q2⟩ | ⟨q, q2⟩
      · cases q
      · cases q
      · cases q
      · cases q
        exact va_gets hx hb hF.2.2.1 hS hown (hts _ q2) (fun _ h9 => h9) hd (hk _ _ _ _ h H locs ls hO hL hn)
      · cases q
    · rename_i a hq
      rw [hq] at hc
      rcases hc with q | ⟨q, q2⟩ | ⟨q, q2⟩ | ⟨q, q2⟩ | ⟨q, q2⟩
      · cases q
      · cases q
        exact va_gets hx hb hF.1 hS hown (hts _ q2) (fun _ h9 => h9) hd (hk _ _ _ _ h H locs ls hO hL hn)
      · cases q
        exact va_gets hx hb hF.2.1 hS hown (hts _ q2) (fun _ h9 => h9) hd (hk _ _ _ _ h H locs ls hO hL hn)
      · cases q
      · cases q
    · rename_i a hq
      rw [hq] at hc
      rcases hc with q | ⟨q, q2⟩ | ⟨q, q2⟩ | ⟨q, q2⟩ | ⟨q, q2⟩
      · cases q
      · cases q
      · cases q
      · cases q
      · cases q
        exact va_gets hx hb hF.2.2.2.1 hS hown (hts _ q2) (fun _ h9 => h9) hd (hk _ _ _ _ h H locs ls hO hL hn)
    · cases h
  | getfield n =>
    obtain rfl : len = 3 := xiok_len hi rfl (by decide)
    simp only [xstep] at h
    split at h
    · rename_i a st'
      split at h
      · rename_i ci f w hz
        split at h
        · rename_i hg
          have hz9 := hfld n
          rw [hz] at hz9
          refine x_get S hO hz9 (Or.inl (show (0 : Nat) < 5 by decide)) (Nat.eq_of_beq_eq_true hg) hd ?_
          have e9 : xfv ad M a f = .int (M.1 a f) := by
            obtain ⟨C, T, N, h1, h2, h3, h4, h5, h6, h7⟩ := hz9.1 (Or.inl (show (0 : Nat) < 5 by decide))
            have e8 : xft ci f = 0 := (h5 (Or.inl (show (0 : Nat) < 2 by decide))).1
            unfold xfv
            rw [Nat.eq_of_beq_eq_true hg, if_neg (by rw [e8]; decide), if_neg (by rw [e8]; decide)]
          rw [e9]
          exact hk _ _ _ _ h H locs ls hO hL hn
        · cases h
      · rename_i ci f w hz
        split at h
        · rename_i hg
          have hz9 := hfld n
          rw [hz] at hz9
          refine x_get S hO hz9 (Or.inl (show (1 : Nat) < 5 by decide)) (Nat.eq_of_beq_eq_true hg) hd ?_
          have e9 : xfv ad M a f = .long (M.2 a f) := by
            obtain ⟨C, T, N, h1, h2, h3, h4, h5, h6, h7⟩ := hz9.1 (Or.inl (show (1 : Nat) < 5 by decide))
            have e8 : xft ci f = 1 := (h5 (Or.inl (show (1 : Nat) < 2 by decide))).1
            unfold xfv
            rw [Nat.eq_of_beq_eq_true hg, if_pos e8]
          rw [e9]
          exact hk _ _ _ _ h H locs ls hO hL hn
        · cases h
      · rename_i ci f w hz
        split at h
        · rename_i hg
          have hz9 := hfld n
          rw [hz] at hz9
          refine x_get S hO hz9 (Or.inl (show (3 : Nat) < 5 by decide)) (Nat.eq_of_beq_eq_true hg) hd ?_
          have e9 : xfv ad M a f = .int (M.1 a f) := by
            obtain ⟨C, T, N, h1, h2, h3, h4, h5, h6, h7⟩ := hz9.1 (Or.inl (show (3 : Nat) < 5 by decide))
            have e8 : xft ci f = 3 := (h5 (Or.inr rfl)).1
            unfold xfv
            rw [Nat.eq_of_beq_eq_true hg, if_neg (by rw [e8]; decide), if_neg (by rw [e8]; decide)]
          rw [e9]
          exact hk _ _ _ _ h H locs ls hO hL hn
        · cases h
      · rename_i ci f w hz
        split at h
        · rename_i hg
          have hz9 := hfld n
          rw [hz] at hz9
          refine x_get S hO hz9 (Or.inl (show (4 : Nat) < 5 by decide)) (Nat.eq_of_beq_eq_true hg) hd ?_
          have e9 : xfv ad M a f = .ref (ad (a + w)) := by
            obtain ⟨C, T, N, h1, h2, h3, h4, h5, h6, h7⟩ := hz9.1 (Or.inl (show (4 : Nat) < 5 by decide))
            have e8 := h6 rfl
            have e7 : xrf a f = a + w := e8.2 a (Nat.eq_of_beq_eq_true hg)
            have e6 : xft ci f = 2 := e8.1
            unfold xfv
            rw [Nat.eq_of_beq_eq_true hg, if_neg (by rw [e6]; decide), if_pos e6, e7]
          rw [e9]
          exact hk _ _ _ _ h H locs ls hO hL hn
        · cases h
      · rename_i ci f w hz
        split at h
        · rename_i hg
          rw [Bool.and_eq_true] at hg
          have g1 := Nat.le_of_ble_eq_true hg.1
          have g2 := Nat.le_of_ble_eq_true hg.2
          have hz9 := hfld n
          rw [hz] at hz9
          obtain ⟨j, hj⟩ := Nat.le.dest g1
          subst hj
          have hE := (hF.2.2.2.2.2.2.2.1 j (by omega)).2.2.1
          have e6 : 230 + j = 210 + j + 20 := by omega
          rw [e6] at hE
          exact vk_getf hx hb hE hS hown (hts _ (hz9.2.1 rfl)) (fun _ h9 => h9) hd (hk _ _ _ _ h H locs ls hO hL hn)
        · cases h
      · rename_i ci f w hz
        split at h
        · rename_i hg
          rw [Bool.and_eq_true] at hg
          have g1 := Nat.le_of_ble_eq_true hg.1
          have g2 := Nat.le_of_ble_eq_true hg.2
          have hz9 := hfld n
          rw [hz] at hz9
          obtain ⟨j, hj⟩ := Nat.le.dest g1
          subst hj
          have hE := (hF.2.2.2.2.2.2.2.1 j (by omega)).2.1
          have e6 : 230 + j = 210 + j + 20 := by omega
          exact vk_getf hx hb hE hS hown (hts _ (hz9.2.2 rfl)) (fun _ h9 => h9) hd (hk _ _ _ _ h H locs ls hO hL hn)
        · cases h
      · rename_i ci f w hz
        split at h
        · rename_i hg
          have hz9 := hfld n
          rw [hz] at hz9
          refine x_get S hO hz9 (Or.inr rfl) (Nat.eq_of_beq_eq_true hg) hd ?_
          have e9 : xfv ad M a f = .int (M.1 a f) := by
            obtain ⟨C, T, N, h1, h2, h3, h4, h5, h6, h7⟩ := hz9.1 (Or.inr rfl)
            have e8 : xft ci f = 0 := h4 rfl
            unfold xfv
            rw [Nat.eq_of_beq_eq_true hg, if_neg (by rw [e8]; decide), if_neg (by rw [e8]; decide)]
          rw [e9]
          exact hk _ _ _ _ h H locs ls hO hL hn
        · cases h
      · cases h
    · cases h
  | putfield n =>
    obtain rfl : len = 3 := xiok_len hi rfl (by decide)
    simp only [xstep] at h
    split at h
    · rename_i x a st'
      split at h
      · rename_i ci f w hz
        split at h
        · rename_i hg
          have hz9 := hfld n
          rw [hz] at hz9
          exact x_put S hO hz9 (Nat.eq_of_beq_eq_true hg) (v := .int x) (Or.inl ⟨rfl, x, rfl, rfl⟩) hd (fun H1 locs1 hO1 => hk _ _ _ _ h H1 locs1 ls hO1 hL hn)
        · cases h
      · rename_i ci f w hz
        split at h
        · rename_i hg
          obtain ⟨hb9, h⟩ := xb_ok h
          have hz9 := hfld n
          rw [hz] at hz9
          exact x_put S hO hz9 (Nat.eq_of_beq_eq_true hg) (v := .int x) (Or.inr (Or.inl ⟨rfl, x, xisb_ok hb9, rfl, rfl⟩)) hd (fun H1 locs1 hO1 => hk _ _ _ _ h H1 locs1 ls hO1 hL hn)
        · cases h
      · cases h
    · rename_i x a st'
      split at h
      · rename_i ci f w hz
        split at h
        · rename_i hg
          have hz9 := hfld n
          rw [hz] at hz9
          exact x_put S hO hz9 (Nat.eq_of_beq_eq_true hg) (v := .long x) (Or.inr (Or.inr ⟨rfl, x, rfl, rfl⟩)) hd (fun H1 locs1 hO1 => hk _ _ _ _ h H1 locs1 ls hO1 hL hn)
        · cases h
      · cases h
    · cases h
  | arraylength =>
    obtain rfl : len = 1 := xiok_len hi rfl (by decide)
    simp only [xstep] at h
    split at h
    · rename_i a st'
      split at h
      · cases h
      · rename_i hg
        have h0 : xak a ≠ 0 := fun q => by rw [q] at hg; cases hg
        have hle : xak a ≤ 6 := xak_le a
        by_cases h4 : xak a ≤ 4
        · obtain ⟨l1, l2⟩ := xak_lt (k := xak a) rfl (by omega) h4
          rw [xlen_lt M l2] at h
          have h5 : xak a = 1 ∨ xak a = 2 ∨ xak a = 3 ∨ xak a = 4 := by omega
          rcases h5 with h5 | h5 | h5 | h5
          · exact va_alen (x := (xal a, .inl (M.1 a))) hx hb hK hP (xpos a) 0 (by rw [xws_at l1, xw1_i h5]) rfl rfl hd (hk _ _ _ _ h H locs ls hO hL hn)
          · exact va_alen (x := (xal a, .inr (.inl (M.2 a)))) hx hb hK hP (xpos a) 1 (by rw [xws_at l1, xw1_l h5]) rfl rfl hd (hk _ _ _ _ h H locs ls hO hL hn)
          · exact va_alen (x := (xal a, .inl (M.1 a))) hx hb hK hP (xpos a) 2 (by rw [xws_at l1, xw1_z h5]) rfl rfl hd (hk _ _ _ _ h H locs ls hO hL hn)
          · exact va_alen (x := (xal a, .inr (.inr (.inr (.inr (fun k => some (ad (xrf a k)))))))) hx hb hK hP (xpos a) 3 (by rw [xws_at l1, xw1_r h5]) rfl rfl hd (hk _ _ _ _ h H locs ls hO hL hn)
        · have h5 : xak a = 5 ∨ xak a = 6 := by omega
          rcases h5 with h5 | h5
          · rcases xak5 h5 with rfl | rfl | rfl
            · exact xtlen hx hb hF.2.2.2.2.1 hS hd (hk _ _ _ _ h H locs ls hO hL hn)
            · exact xtlen hx hb hF.2.2.2.2.2.1 hS hd (hk _ _ _ _ h H locs ls hO hL hn)
            · have e9 : xlen M 202 = (M0.1 203 0).toNatClampNeg := by rw [← hkp 203 (by omega)]; rfl
              rw [e9] at h
              exact xtlen hx hb hF.2.2.2.2.2.2.1 hS hd (hk _ _ _ _ h H locs ls hO hL hn)
          · obtain ⟨l1, l2⟩ := xak6 h5
            obtain ⟨j, hj⟩ := Nat.le.dest l1
            subst hj
            have hT := (hF.2.2.2.2.2.2.2.1 j (by omega)).2.2.2
            have e9 := xal_tab (M0 := M) (i := j) (by omega)
            rw [e9] at h
            exact xtlen hx hb hT hS hd (hk _ _ _ _ h H locs ls hO hL hn)
    · cases h
  | iaload =>
    obtain rfl : len = 1 := xiok_len hi rfl (by decide)
    simp only [xstep] at h
    split at h
    · rename_i i9 a st'
      split at h
      · rename_i hg
        obtain ⟨hb9, h⟩ := xb_ok h
        rw [Bool.or_eq_true] at hg
        rcases hg with hg | hg
        · have h5 := Nat.eq_of_beq_eq_true hg
          obtain ⟨l1, l2⟩ := xak_lt h5 (by omega) (by omega)
          rw [xlen_lt M l2] at hb9
          exact va_iald hx hb hK hP (xpos a) 0 (by rw [xws_at l1, xw1_i h5]) rfl (xin_ok hb9) hd (hk _ _ _ _ h H locs ls hO hL hn)
        · rcases xak5 (Nat.eq_of_beq_eq_true hg) with rfl | rfl | rfl
          · rw [hkp 200 (by omega)] at h
            exact xtld hx hb hF.2.2.2.2.1 hS (xin_ok hb9) hd (hk _ _ _ _ h H locs ls hO hL hn)
          · rw [hkp 201 (by omega)] at h
            exact xtld hx hb hF.2.2.2.2.2.1 hS (xin_ok hb9) hd (hk _ _ _ _ h H locs ls hO hL hn)
          · have e9 : xlen M 202 = (M0.1 203 0).toNatClampNeg := by rw [← hkp 203 (by omega)]; rfl
            rw [e9] at hb9
            rw [hkp 202 (by omega)] at h
            exact xtld hx hb hF.2.2.2.2.2.2.1 hS (xin_ok hb9) hd (hk _ _ _ _ h H locs ls hO hL hn)
      · cases h
    · cases h
  | baload =>
    obtain rfl : len = 1 := xiok_len hi rfl (by decide)
    simp only [xstep] at h
    split at h
    · rename_i i9 a st'
      split at h
      · rename_i hg
        obtain ⟨hb9, h⟩ := xb_ok h
        rw [Bool.or_eq_true] at hg
        rcases hg with hg | hg
        · have h5 := Nat.eq_of_beq_eq_true hg
          obtain ⟨l1, l2⟩ := xak_lt h5 (by omega) (by omega)
          rw [xlen_lt M l2] at hb9
          exact va_zald hx hb hK hP (xpos a) 2 (by rw [xws_at l1, xw1_z h5]) rfl (xin_ok hb9) hd (hk _ _ _ _ h H locs ls hO hL hn)
        · obtain ⟨l1, l2⟩ := xak6 (Nat.eq_of_beq_eq_true hg)
          obtain ⟨j, hj⟩ := Nat.le.dest l1
          subst hj
          have hT := (hF.2.2.2.2.2.2.2.1 j (by omega)).2.2.2
          have e9 := xal_tab (M0 := M) (i := j) (by omega)
          rw [e9] at hb9
          rw [hkp (230 + j) (by omega)] at h
          exact xtldb hx hb hT hS (xin_ok hb9) hd (hk _ _ _ _ h H locs ls hO hL hn)
      · cases h
    · cases h
  | laload =>
    obtain rfl : len = 1 := xiok_len hi rfl (by decide)
    simp only [xstep] at h
    split at h
    · rename_i i9 a st'
      split at h
      · rename_i hg
        obtain ⟨hb9, h⟩ := xb_ok h
        have h5 := Nat.eq_of_beq_eq_true hg
        obtain ⟨l1, l2⟩ := xak_lt h5 (by omega) (by omega)
        rw [xlen_lt M l2] at hb9
        exact va_lald hx hb hK hP (xpos a) 1 (by rw [xws_at l1, xw1_l h5]) rfl (xin_ok hb9) hd (hk _ _ _ _ h H locs ls hO hL hn)
      · cases h
    · cases h
  | aaload =>
    obtain rfl : len = 1 := xiok_len hi rfl (by decide)
    simp only [xstep] at h
    split at h
    · rename_i i9 a st'
      split at h
      · rename_i hg
        obtain ⟨hb9, h⟩ := xb_ok h
        have h5 := Nat.eq_of_beq_eq_true hg
        obtain ⟨l1, l2⟩ := xak_lt h5 (by omega) (by omega)
        rw [xlen_lt M l2] at hb9
        exact va_aldq (f := fun k => some (ad (xrf a k))) hx hb hK hP (xpos a) 3 (by rw [xws_at l1, xw1_r h5]) rfl (xin_ok hb9) hd (hk _ _ _ _ h H locs ls hO hL hn)
      · cases h
    · cases h
  | iastore =>
    obtain rfl : len = 1 := xiok_len hi rfl (by decide)
    simp only [xstep] at h
    split at h
    · rename_i x i9 a st'
      split at h
      · rename_i hg
        obtain ⟨hb9, h⟩ := xb_ok h
        have h5 := Nat.eq_of_beq_eq_true hg
        obtain ⟨l1, l2⟩ := xak_lt h5 (by omega) (by omega)
        rw [xlen_lt M l2] at hb9
        refine va_iast hx hb hK hP hD hS (xpos a) 0 (by rw [xws_at l1, xw1_i h5]) rfl (xin_ok hb9) hd (fun H1 locs1 q1 q2 q3 => ?_)
        have e8 : (xws dA ad M).set (xpos a) (ad a, .inl (dA 1, xal a, .inl (upd (M.1 a) i9.toNatClampNeg x))) = xws dA ad (xwi M a i9.toNatClampNeg x) := xws_set l1 (by rw [xw1_i h5, xwi_eq]) (fun j hj => xwi_ne hj) (fun _ _ => rfl)
        rw [e8] at q1 q2
        exact hk _ _ _ _ h H1 locs1 ls ⟨q1, q2, hK, q3, hF, hkp.tr (xkp_wi l2), hf⟩ hL hn
      · cases h
    · cases h
  | bastore =>
    obtain rfl : len = 1 := xiok_len hi rfl (by decide)
    simp only [xstep] at h
    split at h
    · rename_i x i9 a st'
      split at h
      · rename_i hg
        obtain ⟨hb9, h⟩ := xb_ok h
        obtain ⟨hb8, h⟩ := xb_ok h
        have h5 := Nat.eq_of_beq_eq_true hg
        obtain ⟨l1, l2⟩ := xak_lt h5 (by omega) (by omega)
        rw [xlen_lt M l2] at hb9
        refine va_zast hx hb hK hP hD hS (xpos a) 2 (by rw [xws_at l1, xw1_z h5]) rfl (xin_ok hb9) hd (fun H1 locs1 q1 q2 q3 => ?_)
        have e8 : (xws dA ad M).set (xpos a) (ad a, .inl (dA 3, xal a, .inl (upd (M.1 a) i9.toNatClampNeg (vp_nar .boolean x)))) = xws dA ad (xwi M a i9.toNatClampNeg x) := xws_set l1 (by rw [xw1_z h5, xwi_eq, xnar (xisb_ok hb8)]) (fun j hj => xwi_ne hj) (fun _ _ => rfl)
        rw [e8] at q1 q2
        exact hk _ _ _ _ h H1 locs1 ls ⟨q1, q2, hK, q3, hF, hkp.tr (xkp_wi l2), hf⟩ hL hn
      · cases h
    · cases h
  | lastore =>
    obtain rfl : len = 1 := xiok_len hi rfl (by decide)
    simp only [xstep] at h
    split at h
    · rename_i x i9 a st'
      split at h
      · rename_i hg
        obtain ⟨hb9, h⟩ := xb_ok h
        have h5 := Nat.eq_of_beq_eq_true hg
        obtain ⟨l1, l2⟩ := xak_lt h5 (by omega) (by omega)
        rw [xlen_lt M l2] at hb9
        refine va_last hx hb hK hP hD hS (xpos a) 1 (by rw [xws_at l1, xw1_l h5]) rfl (xin_ok hb9) hd (fun H1 locs1 q1 q2 q3 => ?_)
        have e8 : (xws dA ad M).set (xpos a) (ad a, .inl (dA 2, xal a, .inr (.inl (vp_updL (M.2 a) i9.toNatClampNeg x)))) = xws dA ad (xwl M a i9.toNatClampNeg x) := xws_set l1 (by rw [xw1_l h5, xwl_eq]) (fun _ _ => rfl) (fun j hj => xwl_ne hj)
        rw [e8] at q1 q2
        exact hk _ _ _ _ h H1 locs1 ls ⟨q1, q2, hK, q3, hF, hkp, hf⟩ hL hn
      · cases h
    · cases h
  | invokestatic n =>
    obtain rfl : len = 3 := xiok_len hi rfl (by decide)
    simp only [xstep] at h
    split at h
    · rename_i hg
      exact x_call S hcell (hcal n) (Or.inl ⟨Nat.eq_of_beq_eq_true hg, hd⟩) (fun st M h => hk _ _ _ _ h) h H locs ls hO hL hn
    · cases h
  | invokevirtual n =>
    obtain rfl : len = 3 := xiok_len hi rfl (by decide)
    simp only [xstep] at h
    split at h
    · cases h
    · rename_i hg
      exact x_call S hcell (hcal n) (Or.inr ⟨fun q => (by rw [q] at hg; cases hg), hd⟩) (fun st M h => hk _ _ _ _ h) h H locs ls hO hL hn
  | ireturn =>
    obtain rfl : len = 1 := xiok_len hi rfl (by decide)
    simp only [xstep] at h
    split at h
    · rename_i x
      exact (hret M H locs ls pc hO).1 x h hd
    · cases h
  | lreturn =>
    obtain rfl : len = 1 := xiok_len hi rfl (by decide)
    simp only [xstep] at h
    split at h
    · rename_i x
      exact (hret M H locs ls pc hO).2.1 x h hd
    · cases h
  | areturn =>
    obtain rfl : len = 1 := xiok_len hi rfl (by decide)
    simp only [xstep] at h
    split at h
    · rename_i x
      exact (hret M H locs ls pc hO).2.2.1 x h hd
    · cases h
  | return_ =>
    obtain rfl : len = 1 := xiok_len hi rfl (by decide)
    simp only [xstep] at h
    split at h
    · exact (hret M H locs ls pc hO).2.2.2 h hd
    · cases h
  | _ => simp [xstep] at h
theorem xgo_ok {ρ : Type} {own : String} {cc : ByteArray} (S : CallFix p m c cc c.maxLocals s args XB own) (hcell : cells ≤ R.cells ∧ slots ≤ R.slots) {L : XT} (hL : xchk cc L = true) {fld : Nat → Nat × Nat × Nat × Nat} (hfld : ∀ n, xfldok own n (fld n)) {cal : Nat → XC} (hcal : ∀ n, xcalok l own R n (cal n)) {cst : Nat → Value} (hcst : ∀ n, xcstok own n (cst n)) {ret : Option Value → XM → Option ρ} {r : ρ} (hret : xends p l e R s m args below meth c cells slots Q D dA ad fm A M0 cc ret r) {cuts : List (Nat × List Bool)}
    {lp : XK ρ} (hlp : ∀ pc lo st M, lp pc lo st M = some r → XG p l e R s m args below meth c cells slots Q D dA ad fm A M0 pc lo st M) : ∀ (n pc : Nat) (lo st : List Value) (M : XM), xgo xlt xeq xin xisb L fld cal cst ret cuts lp n pc lo st M = some r → XG p l e R s m args below meth c cells slots Q D dA ad fm A M0 pc lo st M
  | 0, pc, lo, st, M, h => by cases h
  | n + 1, pc, lo, st, M, h => by
    unfold xgo at h
    split at h
    · rename_i i hat
      obtain ⟨len, hd, hi⟩ := xat_ok hL hat
      refine xstep_ok S hcell hfld hcal hcst hret (fun pc lo st M h => ?_) hd hi h
      split at h
      · rename_i mk hm
        split at h
        · rename_i hlen
          intro H locs ls hO hl hn
          have h9 := Nat.eq_of_beq_eq_true hlen
          exact hlp _ _ _ _ h H locs ls hO (xlr_mask hl h9) (by rw [xmask_len _ _ h9]; exact hn)
        · cases h
      · exact xgo_ok S hcell hL hfld hcal hcst hret hlp n pc lo st M h
    · cases h
theorem xloop_ok {ρ : Type} {own : String} {cc : ByteArray} (S : CallFix p m c cc c.maxLocals s args XB own) (hcell : cells ≤ R.cells ∧ slots ≤ R.slots) {L : XT} (hL : xchk cc L = true) {fld : Nat → Nat × Nat × Nat × Nat} (hfld : ∀ n, xfldok own n (fld n)) {cal : Nat → XC} (hcal : ∀ n, xcalok l own R n (cal n)) {cst : Nat → Value} (hcst : ∀ n, xcstok own n (cst n)) {ret : Option Value → XM → Option ρ} {r : ρ} (hret : xends p l e R s m args below meth c cells slots Q D dA ad fm A M0 cc ret r) {cuts : List (Nat × List Bool)} :
    ∀ (n pc : Nat) (lo st : List Value) (M : XM), xloop xlt xeq xin xisb L fld cal cst ret cuts n pc lo st M = some r → XG p l e R s m args below meth c cells slots Q D dA ad fm A M0 pc lo st M
  | 0, pc, lo, st, M, h => by cases h
  | n + 1, pc, lo, st, M, h => xgo_ok S hcell hL hfld hcal hcst hret (fun pc lo st M h => xloop_ok S hcell hL hfld hcal hcst hret n pc lo st M h) 400 pc lo st M h
end XSOUND
