/-! AN INTERPRETER of the bytecode over a numbered world: cells by number, values with references to cell numbers; memory: ints and longs by cell and place. Its soundness (part 05) gives each method's contract out of its run. -/
abbrev XM : Type := (Nat → Nat → Int32) × (Nat → Nat → Int64)
def xwi (M : XM) (c k : Nat) (v : Int32) : XM := (fun a j => if a = c ∧ j = k then v else M.1 a j, M.2)
def xwl (M : XM) (c k : Nat) (v : Int64) : XM := (M.1, fun a j => if a = c ∧ j = k then v else M.2 a j)
def xcpi (M : XM) (a b sp dp n : Nat) : XM := (fun c k => if c = b then va_cpy (M.1 a) (M.1 b) sp dp n k else M.1 c k, M.2)
def xcpl (M : XM) (a b sp dp n : Nat) : XM := (M.1, fun c k => if c = b then va_cpy (M.2 a) (M.2 b) sp dp n k else M.2 c k)
def xlen (M : XM) (a : Nat) : Nat := bif Nat.beq a 202 then (M.1 203 0).toNatClampNeg else xal a
/-- an index is inside -/
def xin (i : Int32) (n : Nat) : Bool := !(decide (i < 0)) && Nat.blt i.toNatClampNeg n
def xlt (x y : Int32) : Bool := decide (x < y)
def xeq (x y : Int32) : Bool := decide (x = y)
/-- a boolean -/
def xisb (x : Int32) : Bool := decide (x = 0) || decide (x = 1)
def xph : Value → Bool
  | .retAddr 0 => true
  | _ => false
def xnth : List Value → Nat → Value
  | [], _ => .retAddr 0
  | v :: _, 0 => v
  | _ :: l, n + 1 => xnth l n
def xset : List Value → Nat → Value → List Value
  | [], _, _ => []
  | _ :: l, 0, v => v :: l
  | w :: l, n + 1, v => w :: xset l n v
/-- the place before i holds no long -/
def xnl (l : List Value) : Nat → Bool
  | 0 => true
  | j + 1 => Nat.beq (xnth l j).category 1
/-- what a call is: how many values it takes, its kind (0 static; 1 and the receiver's kind of object; 60 a text's; 99 a copy of a stretch), what it does -/
abbrev XS : Type := (List Value → XM → Option (Int32 × XM)) ⊕ (List Value → XM → Option (Int64 × XM)) ⊕ (List Value → XM → Option XM) ⊕ ((List Value → XM → Option XM) × (List Value → Nat))
abbrev XC : Type := Nat × Nat × XS
abbrev XK (ρ : Type) : Type := Nat → List Value → List Value → XM → Option ρ
def xcats : List Value → Nat
  | [] => 0
  | v :: l => v.category + xcats l
def xtake : Nat → List Value → List Value → Option (List Value × List Value)
  | 0, a, st => some (a, st)
  | _ + 1, _, [] => none
  | n + 1, a, v :: st => xtake n (v :: a) st
def xrec (kd : Nat) (as : List Value) : Bool := bif Nat.beq kd 0 then true else match as with
  | .ref a :: _ => bif Nat.beq kd 60 then (Nat.ble 210 a && Nat.ble a 216) else Nat.beq (xcl a + 1) kd
  | _ => false
def xcopy (as : List Value) (M : XM) : Option XM := match as with
  | [.ref a, .int sp, .ref b, .int dp, .int n] =>
    bif (Nat.beq (xak a) 1 && Nat.beq (xak b) 1) then (if sp < 0 then none else if dp < 0 then none else if n < 0 then none else if sp.toNatClampNeg + n.toNatClampNeg ≤ xal a then (if dp.toNatClampNeg + n.toNatClampNeg ≤ xal b then some (xcpi M a b sp.toNatClampNeg dp.toNatClampNeg n.toNatClampNeg) else none) else none)
    else bif (Nat.beq (xak a) 2 && Nat.beq (xak b) 2) then (if sp < 0 then none else if dp < 0 then none else if n < 0 then none else if sp.toNatClampNeg + n.toNatClampNeg ≤ xal a then (if dp.toNatClampNeg + n.toNatClampNeg ≤ xal b then some (xcpl M a b sp.toNatClampNeg dp.toNatClampNeg n.toNatClampNeg) else none) else none)
    else none
  | _ => none
def xmax (as : List Value) (M : XM) : Option (Int32 × XM) := match as with
  | [.int x, .int y] => some (if x < y then y else x, M)
  | _ => none
def xmin (as : List Value) (M : XM) : Option (Int32 × XM) := match as with
  | [.int x, .int y] => some (if y < x then y else x, M)
  | _ => none
def xabs (as : List Value) (M : XM) : Option (Int32 × XM) := match as with
  | [.int x] => some (if 0 ≤ x then x else 0 - x, M)
  | _ => none
def xcall {ρ : Type} (e : XC) (k : List Value → XM → Option ρ) (st : List Value) (M : XM) : Option ρ :=
  match xtake e.1 [] st with
  | some (as, rest) => match xrec e.2.1 as with
    | true => match Nat.ble (xcats rest) 8 with
      | true => match e.2.2 with
        | .inl f => (f as M).bind (fun q => k (.int q.1 :: rest) q.2)
        | .inr (.inl f) => (f as M).bind (fun q => k (.long q.1 :: rest) q.2)
        | .inr (.inr (.inl f)) => (f as M).bind (fun q => k rest q)
        | .inr (.inr (.inr f)) => (f.1 as M).bind (fun q => k (.ref (f.2 as) :: rest) q)
      | false => none
    | false => none
  | none => none
def xtgt (pc : Nat) (off : Int) : Nat := ((pc : Int) + off).toNat
def xsw {ρ : Type} (ceq : Int32 → Int32 → Bool) (k : Int → Option ρ) (d : Int) (x : Int32) : Int → List Int → Option ρ
  | _, [] => k d
  | v, o :: l => bif ceq x (Int32.ofInt v) then k o else xsw ceq k d x (v + 1) l
def xcond (clt ceq : Int32 → Int32 → Bool) (c : ClassFile.Cond) (x y : Int32) {ρ : Type} (a b : Option ρ) : Option ρ := match c with
  | .eq => bif ceq x y then a else b
  | .ne => bif ceq x y then b else a
  | .lt => bif clt x y then a else b
  | .ge => bif clt x y then b else a
  | .gt => bif clt y x then a else b
  | .le => bif clt y x then b else a
def xstep {ρ : Type} (clt ceq : Int32 → Int32 → Bool) (cin : Int32 → Nat → Bool) (cisb : Int32 → Bool) (fld : Nat → Nat × Nat × Nat × Nat) (cal : Nat → XC) (cst : Nat → Value) (ret : Option Value → XM → Option ρ) (k : XK ρ) (i : Instr) (pc : Nat) (l st : List Value) (M : XM) : Option ρ :=
  match i with
  | .iconst n => k (pc + 1) l (.int (Int32.ofInt n) :: st) M
  | .bipush n => k (pc + 2) l (.int (Int32.ofInt n) :: st) M
  | .sipush n => k (pc + 3) l (.int (Int32.ofInt n) :: st) M
  | .lconst n => k (pc + 1) l (.long (Int64.ofNat n.val) :: st) M
  | .ldc n => match cst n with
    | .int x => k (pc + 2) l (.int x :: st) M
    | .ref a => k (pc + 2) l (.ref a :: st) M
    | _ => none
  | .ldc_w n => match cst n with
    | .int x => k (pc + 3) l (.int x :: st) M
    | _ => none
  | .ldc2_w n => match cst n with
    | .long x => k (pc + 3) l (.long x :: st) M
    | _ => none
  | .getstatic n => match cst (n + 100000) with
    | .int x => k (pc + 3) l (.int x :: st) M
    | .ref a => k (pc + 3) l (.ref a :: st) M
    | .retAddr _ => k (pc + 3) l (.retAddr 1 :: st) M
    | _ => none
  | .iload_n n => match xnth l n.val with
    | .int x => k (pc + 1) l (.int x :: st) M
    | _ => none
  | .iload n => match xnth l n with
    | .int x => k (pc + 2) l (.int x :: st) M
    | _ => none
  | .lload_n n => match xnth l n.val with
    | .long x => k (pc + 1) l (.long x :: st) M
    | _ => none
  | .lload n => match xnth l n with
    | .long x => k (pc + 2) l (.long x :: st) M
    | _ => none
  | .aload_n n => match xnth l n.val with
    | .ref x => k (pc + 1) l (.ref x :: st) M
    | _ => none
  | .aload n => match xnth l n with
    | .ref x => k (pc + 2) l (.ref x :: st) M
    | _ => none
  | .istore_n n => match st with
    | .int x :: st => match Nat.blt n.val l.length && xnl l n.val with
      | true => k (pc + 1) (xset l n.val (.int x)) st M
      | false => none
    | _ => none
  | .istore n => match st with
    | .int x :: st => match Nat.blt n l.length && xnl l n with
      | true => k (pc + 2) (xset l n (.int x)) st M
      | false => none
    | _ => none
  | .astore_n n => match st with
    | .ref x :: st => match Nat.blt n.val l.length && xnl l n.val with
      | true => k (pc + 1) (xset l n.val (.ref x)) st M
      | false => none
    | _ => none
  | .astore n => match st with
    | .ref x :: st => match Nat.blt n l.length && xnl l n with
      | true => k (pc + 2) (xset l n (.ref x)) st M
      | false => none
    | _ => none
  | .lstore_n n => match st with
    | .long x :: st => match Nat.blt (n.val + 1) l.length && xnl l n.val with
      | true => k (pc + 1) (xset (xset l n.val (.long x)) (n.val + 1) (.retAddr 0)) st M
      | false => none
    | _ => none
  | .lstore n => match st with
    | .long x :: st => match Nat.blt (n + 1) l.length && xnl l n with
      | true => k (pc + 2) (xset (xset l n (.long x)) (n + 1) (.retAddr 0)) st M
      | false => none
    | _ => none
  | .iinc n c => match xnth l n with
    | .int x => match Nat.blt n l.length && xnl l n with
      | true => k (pc + 3) (xset l n (.int (x + Int32.ofInt c))) st M
      | false => none
    | _ => none
  | .iadd => match st with
    | .int y :: .int x :: st => k (pc + 1) l (.int (x + y) :: st) M
    | _ => none
  | .isub => match st with
    | .int y :: .int x :: st => k (pc + 1) l (.int (x - y) :: st) M
    | _ => none
  | .imul => match st with
    | .int y :: .int x :: st => k (pc + 1) l (.int (x * y) :: st) M
    | _ => none
  | .idiv => match st with
    | .int y :: .int x :: st => bif ceq y 0 then none else k (pc + 1) l (.int (x / y) :: st) M
    | _ => none
  | .irem => match st with
    | .int y :: .int x :: st => bif ceq y 0 then none else k (pc + 1) l (.int (x - x / y * y) :: st) M
    | _ => none
  | .ineg => match st with
    | .int x :: st => k (pc + 1) l (.int (-x) :: st) M
    | _ => none
  | .iand => match st with
    | .int y :: .int x :: st => k (pc + 1) l (.int (x &&& y) :: st) M
    | _ => none
  | .ior => match st with
    | .int y :: .int x :: st => k (pc + 1) l (.int (x ||| y) :: st) M
    | _ => none
  | .ixor => match st with
    | .int y :: .int x :: st => k (pc + 1) l (.int (x ^^^ y) :: st) M
    | _ => none
  | .ishl => match st with
    | .int y :: .int x :: st => k (pc + 1) l (.int (x <<< (y &&& 31)) :: st) M
    | _ => none
  | .ishr => match st with
    | .int y :: .int x :: st => k (pc + 1) l (.int (x >>> (y &&& 31)) :: st) M
    | _ => none
  | .iushr => match st with
    | .int y :: .int x :: st => k (pc + 1) l (.int (x.toUInt32 >>> (y.toUInt32 &&& Int32.toUInt32 31)).toInt32 :: st) M
    | _ => none
  | .ladd => match st with
    | .long y :: .long x :: st => k (pc + 1) l (.long (x + y) :: st) M
    | _ => none
  | .land => match st with
    | .long y :: .long x :: st => k (pc + 1) l (.long (x &&& y) :: st) M
    | _ => none
  | .lor => match st with
    | .long y :: .long x :: st => k (pc + 1) l (.long (x ||| y) :: st) M
    | _ => none
  | .lshl => match st with
    | .int y :: .long x :: st => k (pc + 1) l (.long (x <<< (y.toInt64 &&& 63)) :: st) M
    | _ => none
  | .lshr => match st with
    | .int y :: .long x :: st => k (pc + 1) l (.long (x >>> (y.toInt64 &&& 63)) :: st) M
    | _ => none
  | .lcmp => match st with
    | .long y :: .long x :: st => k (pc + 1) l (.int (lg_cmp x y) :: st) M
    | _ => none
  | .i2l => match st with
    | .int x :: st => k (pc + 1) l (.long x.toInt64 :: st) M
    | _ => none
  | .l2i => match st with
    | .long x :: st => k (pc + 1) l (.int x.toInt32 :: st) M
    | _ => none
  | .i2b => match st with
    | .int x :: st => k (pc + 1) l (.int x.toInt8.toInt32 :: st) M
    | _ => none
  | .i2s => match st with
    | .int x :: st => k (pc + 1) l (.int x.toInt16.toInt32 :: st) M
    | _ => none
  | .i2c => match st with
    | .int x :: st => k (pc + 1) l (.int (x.toUInt32 % 65536).toInt32 :: st) M
    | _ => none
  | .dup => match st with
    | v :: st => match Nat.beq v.category 1 with
      | true => k (pc + 1) l (v :: v :: st) M
      | false => none
    | _ => none
  | .pop => match st with
    | v :: st => match Nat.beq v.category 1 with
      | true => k (pc + 1) l st M
      | false => none
    | _ => none
  | .dup_x1 => match st with
    | v :: w :: st => match Nat.beq v.category 1 && Nat.beq w.category 1 with
      | true => k (pc + 1) l (v :: w :: v :: st) M
      | false => none
    | _ => none
  | .dup2 => match st with
    | v :: w :: st => match Nat.beq v.category 1 && Nat.beq w.category 1 with
      | true => k (pc + 1) l (v :: w :: v :: w :: st) M
      | false => none
    | _ => none
  | .ifCond c off => match st with
    | .int x :: st => xcond clt ceq c x 0 (k (xtgt pc off) l st M) (k (pc + 3) l st M)
    | _ => none
  | .if_icmp c off => match st with
    | .int y :: .int x :: st => xcond clt ceq c x y (k (xtgt pc off) l st M) (k (pc + 3) l st M)
    | _ => none
  | .goto off => k (xtgt pc off) l st M
  | .tableswitch d lo _ offs => match st with
    | .int x :: st => xsw ceq (fun o => k (xtgt pc o) l st M) d x lo offs.toList
    | _ => none
  | .getfield n => match st with
    | .ref a :: st => match fld n with
      | (ci, f, 0, _) => match Nat.beq (xcl a) ci with
        | true => k (pc + 3) l (.int (M.1 a f) :: st) M
        | false => none
      | (ci, f, 1, _) => match Nat.beq (xcl a) ci with
        | true => k (pc + 3) l (.long (M.2 a f) :: st) M
        | false => none
      | (ci, f, 3, _) => match Nat.beq (xcl a) ci with
        | true => k (pc + 3) l (.int (M.1 a f) :: st) M
        | false => none
      | (ci, _, 4, d) => match Nat.beq (xcl a) ci with
        | true => k (pc + 3) l (.ref (a + d) :: st) M
        | false => none
      | (_, _, 5, _) => match Nat.ble 210 a && Nat.ble a 216 with
        | true => k (pc + 3) l (.ref (a + 20) :: st) M
        | false => none
      | (_, _, 6, _) => match Nat.ble 210 a && Nat.ble a 216 with
        | true => k (pc + 3) l (.int (Int32.ofInt 0) :: st) M
        | false => none
      | (ci, f, 7, _) => match Nat.beq (xcl a) ci with
        | true => k (pc + 3) l (.int (M.1 a f) :: st) M
        | false => none
      | _ => none
    | _ => none
  | .putfield n => match st with
    | .int x :: .ref a :: st => match fld n with
      | (ci, f, 0, _) => match Nat.beq (xcl a) ci with
        | true => k (pc + 3) l st (xwi M a f x)
        | false => none
      | (ci, f, 3, _) => match Nat.beq (xcl a) ci with
        | true => bif cisb x then k (pc + 3) l st (xwi M a f x) else none
        | false => none
      | _ => none
    | .long x :: .ref a :: st => match fld n with
      | (ci, f, 1, _) => match Nat.beq (xcl a) ci with
        | true => k (pc + 3) l st (xwl M a f x)
        | false => none
      | _ => none
    | _ => none
  | .arraylength => match st with
    | .ref a :: st => match Nat.beq (xak a) 0 with
      | true => none
      | false => k (pc + 1) l (.int (Int32.ofNat (xlen M a)) :: st) M
    | _ => none
  | .iaload => match st with
    | .int i :: .ref a :: st => match (Nat.beq (xak a) 1 || Nat.beq (xak a) 5) with
      | true => bif cin i (xlen M a) then k (pc + 1) l (.int (M.1 a i.toNatClampNeg) :: st) M else none
      | false => none
    | _ => none
  | .baload => match st with
    | .int i :: .ref a :: st => match (Nat.beq (xak a) 3 || Nat.beq (xak a) 6) with
      | true => bif cin i (xlen M a) then k (pc + 1) l (.int (M.1 a i.toNatClampNeg) :: st) M else none
      | false => none
    | _ => none
  | .laload => match st with
    | .int i :: .ref a :: st => match Nat.beq (xak a) 2 with
      | true => bif cin i (xlen M a) then k (pc + 1) l (.long (M.2 a i.toNatClampNeg) :: st) M else none
      | false => none
    | _ => none
  | .aaload => match st with
    | .int i :: .ref a :: st => match Nat.beq (xak a) 4 with
      | true => bif cin i (xlen M a) then k (pc + 1) l (.ref (xrf a i.toNatClampNeg) :: st) M else none
      | false => none
    | _ => none
  | .iastore => match st with
    | .int x :: .int i :: .ref a :: st => match Nat.beq (xak a) 1 with
      | true => bif cin i (xlen M a) then k (pc + 1) l st (xwi M a i.toNatClampNeg x) else none
      | false => none
    | _ => none
  | .bastore => match st with
    | .int x :: .int i :: .ref a :: st => match Nat.beq (xak a) 3 with
      | true => bif cin i (xlen M a) then (bif cisb x then k (pc + 1) l st (xwi M a i.toNatClampNeg x) else none) else none
      | false => none
    | _ => none
  | .lastore => match st with
    | .long x :: .int i :: .ref a :: st => match Nat.beq (xak a) 2 with
      | true => bif cin i (xlen M a) then k (pc + 1) l st (xwl M a i.toNatClampNeg x) else none
      | false => none
    | _ => none
  | .invokestatic n => match Nat.beq (cal n).2.1 0 with
    | true => xcall (cal n) (fun st M => k (pc + 3) l st M) st M
    | false => none
  | .invokevirtual n => match Nat.beq (cal n).2.1 0 with
    | true => none
    | false => xcall (cal n) (fun st M => k (pc + 3) l st M) st M
  | .ireturn => match st with
    | [.int x] => ret (some (.int x)) M
    | _ => none
  | .lreturn => match st with
    | [.long x] => ret (some (.long x)) M
    | _ => none
  | .areturn => match st with
    | [.ref x] => ret (some (.ref x)) M
    | _ => none
  | .return_ => match st with
    | [] => ret none M
    | _ => none
  | _ => none
/-- a code table: stretches of sixteen bytes, each the instructions that begin there -/
abbrev XT : Type := List (List (Nat × Instr × Nat))
def xlk : List (Nat × Instr × Nat) → Nat → Option Instr
  | [], _ => none
  | e :: l, pc => bif Nat.beq e.1 pc then some e.2.1 else xlk l pc
def xat (L : XT) (pc : Nat) : Option Instr := xlk (xgl L (pc / 16) []) pc
/-- where a run is cut: the places, and which locals are still wanted there -/
def xcut : List (Nat × List Bool) → Nat → Option (List Bool)
  | [], _ => none
  | c :: l, pc => bif Nat.beq c.1 pc then some c.2 else xcut l pc
def xmask : List Bool → List Value → List Value
  | b :: m, v :: l => (bif b then v else .retAddr 0) :: xmask m l
  | _, _ => []
def xgo {ρ : Type} (clt ceq : Int32 → Int32 → Bool) (cin : Int32 → Nat → Bool) (cisb : Int32 → Bool) (L : XT) (fld : Nat → Nat × Nat × Nat × Nat) (cal : Nat → XC) (cst : Nat → Value) (ret : Option Value → XM → Option ρ) (cuts : List (Nat × List Bool)) (lp : XK ρ) : Nat → XK ρ
  | 0, _, _, _, _ => none
  | n + 1, pc, l, st, M => match xat L pc with
    | some i => xstep clt ceq cin cisb fld cal cst ret (fun pc l st M => match xcut cuts pc with
      | some m => match Nat.beq m.length l.length with
        | true => lp pc (xmask m l) st M
        | false => none
      | none => xgo clt ceq cin cisb L fld cal cst ret cuts lp n pc l st M) i pc l st M
    | none => none
def xloop {ρ : Type} (clt ceq : Int32 → Int32 → Bool) (cin : Int32 → Nat → Bool) (cisb : Int32 → Bool) (L : XT) (fld : Nat → Nat × Nat × Nat × Nat) (cal : Nat → XC) (cst : Nat → Value) (ret : Option Value → XM → Option ρ) (cuts : List (Nat × List Bool)) : Nat → XK ρ
  | 0, _, _, _, _ => none
  | n + 1, pc, l, st, M => xgo clt ceq cin cisb L fld cal cst ret cuts (xloop clt ceq cin cisb L fld cal cst ret cuts n) 400 pc l st M
def xlkF : List (Nat × Nat × Nat × Nat × Nat) → Nat → Nat × Nat × Nat × Nat
  | [], _ => (0, 0, 9, 0)
  | e :: l, n => bif Nat.beq e.1 n then e.2 else xlkF l n
def xlkV : List (Nat × Value) → Nat → Value
  | [], _ => .null
  | e :: l, n => bif Nat.beq e.1 n then e.2 else xlkV l n
def xlkC : List (Nat × XC) → Nat → XC
  | [], _ => (0, 98, .inr (.inr (.inl fun _ _ => none)))
  | e :: l, n => bif Nat.beq e.1 n then e.2 else xlkC l n
def xent : List Value → List Value
  | [] => []
  | v :: l => bif Nat.beq v.category 2 then v :: .retAddr 0 :: xent l else v :: xent l
def xpad (n : Nat) (l : List Value) : List Value := l ++ List.replicate (n - l.length) (.retAddr 0)
def xrun0 {ρ : Type} (g : XK ρ) (n : Nat) (as : List Value) (M : XM) : Option ρ := match Nat.ble (xent as).length n with
  | true => g 0 (xpad n (xent as)) [] M
  | false => none
/-- what comes back: an int, a boolean, a char, a long, nothing, a reference -/
def xrI : Option Value → XM → Option (Int32 × XM)
  | some (.int x), M => some (x, M)
  | _, _ => none
def xrZ : Option Value → XM → Option (Int32 × XM)
  | some (.int x), M => bif xisb x then some (x, M) else none
  | _, _ => none
def xrCh : Option Value → XM → Option (Int32 × XM)
  | some (.int x), M => if (x.toUInt32 % 65536).toInt32 = x then some (x, M) else none
  | _, _ => none
def xrB : Option Value → XM → Option (Int32 × XM)
  | some (.int x), M => if x.toInt8.toInt32 = x then some (x, M) else none
  | _, _ => none
def xrL : Option Value → XM → Option (Int64 × XM)
  | some (.long x), M => some (x, M)
  | _, _ => none
def xrV : Option Value → XM → Option XM
  | none, M => some M
  | _, _ => none
def xrR (t : Nat) : Option Value → XM → Option XM
  | some (.ref a), M => bif Nat.beq a t then some M else none
  | _, _ => none
