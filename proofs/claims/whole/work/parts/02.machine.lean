/-! A MACHINE OF ITS OWN: what a method does, as a function over cells that bear numbers. -/
/-- a reference: the cell's number, its kind, its length. Kinds: 0 to 11 objects (their place in vwCl); 20 int[], 21 byte[], 22 boolean[], 23 long[], 24 String[]; 30 a text constant, 33 its bytes, 31 the static int[] of the reader, 32 the script, 34 a thing of which nothing is known -/
abbrev zF : Type := Nat × Nat × Nat
abbrev zV : Type := Int32 ⊕ (Int64 ⊕ Option zF)
abbrev zi (x : Int32) : zV := Sum.inl x
abbrev zl (x : Int64) : zV := Sum.inr (Sum.inl x)
abbrev zq (r : Option zF) : zV := Sum.inr (Sum.inr r)
abbrev zr (r : zF) : zV := Sum.inr (Sum.inr (some r))
abbrev zn : zV := Sum.inr (Sum.inr none)
/-- the heap: kinds and lengths by number; ints, references, longs by number and place; the script; cells and slots made so far -/
abbrev zH : Type := List (Nat × Nat) × (Nat → Nat → Int32) × (Nat → Nat → Option zF) × (Nat → Nat → Int64) × (Nat → Int32) × Nat × Nat
def zK (h : zH) : List (Nat × Nat) := h.1
def zI (h : zH) : Nat → Nat → Int32 := h.2.1
def zR (h : zH) : Nat → Nat → Option zF := h.2.2.1
def zL (h : zH) : Nat → Nat → Int64 := h.2.2.2.1
def zX (h : zH) : Nat → Int32 := h.2.2.2.2.1
def zc (h : zH) : Nat := h.2.2.2.2.2.1
def zs (h : zH) : Nat := h.2.2.2.2.2.2
def zup {α : Type} (f : Nat → Nat → α) (a k : Nat) (v : α) : Nat → Nat → α := fun b j => if b = a then (if j = k then v else f b j) else f b j
def zrow {α : Type} (f : Nat → Nat → α) (a : Nat) (g : Nat → α) : Nat → Nat → α := fun b j => if b = a then g j else f b j
def zwI (h : zH) (a k : Nat) (v : Int32) : zH := (zK h, zup (zI h) a k v, zR h, zL h, zX h, zc h, zs h)
def zwR (h : zH) (a k : Nat) (v : Option zF) : zH := (zK h, zI h, zup (zR h) a k v, zL h, zX h, zc h, zs h)
def zwL (h : zH) (a k : Nat) (v : Int64) : zH := (zK h, zI h, zR h, zup (zL h) a k v, zX h, zc h, zs h)
def zwA (h : zH) (a : Nat) (g : Nat → Int32) : zH := (zK h, zrow (zI h) a g, zR h, zL h, zX h, zc h, zs h)
/-- a new cell of a kind and length, of n slots -/
def zal (h : zH) (k len n : Nat) : zH := (zK h ++ [(k, len)], zrow (zI h) (zK h).length (fun _ => 0), zrow (zR h) (zK h).length (fun _ => none), zrow (zL h) (zK h).length (fun _ => 0), zX h, zc h + 1, zs h + n)
/-- an exception's own cell: it bears no number -/
def zth (h : zH) : zH := (zK h, zI h, zR h, zL h, zX h, zc h + 1, zs h + 6)
/-- an instruction: its place in the bytes, itself, its length, four operands, its constants, a switch's rows -/
abbrev zA : Type := Nat × Instr × Nat × (Nat × Nat × Nat × Nat) × (Int32 × Int64) × List (Int32 × Nat)
abbrev zLV : Type := List (Option zV)
abbrev zSR : Type := (Nat × zLV × List zV × zH) ⊕ ((Nat × List zV × List zV) ⊕ (Option zV ⊕ Nat))
abbrev zO : Type := Option zV ⊕ Nat
abbrev zM : Type := List zA × Nat × List (Nat × Nat × Nat × Nat × Nat)
abbrev zNx (i : Nat) (ls : zLV) (st : List zV) (h : zH) : Option zSR := some (Sum.inl (i, ls, st, h))
abbrev zCl (k : Nat) (as rest : List zV) : Option zSR := some (Sum.inr (Sum.inl (k, as, rest)))
abbrev zRt (v : Option zV) : Option zSR := some (Sum.inr (Sum.inr (Sum.inl v)))
abbrev zTh (e : Nat) : Option zSR := some (Sum.inr (Sum.inr (Sum.inr e)))
def zget (ls : zLV) (i : Nat) : Option zV := match ls[i]? with
  | some (some v) => some v
  | _ => none
/-- the locals behind a store of one word: a long that reached into this place is gone -/
def zclr (ls : zLV) (i : Nat) : zLV := match i with
  | 0 => ls
  | j + 1 => match ls[j]? with
    | some (some (Sum.inr (Sum.inl _))) => ls.set j none
    | _ => ls
def zst (ls : zLV) (i : Nat) (v : zV) : zLV := (zclr ls i).set i (some v)
def zst2 (ls : zLV) (i : Nat) (v : zV) : zLV := ((zclr ls i).set (i + 1) none).set i (some v)
def zin (x : Int32) (n : Nat) : Bool := !(decide (x < 0)) && decide (x.toNatClampNeg < n)
def zpop (n : Nat) (st : List zV) (acc : List zV) : Option (List zV × List zV) := match n, st with
  | 0, st => some (acc, st)
  | n + 1, v :: st => zpop n st (v :: acc)
  | _ + 1, [] => none
def zcat (v : zV) : Nat := match v with
  | Sum.inr (Sum.inl _) => 2
  | _ => 1
def zcats (st : List zV) : Nat := (st.map zcat).sum
def zsw (tb : List (Int32 × Nat)) (d : Nat) (v : Int32) : Nat := match tb with
  | [] => d
  | (a, t) :: r => if v = a then t else zsw r d v
/-- the reader's static row -/
def zrk (j : Nat) : Int32 := ([0, 1, 2, 3, 4, 4, 5, 5, 6, 6] : List Int32).getD j 0
def zbool (v : Int32) : Bool := v == 0 || v == 1
/-- does the number fit the answer's type? 0 int, 1 boolean, 2 char, 3 byte -/
def zfit (t : Nat) (v : Int32) : Bool := match t with
  | 0 => true
  | 1 => zbool v
  | 2 => v.toUInt32.toUInt16.toUInt32.toInt32 == v
  | _ => v.toInt8.toInt32 == v
def zcmp (c : ClassFile.Cond) (x y : Int32) : Bool := match c with
  | .eq => decide (x = y)
  | .ne => decide (¬ x = y)
  | .lt => decide (x < y)
  | .ge => decide (y ≤ x)
  | .gt => decide (y < x)
  | .le => decide (x ≤ y)
/-- texts: their bytes by number -/
abbrev zTx : Type := List (List Int32)
def zby (tx : zTx) (i j : Nat) : Int32 := (tx.getD i []).getD j 0
def zbl (tx : zTx) (i : Nat) : Nat := (tx.getD i []).length
def zsem (tx : zTx) (ins : Instr) (x y z w : Nat) (c : Int32 × Int64) (tb : List (Int32 × Nat)) (i : Nat) (ls : zLV) (st : List zV) (h : zH) : Option zSR :=
  match ins with
  | .iconst _ => zNx (i + 1) ls (zi c.1 :: st) h
  | .bipush _ => zNx (i + 1) ls (zi c.1 :: st) h
  | .sipush _ => zNx (i + 1) ls (zi c.1 :: st) h
  | .ldc _ => match z with
    | 0 => zNx (i + 1) ls (zi c.1 :: st) h
    | _ => zNx (i + 1) ls (zr (y, 30, 0) :: st) h
  | .ldc_w _ => match z with
    | 0 => zNx (i + 1) ls (zi c.1 :: st) h
    | _ => zNx (i + 1) ls (zr (y, 30, 0) :: st) h
  | .ldc2_w _ => zNx (i + 1) ls (zl c.2 :: st) h
  | .lconst _ => zNx (i + 1) ls (zl c.2 :: st) h
  | .aconst_null => zNx (i + 1) ls (zn :: st) h
  | .iload_n _ => match zget ls x with
    | some (Sum.inl v) => zNx (i + 1) ls (zi v :: st) h
    | _ => none
  | .iload _ => match zget ls x with
    | some (Sum.inl v) => zNx (i + 1) ls (zi v :: st) h
    | _ => none
  | .lload_n _ => match zget ls x with
    | some (Sum.inr (Sum.inl v)) => zNx (i + 1) ls (zl v :: st) h
    | _ => none
  | .lload _ => match zget ls x with
    | some (Sum.inr (Sum.inl v)) => zNx (i + 1) ls (zl v :: st) h
    | _ => none
  | .aload_n _ => match zget ls x with
    | some (Sum.inr (Sum.inr r)) => zNx (i + 1) ls (zq r :: st) h
    | _ => none
  | .aload _ => match zget ls x with
    | some (Sum.inr (Sum.inr r)) => zNx (i + 1) ls (zq r :: st) h
    | _ => none
  | .istore_n _ => match st with
    | Sum.inl v :: st => zNx (i + 1) (zst ls x (zi v)) st h
    | _ => none
  | .istore _ => match st with
    | Sum.inl v :: st => zNx (i + 1) (zst ls x (zi v)) st h
    | _ => none
  | .lstore_n _ => match st with
    | Sum.inr (Sum.inl v) :: st => zNx (i + 1) (zst2 ls x (zl v)) st h
    | _ => none
  | .astore_n _ => match st with
    | Sum.inr (Sum.inr r) :: st => zNx (i + 1) (zst ls x (zq r)) st h
    | _ => none
  | .astore _ => match st with
    | Sum.inr (Sum.inr r) :: st => zNx (i + 1) (zst ls x (zq r)) st h
    | _ => none
  | .iinc _ _ => match zget ls x with
    | some (Sum.inl v) => zNx (i + 1) (zst ls x (zi (v + c.1))) st h
    | _ => none
  | .iadd => match st with
    | Sum.inl b :: Sum.inl a :: st => zNx (i + 1) ls (zi (a + b) :: st) h
    | _ => none
  | .isub => match st with
    | Sum.inl b :: Sum.inl a :: st => zNx (i + 1) ls (zi (a - b) :: st) h
    | _ => none
  | .imul => match st with
    | Sum.inl b :: Sum.inl a :: st => zNx (i + 1) ls (zi (a * b) :: st) h
    | _ => none
  | .iand => match st with
    | Sum.inl b :: Sum.inl a :: st => zNx (i + 1) ls (zi (a &&& b) :: st) h
    | _ => none
  | .ior => match st with
    | Sum.inl b :: Sum.inl a :: st => zNx (i + 1) ls (zi (a ||| b) :: st) h
    | _ => none
  | .ixor => match st with
    | Sum.inl b :: Sum.inl a :: st => zNx (i + 1) ls (zi (a ^^^ b) :: st) h
    | _ => none
  | .ishl => match st with
    | Sum.inl b :: Sum.inl a :: st => zNx (i + 1) ls (zi (a <<< (b &&& 31)) :: st) h
    | _ => none
  | .ishr => match st with
    | Sum.inl b :: Sum.inl a :: st => zNx (i + 1) ls (zi (a >>> (b &&& 31)) :: st) h
    | _ => none
  | .iushr => match st with
    | Sum.inl b :: Sum.inl a :: st => zNx (i + 1) ls (zi (a.toUInt32 >>> (b.toUInt32 &&& Int32.toUInt32 31)).toInt32 :: st) h
    | _ => none
  | .idiv => match st with
    | Sum.inl b :: Sum.inl a :: st => cond (b == 0) none (zNx (i + 1) ls (zi (a / b) :: st) h)
    | _ => none
  | .irem => match st with
    | Sum.inl b :: Sum.inl a :: st => cond (b == 0) none (zNx (i + 1) ls (zi (a - a / b * b) :: st) h)
    | _ => none
  | .ladd => match st with
    | Sum.inr (Sum.inl b) :: Sum.inr (Sum.inl a) :: st => zNx (i + 1) ls (zl (a + b) :: st) h
    | _ => none
  | .lsub => match st with
    | Sum.inr (Sum.inl b) :: Sum.inr (Sum.inl a) :: st => zNx (i + 1) ls (zl (a - b) :: st) h
    | _ => none
  | .land => match st with
    | Sum.inr (Sum.inl b) :: Sum.inr (Sum.inl a) :: st => zNx (i + 1) ls (zl (a &&& b) :: st) h
    | _ => none
  | .lor => match st with
    | Sum.inr (Sum.inl b) :: Sum.inr (Sum.inl a) :: st => zNx (i + 1) ls (zl (a ||| b) :: st) h
    | _ => none
  | .lshl => match st with
    | Sum.inl b :: Sum.inr (Sum.inl a) :: st => zNx (i + 1) ls (zl (a <<< (b.toInt64 &&& 63)) :: st) h
    | _ => none
  | .lushr => match st with
    | Sum.inl b :: Sum.inr (Sum.inl a) :: st => zNx (i + 1) ls (zl (a.toUInt64 >>> (b.toInt64.toUInt64 &&& Int64.toUInt64 63)).toInt64 :: st) h
    | _ => none
  | .lcmp => match st with
    | Sum.inr (Sum.inl b) :: Sum.inr (Sum.inl a) :: st => zNx (i + 1) ls (zi (lg_cmp a b) :: st) h
    | _ => none
  | .i2l => match st with
    | Sum.inl a :: st => zNx (i + 1) ls (zl a.toInt64 :: st) h
    | _ => none
  | .l2i => match st with
    | Sum.inr (Sum.inl a) :: st => zNx (i + 1) ls (zi a.toInt32 :: st) h
    | _ => none
  | .i2b => match st with
    | Sum.inl a :: st => zNx (i + 1) ls (zi a.toInt8.toInt32 :: st) h
    | _ => none
  | .i2c => match st with
    | Sum.inl a :: st => zNx (i + 1) ls (zi (a.toUInt32 % 65536).toInt32 :: st) h
    | _ => none
  | .dup => match st with
    | Sum.inl a :: st => zNx (i + 1) ls (zi a :: zi a :: st) h
    | Sum.inr (Sum.inr r) :: st => zNx (i + 1) ls (zq r :: zq r :: st) h
    | _ => none
  | .dup2 => match st with
    | Sum.inl a :: Sum.inr (Sum.inr r) :: st => zNx (i + 1) ls (zi a :: zq r :: zi a :: zq r :: st) h
    | _ => none
  | .pop => match st with
    | Sum.inl _ :: st => zNx (i + 1) ls st h
    | Sum.inr (Sum.inr _) :: st => zNx (i + 1) ls st h
    | _ => none
  | .goto _ => zNx x ls st h
  | .ifCond k _ => match st with
    | Sum.inl a :: st => cond (zcmp k a 0) (zNx x ls st h) (zNx (i + 1) ls st h)
    | _ => none
  | .if_icmp k _ => match st with
    | Sum.inl b :: Sum.inl a :: st => cond (zcmp k a b) (zNx x ls st h) (zNx (i + 1) ls st h)
    | _ => none
  | .ifnull _ => match st with
    | Sum.inr (Sum.inr none) :: st => zNx x ls st h
    | Sum.inr (Sum.inr (some r)) :: st => match r.2.1 with
      | 34 => none
      | _ => zNx (i + 1) ls st h
    | _ => none
  | .ifnonnull _ => match st with
    | Sum.inr (Sum.inr none) :: st => zNx (i + 1) ls st h
    | Sum.inr (Sum.inr (some r)) :: st => match r.2.1 with
      | 34 => none
      | _ => zNx x ls st h
    | _ => none
  | .tableswitch .. => match st with
    | Sum.inl a :: st => zNx (zsw tb x a) ls st h
    | _ => none
  | .lookupswitch .. => match st with
    | Sum.inl a :: st => zNx (zsw tb x a) ls st h
    | _ => none
  | .iaload => match st with
    | Sum.inl j :: Sum.inr (Sum.inr (some (a, k, n))) :: st => match k with
      | 20 => cond (zin j n) (zNx (i + 1) ls (zi (zI h a j.toNatClampNeg) :: st) h) none
      | 31 => cond (zin j 10) (zNx (i + 1) ls (zi (zrk j.toNatClampNeg) :: st) h) none
      | 32 => cond (zin j n) (zNx (i + 1) ls (zi (zX h j.toNatClampNeg) :: st) h) none
      | _ => none
    | _ => none
  | .baload => match st with
    | Sum.inl j :: Sum.inr (Sum.inr (some (a, k, n))) :: st => match k with
      | 21 => cond (zin j n) (zNx (i + 1) ls (zi (zI h a j.toNatClampNeg) :: st) h) none
      | 22 => cond (zin j n) (zNx (i + 1) ls (zi (zI h a j.toNatClampNeg) :: st) h) none
      | 33 => cond (zin j n) (zNx (i + 1) ls (zi (zby tx a j.toNatClampNeg) :: st) h) none
      | _ => none
    | _ => none
  | .laload => match st with
    | Sum.inl j :: Sum.inr (Sum.inr (some (a, 23, n))) :: st => cond (zin j n) (zNx (i + 1) ls (zl (zL h a j.toNatClampNeg) :: st) h) none
    | _ => none
  | .aaload => match st with
    | Sum.inl j :: Sum.inr (Sum.inr (some (a, 24, n))) :: st => cond (zin j n) (zNx (i + 1) ls (zq (zR h a j.toNatClampNeg) :: st) h) none
    | _ => none
  | .iastore => match st with
    | Sum.inl v :: Sum.inl j :: Sum.inr (Sum.inr (some (a, 20, n))) :: st => cond (zin j n) (zNx (i + 1) ls st (zwI h a j.toNatClampNeg v)) none
    | _ => none
  | .bastore => match st with
    | Sum.inl v :: Sum.inl j :: Sum.inr (Sum.inr (some (a, k, n))) :: st => match k with
      | 21 => cond (zin j n) (zNx (i + 1) ls st (zwI h a j.toNatClampNeg v.toInt8.toInt32)) none
      | 22 => cond (zin j n) (zNx (i + 1) ls st (zwI h a j.toNatClampNeg (v &&& 1))) none
      | _ => none
    | _ => none
  | .lastore => match st with
    | Sum.inr (Sum.inl v) :: Sum.inl j :: Sum.inr (Sum.inr (some (a, 23, n))) :: st => cond (zin j n) (zNx (i + 1) ls st (zwL h a j.toNatClampNeg v)) none
    | _ => none
  | .aastore => match st with
    | Sum.inr (Sum.inr (some (b, 30, e))) :: Sum.inl j :: Sum.inr (Sum.inr (some (a, 24, n))) :: st => cond (zin j n) (zNx (i + 1) ls st (zwR h a j.toNatClampNeg (some (b, 30, e)))) none
    | _ => none
  | .arraylength => match st with
    | Sum.inr (Sum.inr (some (a, k, n))) :: st => match k with
      | 20 => zNx (i + 1) ls (zi (Int32.ofNat n) :: st) h
      | 23 => zNx (i + 1) ls (zi (Int32.ofNat n) :: st) h
      | 24 => zNx (i + 1) ls (zi (Int32.ofNat n) :: st) h
      | 32 => zNx (i + 1) ls (zi (Int32.ofNat n) :: st) h
      | 33 => zNx (i + 1) ls (zi (Int32.ofNat n) :: st) h
      | _ => none
    | _ => none
  | .newarray _ => match st with
    | Sum.inl n :: st => cond (n == c.1) (zNx (i + 1) ls (zr ((zK h).length, x, y) :: st) (zal h x y y)) none
    | _ => none
  | .anewarray _ => match st with
    | Sum.inl n :: st => cond (n == c.1) (zNx (i + 1) ls (zr ((zK h).length, 24, y) :: st) (zal h 24 y y)) none
    | _ => none
  | .new _ => match z with
    | 0 => zNx (i + 1) ls (zr ((zK h).length, x, 0) :: st) (zal h x 0 y)
    | _ => match st with
      | [] => zTh x
      | _ => none
  | .getfield _ => match st with
    | Sum.inr (Sum.inr (some (a, k, _))) :: st => match Nat.beq k x with
      | true => match z with
        | 0 => zNx (i + 1) ls (zi (zI h a y) :: st) h
        | 1 => zNx (i + 1) ls (zq (zR h a y) :: st) h
        | 2 => zNx (i + 1) ls (zr (a, 33, zbl tx a) :: st) h
        | _ => zNx (i + 1) ls (zi 0 :: st) h
      | false => none
    | _ => none
  | .putfield _ => match z with
    | 1 => match st with
      | Sum.inr (Sum.inr none) :: Sum.inr (Sum.inr (some (a, k, _))) :: st => match Nat.beq k x with
        | true => zNx (i + 1) ls st (zwR h a y none)
        | false => none
      | Sum.inr (Sum.inr (some (b, kb, n))) :: Sum.inr (Sum.inr (some (a, k, _))) :: st => match Nat.beq k x && !(Nat.beq kb 34) with
        | true => zNx (i + 1) ls st (zwR h a y (some (b, kb, n)))
        | false => none
      | _ => none
    | 2 => match st with
      | Sum.inl v :: Sum.inr (Sum.inr (some (a, k, _))) :: st => match Nat.beq k x with
        | true => cond (zbool v) (zNx (i + 1) ls st (zwI h a y v)) none
        | false => none
      | _ => none
    | _ => match st with
      | Sum.inl v :: Sum.inr (Sum.inr (some (a, k, _))) :: st => match Nat.beq k x with
        | true => zNx (i + 1) ls st (zwI h a y v)
        | false => none
      | _ => none
  | .getstatic _ => match z with
    | 0 => zNx (i + 1) ls (zr (0, 31, 10) :: st) h
    | 1 => zNx (i + 1) ls (zi 1 :: st) h
    | _ => zNx (i + 1) ls (zr (0, 34, 0) :: st) h
  | .invokespecial _ => match z with
    | 1 => match st with
      | Sum.inr (Sum.inr (some (_, k, _))) :: st => cond (Nat.blt k 30 && Nat.ble (zcats st) 8) (zNx (i + 1) ls st h) none
      | _ => none
    | _ => match zpop y st [] with
      | some (Sum.inr (Sum.inr (some (a, k, n))) :: as, rest) => cond (Nat.beq k w && Nat.ble (zcats rest) 8) (zCl x (zr (a, k, n) :: as) rest) none
      | _ => none
  | .invokevirtual _ => match zpop y st [] with
      | some (Sum.inr (Sum.inr (some (a, k, n))) :: as, rest) => cond (Nat.beq k w && Nat.ble (zcats rest) 8) (zCl x (zr (a, k, n) :: as) rest) none
      | _ => none
  | .invokestatic _ => match z with
    | 2 => match st with
      | Sum.inl n :: Sum.inl dp :: Sum.inr (Sum.inr (some (b, 20, m))) :: Sum.inl sp :: Sum.inr (Sum.inr (some (a, 20, l))) :: st =>
        cond (!(decide (sp < 0)) && !(decide (dp < 0)) && !(decide (n < 0)) && decide (sp.toNatClampNeg + n.toNatClampNeg ≤ l) && decide (dp.toNatClampNeg + n.toNatClampNeg ≤ m) && Nat.ble (zcats st) 8)
          (zNx (i + 1) ls st (zwA h b (va_cpy (zI h a) (zI h b) sp.toNatClampNeg dp.toNatClampNeg n.toNatClampNeg))) none
      | _ => none
    | _ => match zpop y st [] with
      | some (as, rest) => cond (Nat.ble (zcats rest) 8) (zCl x as rest) none
      | _ => none
  | .ireturn => match st with
    | [Sum.inl v] => cond (zfit x v) (zRt (some (zi v))) none
    | _ => none
  | .return_ => match st with
    | [] => zRt none
    | _ => none
  | _ => none
def zstep (tx : zTx) (cd : List zA) (i : Nat) (ls : zLV) (st : List zV) (h : zH) : Option zSR := match cd[i]? with
  | none => none
  | some (_, ins, _, (x, y, z, w), c, tb) => zsem tx ins x y z w c tb i ls st h
/-- a handler: where it goes on (behind its store), which local it stores to -/
def zhnd (hs : List (Nat × Nat × Nat × Nat × Nat)) (i e : Nat) : Option (Nat × Nat) := match hs with
  | [] => none
  | (a, b, t, k, x) :: r => match Nat.ble a i && Nat.blt i b && Nat.beq k e with
    | true => some (t, x)
    | false => zhnd r i e
def zkil (ls : zLV) (x : Nat) : zLV := (zclr ls x).set x none
/-- a call's arguments as locals: a long takes two places -/
def zarg (as : List zV) : zLV := match as with
  | [] => []
  | Sum.inr (Sum.inl v) :: r => some (zl v) :: none :: zarg r
  | v :: r => some v :: zarg r
def zent (as : List zV) (n : Nat) : zLV := zarg as ++ List.replicate (n - (zarg as).length) none
/-- the method that is called, if its locals hold the arguments -/
def zMc (MT : Nat → Option zM) (k : Nat) (as : List zV) : Option zM := match MT k with
  | none => none
  | some M => match Nat.ble (zarg as).length M.2.1 with
    | true => some M
    | false => none
def zrun (tx : zTx) (MT : Nat → Option zM) : Nat → Nat → zM → Nat → zLV → List zV → zH → Option (zO × zH)
  | 0, _, _, _, _, _, _ => none
  | n + 1, d, M, i, ls, st, h => match zstep tx M.1 i ls st h with
    | none => none
    | some (Sum.inl (j, ls', st', h')) => zrun tx MT n d M j ls' st' h'
    | some (Sum.inr (Sum.inl (k, as, rest))) => match d with
      | 0 => none
      | d' + 1 => match zMc MT k as with
        | none => none
        | some M' => match zrun tx MT n d' M' 0 (zent as M'.2.1) [] h with
          | none => none
          | some (Sum.inl v, h') => zrun tx MT n d M (i + 1) ls (v.toList ++ rest) h'
          | some (Sum.inr e, h') => match zhnd M.2.2 i e with
            | some q => zrun tx MT n d M q.1 (zkil ls q.2) [] h'
            | none => match M.2.2 with
              | [] => some (Sum.inr e, h')
              | _ :: _ => none
    | some (Sum.inr (Sum.inr (Sum.inl v))) => some (Sum.inl v, h)
    | some (Sum.inr (Sum.inr (Sum.inr e))) => match M.2.2 with
      | [] => some (Sum.inr e, zth h)
      | _ :: _ => none
/-- more fuel changes nothing -/
theorem zrun_mono {tx : zTx} {MT : Nat → Option zM} : ∀ (n d : Nat) (M : zM) (i : Nat) (ls : zLV) (st : List zV) (h : zH) (r : zO × zH), zrun tx MT n d M i ls st h = some r → zrun tx MT (n + 1) d M i ls st h = some r := by
  intro n
  induction n with
  | zero => intro d M i ls st h r e; simp [zrun] at e
  | succ n ih =>
    intro d M i ls st h r e
    rw [zrun] at e ⊢
    cases hs : zstep tx M.1 i ls st h with
    | none => rw [hs] at e; exact e
    | some q =>
      rw [hs] at e
      rcases q with ⟨j, ls', st', h'⟩ | ⟨k, as, rest⟩ | v | x
      · exact ih _ _ _ _ _ _ _ e
      · cases d with
        | zero => exact e
        | succ d =>
          dsimp only at e ⊢
          cases hk : zMc MT k as with
          | none => rw [hk] at e; exact e
          | some M' =>
            rw [hk] at e
            dsimp only at e ⊢
            cases hc : zrun tx MT n d M' 0 (zent as M'.2.1) [] h with
            | none => rw [hc] at e; cases e
            | some q =>
              rw [hc] at e
              rw [ih _ _ _ _ _ _ _ hc]
              obtain ⟨o, h2⟩ := q
              cases o with
              | inl v => exact ih _ _ _ _ _ _ _ e
              | inr x =>
                dsimp only at e ⊢
                cases hh : zhnd M.2.2 i x with
                | none => rw [hh] at e; exact e
                | some j => rw [hh] at e; exact ih _ _ _ _ _ _ _ e
      · exact e
      · exact e
theorem zrun_le {tx : zTx} {MT : Nat → Option zM} {n d : Nat} {M : zM} {i : Nat} {ls : zLV} {st : List zV} {h : zH} {r : zO × zH} (e : zrun tx MT n d M i ls st h = some r) {m : Nat} (hm : n ≤ m) : zrun tx MT m d M i ls st h = some r := by
  induction m with
  | zero => rw [Nat.le_zero.mp hm] at e; exact e
  | succ m ih =>
    rcases Nat.lt_or_ge n (m + 1) with q | q
    · exact zrun_mono _ _ _ _ _ _ _ _ (ih (by omega))
    · rw [Nat.le_antisymm hm q] at e; exact e
/-- deeper room changes nothing -/
theorem zrun_deep {tx : zTx} {MT : Nat → Option zM} : ∀ (n d : Nat) (M : zM) (i : Nat) (ls : zLV) (st : List zV) (h : zH) (r : zO × zH), zrun tx MT n d M i ls st h = some r → zrun tx MT n (d + 1) M i ls st h = some r := by
  intro n
  induction n with
  | zero => intro d M i ls st h r e; simp [zrun] at e
  | succ n ih =>
    intro d M i ls st h r e
    rw [zrun] at e ⊢
    cases hs : zstep tx M.1 i ls st h with
    | none => rw [hs] at e; exact e
    | some q =>
      rw [hs] at e
      rcases q with ⟨j, ls', st', h'⟩ | ⟨k, as, rest⟩ | v | x
      · exact ih _ _ _ _ _ _ _ e
      · cases d with
        | zero => cases e
        | succ d =>
          dsimp only at e ⊢
          cases hk : zMc MT k as with
          | none => rw [hk] at e; exact e
          | some M' =>
            rw [hk] at e
            dsimp only at e ⊢
            cases hc : zrun tx MT n d M' 0 (zent as M'.2.1) [] h with
            | none => rw [hc] at e; cases e
            | some q =>
              rw [hc] at e
              rw [ih _ _ _ _ _ _ _ hc]
              obtain ⟨o, h2⟩ := q
              cases o with
              | inl v => exact ih _ _ _ _ _ _ _ e
              | inr x =>
                dsimp only at e ⊢
                cases hh : zhnd M.2.2 i x with
                | none => rw [hh] at e; exact e
                | some j => rw [hh] at e; exact ih _ _ _ _ _ _ _ e
      · exact e
      · exact e
theorem zrun_dle {tx : zTx} {MT : Nat → Option zM} {n d : Nat} {M : zM} {i : Nat} {ls : zLV} {st : List zV} {h : zH} {r : zO × zH} (e : zrun tx MT n d M i ls st h = some r) {m : Nat} (hm : d ≤ m) : zrun tx MT n m M i ls st h = some r := by
  induction m with
  | zero => rw [Nat.le_zero.mp hm] at e; exact e
  | succ m ih =>
    rcases Nat.lt_or_ge d (m + 1) with q | q
    · exact zrun_deep _ _ _ _ _ _ _ _ (ih (by omega))
    · rw [Nat.le_antisymm hm q] at e; exact e
