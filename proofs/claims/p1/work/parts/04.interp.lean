/-! ===== THE INTERPRETER: the bytecode over a pure heap. Addresses below 6 are not the heap's: 0, 1 the string constants, 2, 3 their bytes, 4 a static of the JDK (a reference or null), 5 the script ===== -/
/-- a cell: an object (its class' number, its fields), or an array (its kind: 0 int, 1 long, 2 boolean, 3 rows of ints; its length; what it holds) -/
abbrev pE : Type := (Nat × List Value) ⊕ (Nat × Nat × ((Nat → Int32) ⊕ (Nat → Int64) ⊕ (Nat → Option Nat)))
abbrev pH : Type := List pE
abbrev pL : Type := List (Nat × Value)
/-- what a method comes to: its answer, the heap, the cells and slots that it made -/
abbrev pR : Type := Option Value × pH × Nat × Nat
/-- the script: its length, its ints -/
abbrev pX : Type := Nat × (Nat → Int32)
def pGet (lv : pL) (i : Nat) : Option Value := (lv.find? (fun q => q.1 == i)).map (fun q => q.2)
def pSet1 (lv : pL) (i : Nat) (v : Value) : pL := (i, v) :: lv.filter (fun q => !(q.1 == i) && !(q.1 + 1 == i && q.2.category == 2))
def pSet2 (lv : pL) (i : Nat) (v : Value) : pL := (i, v) :: lv.filter (fun q => !(q.1 == i) && (!(q.1 == i + 1) && !(q.1 + 1 == i && q.2.category == 2)))
def pAt (h : pH) (a : Nat) : Option pE := if a < 6 then none else h[a - 6]?
def pPut (h : pH) (a : Nat) (e : pE) : pH := h.set (a - 6) e
def pJump (pc : Nat) (off : Int) : Option Nat := match (pc : Int) + off with
  | .ofNat t => some t
  | .negSucc _ => none
/-- a table's entry by its first number -/
def pFind {α : Type} (t : List (List (Nat × α))) (c i : Nat) : Option α := ((t.getD c []).find? (fun e => e.1 == i)).map (fun e => e.2)
def pLen : Instr → Nat
  | .aload _ => 2
  | .astore _ => 2
  | .iload _ => 2
  | .istore _ => 2
  | .lload _ => 2
  | .lstore _ => 2
  | .bipush _ => 2
  | .newarray _ => 2
  | .ldc _ => 2
  | .sipush _ => 3
  | .getfield _ => 3
  | .putfield _ => 3
  | .getstatic _ => 3
  | .goto _ => 3
  | .ifCond _ _ => 3
  | .if_icmp _ _ => 3
  | .iinc _ _ => 3
  | .invokevirtual _ => 3
  | .invokestatic _ => 3
  | .invokespecial _ => 3
  | .ldc_w _ => 3
  | .ldc2_w _ => 3
  | .new _ => 3
  | .multianewarray _ _ => 4
  | _ => 1
def pLenOk (i : Instr) (len : Nat) : Bool := match i with
  | .tableswitch _ _ _ _ => true
  | .lookupswitch _ _ => true
  | i => len == pLen i
def pII (st : List Value) (f : Int32 → Int32 → Option Int32) : Option (List Value) := match st with
  | .int y :: .int x :: r => (f x y).map (fun z => .int z :: r)
  | _ => none
def pLL (st : List Value) (f : Int64 → Int64 → Value) : Option (List Value) := match st with
  | .long y :: .long x :: r => some (f x y :: r)
  | _ => none
def pI1 (st : List Value) (f : Int32 → Value) : Option (List Value) := match st with
  | .int x :: r => some (f x :: r)
  | _ => none
def pL1 (st : List Value) (f : Int64 → Value) : Option (List Value) := match st with
  | .long x :: r => some (f x :: r)
  | _ => none
def pCmp (c : Jvm.ClassFile.Cond) (x y : Int32) : Bool := match c with
  | .eq => decide (x = y)
  | .ne => decide (¬ x = y)
  | .lt => decide (x < y)
  | .ge => decide (y ≤ x)
  | .gt => decide (y < x)
  | .le => decide (x ≤ y)
/-- does the value fit a field of this type? -/
def pFits (ty : FieldType) (v : Value) : Bool := match ty, v with
  | .int, .int _ => true
  | .boolean, .int x => decide (x = 0) || decide (x = 1)
  | .array _, .ref a => decide (¬ a = 4)
  | .object _, .ref a => decide (¬ a = 4)
  | _, _ => false
/-- may an int be the answer of a method of this result? -/
def pRet (ty : FieldType) (x : Int32) : Bool := match ty with
  | .int => true
  | .boolean => decide (narrow .boolean (.int x) = .int x)
  | .char => decide (narrow .char (.int x) = .int x)
  | .byte => decide (narrow .byte (.int x) = .int x)
  | _ => false
/-- loads and stores of locals -/
def pILoad (lv : pL) (i : Nat) (st : List Value) : Option (List Value) := match pGet lv i with
  | some (.int x) => some (.int x :: st)
  | _ => none
def pLLoad (lv : pL) (i : Nat) (st : List Value) : Option (List Value) := match pGet lv i with
  | some (.long x) => some (.long x :: st)
  | _ => none
def pALoad (lv : pL) (i : Nat) (st : List Value) : Option (List Value) := match pGet lv i with
  | some (.ref a) => if a = 4 then none else some (.ref a :: st)
  | _ => none
def pIStore (nL : Nat) (lv : pL) (i : Nat) (st : List Value) : Option (pL × List Value) := match st with
  | .int x :: r => if i < nL then some (pSet1 lv i (.int x), r) else none
  | _ => none
def pLStore (nL : Nat) (lv : pL) (i : Nat) (st : List Value) : Option (pL × List Value) := match st with
  | .long x :: r => if i + 1 < nL then some (pSet2 lv i (.long x), r) else none
  | _ => none
def pAStore (nL : Nat) (lv : pL) (i : Nat) (st : List Value) : Option (pL × List Value) := match st with
  | .ref a :: r => if i < nL ∧ ¬ a = 4 then some (pSet1 lv i (.ref a), r) else none
  | _ => none
def pIinc (nL : Nat) (lv : pL) (i : Nat) (n : Int) : Option pL := match pGet lv i with
  | some (.int x) => if i < nL then some (pSet1 lv i (.int (x + Int32.ofInt n))) else none
  | _ => none
/-- fields -/
def pGetf (cls idx : Nat) (st : List Value) (h : pH) : Option (List Value) := match st with
  | .ref a :: r => if a < 2 then (match pFind pFS cls idx with
      | some (0, _) => some (.ref (a + 2) :: r)
      | some (1, _) => some (.int 0 :: r)
      | _ => none)
    else (match pAt h a, pFind pFl cls idx with
      | some (.inl (ci, fs)), some (cj, k, _) => if ci = cj then (fs[k]?).map (fun v => v :: r) else none
      | _, _ => none)
  | _ => none
def pPutf (cls idx : Nat) (ini : Bool) (st : List Value) (h : pH) : Option (List Value × pH) := match st with
  | v :: .ref a :: r => (match pAt h a, pFind pFl cls idx with
      | some (.inl (ci, fs)), some (cj, k, ne, _) => if ci = cj ∧ k < fs.length ∧ pFits ((pTys.getD ci tyX0) k) v = true ∧ (((vwCl.getD ci ("", TX0, 0)).2.1 k).2.2.2 = true → ini = true ∧ ci = cls ∧ ne = 0) then some (r, pPut h a (.inl (ci, fs.set k v))) else none
      | _, _ => none)
  | _ => none
def pGets (cls idx : Nat) (st : List Value) : Option (List Value) := match pFind pGs cls idx with
  | some (0, _) => some (.int 1 :: st)
  | some (1, _) => some (.ref 4 :: st)
  | _ => none
/-- constants -/
def pLdc (cls idx : Nat) (st : List Value) : Option (List Value) := match pFind pSt cls idx with
  | some (k, _) => some (.ref k :: st)
  | none => (match pFind pKi cls idx with
      | some (v, _) => some (.int v :: st)
      | none => none)
def pLdcw (cls idx : Nat) (st : List Value) : Option (List Value) := match pFind pKi cls idx with
  | some (v, _) => some (.int v :: st)
  | none => none
def pLdc2 (cls idx : Nat) (st : List Value) : Option (List Value) := match pFind pKl cls idx with
  | some (v, _) => some (.long v :: st)
  | none => none
/-- arrays -/
def pIald (X : pX) (st : List Value) (h : pH) : Option (List Value) := match st with
  | .int i :: .ref a :: r => if a = 5 then (if i < 0 ∨ X.1 ≤ i.toNatClampNeg then none else some (.int (X.2 i.toNatClampNeg) :: r))
    else (match pAt h a with
      | some (.inr (0, n, .inl f)) => if i < 0 ∨ n ≤ i.toNatClampNeg then none else some (.int (f i.toNatClampNeg) :: r)
      | _ => none)
  | _ => none
def pBald (st : List Value) (h : pH) : Option (List Value) := match st with
  | .int i :: .ref a :: r => if a = 2 ∨ a = 3 then (if i < 0 ∨ pLen1.getD (a - 2) 0 ≤ i.toNatClampNeg then none else some (.int ((pByt.getD (a - 2) []).getD i.toNatClampNeg 0) :: r))
    else (match pAt h a with
      | some (.inr (2, n, .inl f)) => if i < 0 ∨ n ≤ i.toNatClampNeg then none else some (.int (f i.toNatClampNeg) :: r)
      | _ => none)
  | _ => none
def pLald (st : List Value) (h : pH) : Option (List Value) := match st with
  | .int i :: .ref a :: r => (match pAt h a with
      | some (.inr (1, n, .inr (.inl f))) => if i < 0 ∨ n ≤ i.toNatClampNeg then none else some (.long (f i.toNatClampNeg) :: r)
      | _ => none)
  | _ => none
def pAald (st : List Value) (h : pH) : Option (List Value) := match st with
  | .int i :: .ref a :: r => (match pAt h a with
      | some (.inr (3, n, .inr (.inr f))) => if i < 0 ∨ n ≤ i.toNatClampNeg then none else (match f i.toNatClampNeg with
          | some b => if b < 6 then none else some (.ref b :: r)
          | none => none)
      | _ => none)
  | _ => none
def pIast (st : List Value) (h : pH) : Option (List Value × pH) := match st with
  | .int x :: .int i :: .ref a :: r => (match pAt h a with
      | some (.inr (0, n, .inl f)) => if i < 0 ∨ n ≤ i.toNatClampNeg then none else some (r, pPut h a (.inr (0, n, .inl (upd f i.toNatClampNeg x))))
      | _ => none)
  | _ => none
def pBast (st : List Value) (h : pH) : Option (List Value × pH) := match st with
  | .int x :: .int i :: .ref a :: r => (match pAt h a with
      | some (.inr (2, n, .inl f)) => if i < 0 ∨ n ≤ i.toNatClampNeg then none else some (r, pPut h a (.inr (2, n, .inl (upd f i.toNatClampNeg (vp_nar .boolean x)))))
      | _ => none)
  | _ => none
def pLast (st : List Value) (h : pH) : Option (List Value × pH) := match st with
  | .long x :: .int i :: .ref a :: r => (match pAt h a with
      | some (.inr (1, n, .inr (.inl f))) => if i < 0 ∨ n ≤ i.toNatClampNeg then none else some (r, pPut h a (.inr (1, n, .inr (.inl (vp_updL f i.toNatClampNeg x)))))
      | _ => none)
  | _ => none
def pAlen (X : pX) (st : List Value) (h : pH) : Option (List Value) := match st with
  | .ref a :: r => if a = 5 then some (.int (Int32.ofNat X.1) :: r) else if a = 2 ∨ a = 3 then some (.int (Int32.ofNat (pLen1.getD (a - 2) 0)) :: r)
    else (match pAt h a with
      | some (.inr (t, n, _)) => if t < 4 then some (.int (Int32.ofNat n) :: r) else none
      | _ => none)
  | _ => none
/-- System.arraycopy -/
def pCopy (st : List Value) (h : pH) : Option (List Value × pH) := match st with
  | .int n :: .int dp :: .ref a :: .int sp :: .ref a0 :: r => if sp < 0 ∨ dp < 0 ∨ n < 0 ∨ 8 < (r.map fun v => v.category).sum then none else (match pAt h a0, pAt h a with
      | some (.inr (0, n0, .inl f)), some (.inr (0, n1, .inl g)) => if sp.toNatClampNeg + n.toNatClampNeg ≤ n0 ∧ dp.toNatClampNeg + n.toNatClampNeg ≤ n1 then some (r, pPut h a (.inr (0, n1, .inl (va_cpy f g sp.toNatClampNeg dp.toNatClampNeg n.toNatClampNeg)))) else none
      | some (.inr (1, n0, .inr (.inl f))), some (.inr (1, n1, .inr (.inl g))) => if sp.toNatClampNeg + n.toNatClampNeg ≤ n0 ∧ dp.toNatClampNeg + n.toNatClampNeg ≤ n1 then some (r, pPut h a (.inr (1, n1, .inr (.inl (va_cpy f g sp.toNatClampNeg dp.toNatClampNeg n.toNatClampNeg))))) else none
      | _, _ => none)
  | _ => none
/-- what is made: the answer on the stack, the heap, cells, slots -/
def pNewa (ty : ArrayType) (st : List Value) (h : pH) : Option (List Value × pH × Nat × Nat) := match st with
  | .int n :: r => if n < 0 ∨ 60000000 < n.toNatClampNeg then none else (match ty with
      | .int => some (.ref (6 + h.length) :: r, h ++ [.inr (0, n.toNatClampNeg, .inl (fun _ => 0))], 1, n.toNatClampNeg)
      | .long => some (.ref (6 + h.length) :: r, h ++ [.inr (1, n.toNatClampNeg, .inr (.inl (fun _ => 0)))], 1, n.toNatClampNeg)
      | .boolean => some (.ref (6 + h.length) :: r, h ++ [.inr (2, n.toNatClampNeg, .inl (fun _ => 0))], 1, n.toNatClampNeg)
      | _ => none)
  | _ => none
def pNewo (cls idx : Nat) (st : List Value) (h : pH) : Option (List Value × pH × Nat × Nat) := match pFind pNw cls idx with
  | some (ci, _) => some (.ref (6 + h.length) :: st, h ++ [.inl (ci, pFs0.getD ci [])], 1, (vwCl.getD ci ("", TX0, 0)).2.2)
  | none => none
def pNewm (cls idx : Nat) (st : List Value) (h : pH) : Option (List Value × pH × Nat × Nat) := match st with
  | .int k :: .int n :: r => if n < 0 ∨ k < 0 ∨ 10000 < n.toNatClampNeg ∨ 10000 < k.toNatClampNeg then none else (match pFind pMn cls idx with
      | some _ => some (.ref (6 + h.length) :: r, h ++ (.inr (3, n.toNatClampNeg, .inr (.inr (fun i => if i < n.toNatClampNeg then some (6 + (h.length + 1 + i)) else none))) :: List.replicate n.toNatClampNeg (.inr (0, k.toNatClampNeg, .inl (fun _ => 0)))), 1 + n.toNatClampNeg, n.toNatClampNeg + n.toNatClampNeg * k.toNatClampNeg)
      | none => none)
  | _ => none
/-- switches -/
def pTable (dflt lo hi : Int) (offs : Array Int) (x : Int32) : Option Int := if x.toInt < lo ∨ hi < x.toInt then some dflt else offs[(x.toInt - lo).toNat]?
def pLookup (dflt : Int) (ps : Array (Int × Int)) (x : Int32) : Option Int := if (ps.toList.zip (ps.toList.drop 1)).all (fun (a, next) => a.1 < next.1) = true then some (Op.lookupswitch.offset ps.toList dflt x.toInt) else none
/-- one instruction that makes nothing, calls nothing and doesn't return: where it goes on -/
def pstep (X : pX) (cls : Nat) (ini : Bool) (nL : Nat) (i : Instr) (pc : Nat) (lv : pL) (st : List Value) (h : pH) : Option (Nat × pL × List Value × pH) := match i with
  | .aload n => (pALoad lv n st).map (fun s => (pc + 2, lv, s, h))
  | .aload_n n => (pALoad lv n.val st).map (fun s => (pc + 1, lv, s, h))
  | .iload n => (pILoad lv n st).map (fun s => (pc + 2, lv, s, h))
  | .iload_n n => (pILoad lv n.val st).map (fun s => (pc + 1, lv, s, h))
  | .lload n => (pLLoad lv n st).map (fun s => (pc + 2, lv, s, h))
  | .lload_n n => (pLLoad lv n.val st).map (fun s => (pc + 1, lv, s, h))
  | .astore n => (pAStore nL lv n st).map (fun q => (pc + 2, q.1, q.2, h))
  | .astore_n n => (pAStore nL lv n.val st).map (fun q => (pc + 1, q.1, q.2, h))
  | .istore n => (pIStore nL lv n st).map (fun q => (pc + 2, q.1, q.2, h))
  | .istore_n n => (pIStore nL lv n.val st).map (fun q => (pc + 1, q.1, q.2, h))
  | .lstore n => (pLStore nL lv n st).map (fun q => (pc + 2, q.1, q.2, h))
  | .lstore_n n => (pLStore nL lv n.val st).map (fun q => (pc + 1, q.1, q.2, h))
  | .iinc n d => (pIinc nL lv n d).map (fun l => (pc + 3, l, st, h))
  | .iconst n => some (pc + 1, lv, .int (Int32.ofInt n) :: st, h)
  | .bipush n => some (pc + 2, lv, .int (Int8.ofInt n).toInt32 :: st, h)
  | .sipush n => some (pc + 3, lv, .int (Int16.ofInt n).toInt32 :: st, h)
  | .lconst n => some (pc + 1, lv, .long (Int64.ofNat n.val) :: st, h)
  | .ldc n => (pLdc cls n st).map (fun s => (pc + 2, lv, s, h))
  | .ldc_w n => (pLdcw cls n st).map (fun s => (pc + 3, lv, s, h))
  | .ldc2_w n => (pLdc2 cls n st).map (fun s => (pc + 3, lv, s, h))
  | .iadd => (pII st (fun x y => some (x + y))).map (fun s => (pc + 1, lv, s, h))
  | .isub => (pII st (fun x y => some (x - y))).map (fun s => (pc + 1, lv, s, h))
  | .imul => (pII st (fun x y => some (x * y))).map (fun s => (pc + 1, lv, s, h))
  | .idiv => (pII st (fun x y => if y = 0 then none else some (x / y))).map (fun s => (pc + 1, lv, s, h))
  | .irem => (pII st (fun x y => if y = 0 then none else some (x - x / y * y))).map (fun s => (pc + 1, lv, s, h))
  | .iand => (pII st (fun x y => some (x &&& y))).map (fun s => (pc + 1, lv, s, h))
  | .ior => (pII st (fun x y => some (x ||| y))).map (fun s => (pc + 1, lv, s, h))
  | .ixor => (pII st (fun x y => some (x ^^^ y))).map (fun s => (pc + 1, lv, s, h))
  | .ishl => (pII st (fun x y => some (x <<< (y &&& 31)))).map (fun s => (pc + 1, lv, s, h))
  | .ishr => (pII st (fun x y => some (x >>> (y &&& 31)))).map (fun s => (pc + 1, lv, s, h))
  | .iushr => (pII st (fun x y => some (x.toUInt32 >>> (y.toUInt32 &&& Int32.toUInt32 31)).toInt32)).map (fun s => (pc + 1, lv, s, h))
  | .ineg => (pI1 st (fun x => .int (-x))).map (fun s => (pc + 1, lv, s, h))
  | .i2b => (pI1 st (fun x => .int x.toInt8.toInt32)).map (fun s => (pc + 1, lv, s, h))
  | .i2c => (pI1 st (fun x => .int (x.toUInt32 % 65536).toInt32)).map (fun s => (pc + 1, lv, s, h))
  | .i2l => (pI1 st (fun x => .long x.toInt64)).map (fun s => (pc + 1, lv, s, h))
  | .l2i => (pL1 st (fun x => .int x.toInt32)).map (fun s => (pc + 1, lv, s, h))
  | .ladd => (pLL st (fun x y => .long (x + y))).map (fun s => (pc + 1, lv, s, h))
  | .land => (pLL st (fun x y => .long (x &&& y))).map (fun s => (pc + 1, lv, s, h))
  | .lor => (pLL st (fun x y => .long (x ||| y))).map (fun s => (pc + 1, lv, s, h))
  | .lcmp => (pLL st (fun x y => .int (lg_cmp x y))).map (fun s => (pc + 1, lv, s, h))
  | .dup => (match st with
      | v :: r => if v.category = 1 then some (pc + 1, lv, v :: v :: r, h) else none
      | _ => none)
  | .dup2 => (match st with
      | v :: w :: r => if v.category = 1 ∧ w.category = 1 then some (pc + 1, lv, v :: w :: v :: w :: r, h) else none
      | _ => none)
  | .pop => (match st with
      | v :: r => if v.category = 1 then some (pc + 1, lv, r, h) else none
      | _ => none)
  | .pop2 => (match st with
      | v :: r => if v.category = 2 then some (pc + 1, lv, r, h) else none
      | _ => none)
  | .goto off => (pJump pc off).map (fun t => (t, lv, st, h))
  | .ifCond c off => (match st with
      | .int x :: r => (pJump pc off).map (fun t => (if pCmp c x 0 = true then t else pc + 3, lv, r, h))
      | _ => none)
  | .if_icmp c off => (match st with
      | .int y :: .int x :: r => (pJump pc off).map (fun t => (if pCmp c x y = true then t else pc + 3, lv, r, h))
      | _ => none)
  | .tableswitch dflt lo hi offs => (match st with
      | .int x :: r => (pTable dflt lo hi offs x).bind (fun off => (pJump pc off).map (fun t => (t, lv, r, h)))
      | _ => none)
  | .lookupswitch dflt ps => (match st with
      | .int x :: r => (pLookup dflt ps x).bind (fun off => (pJump pc off).map (fun t => (t, lv, r, h)))
      | _ => none)
  | .getfield n => (pGetf cls n st h).map (fun s => (pc + 3, lv, s, h))
  | .putfield n => (pPutf cls n ini st h).map (fun q => (pc + 3, lv, q.1, q.2))
  | .getstatic n => (pGets cls n st).map (fun s => (pc + 3, lv, s, h))
  | .iaload => (pIald X st h).map (fun s => (pc + 1, lv, s, h))
  | .baload => (pBald st h).map (fun s => (pc + 1, lv, s, h))
  | .laload => (pLald st h).map (fun s => (pc + 1, lv, s, h))
  | .aaload => (pAald st h).map (fun s => (pc + 1, lv, s, h))
  | .iastore => (pIast st h).map (fun q => (pc + 1, lv, q.1, q.2))
  | .bastore => (pBast st h).map (fun q => (pc + 1, lv, q.1, q.2))
  | .lastore => (pLast st h).map (fun q => (pc + 1, lv, q.1, q.2))
  | .arraylength => (pAlen X st h).map (fun s => (pc + 1, lv, s, h))
  | _ => none
/-- an instruction that makes something -/
def pmake (cls : Nat) (i : Instr) (pc : Nat) (st : List Value) (h : pH) : Option (Nat × List Value × pH × Nat × Nat) := match i with
  | .newarray ty => (pNewa ty st h).map (fun q => (pc + 2, q.1, q.2))
  | .new n => (pNewo cls n st h).map (fun q => (pc + 3, q.1, q.2))
  | .multianewarray n d => if d = 2 then (pNewm cls n st h).map (fun q => (pc + 4, q.1, q.2)) else none
  | _ => none
/-- the return instructions -/
def pret (ret : Option FieldType) (i : Instr) (st : List Value) : Option (Option Value) := match i, st, ret with
  | .ireturn, [.int v], some ty => if pRet ty v = true then some (some (.int v)) else none
  | .lreturn, [.long v], some .long => some (some (.long v))
  | .areturn, [.ref a], some (.array _) => if a < 6 then none else some (some (.ref a))
  | .return_, [], none => some none
  | _, _, _ => none
/-- a call: the receiver (of a method of an object, of a constructor) and the arguments, the rest of the stack -/
def pArgs (np : Nat) (kd : Nat) (st : List Value) : Option (List Value × List Value) :=
  if kd = 1 then (if np ≤ st.length then some ((st.take np).reverse, st.drop np) else none)
  else (if np + 1 ≤ st.length then some ((st.take (np + 1)).reverse, st.drop (np + 1)) else none)
/-- is this the object for a method of class c? -/
def pIs (h : pH) (c : Nat) (v : Value) : Bool := match v with
  | .ref a => if a < 2 then decide (c = 13) else (match pAt h a with
      | some (.inl (ci, _)) => decide (ci = c)
      | _ => false)
  | _ => false
def pInvoke (call : Nat → List Value → pH → Option pR) (cls idx kd : Nat) (st : List Value) (h : pH) : Option (List Value × pH × Nat × Nat) := match pFind pMl cls idx with
  | none => none
  | some (mn, _) => (match pMq[mn]? with
    | none => none
    | some M => if M.1.2.2.2.2.2 = kd then (match pArgs M.1.2.2.2.2.1 kd st with
        | none => none
        | some (as, rest) => if 8 < (rest.map fun v => v.category).sum ∨ (kd ≠ 1 ∧ pIs h M.1.2.1 (as.headD .null) = false) then none
          else (call mn as h).map (fun r => (r.1.toList ++ rest, r.2)))
      else none)
/-- Math.max (0), Math.min -/
def pMaxMin (w : Nat) (st : List Value) : Option (List Value) := match st with
  | .int y :: .int x :: r => if (r.map fun v => v.category).sum ≤ 8 then some (.int (if w = 0 then (if x < y then y else x) else (if y < x then y else x)) :: r) else none
  | _ => none
/-- a call of any kind -/
def pcalls (call : Nat → List Value → pH → Option pR) (nat : Bool) (cls : Nat) (i : Instr) (st : List Value) (h : pH) : Option (List Value × pH × Nat × Nat) := match i with
  | .invokevirtual n => pInvoke call cls n 0 st h
  | .invokestatic n => (match pFind pAc cls n with
      | some _ => if nat = true then (pCopy st h).map (fun q => (q.1, q.2, 0, 0)) else none
      | none => (match pFind pMx cls n with
          | some (w, _) => if nat = true then (pMaxMin w st).map (fun r => (r, h, 0, 0)) else none
          | none => pInvoke call cls n 1 st h))
  | .invokespecial n => (match pFind pOb cls n with
      | some _ => (match st with
          | .ref a :: r => if nat = true ∧ 6 ≤ a ∧ (r.map fun v => v.category).sum ≤ 8 then some (r, h, 0, 0) else none
          | _ => none)
      | none => pInvoke call cls n 2 st h)
  | _ => none
/-- a body: k instructions at most; nat: may natives be called here (there is a frame left) -/
def prun (X : pX) (call : Nat → List Value → pH → Option pR) (nat : Bool) (cls : Nat) (ini : Bool) (cc : ByteArray) (nL : Nat) (ret : Option FieldType) : Nat → Nat → pL → List Value → pH → Nat → Nat → Option pR
  | 0, _, _, _, _, _, _ => none
  | k + 1, pc, lv, st, h, nc, ns => match decode cc pc with
    | .error _ => none
    | .ok (i, len) => if pLenOk i len = true then (match pret ret i st with
        | some v => some (v, h, nc, ns)
        | none => (match pstep X cls ini nL i pc lv st h with
          | some (pc', lv', st', h') => prun X call nat cls ini cc nL ret k pc' lv' st' h' nc ns
          | none => (match pmake cls i pc st h with
            | some (pc', st', h', dc, ds) => prun X call nat cls ini cc nL ret k pc' lv st' h' (nc + dc) (ns + ds)
            | none => (match pcalls call nat cls i st h with
              | some (st', h', dc, ds) => prun X call nat cls ini cc nL ret k (pc + 3) lv st' h' (nc + dc) (ns + ds)
              | none => none))))
      else none
/-- a method's body from its entry -/
def pbody (X : pX) (K : Nat) (call : Nat → List Value → pH → Option pR) (nat : Bool) (mn : Nat) (as : List Value) (h : pH) : Option pR := match pMq[mn]? with
  | none => none
  | some M => if (lg_sl as).length ≤ M.1.2.2.1 then prun X call nat M.1.2.1 (decide (M.1.2.2.2.2.2 = 2)) (pCd M.2.1) M.1.2.2.1 M.1.2.2.2.1 K 0 (lv_args 0 as) [] h 0 0 else none
/-- a method, calls at most n deep -/
def pcall (X : pX) (K : Nat) : Nat → Nat → List Value → pH → Option pR
  | 0 => fun mn as h => pbody X K (fun _ _ _ => none) false mn as h
  | n + 1 => fun mn as h => pbody X K (pcall X K n) true mn as h
