/-! ===== THE MACHINE, as pure functions ===== -/
/-- words: numbers (and truths), null, objects -/
abbrev Vl : Type := Int32 ⊕ Option Nat
/-- objects: their class (none: a row of numbers), their words -/
abbrev Ob : Type := Option Nat × List Vl
/-- what is to be done of an expression: a piece with its numbers, whether it is of this, the types of its parts; or a right side that waits -/
abbrev Xi : Type := (Nat × Nat × Nat × Bool × List Nat) ⊕ (Nat × Tr)
/-- what is to be done of statements: 0 statements, 1 a statement's step, 2 to leave a block, 3 to go round again, 4 a try's end, 5 to drop a call's result -/
abbrev Si : Type := Nat × EnvV × Tr × Bool
/-- an open method: its class, number, this; variables; words of parts (true: told by nobody); the variables' types; what is to be done -/
abbrev Fm : Type := (Nat × Nat × Nat) × List Vl × List (Bool × Vl) × EnvV × List Xi × List Si
/-- objects, input, prints, (steps, cells made, thrown), room -/
abbrev Gs : Type := List Ob × List Int32 × List Int32 × (Nat × Nat × Nat) × Nat
/-- it runs, or it has ended -/
abbrev Mst : Type := Gs × (List Fm ⊕ (Nat × Int32))
def vI : Vl → Int32
  | .inl n => n
  | .inr _ => 0
def bV (b : Bool) : Vl := .inl (if b = true then 1 else 0)
def obF (hp : List Ob) (i j : Nat) : Vl := match hp[i]? with
  | some ob => (ob.2[j]?).getD (.inl 0)
  | none => .inl 0
def obS (hp : List Ob) (i j : Nat) (v : Vl) : List Ob := match hp[i]? with
  | some ob => hp.set i (ob.1, ob.2.set j v)
  | none => hp
def obC (hp : List Ob) (i : Nat) : Option Nat := match hp[i]? with
  | some ob => ob.1
  | none => none
def obL (hp : List Ob) (i : Nat) : Nat := match hp[i]? with
  | some ob => ob.2.length
  | none => 0
def Pgm.foO (P : Pgm) : Option Nat → Nat
  | some m => P.mo m
  | none => 0
def Pgm.isA (P : Pgm) (hp : List Ob) (i : Nat) : Option Nat → Bool
  | some d => match obC hp i with
    | some c => P.und c d
    | none => false
  | none => false
/-- signs with two sides -/
def sgW (k : Nat) (x y : Vl) : Vl ⊕ Nat :=
  if k = 19 then .inl (.inl (vI x * vI y))
  else if k = 20 then (if vI y = 0 then .inr 2 else .inl (.inl (vI x / vI y)))
  else if k = 21 then (if vI y = 0 then .inr 2 else .inl (.inl (vI x - vI x / vI y * vI y)))
  else if k = 22 then .inl (.inl (vI x + vI y))
  else if k = 23 then .inl (.inl (vI x - vI y))
  else if k = 24 then .inl (bV (decide (vI x < vI y)))
  else if k = 25 then .inl (bV (decide (vI x ≤ vI y)))
  else if k = 26 then .inl (bV (decide (x = y)))
  else .inl (bV (decide (x ≠ y)))
/-- what a piece comes to: a word, or a fault -/
def Pgm.wkV (P : Pgm) (c : Nat) (E : EnvV) (se : Nat) (lo : List Vl) (hp : List Ob) (k v w : Nat) (l : List Nat) (x y : Vl) : Vl ⊕ Nat :=
  if k = 1 ∨ k = 2 then .inl (.inl (Int32.ofNat v))
  else if k = 3 then .inl (.inr none)
  else if k = 4 then .inl (.inr (some se))
  else if k = 6 then .inl (match E.fnd (P.1 w) with
    | some i => (lo[i]?).getD (.inl 0)
    | none => obF hp se (P.foO (P.fldT (P.1 w) (10 + c))))
  else if k = 9 then (match x with
    | .inr (some i) => if lget l 0 = 2 ∧ P.1 w = knW 7 then .inl (.inl (Int32.ofNat (obL hp i))) else .inl (obF hp i (P.foO (P.fldT (P.1 w) (lget l 0))))
    | _ => .inr 0)
  else if k = 12 then (match x with
    | .inr (some i) => if 0 ≤ vI y ∧ vI y < Int32.ofNat (obL hp i) then .inl (obF hp i (vI y).toNatClampNeg) else .inr 1
    | _ => .inr 0)
  else if k = 15 then (match x with
    | .inr (some i) => if P.isA hp i (P.fnd (P.1 w)) = true then .inl x else .inr 3
    | _ => .inl x)
  else if k = 16 then (match x with
    | .inr (some i) => .inl (bV (P.isA hp i (P.fnd (P.1 w))))
    | _ => .inl (bV false))
  else if k = 17 then .inl (.inl (-(vI x)))
  else if k = 18 then .inl (bV (decide (vI x = 0)))
  else sgW k x y
/-- an expression's pieces, one behind the other -/
def Pgm.flX (P : Pgm) (c : Nat) (E : EnvV) : Tr → List Xi
  | .op (.op (.var k) (.op (.var v) (.var w))) (.op a b) => if k = 28 ∨ k = 29 then Pgm.flX P c E a ++ [.inr (k, b)] else if k = 70 then Pgm.flX P c E a ++ Pgm.flX P c E b else Pgm.flX P c E a ++ (Pgm.flX P c E b ++ [.inl (k, v, w, ownT a, (P.te c E a).getD [] ++ (P.te c E b).getD [])])
  | _ => []
theorem Pgm.flX_nd (P : Pgm) (c : Nat) (E : EnvV) (k v w : Nat) (a b : Tr) : P.flX c E (nd k v w a b) = if k = 28 ∨ k = 29 then P.flX c E a ++ [.inr (k, b)] else if k = 70 then P.flX c E a ++ P.flX c E b else P.flX c E a ++ (P.flX c E b ++ [.inl (k, v, w, ownT a, (P.te c E a).getD [] ++ (P.te c E b).getD [])]) := rfl
theorem Pgm.flX_no {P : Pgm} {c : Nat} {E : EnvV} {e : Tr} (he : ∀ k v w a b, e ≠ nd k v w a b) : P.flX c E e = [] := by
  unfold Pgm.flX
  split
  · exact absurd rfl (he _ _ _ _ _)
  · rfl
def ckE (E : EnvV) : CkR → EnvV
  | .inl _ => E
  | .inr E' => E'
/-- the variables behind the first statement -/
def Pgm.nxE (P : Pgm) (c mt : Nat) : Tr → EnvV → EnvV := foldB (fun E => E) (fun E => E)
  (fun _ y w _ _ E => E.add (P.1 w) (P.rt y) false)
  (fun _ y w _ _ _ E => E.add (P.1 w) (P.rt y) true)
  (fun _ x e _ _ E => (P.gvE c E x e).getD E)
  (fun _ _ a _ h b _ _ _ E => if h = 1 then E.join (ckE E (P.chk c mt a E)) (ckE E (P.chk c mt b E)) else E)
  (fun _ _ _ _ _ _ E => E)
  (fun _ a _ cw w b _ _ _ E => E.join (ckE E (P.chk c mt a E)) (ckE E (P.chk c mt b ((P.ctE E cw w).getD E))))
  (fun _ k e _ _ E => (P.wkE c mt E k e).getD E)
/-- statements begin: variables, their types, pieces, what is to be done -/
def Pgm.stU (P : Pgm) (c mt : Nat) : Tr → EnvV → List Vl → List Si → List Vl × EnvV × List Xi × List Si := foldB (fun E lo ks => (lo, E, [], ks)) (fun E lo ks => (lo, E, [], ks))
  (fun p y w r _ E lo ks => (lo ++ [.inl 0], P.nxE c mt (bTell p y w r) E, [], (0, P.nxE c mt (bTell p y w r) E, r, false) :: ks))
  (fun p y w e r _ E lo ks => (lo, E, P.flX c E e, (1, E, bTellv p y w e r, false) :: (0, P.nxE c mt (bTellv p y w e r) E, r, false) :: ks))
  (fun p x e r _ E lo ks => (lo, E, P.flX c E (nd 70 0 0 (pp x) e), (1, E, bGive p x e r, false) :: (0, P.nxE c mt (bGive p x e r) E, r, false) :: ks))
  (fun p e a _ h b _ r _ E lo ks => (lo, E, P.flX c E e, (1, E, bIte p e a h b r, false) :: (0, P.nxE c mt (bIte p e a h b r) E, r, false) :: ks))
  (fun p e a _ r _ E lo ks => (lo, E, P.flX c E e, (1, E, bWhil p e a r, false) :: (0, P.nxE c mt (bWhil p e a r) E, r, false) :: ks))
  (fun p a _ cw w b _ r _ E lo ks => (lo, E, [], (0, E, a, false) :: (2, P.nxE c mt (bTry p a cw w b r) E, nl, false) :: (4, E, bTry p a cw w b r, false) :: (0, P.nxE c mt (bTry p a cw w b r) E, r, false) :: ks))
  (fun p k e r _ E lo ks => (lo, E, P.flX c E e, (if k = 52 then (5, E, nl, decide (P.te c E e = some [3])) else (1, E, nd k p 0 e r, false)) :: (0, P.nxE c mt (nd k p 0 e r) E, r, false) :: ks))
/-- a method returns -/
def retM (G : Gs) (z : Bool) (v : Vl) : List Fm → Mst
  | [] => (G, .inr (1, vI v))
  | (i, lo, ops, E, xs, ks) :: fs => (G, .inl ((i, lo, (z, v) :: ops, E, xs, ks) :: fs))
/-- a try's class, name, catch -/
def tryI : Tr → Nat × Nat × Tr := foldB (0, 0, nl) (0, 0, nl) (fun _ _ _ _ _ => (0, 0, nl)) (fun _ _ _ _ _ _ => (0, 0, nl)) (fun _ _ _ _ _ => (0, 0, nl)) (fun _ _ _ _ _ _ _ _ _ => (0, 0, nl)) (fun _ _ _ _ _ _ => (0, 0, nl)) (fun _ _ _ cw w b _ _ _ => (cw, w, b)) (fun _ _ _ _ _ => (0, 0, nl))
/-- the try that catches -/
def Pgm.thK (P : Pgm) (d : Nat) : List Si → Option (EnvV × Tr × List Si)
  | [] => none
  | (k, E, b, _) :: ks => if k = 4 then (match P.fnd (P.1 (tryI b).1) with
    | some e => if P.und d e = true then some (E, b, ks) else Pgm.thK P d ks
    | none => Pgm.thK P d ks) else Pgm.thK P d ks
def Pgm.lnd (P : Pgm) (o : Nat) (i : Nat × Nat × Nat) (lo : List Vl) (E : EnvV) (b : Tr) (ks : List Si) : Fm := (i, lo.take E.1.length ++ [.inr (some o)], [], (P.ctE E (tryI b).1 (tryI b).2.1).getD E, [], (0, (P.ctE E (tryI b).1 (tryI b).2.1).getD E, (tryI b).2.2, false) :: (2, P.nxE i.1 (P.mty i.2.1) b E, nl, false) :: ks)
def Pgm.thF (P : Pgm) (d o : Nat) : List Fm → Option (List Fm)
  | [] => none
  | (i, lo, _, _, _, ks) :: fs => match P.thK d ks with
    | some (E, b, ks') => some (P.lnd o i lo E b ks' :: fs)
    | none => Pgm.thF P d o fs
/-- an object is thrown -/
def Pgm.thr (P : Pgm) (G : Gs) (o : Nat) (fs : List Fm) : Mst := match P.thF ((obC G.1 o).getD 0) o fs with
  | some fs' => ((G.1, G.2.1, G.2.2.1, (G.2.2.2.1.1, G.2.2.2.1.2.1, G.2.2.2.1.2.2 + 1), G.2.2.2.2), .inl fs')
  | none => ((G.1, G.2.1, G.2.2.1, (G.2.2.2.1.1, G.2.2.2.1.2.1, G.2.2.2.1.2.2 + 1), G.2.2.2.2), .inr (2, Int32.ofNat ((obC G.1 o).getD 0)))
def rootF (f : Fm) (i : Nat) : Prop := i = f.1.2.2 ∨ Sum.inr (some i) ∈ f.2.1 ∨ ∃ z, (z, Sum.inr (some i)) ∈ f.2.2.1
/-- what can be reached -/
def Rch (hp : List Ob) (fs : List Fm) (i : Nat) : Prop := ∀ S : Nat → Prop, (∀ f, f ∈ fs → ∀ j, rootF f j → S j) → (∀ j ob, S j → hp[j]? = some ob → ∀ x, Sum.inr (some x) ∈ ob.2 → S x) → S i
def sumN (f : Nat → Nat) : Nat → Nat
  | 0 => 0
  | n + 1 => sumN f n + f n
/-- the cells of what is in S -/
noncomputable def cellN (hp : List Ob) (S : Nat → Prop) : Nat := sumN (fun i => @ite Nat (5 ≤ i ∧ S i) (Classical.propDecidable _) (2 + obL hp i) 0) hp.length
noncomputable def rcl (hp : List Ob) (fs : List Fm) : Nat := cellN hp (Rch hp fs)
/-- the fields' types of a class -/
def Pgm.ofl (P : Pgm) : Nat → Nat → List Nat
  | 0, _ => []
  | d + 1, i => if P.isF i = true then P.mty i :: Pgm.ofl P d (i + 1) else Pgm.ofl P d (i + 1)
def Pgm.ftF (P : Pgm) : Nat → Nat → List Nat
  | 0, _ => []
  | f + 1, c => (match P.par c with
    | none => []
    | some d => Pgm.ftF P f d) ++ P.ofl (P.mf (c + 1) - P.mf c) (P.mf c)
def Pgm.fts (P : Pgm) (c : Nat) : List Nat := P.ftF P.n c
def dfl (t : Nat) : Vl := if t = 0 ∨ t = 1 then .inl 0 else .inr none
/-- a new object, if there is room -/
noncomputable def mkO (G : Gs) (i : Nat × Nat × Nat) (lo : List Vl) (ops : List (Bool × Vl)) (E : EnvV) (xs : List Xi) (ks : List Si) (fs : List Fm) (ob : Ob) : Mst :=
  if rcl G.1 ((i, lo, ops, E, xs, ks) :: fs) + (2 + ob.2.length) ≤ G.2.2.2.2 then ((G.1 ++ [ob], G.2.1, G.2.2.1, (G.2.2.2.1.1, G.2.2.2.1.2.1 + (2 + ob.2.length), G.2.2.2.1.2.2), G.2.2.2.2), .inl ((i, lo, (false, .inr (some G.1.length)) :: ops, E, xs, ks) :: fs))
  else (G, .inr (3, 0))
/-- a method opens -/
def Pgm.newF (P : Pgm) (m o : Nat) (as : List Vl) : Fm := match P.ms[m]? with
  | some b => ((P.ow m, m, o), as, [], P.e0 b, [], [(0, P.e0 b, mbB b, false)])
  | none => ((P.ow m, m, o), as, [], ([], false, fun _ => false), [], [])
def Pgm.calM (P : Pgm) (G : Gs) (w : Nat) (as : List Vl) (r : Vl) (fs fs' : List Fm) : Mst := match r with
  | .inr (some o) => if fs'.length = 100 then (G, .inr (4, 0)) else (G, .inl (P.newF ((P.had true (P.1 w) ((obC G.1 o).getD 0)).getD 0) o as :: fs'))
  | _ => P.thr G 0 fs
def opV (ops : List (Bool × Vl)) (j : Nat) : Vl := match ops[j]? with
  | some x => x.2
  | none => .inl 0
/-- a piece that is a step -/
noncomputable def Pgm.actX (P : Pgm) (G : Gs) (i : Nat × Nat × Nat) (lo : List Vl) (ops : List (Bool × Vl)) (E : EnvV) (k v w : Nat) (l : List Nat) (xs : List Xi) (ks : List Si) (fs : List Fm) : Mst :=
  if k = 5 then ((G.1, G.2.1.tail, G.2.2), .inl ((i, lo, (false, .inl (G.2.1.headD 0)) :: ops, E, xs, ks) :: fs))
  else if k = 13 then mkO G i lo ops E xs ks fs (P.fnd (P.1 w), (P.fts ((P.fnd (P.1 w)).getD 0)).map dfl)
  else if k = 14 then (if vI (opV ops 0) < 0 then P.thr G 4 ((i, lo, ops, E, xs, ks) :: fs) else mkO G i lo (ops.drop 1) E xs ks fs (none, List.replicate (vI (opV ops 0)).toNatClampNeg (.inl 0)))
  else if k = 30 then P.calM G w ((ops.take v).map Prod.snd).reverse (opV ops v) ((i, lo, ops, E, xs, ks) :: fs) ((i, lo, ops.drop (v + 1), E, xs, ks) :: fs)
  else match P.wkV i.1 E i.2.2 lo G.1 k v w l (opV ops (l.length - 1)) (opV ops 0) with
    | .inl x => (G, .inl ((i, lo, (false, x) :: ops.drop l.length, E, xs, ks) :: fs))
    | .inr n => P.thr G n ((i, lo, ops, E, xs, ks) :: fs)
/-- the left side is there -/
def Pgm.actH (P : Pgm) (G : Gs) (i : Nat × Nat × Nat) (lo : List Vl) (ops : List (Bool × Vl)) (E : EnvV) (k : Nat) (b : Tr) (xs : List Xi) (ks : List Si) (fs : List Fm) : Mst :=
  if (k = 28 ∧ vI (opV ops 0) = 0) ∨ (k ≠ 28 ∧ vI (opV ops 0) ≠ 0) then (G, .inl ((i, lo, ops, E, .inl (51, 0, 0, false, []) :: xs, ks) :: fs))
  else (G, .inl ((i, lo, ops.drop 1, E, P.flX i.1 E b ++ .inl (51, 0, 0, false, []) :: xs, ks) :: fs))
/-- what is given -/
def Pgm.givM (P : Pgm) (G : Gs) (i : Nat × Nat × Nat) (lo : List Vl) (ops : List (Bool × Vl)) (E E1 : EnvV) (x : Tr) (ks : List Si) (fs : List Fm) : Mst :=
  if gk x = 31 then (match E.fnd (P.1 (gw x)) with
    | some j => (G, .inl ((i, lo.set j (opV ops 0), ops.drop 1, E1, [], ks) :: fs))
    | none => ((obS G.1 i.2.2 (P.foO (P.fldT (P.1 (gw x)) (10 + i.1))) (opV ops 0), G.2), .inl ((i, lo, ops.drop 1, E1, [], ks) :: fs)))
  else if gk x = 34 then (match opV ops 1 with
    | .inr (some o) => ((obS G.1 o (P.foO (P.fldT (P.1 (gw x)) (lget ((P.plT i.1 E x).getD []) 0))) (opV ops 0), G.2), .inl ((i, lo, ops.drop 2, E1, [], ks) :: fs))
    | _ => P.thr G 0 ((i, lo, ops, E, [], ks) :: fs))
  else (match opV ops 2 with
    | .inr (some o) => if 0 ≤ vI (opV ops 1) ∧ vI (opV ops 1) < Int32.ofNat (obL G.1 o) then ((obS G.1 o (vI (opV ops 1)).toNatClampNeg (opV ops 0), G.2), .inl ((i, lo, ops.drop 3, E1, [], ks) :: fs)) else P.thr G 1 ((i, lo, ops, E, [], ks) :: fs)
    | _ => P.thr G 0 ((i, lo, ops, E, [], ks) :: fs))
/-- a statement's step -/
def Pgm.actS (P : Pgm) (G : Gs) (i : Nat × Nat × Nat) (lo : List Vl) (ops : List (Bool × Vl)) (fs : List Fm) : Tr → EnvV → List Si → Mst := foldB (fun E ks => (G, .inl ((i, lo, ops, E, [], ks) :: fs))) (fun E ks => (G, .inl ((i, lo, ops, E, [], ks) :: fs)))
  (fun _ _ _ _ _ E ks => (G, .inl ((i, lo, ops, E, [], ks) :: fs)))
  (fun p y w e r _ E ks => (G, .inl ((i, lo ++ [opV ops 0], ops.drop 1, P.nxE i.1 (P.mty i.2.1) (bTellv p y w e r) E, [], ks) :: fs)))
  (fun p x e r _ E ks => P.givM G i lo ops E (P.nxE i.1 (P.mty i.2.1) (bGive p x e r) E) x ks fs)
  (fun p e a _ h b _ r _ E ks => (G, .inl ((i, lo, ops.drop 1, E, [], (0, E, if vI (opV ops 0) ≠ 0 then a else b, false) :: (2, P.nxE i.1 (P.mty i.2.1) (bIte p e a h b r) E, nl, false) :: ks) :: fs)))
  (fun p e a _ r _ E ks => if vI (opV ops 0) ≠ 0 then (G, .inl ((i, lo, ops.drop 1, E, [], (0, E, a, false) :: (3, E, bWhil p e a r, false) :: ks) :: fs)) else (G, .inl ((i, lo, ops.drop 1, E, [], ks) :: fs)))
  (fun _ _ _ _ _ _ _ _ _ E ks => (G, .inl ((i, lo, ops, E, [], ks) :: fs)))
  (fun p k e r _ E ks => if k = 40 then retM G true (.inl 0) fs
    else if k = 41 then retM G false (opV ops 0) fs
    else if k = 42 then (match opV ops 0 with
      | .inr (some o) => P.thr G o ((i, lo, ops, E, [], ks) :: fs)
      | _ => P.thr G 0 ((i, lo, ops, E, [], ks) :: fs))
    else ((G.1, G.2.1, G.2.2.1 ++ [vI (opV ops 0)], G.2.2.2), .inl ((i, lo, ops.drop 1, P.nxE i.1 (P.mty i.2.1) (nd k p 0 e r) E, [], ks) :: fs)))
def cntS (G : Gs) : Gs := (G.1, G.2.1, G.2.2.1, (G.2.2.2.1.1 + 1, G.2.2.2.1.2), G.2.2.2.2)
/-- a step -/
noncomputable def Pgm.act (P : Pgm) (G : Gs) : Fm → List Fm → Mst
  | (i, lo, ops, E, .inl (k, v, w, _, l) :: xs, ks), fs => P.actX G i lo ops E k v w l xs ks fs
  | (i, lo, ops, E, .inr (k, b) :: xs, ks), fs => P.actH G i lo ops E k b xs ks fs
  | (i, lo, ops, E, [], (k, E', b, z) :: ks), fs => P.actS G i lo ops fs b E' ks
  | f, fs => (G, .inl (f :: fs))
/-- what goes round again -/
def whlE : Tr → Tr := foldB nl nl (fun _ _ _ _ _ => nl) (fun _ _ _ _ _ _ => nl) (fun _ _ _ _ _ => nl) (fun _ _ _ _ _ _ _ _ _ => nl) (fun _ e _ _ _ _ => e) (fun _ _ _ _ _ _ _ _ _ => nl) (fun _ _ _ _ _ => nl)
/-- what is no step -/
def Pgm.sil (P : Pgm) (G : Gs) : Fm → List Fm → Option Mst
  | (i, lo, ops, E, .inl (k, v, w, s, l) :: xs, ks), fs => if k = 50 then some (G, .inl ((i, lo, (true, .inr (some i.2.2)) :: ops, E, xs, ks) :: fs)) else if k = 51 then some (G, .inl ((i, lo, ops, E, xs, ks) :: fs)) else none
  | (_, _, _, _, .inr _ :: _, _), _ => none
  | (_, _, _, _, [], []), fs => some (retM G true (.inl 0) fs)
  | (i, lo, ops, E, [], (k, E', b, _) :: ks), fs =>
    if k = 0 then some (G, .inl ((i, (P.stU i.1 (P.mty i.2.1) b E' lo ks).1, ops, (P.stU i.1 (P.mty i.2.1) b E' lo ks).2) :: fs))
    else if k = 2 then some (G, .inl ((i, lo.take E'.1.length, ops, E', [], ks) :: fs))
    else if k = 3 then some (G, .inl ((i, lo.take E'.1.length, ops, E', P.flX i.1 E' (whlE b), (1, E', b, false) :: ks) :: fs))
    else if k = 4 then some (G, .inl ((i, lo, ops, E, [], ks) :: fs))
    else if k = 5 then some (G, .inl ((i, lo, ops.drop 1, E, [], ks) :: fs))
    else none
/-- n moves that are no steps, and then there is none -/
def Pgm.Sls (P : Pgm) : Nat → Mst → Mst → Prop
  | 0, σ, τ => σ = τ ∧ match σ with
    | (G, .inl (f :: fs)) => P.sil G f fs = none
    | _ => True
  | n + 1, σ, τ => match σ with
    | (G, .inl (f :: fs)) => match P.sil G f fs with
      | some σ' => Pgm.Sls P n σ' τ
      | none => False
    | _ => False
