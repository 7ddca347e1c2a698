/-! ===== STATEMENTS: what they do to the variables, and where the first bad one stands ===== -/
def Pgm.subO (P : Pgm) (t : Nat) : Option Nat → Bool
  | none => false
  | some m => P.sub t (P.mty m)
/-- the parts of a place -/
def Pgm.plT (P : Pgm) (c : Nat) (E : EnvV) : Tr → Option (List Nat)
  | .op (.op (.var _) (.op (.var _) (.var _))) (.op a b) => (P.te c E a).bind fun x => (P.te c E b).bind fun y => some (x ++ y)
  | _ => none
theorem Pgm.plT_nd (P : Pgm) (c : Nat) (E : EnvV) (k v w : Nat) (a b : Tr) : P.plT c E (nd k v w a b) = (P.te c E a).bind fun x => (P.te c E b).bind fun y => some (x ++ y) := rfl
/-- what is of type t is given to the variable or own field w (31), to the field w of what l is (34), to an element (36) -/
def Pgm.gvX (P : Pgm) (c : Nat) (E : EnvV) (k : Nat) (w : List Int32) (l : List Nat) (t : Nat) : Option EnvV :=
  if k = 31 then (match E.fnd w with
    | some i => if P.sub t (E.tyv i) = true then some (E.give i) else none
    | none => if P.subO t (P.fldT w (10 + c)) = true then some E else none)
  else if k = 34 then (match l with
    | [u] => if P.subO t (P.fldT w u) = true then some E else none
    | _ => none)
  else if l = [2, 0] ∧ t = 0 then some E else none
def hdO {α : Type} : List Nat → (Nat → Option α) → Option α
  | [t], f => f t
  | _, _ => none
def Pgm.gvE (P : Pgm) (c : Nat) (E : EnvV) (x e : Tr) : Option EnvV := (P.plT c E x).bind fun l => (P.te c E e).bind fun m => hdO m fun t => P.gvX c E (gk x) (P.1 (gw x)) l t
/-- return, throw, print, call -/
def Pgm.wkX (P : Pgm) (mt : Nat) (E : EnvV) (k t : Nat) : Option EnvV :=
  if k = 41 then (if mt ≠ 3 ∧ P.sub t mt = true then some E.stop else none)
  else if k = 42 then (if 10 ≤ t then some E.stop else none)
  else if k = 43 then (if t = 0 ∨ t = 1 then some E else none)
  else some E
def Pgm.wkE (P : Pgm) (c mt : Nat) (E : EnvV) (k : Nat) (e : Tr) : Option EnvV := if k = 40 then (if mt = 3 then some E.stop else none) else (P.te c E e).bind fun m => hdO m fun t => P.wkX mt E k t
def Pgm.tlX (P : Pgm) (E : EnvV) (y w : Nat) (s : Bool) : Option EnvV := if P.rt y ≠ 5 ∧ E.fnd (P.1 w) = none then some (E.add (P.1 w) (P.rt y) s) else none
def Pgm.tvE (P : Pgm) (c : Nat) (E : EnvV) (y w : Nat) (e : Tr) : Option EnvV := (P.te c E e).bind fun m => hdO m fun t => if P.sub t (P.rt y) = true then P.tlX E y w true else none
def Pgm.bcE (P : Pgm) (c : Nat) (E : EnvV) (e : Tr) : Option EnvV := if P.te c E e = some [1] then some E else none
def Pgm.ctE (P : Pgm) (E : EnvV) (cw w : Nat) : Option EnvV := (P.fnd (P.1 cw)).bind fun d => if E.fnd (P.1 w) = none then some (E.add (P.1 w) (10 + d) true) else none
abbrev CkR : Type := Nat ⊕ EnvV
def oS (p : Nat) : Option EnvV → CkR
  | none => .inl p
  | some E => .inr E
def sB : CkR → (EnvV → CkR) → CkR
  | .inl p, _ => .inl p
  | .inr E, f => f E
theorem sB_l (p : Nat) (f : EnvV → CkR) : sB (.inl p) f = .inl p := rfl
theorem sB_r (E : EnvV) (f : EnvV → CkR) : sB (.inr E) f = f E := rfl
def Pgm.chk (P : Pgm) (c mt : Nat) : Tr → EnvV → CkR := foldB (fun E => .inr E) (fun E => .inr E)
  (fun p y w _ R E => sB (oS p (P.tlX E y w false)) R)
  (fun p y w e _ R E => sB (oS p (P.tvE c E y w e)) R)
  (fun p x e _ R E => sB (oS p (P.gvE c E x e)) R)
  (fun p e _ A h _ B _ R E => sB (oS p (P.bcE c E e)) fun _ => sB (A E) fun E1 => if h = 1 then sB (B E) fun E2 => R (E.join E1 E2) else R E)
  (fun p e _ A _ R E => sB (oS p (P.bcE c E e)) fun _ => sB (A E) fun _ => R E)
  (fun p _ A cw w _ B _ R E => sB (A E) fun E1 => sB (oS p (P.ctE E cw w)) fun E0 => sB (B E0) fun E2 => R (E.join E1 E2))
  (fun p k e _ R E => sB (oS p (P.wkE c mt E k e)) R)
theorem Pgm.chk_nl (P : Pgm) (c mt : Nat) (E : EnvV) : P.chk c mt nl E = .inr E := rfl
theorem Pgm.chk_tell (P : Pgm) (c mt p y w : Nat) (r : Tr) (E : EnvV) : P.chk c mt (bTell p y w r) E = sB (oS p (P.tlX E y w false)) (P.chk c mt r) := rfl
theorem Pgm.chk_tellv (P : Pgm) (c mt p y w : Nat) (e r : Tr) (E : EnvV) : P.chk c mt (bTellv p y w e r) E = sB (oS p (P.tvE c E y w e)) (P.chk c mt r) := rfl
theorem Pgm.chk_give (P : Pgm) (c mt p : Nat) (x e r : Tr) (E : EnvV) : P.chk c mt (bGive p x e r) E = sB (oS p (P.gvE c E x e)) (P.chk c mt r) := rfl
theorem Pgm.chk_ite (P : Pgm) (c mt p : Nat) (e a : Tr) (h : Nat) (b r : Tr) (E : EnvV) : P.chk c mt (bIte p e a h b r) E = sB (oS p (P.bcE c E e)) fun _ => sB (P.chk c mt a E) fun E1 => if h = 1 then sB (P.chk c mt b E) fun E2 => P.chk c mt r (E.join E1 E2) else P.chk c mt r E := rfl
theorem Pgm.chk_whil (P : Pgm) (c mt p : Nat) (e a r : Tr) (E : EnvV) : P.chk c mt (bWhil p e a r) E = sB (oS p (P.bcE c E e)) fun _ => sB (P.chk c mt a E) fun _ => P.chk c mt r E := rfl
theorem Pgm.chk_try (P : Pgm) (c mt p : Nat) (a : Tr) (cw w : Nat) (b r : Tr) (E : EnvV) : P.chk c mt (bTry p a cw w b r) E = sB (P.chk c mt a E) fun E1 => sB (oS p (P.ctE E cw w)) fun E0 => sB (P.chk c mt b E0) fun E2 => P.chk c mt r (E.join E1 E2) := rfl
theorem Pgm.chk_ret (P : Pgm) (c mt p : Nat) (r : Tr) (E : EnvV) : P.chk c mt (bRet p r) E = sB (oS p (P.wkE c mt E 40 nl)) (P.chk c mt r) := rfl
theorem Pgm.chk_drop (P : Pgm) (c mt p : Nat) (e r : Tr) (E : EnvV) : P.chk c mt (bDrop p e r) E = sB (oS p (P.wkE c mt E 52 e)) (P.chk c mt r) := rfl
theorem Pgm.chk_w {k : Nat} (hk : k = 41 ∨ k = 42 ∨ k = 43) (P : Pgm) (c mt p : Nat) (e r : Tr) (E : EnvV) : P.chk c mt (bWork p k e r) E = sB (oS p (P.wkE c mt E k e)) (P.chk c mt r) := by
  rcases hk with rfl | rfl | rfl <;> rfl
/-- how many variables it tells; how deep its blocks lie -/
def nv : Tr → Nat := foldB 0 0 (fun _ _ _ _ r => 1 + r) (fun _ _ _ _ _ r => 1 + r) (fun _ _ _ _ r => r) (fun _ _ _ a _ _ b _ r => a + b + r) (fun _ _ _ a _ r => a + r) (fun _ _ a _ _ _ b _ r => 1 + a + b + r) (fun _ _ _ _ r => r)
def dp : Tr → Nat := foldB 0 0 (fun _ _ _ _ r => r) (fun _ _ _ _ _ r => r) (fun _ _ _ _ r => r) (fun _ _ _ a _ _ b _ r => max (max a b + 1) r) (fun _ _ _ a _ r => max (a + 1) r) (fun _ _ a _ _ _ b _ r => max (max a b + 1) r) (fun _ _ _ _ r => r)
/-- names and types stay in front -/
theorem Pfx.refl (E : EnvV) : Pfx E E := by unfold Pfx; rw [List.take_length]
theorem Pfx.trans {E0 E1 E2 : EnvV} (p : Pfx E0 E1) (q : Pfx E1 E2) : Pfx E0 E2 := by
  have h := p.le
  unfold Pfx at p q ⊢
  exact p.trans ((congrArg (fun l => List.take E0.1.length l) q).trans (by
    show List.take E0.1.length (List.take E1.1.length E2.1) = _
    rw [List.take_take]
    congr 1
    omega))
theorem Pfx.add (E : EnvV) (w : List Int32) (t : Nat) (s : Bool) : Pfx E (E.add w t s) := by
  unfold Pfx EnvV.add
  simp
theorem Pfx.same {E E' : EnvV} (h : E'.1 = E.1) : Pfx E E' := by unfold Pfx; rw [h, List.take_length]
