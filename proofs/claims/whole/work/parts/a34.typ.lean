/-! ===== TYPES: what an expression is, what a statement does to the variables ===== -/
/-- the variables told (names, types), whether this point is never reached, which are set -/
abbrev EnvV : Type := List (List Int32 × Nat) × Bool × (Nat → Bool)
def EnvV.nm (E : EnvV) (i : Nat) : List Int32 := match E.1[i]? with
  | some x => x.1
  | none => []
def EnvV.tyv (E : EnvV) (i : Nat) : Nat := match E.1[i]? with
  | some x => x.2
  | none => 5
def EnvV.fnd (E : EnvV) (w : List Int32) : Option Nat := fstN (fun i => decide (E.nm i = w)) E.1.length 0
def EnvV.isS (E : EnvV) (i : Nat) : Bool := E.2.1 || E.2.2 i
def EnvV.add (E : EnvV) (w : List Int32) (t : Nat) (s : Bool) : EnvV := (E.1 ++ [(w, t)], E.2.1, fun j => if j = E.1.length then s else E.2.2 j)
def EnvV.give (E : EnvV) (i : Nat) : EnvV := (E.1, E.2.1, fun j => if j = i then true else E.2.2 j)
def EnvV.stop (E : EnvV) : EnvV := (E.1, true, E.2.2)
def EnvV.join (E E1 E2 : EnvV) : EnvV := (E.1, E1.2.1 && E2.2.1, fun i => E1.isS i && E2.isS i)
def tS (t : Nat) : Option (List Nat) := if t = 5 then none else some [t]
def Pgm.mty (P : Pgm) (m : Nat) : Nat := match P.ms[m]? with
  | some b => P.rt b.2.1
  | none => 5
/-- the field of that name in what t is -/
def Pgm.fldT (P : Pgm) (w : List Int32) (t : Nat) : Option Nat := if t < 10 then none else P.had false w (t - 10)
def Pgm.fT (P : Pgm) : Option Nat → Option (List Nat)
  | none => none
  | some m => tS (P.mty m)
def Pgm.nmT (P : Pgm) (c : Nat) (E : EnvV) (w : List Int32) : Option (List Nat) := match E.fnd w with
  | some i => if E.isS i = true then tS (E.tyv i) else none
  | none => P.fT (P.fldT w (10 + c))
def Pgm.dotT (P : Pgm) (w : List Int32) (t : Nat) : Option (List Nat) := if t = 2 ∧ w = knW 7 then some [0] else P.fT (P.fldT w t)
def Pgm.clsT (P : Pgm) (w : List Int32) : Option (List Nat) := match P.fnd w with
  | some d => some [10 + d]
  | none => none
def obT (t : Nat) : Bool := decide (t = 4 ∨ 10 ≤ t)
def rfT (t : Nat) : Bool := decide (t = 2 ∨ t = 4 ∨ 10 ≤ t)
def Pgm.cmpT (P : Pgm) (t u : Nat) : Bool := if t = 0 ∨ t = 1 then decide (t = u) else rfT t && (rfT u && (P.sub t u || P.sub u t))
def lget (l : List Nat) (i : Nat) : Nat := match l[i]? with
  | some t => t
  | none => 5
/-- the arguments' types fit -/
def Pgm.argT (P : Pgm) (b : Mb) (l : List Nat) : Bool := decide (mbP b = l.length) && (fstN (fun i => !P.sub (lget l i) (P.rt (px b i).1)) (mbP b) 0).isNone
def Pgm.callT (P : Pgm) (w : List Int32) : List Nat → Option (List Nat)
  | [] => none
  | r :: l => if r < 10 then none else match P.had true w (r - 10) with
    | none => none
    | some m => match P.ms[m]? with
      | none => none
      | some b => if P.argT b l = true then tS (P.rt b.2.1) else none
/-- the two parts' types are such; then it is u -/
def eqT (l m : List Nat) (u : Nat) : Option (List Nat) := if l = m then some [u] else none
def Pgm.opT (P : Pgm) (c : Nat) (E : EnvV) (k w : Nat) (l : List Nat) : Option (List Nat) :=
  if k = 70 then some l
  else if k = 50 ∨ k = 4 then some [10 + c]
  else if k = 1 ∨ k = 5 then some [0]
  else if k = 2 then some [1]
  else if k = 3 then some [4]
  else if k = 6 then P.nmT c E (P.1 w)
  else if k = 13 then P.clsT (P.1 w)
  else if k = 30 then P.callT (P.1 w) l
  else if k = 9 then (match l with
    | [t] => P.dotT (P.1 w) t
    | _ => none)
  else if k = 15 then (match l with
    | [t] => if obT t = true then P.clsT (P.1 w) else none
    | _ => none)
  else if k = 16 then (match l with
    | [t] => if obT t = true then (if (P.fnd (P.1 w)).isSome = true then some [1] else none) else none
    | _ => none)
  else if k = 12 then eqT l [2, 0] 0
  else if k = 14 then eqT l [0] 2
  else if k = 17 then eqT l [0] 0
  else if k = 18 then eqT l [1] 1
  else if k = 28 ∨ k = 29 then eqT l [1, 1] 1
  else if k = 24 ∨ k = 25 then eqT l [0, 0] 1
  else if k = 26 ∨ k = 27 then (match l with
    | [t, u] => if P.cmpT t u = true then some [1] else none
    | _ => none)
  else eqT l [0, 0] 0
/-- the types that the tree leaves: none where it is not fine -/
def Pgm.te (P : Pgm) (c : Nat) (E : EnvV) : Tr → Option (List Nat)
  | .op (.op (.var k) (.op (.var _) (.var w))) (.op a b) => (Pgm.te P c E a).bind fun x => (Pgm.te P c E b).bind fun y => P.opT c E k w (x ++ y)
  | _ => some []
theorem Pgm.te_nd (P : Pgm) (c : Nat) (E : EnvV) (k v w : Nat) (a b : Tr) : P.te c E (nd k v w a b) = (P.te c E a).bind fun x => (P.te c E b).bind fun y => P.opT c E k w (x ++ y) := rfl
theorem Pgm.te_nl (P : Pgm) (c : Nat) (E : EnvV) : P.te c E nl = some [] := rfl
theorem tS_one {t : Nat} {l : List Nat} (h : tS t = some l) : l = [t] ∧ t ≠ 5 := by
  unfold tS at h
  split at h
  · cases h
  · exact ⟨(Option.some.inj h).symm, by assumption⟩
theorem eqT_one {l m r : List Nat} {u : Nat} (h : eqT l m u = some r) : r = [u] ∧ l = m := by
  unfold eqT at h
  split at h
  · exact ⟨(Option.some.inj h).symm, by assumption⟩
  · cases h
theorem Pgm.fT_one {P : Pgm} {o : Option Nat} {l : List Nat} (h : P.fT o = some l) : ∃ t, l = [t] ∧ t ≠ 5 := by
  cases o with
  | none => cases h
  | some m => exact ⟨_, tS_one h⟩
theorem Pgm.clsT_one {P : Pgm} {w : List Int32} {l : List Nat} (h : P.clsT w = some l) : ∃ t, l = [t] ∧ t ≠ 5 := by
  unfold Pgm.clsT at h
  split at h
  · exact ⟨_, (Option.some.inj h).symm, by omega⟩
  · cases h
theorem Pgm.opT_one {P : Pgm} {c : Nat} {E : EnvV} {k w : Nat} {x l : List Nat} (hk : k ≠ 70) (h : P.opT c E k w x = some l) : ∃ t, l = [t] ∧ t ≠ 5 := by
  unfold Pgm.opT at h
  rw [if_neg hk] at h
  have sm : ∀ {t : Nat}, some [t] = some l → t ≠ 5 → ∃ t, l = [t] ∧ t ≠ 5 := fun z y => ⟨_, (Option.some.inj z).symm, y⟩
  have eq : ∀ {a b : List Nat} {u : Nat}, eqT a b u = some l → u ≠ 5 → ∃ t, l = [t] ∧ t ≠ 5 := fun z y => ⟨_, (eqT_one z).1, y⟩
  by_cases c0 : k = 50 ∨ k = 4
  · rw [if_pos c0] at h
    exact sm h (by omega)
  rw [if_neg c0] at h
  by_cases c1 : k = 1 ∨ k = 5
  · rw [if_pos c1] at h
    exact sm h (by omega)
  rw [if_neg c1] at h
  by_cases c2 : k = 2
  · rw [if_pos c2] at h
    exact sm h (by omega)
  rw [if_neg c2] at h
  by_cases c3 : k = 3
  · rw [if_pos c3] at h
    exact sm h (by omega)
  rw [if_neg c3] at h
  by_cases c4 : k = 6
  · rw [if_pos c4] at h
    unfold Pgm.nmT at h
    split at h
    · split at h
      · exact ⟨_, tS_one h⟩
      · cases h
    · exact Pgm.fT_one h
  rw [if_neg c4] at h
  by_cases c5 : k = 13
  · rw [if_pos c5] at h
    exact Pgm.clsT_one h
  rw [if_neg c5] at h
  by_cases c6 : k = 30
  · rw [if_pos c6] at h
    unfold Pgm.callT at h
    split at h
    · cases h
    · split at h
      · cases h
      · split at h
        · cases h
        · split at h
          · cases h
          · split at h
            · exact ⟨_, tS_one h⟩
            · cases h
  rw [if_neg c6] at h
  by_cases c7 : k = 9
  · rw [if_pos c7] at h
    split at h
    · unfold Pgm.dotT at h
      split at h
      · exact sm h (by omega)
      · exact Pgm.fT_one h
    · cases h
  rw [if_neg c7] at h
  by_cases c8 : k = 15
  · rw [if_pos c8] at h
    split at h
    · split at h
      · exact Pgm.clsT_one h
      · cases h
    · cases h
  rw [if_neg c8] at h
  by_cases c9 : k = 16
  · rw [if_pos c9] at h
    split at h
    · split at h
      · split at h
        · exact sm h (by omega)
        · cases h
      · cases h
    · cases h
  rw [if_neg c9] at h
  by_cases c10 : k = 12
  · rw [if_pos c10] at h
    exact eq h (by omega)
  rw [if_neg c10] at h
  by_cases c11 : k = 14
  · rw [if_pos c11] at h
    exact eq h (by omega)
  rw [if_neg c11] at h
  by_cases c12 : k = 17
  · rw [if_pos c12] at h
    exact eq h (by omega)
  rw [if_neg c12] at h
  by_cases c13 : k = 18
  · rw [if_pos c13] at h
    exact eq h (by omega)
  rw [if_neg c13] at h
  by_cases c14 : k = 28 ∨ k = 29
  · rw [if_pos c14] at h
    exact eq h (by omega)
  rw [if_neg c14] at h
  by_cases c15 : k = 24 ∨ k = 25
  · rw [if_pos c15] at h
    exact eq h (by omega)
  rw [if_neg c15] at h
  by_cases c16 : k = 26 ∨ k = 27
  · rw [if_pos c16] at h
    split at h
    · split at h
      · exact sm h (by omega)
      · cases h
    · cases h
  rw [if_neg c16] at h
  exact eq h (by omega)
/-- an expression leaves one type -/
theorem Ox.te_one {S : Tks} {P : Pgm} {c : Nat} {E : EnvV} {x : Tr} (h : Ox S x) {l : List Nat} (hl : P.te c E x = some l) : ∃ t, l = [t] ∧ t ≠ 5 := by
  obtain ⟨k, v, w, a, b, rfl, h1, h2⟩ := h.nd
  rw [Pgm.te_nd] at hl
  obtain ⟨y, _, hl⟩ := Option.bind_eq_some_iff.mp hl
  obtain ⟨z, _, hl⟩ := Option.bind_eq_some_iff.mp hl
  exact Pgm.opT_one (by omega) hl
