/-! ===== STATEMENTS, MEMBERS AND ALL THAT HOLDS THEM ===== -/
/-- types as they are told: 0 int, 1 bool, 2 ints, 3 void, from 4 on a name, by the word that tells it. Statements: their kind, their place; their parts follow as marks: 80 and 81 blocks, 82 a type, 83 a value, 84 two names. -/
def bTell (p y w : Nat) (r : Tr) : Tr := nd 53 p w nl (nd 82 y 0 nl r)
def bTellv (p y w : Nat) (e r : Tr) : Tr := nd 37 p w e (nd 82 y 0 nl r)
def bRet (p : Nat) (r : Tr) : Tr := nd 40 p 0 nl r
def bWork (p k : Nat) (e r : Tr) : Tr := nd k p 0 e r
def bDrop (p : Nat) (e r : Tr) : Tr := nd 52 p 0 e r
def bGive (p : Nat) (x e r : Tr) : Tr := nd 31 p 0 x (nd 83 0 0 e r)
def bIte (p : Nat) (c a : Tr) (h : Nat) (b r : Tr) : Tr := nd 38 p h c (nd 80 0 0 a (nd 81 0 0 b r))
def bWhil (p : Nat) (c a r : Tr) : Tr := nd 39 p 0 c (nd 80 0 0 a r)
def bTry (p : Nat) (a : Tr) (c w : Nat) (b r : Tr) : Tr := nd 58 p 0 nl (nd 80 0 0 a (nd 84 c w nl (nd 81 0 0 b r)))
/-- these statements, and then z -/
def bSeq : Tr → Tr → Tr
  | .op l (.op a b), z => .op l (.op a (bSeq b z))
  | _, z => z
/-- a member: is it a method, its type, its name, its place, its parameters, its statements, the place of its end -/
abbrev Mb : Type := Bool × Nat × Nat × Nat × List (Nat × Nat) × Tr × Nat
/-- its name, its place, its parent, its members -/
abbrev Cl : Type := Nat × Nat × Option Nat × List Mb
def isPlaceE (e : Tr) : Bool := kd e == 6 || kd e == 9 || kd e == 12
def isCallE (e : Tr) : Bool := kd e == 30
def Tks.ty (S : Tks) (t : Nat) : Option Nat := if S.K t = 2 then some 0 else if S.K t = 3 then some 1 else if S.K t = 4 then some 2 else if S.K t = 22 then some (4 + t) else none
/-- ; -/
def Tks.semi {α : Type} (S : Tks) (a : α) (t : Nat) : Pr α := if S.K t = 59 then ok a (t + 1) else no (S.P t)
/-- does a statement tell a variable here? -/
def Tks.tells (S : Tks) (t : Nat) : Bool := (S.K t = 2 ∨ S.K t = 3 ∨ S.K t = 4) ∨ (S.K t = 22 ∧ S.K (t + 1) = 22)
def Tks.tellS (S : Tks) (r t : Nat) : Pr Tr := match S.ty t with
  | none => no (S.P t)
  | some y => if S.K (t + 1) ≠ 22 then no (S.P (t + 1)) else if S.K (t + 2) = 61 then (S.expr r (t + 3)).bind fun e t' => S.semi (bTellv (S.P t) y (t + 1) e nl) t' else S.semi (bTell (S.P t) y (t + 1) nl) (t + 2)
def Tks.ifS (S : Tks) (r : Nat) (bk : Nat → Pr (Tr × Nat)) (t : Nat) : Pr Tr := (S.brk r (S.expr (r - 1)) 40 41 (t + 1)).bind fun c t1 => (bk t1).bind fun a t2 => if S.K t2 = 7 then (bk (t2 + 1)).bind fun b t3 => ok (bIte (S.P t) c a.1 1 b.1 nl) t3 else ok (bIte (S.P t) c a.1 0 nl nl) t2
def Tks.whileS (S : Tks) (r : Nat) (bk : Nat → Pr (Tr × Nat)) (t : Nat) : Pr Tr := (S.brk r (S.expr (r - 1)) 40 41 (t + 1)).bind fun c t1 => (bk t1).bind fun a t2 => ok (bWhil (S.P t) c a.1 nl) t2
def Tks.tryS (S : Tks) (r : Nat) (bk : Nat → Pr (Tr × Nat)) (t : Nat) : Pr Tr := (bk (t + 1)).bind fun a t1 => if S.K t1 ≠ 12 then no (S.P t1) else if S.K (t1 + 1) ≠ 40 ∨ r = 0 then no (S.P (t1 + 1)) else if S.K (t1 + 2) ≠ 22 then no (S.P (t1 + 2)) else if S.K (t1 + 3) ≠ 22 then no (S.P (t1 + 3)) else if S.K (t1 + 4) ≠ 41 then no (S.P (t1 + 4)) else (bk (t1 + 5)).bind fun b t2 => ok (bTry (S.P t) a.1 (t1 + 2) (t1 + 3) b.1 nl) t2
def Tks.workS (S : Tks) (r : Nat) (k : Nat) (t : Nat) : Pr Tr := (S.expr r (t + 1)).bind fun e t' => S.semi (bWork (S.P t) k e nl) t'
def Tks.placeS (S : Tks) (r t : Nat) : Pr Tr := (S.expr r t).bind fun x t1 => if S.K t1 = 61 ∧ isPlaceE x = true then (S.expr r (t1 + 1)).bind fun y t2 => S.semi (bGive (S.P t) x y nl) t2 else if S.K t1 = 59 ∧ isCallE x = true then ok (bDrop (S.P t) x nl) (t1 + 1) else no (S.P t1)
/-- a STATEMENT with r more levels -/
def Tks.stm (S : Tks) (r : Nat) (bk : Nat → Pr (Tr × Nat)) (t : Nat) : Pr Tr :=
  if S.tells t then S.tellS r t
  else if S.K t = 6 then S.ifS r bk t
  else if S.K t = 8 then S.whileS r bk t
  else if S.K t = 11 then S.tryS r bk t
  else if S.K t = 9 then (if S.K (t + 1) = 59 then ok (bRet (S.P t) nl) (t + 2) else S.workS r 41 t)
  else if S.K t = 10 then S.workS r 42 t
  else if S.K t = 13 then S.workS r 43 t
  else S.placeS r t
def Tks.stms (S : Tks) (r : Nat) (bk : Nat → Pr (Tr × Nat)) : Nat → Nat → Pr Tr
  | 0, t => no (S.P t)
  | f + 1, t => if S.K t = 125 then ok nl t else (S.stm r bk t).bind fun a t' => (Tks.stms S r bk f t').bind fun b t'' => ok (bSeq a b) t''
/-- a block, and the place of its } -/
def Tks.blk (S : Tks) : Nat → Nat → Pr (Tr × Nat)
  | 0, t => no (S.P t)
  | r + 1, t => if S.K t ≠ 123 then no (S.P t) else (S.stms r (Tks.blk S r) (S.E - t) (t + 1)).bind fun b t' => ok (b, S.P t') (t' + 1)
def Tks.parl (S : Tks) : Nat → List (Nat × Nat) → Nat → Pr (List (Nat × Nat))
  | 0, _, t => no (S.P t)
  | f + 1, l, t => match S.ty t with
    | none => no (S.P t)
    | some y => if S.K (t + 1) ≠ 22 then no (S.P (t + 1)) else if S.K (t + 2) = 44 then Tks.parl S f (l ++ [(y, t + 1)]) (t + 3) else if S.K (t + 2) = 41 then ok (l ++ [(y, t + 1)]) (t + 3) else no (S.P (t + 2))
def Tks.pars (S : Tks) (r t : Nat) : Pr (List (Nat × Nat)) := if S.K t ≠ 40 ∨ r = 0 then no (S.P t) else if S.K (t + 1) = 41 then ok [] (t + 2) else S.parl (S.E - t) [] (t + 1)
def Tks.rty (S : Tks) (t : Nat) : Option Nat := if S.K t = 5 then some 3 else S.ty t
def Tks.mem (S : Tks) (r t : Nat) : Pr Mb := match S.rty t with
  | none => no (S.P t)
  | some y => if S.K (t + 1) ≠ 22 then no (S.P (t + 1)) else if S.K t ≠ 5 ∧ S.K (t + 2) = 59 then ok (false, y, t + 1, S.P (t + 1), [], nl, 0) (t + 3) else (S.pars r (t + 2)).bind fun ps t1 => (S.blk r t1).bind fun b t2 => ok (true, y, t + 1, S.P (t + 1), ps, b.1, b.2) t2
def Tks.mems (S : Tks) (r : Nat) : Nat → Nat → Pr (List Mb)
  | 0, t => no (S.P t)
  | f + 1, t => if S.K t = 125 then ok [] t else (S.mem r t).bind fun a t' => (Tks.mems S r f t').bind fun b t'' => ok (a :: b) t''
/-- a class, from its NAME on -/
def Tks.clsB (S : Tks) (w p : Nat) (o : Option Nat) (t : Nat) : Pr Cl := if S.K t ≠ 123 then no (S.P t) else (S.mems 29 (S.E - t) (t + 1)).bind fun m t' => ok (w, p, o, m) (t' + 1)
def Tks.cls (S : Tks) (t : Nat) : Pr Cl := if S.K t ≠ 22 then no (S.P t) else if S.K (t + 1) = 58 then (if S.K (t + 2) ≠ 22 then no (S.P (t + 2)) else S.clsB t (S.P t) (some (t + 2)) (t + 3)) else S.clsB t (S.P t) none (t + 1)
def Tks.clss (S : Tks) : Nat → Nat → Pr (List Cl)
  | 0, t => no (S.P t)
  | f + 1, t => if S.K t ≠ 1 then no (S.P t) else (S.cls (t + 1)).bind fun c t' => if S.K t' = 0 then ok [c] t' else (Tks.clss S f t').bind fun l t'' => ok (c :: l) t''
/-- a PROGRAM -/
def Tks.prog (S : Tks) : Pr (List Cl) := S.clss (S.E + 1) 0
theorem Tks.semi_adv {α : Type} (S : Tks) (a : α) {t : Nat} {x : α} {t' : Nat} (h : S.semi a t = ok x t') : t < t' ∧ t' ≤ S.E := by
  unfold Tks.semi at h
  split at h
  · rename_i h5
    obtain ⟨h6, h7⟩ := ok_inj h
    have := Tks.lt_of (S := S) (t := t) (by rw [h5]; decide)
    omega
  · exact (no_ok h).elim
theorem Tks.stm_adv {S : Tks} {r : Nat} {bk : Nat → Pr (Tr × Nat)} (hb : S.Adv bk) : S.Adv (S.stm r bk) := by
  intro t x t' h
  have lt1 : ∀ {u : Nat} {k : Int32}, S.K u = k → k ≠ 0 → u < S.E := fun h1 h2 => Tks.lt_of (by rw [h1]; exact h2)
  have wk : ∀ k, S.workS r k t = ok x t' → t < t' ∧ t' ≤ S.E := by
    intro k h
    obtain ⟨y, u, h1, h2⟩ := Pr.bind_eq_ok h
    have := Tks.expr_adv S r _ _ _ h1
    have := Tks.semi_adv S _ h2
    omega
  unfold Tks.stm at h
  split at h
  · unfold Tks.tellS at h
    split at h
    · exact (no_ok h).elim
    · split at h
      · exact (no_ok h).elim
      · split at h
        · obtain ⟨y, u, h1, h2⟩ := Pr.bind_eq_ok h
          have := Tks.expr_adv S r _ _ _ h1
          have := Tks.semi_adv S _ h2
          omega
        · have := Tks.semi_adv S _ h
          omega
  · split at h
    · obtain ⟨c, t1, h1, h2⟩ := Pr.bind_eq_ok h
      obtain ⟨a, t2, h3, h4⟩ := Pr.bind_eq_ok h2
      have := Tks.brk_adv (Tks.expr_adv S (r - 1)) r 40 41 (by decide) _ _ _ h1
      have := hb _ _ _ h3
      split at h4
      · obtain ⟨b, t3, h5, h6⟩ := Pr.bind_eq_ok h4
        have := hb _ _ _ h5
        obtain ⟨h7, h8⟩ := ok_inj h6
        omega
      · obtain ⟨h7, h8⟩ := ok_inj h4
        omega
    · split at h
      · obtain ⟨c, t1, h1, h2⟩ := Pr.bind_eq_ok h
        obtain ⟨a, t2, h3, h4⟩ := Pr.bind_eq_ok h2
        have := Tks.brk_adv (Tks.expr_adv S (r - 1)) r 40 41 (by decide) _ _ _ h1
        have := hb _ _ _ h3
        obtain ⟨h7, h8⟩ := ok_inj h4
        omega
      · split at h
        · obtain ⟨a, t1, h1, h2⟩ := Pr.bind_eq_ok h
          have := hb _ _ _ h1
          repeat' split at h2
          all_goals first
            | (exact (no_ok h2).elim)
            | skip
          obtain ⟨b, t2, h3, h4⟩ := Pr.bind_eq_ok h2
          have := hb _ _ _ h3
          obtain ⟨h7, h8⟩ := ok_inj h4
          omega
        · split at h
          · split at h
            · rename_i h5
              obtain ⟨h6, h7⟩ := ok_inj h
              have := lt1 h5 (by decide)
              omega
            · exact wk _ h
          · split at h
            · exact wk _ h
            · split at h
              · exact wk _ h
              · obtain ⟨y, u, h1, h2⟩ := Pr.bind_eq_ok h
                have := Tks.expr_adv S r _ _ _ h1
                split at h2
                · obtain ⟨z, v, h3, h4⟩ := Pr.bind_eq_ok h2
                  have := Tks.expr_adv S r _ _ _ h3
                  have := Tks.semi_adv S _ h4
                  omega
                · split at h2
                  · rename_i h5
                    obtain ⟨h6, h7⟩ := ok_inj h2
                    have := lt1 h5.1 (by decide)
                    omega
                  · exact (no_ok h2).elim
theorem Tks.stms_adv {S : Tks} {r : Nat} {bk : Nat → Pr (Tr × Nat)} (hb : S.Adv bk) : ∀ (f t : Nat) (x : Tr) (t' : Nat), S.stms r bk f t = ok x t' → t ≤ t' ∧ t' < S.E ∧ S.K t' = 125
  | 0, t, x, t', h => (no_ok h).elim
  | f + 1, t, x, t', h => by
    unfold Tks.stms at h
    split at h
    · rename_i h5
      obtain ⟨h6, h7⟩ := ok_inj h
      have := Tks.lt_of (S := S) (t := t) (by rw [h5]; decide)
      subst h7
      exact ⟨Nat.le_refl _, this, h5⟩
    · obtain ⟨a, t1, h1, h2⟩ := Pr.bind_eq_ok h
      obtain ⟨b, t2, h3, h4⟩ := Pr.bind_eq_ok h2
      have := Tks.stm_adv hb _ _ _ h1
      have := Tks.stms_adv hb f _ _ _ h3
      obtain ⟨h7, h8⟩ := ok_inj h4
      subst h8
      exact ⟨by omega, this.2⟩
theorem Tks.blk_adv (S : Tks) : ∀ r, S.Adv (S.blk r)
  | 0 => by intro t x t' h; exact (no_ok h).elim
  | r + 1 => by
    intro t x t' h
    unfold Tks.blk at h
    split at h
    · exact (no_ok h).elim
    · obtain ⟨b, t1, h1, h2⟩ := Pr.bind_eq_ok h
      have := Tks.stms_adv (Tks.blk_adv S r) _ _ _ _ h1
      obtain ⟨h7, h8⟩ := ok_inj h2
      omega
theorem Tks.parl_adv {S : Tks} : ∀ (f : Nat) (l : List (Nat × Nat)) (t : Nat) (y : List (Nat × Nat)) (t' : Nat), S.parl f l t = ok y t' → t < t' ∧ t' ≤ S.E
  | 0, l, t, y, t', h => (no_ok h).elim
  | f + 1, l, t, y, t', h => by
    unfold Tks.parl at h
    split at h
    · exact (no_ok h).elim
    · split at h
      · exact (no_ok h).elim
      · split at h
        · have := Tks.parl_adv f _ _ _ _ h
          omega
        · split at h
          · rename_i h5
            obtain ⟨h6, h7⟩ := ok_inj h
            have := Tks.lt_of (S := S) (t := t + 2) (by rw [h5]; decide)
            omega
          · exact (no_ok h).elim
theorem Tks.pars_adv (S : Tks) (r : Nat) : S.Adv (S.pars r) := by
  intro t x t' h
  unfold Tks.pars at h
  split at h
  · exact (no_ok h).elim
  · split at h
    · rename_i h5
      obtain ⟨h6, h7⟩ := ok_inj h
      have := Tks.lt_of (S := S) (t := t + 1) (by rw [h5]; decide)
      omega
    · have := Tks.parl_adv _ _ _ _ _ h
      omega
theorem Tks.mem_adv (S : Tks) (r : Nat) : S.Adv (S.mem r) := by
  intro t x t' h
  unfold Tks.mem at h
  split at h
  · exact (no_ok h).elim
  · split at h
    · exact (no_ok h).elim
    · split at h
      · rename_i h5
        obtain ⟨h6, h7⟩ := ok_inj h
        have := Tks.lt_of (S := S) (t := t + 2) (by rw [h5.2]; decide)
        omega
      · obtain ⟨b, t1, h1, h2⟩ := Pr.bind_eq_ok h
        obtain ⟨c, t2, h3, h4⟩ := Pr.bind_eq_ok h2
        have := Tks.pars_adv S r _ _ _ h1
        have := Tks.blk_adv S r _ _ _ h3
        obtain ⟨h7, h8⟩ := ok_inj h4
        omega
theorem Tks.mems_adv {S : Tks} {r : Nat} : ∀ (f t : Nat) (x : List Mb) (t' : Nat), S.mems r f t = ok x t' → t ≤ t' ∧ t' < S.E ∧ S.K t' = 125
  | 0, t, x, t', h => (no_ok h).elim
  | f + 1, t, x, t', h => by
    unfold Tks.mems at h
    split at h
    · rename_i h5
      obtain ⟨h6, h7⟩ := ok_inj h
      have := Tks.lt_of (S := S) (t := t) (by rw [h5]; decide)
      subst h7
      exact ⟨Nat.le_refl _, this, h5⟩
    · obtain ⟨a, t1, h1, h2⟩ := Pr.bind_eq_ok h
      obtain ⟨b, t2, h3, h4⟩ := Pr.bind_eq_ok h2
      have := Tks.mem_adv S r _ _ _ h1
      have := Tks.mems_adv f _ _ _ h3
      obtain ⟨h7, h8⟩ := ok_inj h4
      subst h8
      exact ⟨by omega, this.2⟩
theorem Tks.clsB_adv (S : Tks) (w p : Nat) (o : Option Nat) : S.Adv (S.clsB w p o) := by
  intro t x t' h
  unfold Tks.clsB at h
  split at h
  · exact (no_ok h).elim
  · obtain ⟨b, t1, h1, h2⟩ := Pr.bind_eq_ok h
    have := Tks.mems_adv _ _ _ _ h1
    obtain ⟨h7, h8⟩ := ok_inj h2
    omega
theorem Tks.cls_adv (S : Tks) : S.Adv S.cls := by
  intro t x t' h
  unfold Tks.cls at h
  split at h
  · exact (no_ok h).elim
  · split at h
    · split at h
      · exact (no_ok h).elim
      · have := Tks.clsB_adv S _ _ _ _ _ _ h
        omega
    · have := Tks.clsB_adv S _ _ _ _ _ _ h
      omega
