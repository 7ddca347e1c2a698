/-! ===== STATEMENTS, MEMBERS, CLASSES ===== -/
/-- a type as it is told: -1 int, -2 bool, -3 ints, -4 void, or a class' name -/
inductive Ty where
  | p (k : Int32)
  | c (w : List Int32)
/-- a block: statements, each with its place and what follows it -/
inductive Bl where
  | nil
  | tell (p : Nat) (y : Ty) (w : List Int32) (r : Bl)
  | tellv (p : Nat) (y : Ty) (w : List Int32) (e : Ex) (r : Bl)
  | ret (p : Nat) (r : Bl)
  | work (p : Nat) (k : Int32) (e : Ex) (r : Bl)
  | drop (p : Nat) (e : Ex) (r : Bl)
  | give (p : Nat) (x e : Ex) (r : Bl)
  | ite (p : Nat) (c : Ex) (a : Bl) (h : Bool) (b : Bl) (r : Bl)
  | whil (p : Nat) (c : Ex) (a : Bl) (r : Bl)
  | tryc (p : Nat) (a : Bl) (c w : List Int32) (b : Bl) (r : Bl)
/-- the first statement, and then z -/
def Bl.seq : Bl → Bl → Bl
  | .nil, z => z
  | .tell p y w _, z => .tell p y w z
  | .tellv p y w e _, z => .tellv p y w e z
  | .ret p _, z => .ret p z
  | .work p k e _, z => .work p k e z
  | .drop p e _, z => .drop p e z
  | .give p x e _, z => .give p x e z
  | .ite p c a h b _, z => .ite p c a h b z
  | .whil p c a _, z => .whil p c a z
  | .tryc p a c w b _, z => .tryc p a c w b z
structure Mb where
  m : Bool
  y : Ty
  w : List Int32
  p : Nat
  ps : List (Ty × List Int32)
  b : Bl
  q : Nat
structure Cl where
  w : List Int32
  p : Nat
  par : Option (List Int32)
  ms : List Mb
def isPlaceE : Ex → Bool
  | .leaf k _ _ => k == 6
  | .un k _ _ _ => k == 9
  | .bin k _ _ => k == 12
  | _ => false
def isCallE : Ex → Bool
  | .call _ _ _ => true
  | _ => false
namespace Tks
def ty (S : Tks) (t : Nat) : Option Ty := if S.K t = 2 then some (.p (-1)) else if S.K t = 3 then some (.p (-2)) else if S.K t = 4 then some (.p (-3)) else if S.K t = 22 then some (.c (S.W t)) else none
/-- ; -/
def semi {α : Type} (S : Tks) (a : α) (t : Nat) : Pr α := if S.K t = 59 then .ok a (t + 1) else .no (S.P t)
/-- does a statement tell a variable here? -/
def tells (S : Tks) (t : Nat) : Bool := (S.K t = 2 ∨ S.K t = 3 ∨ S.K t = 4) ∨ (S.K t = 22 ∧ S.K (t + 1) = 22)
def tellS (S : Tks) (r t : Nat) : Pr Bl := match S.ty t with
  | none => .no (S.P t)
  | some y => if S.K (t + 1) ≠ 22 then .no (S.P (t + 1)) else if S.K (t + 2) = 61 then (S.expr r (t + 3)).bind fun e t' => S.semi (.tellv (S.P t) y (S.W (t + 1)) e .nil) t' else S.semi (.tell (S.P t) y (S.W (t + 1)) .nil) (t + 2)
def ifS (S : Tks) (r : Nat) (blk : Nat → Pr (Bl × Nat)) (t : Nat) : Pr Bl := (S.brk r (S.expr (r - 1)) 40 41 (t + 1)).bind fun c t1 => (blk t1).bind fun a t2 => if S.K t2 = 7 then (blk (t2 + 1)).bind fun b t3 => .ok (.ite (S.P t) c a.1 true b.1 .nil) t3 else .ok (.ite (S.P t) c a.1 false .nil .nil) t2
def whileS (S : Tks) (r : Nat) (blk : Nat → Pr (Bl × Nat)) (t : Nat) : Pr Bl := (S.brk r (S.expr (r - 1)) 40 41 (t + 1)).bind fun c t1 => (blk t1).bind fun a t2 => .ok (.whil (S.P t) c a.1 .nil) t2
def tryS (S : Tks) (r : Nat) (blk : Nat → Pr (Bl × Nat)) (t : Nat) : Pr Bl := (blk (t + 1)).bind fun a t1 => if S.K t1 ≠ 12 then .no (S.P t1) else if S.K (t1 + 1) ≠ 40 ∨ r = 0 then .no (S.P (t1 + 1)) else if S.K (t1 + 2) ≠ 22 then .no (S.P (t1 + 2)) else if S.K (t1 + 3) ≠ 22 then .no (S.P (t1 + 3)) else if S.K (t1 + 4) ≠ 41 then .no (S.P (t1 + 4)) else (blk (t1 + 5)).bind fun b t2 => .ok (.tryc (S.P t) a.1 (S.W (t1 + 2)) (S.W (t1 + 3)) b.1 .nil) t2
def workS (S : Tks) (r : Nat) (k : Int32) (t : Nat) : Pr Bl := (S.expr r (t + 1)).bind fun e t' => S.semi (.work (S.P t) k e .nil) t'
def placeS (S : Tks) (r t : Nat) : Pr Bl := (S.expr r t).bind fun x t1 => if S.K t1 = 61 ∧ isPlaceE x = true then (S.expr r (t1 + 1)).bind fun y t2 => S.semi (.give (S.P t) x y .nil) t2 else if S.K t1 = 59 ∧ isCallE x = true then .ok (.drop (S.P t) x .nil) (t1 + 1) else .no (S.P t1)
/-- a STATEMENT with r more levels -/
def stm (S : Tks) (r : Nat) (blk : Nat → Pr (Bl × Nat)) (t : Nat) : Pr Bl :=
  if S.tells t then S.tellS r t
  else if S.K t = 6 then S.ifS r blk t
  else if S.K t = 8 then S.whileS r blk t
  else if S.K t = 11 then S.tryS r blk t
  else if S.K t = 9 then (if S.K (t + 1) = 59 then .ok (.ret (S.P t) .nil) (t + 2) else S.workS r 41 t)
  else if S.K t = 10 then S.workS r 42 t
  else if S.K t = 13 then S.workS r 43 t
  else S.placeS r t
def stms (S : Tks) (r : Nat) (blk : Nat → Pr (Bl × Nat)) : Nat → Nat → Pr Bl
  | 0, t => .no (S.P t)
  | f + 1, t => if S.K t = 125 then .ok .nil t else (S.stm r blk t).bind fun a t' => (stms S r blk f t').bind fun b t'' => .ok (a.seq b) t''
/-- a BLOCK, and the place of its } -/
def blk (S : Tks) : Nat → Nat → Pr (Bl × Nat)
  | 0, t => .no (S.P t)
  | r + 1, t => if S.K t ≠ 123 then .no (S.P t) else (S.stms r (blk S r) (S.E - (t + 1)) (t + 1)).bind fun b t' => .ok (b, S.P t') (t' + 1)
def parl (S : Tks) : Nat → List (Ty × List Int32) → Nat → Pr (List (Ty × List Int32))
  | 0, _, t => .no (S.P t)
  | f + 1, l, t => match S.ty t with
    | none => .no (S.P t)
    | some y => if S.K (t + 1) ≠ 22 then .no (S.P (t + 1)) else if S.K (t + 2) = 44 then parl S f (l ++ [(y, S.W (t + 1))]) (t + 3) else if S.K (t + 2) = 41 then .ok (l ++ [(y, S.W (t + 1))]) (t + 3) else .no (S.P (t + 2))
def pars (S : Tks) (r t : Nat) : Pr (List (Ty × List Int32)) := if S.K t ≠ 40 ∨ r = 0 then .no (S.P t) else if S.K (t + 1) = 41 then .ok [] (t + 2) else S.parl (S.E - (t + 1)) [] (t + 1)
def rty (S : Tks) (t : Nat) : Option Ty := if S.K t = 5 then some (.p (-4)) else S.ty t
def mem (S : Tks) (r t : Nat) : Pr Mb := match S.rty t with
  | none => .no (S.P t)
  | some y => if S.K (t + 1) ≠ 22 then .no (S.P (t + 1)) else if S.K t ≠ 5 ∧ S.K (t + 2) = 59 then .ok ⟨false, y, S.W (t + 1), S.P (t + 1), [], .nil, 0⟩ (t + 3) else (S.pars r (t + 2)).bind fun ps t1 => (S.blk r t1).bind fun b t2 => .ok ⟨true, y, S.W (t + 1), S.P (t + 1), ps, b.1, b.2⟩ t2
def mems (S : Tks) (r : Nat) : Nat → Nat → Pr (List Mb)
  | 0, t => .no (S.P t)
  | f + 1, t => if S.K t = 125 then .ok [] t else (S.mem r t).bind fun a t' => (mems S r f t').bind fun b t'' => .ok (a :: b) t''
/-- a class, from its NAME on -/
def clsB (S : Tks) (w : List Int32) (p : Nat) (o : Option (List Int32)) (t : Nat) : Pr Cl := if S.K t ≠ 123 then .no (S.P t) else (S.mems 29 (S.E - (t + 1)) (t + 1)).bind fun m t' => .ok ⟨w, p, o, m⟩ (t' + 1)
def cls (S : Tks) (t : Nat) : Pr Cl := if S.K t ≠ 22 then .no (S.P t) else if S.K (t + 1) = 58 then (if S.K (t + 2) ≠ 22 then .no (S.P (t + 2)) else S.clsB (S.W t) (S.P t) (some (S.W (t + 2))) (t + 3)) else S.clsB (S.W t) (S.P t) none (t + 1)
def clss (S : Tks) : Nat → Nat → Pr (List Cl)
  | 0, t => .no (S.P t)
  | f + 1, t => if S.K t ≠ 1 then .no (S.P t) else (S.cls (t + 1)).bind fun c t' => if S.K t' = 0 then .ok [c] t' else (clss S f t').bind fun l t'' => .ok (c :: l) t''
/-- a PROGRAM -/
def prog (S : Tks) : Pr (List Cl) := S.clss (S.E + 1) 0
theorem semi_adv {α : Type} (S : Tks) (a : α) {t : Nat} {x : α} {t' : Nat} (h : S.semi a t = .ok x t') : t < t' ∧ t' ≤ S.E := by
  unfold semi at h
  split at h
  · rename_i h5
    injection h with h6 h7
    have := lt_of (S := S) (t := t) (by rw [h5]; decide)
    omega
  · cases h
theorem stm_adv {S : Tks} {r : Nat} {bk : Nat → Pr (Bl × Nat)} (hb : S.Adv bk) : S.Adv (S.stm r bk) := by
  intro t x t' h
  have lt1 : ∀ {u : Nat} {k : Int32}, S.K u = k → k ≠ 0 → u < S.E := fun h1 h2 => lt_of (by rw [h1]; exact h2)
  have wk : ∀ k, S.workS r k t = .ok x t' → t < t' ∧ t' ≤ S.E := by
    intro k h
    obtain ⟨y, u, h1, h2⟩ := Pr.bind_eq_ok h
    have := expr_adv S r _ _ _ h1
    have := semi_adv S _ h2
    omega
  unfold stm at h
  split at h
  · unfold tellS at h
    split at h
    · cases h
    · split at h
      · cases h
      · split at h
        · obtain ⟨y, u, h1, h2⟩ := Pr.bind_eq_ok h
          have := expr_adv S r _ _ _ h1
          have := semi_adv S _ h2
          omega
        · have := semi_adv S _ h
          omega
  · split at h
    · obtain ⟨c, t1, h1, h2⟩ := Pr.bind_eq_ok h
      obtain ⟨a, t2, h3, h4⟩ := Pr.bind_eq_ok h2
      have := brk_adv (expr_adv S (r - 1)) r 40 41 (by decide) _ _ _ h1
      have := hb _ _ _ h3
      split at h4
      · obtain ⟨b, t3, h5, h6⟩ := Pr.bind_eq_ok h4
        have := hb _ _ _ h5
        injection h6 with h7 h8
        omega
      · injection h4 with h7 h8
        omega
    · split at h
      · obtain ⟨c, t1, h1, h2⟩ := Pr.bind_eq_ok h
        obtain ⟨a, t2, h3, h4⟩ := Pr.bind_eq_ok h2
        have := brk_adv (expr_adv S (r - 1)) r 40 41 (by decide) _ _ _ h1
        have := hb _ _ _ h3
        injection h4 with h7 h8
        omega
      · split at h
        · obtain ⟨a, t1, h1, h2⟩ := Pr.bind_eq_ok h
          have := hb _ _ _ h1
          repeat' split at h2
          all_goals first
            | (cases h2; done)
            | skip
          obtain ⟨b, t2, h3, h4⟩ := Pr.bind_eq_ok h2
          have := hb _ _ _ h3
          injection h4 with h7 h8
          omega
        · split at h
          · split at h
            · rename_i h5
              injection h with h6 h7
              have := lt1 h5 (by decide)
              omega
            · exact wk _ h
          · split at h
            · exact wk _ h
            · split at h
              · exact wk _ h
              · obtain ⟨y, u, h1, h2⟩ := Pr.bind_eq_ok h
                have := expr_adv S r _ _ _ h1
                split at h2
                · obtain ⟨z, v, h3, h4⟩ := Pr.bind_eq_ok h2
                  have := expr_adv S r _ _ _ h3
                  have := semi_adv S _ h4
                  omega
                · split at h2
                  · rename_i h5
                    injection h2 with h6 h7
                    have := lt1 h5.1 (by decide)
                    omega
                  · cases h2
theorem stms_adv {S : Tks} {r : Nat} {bk : Nat → Pr (Bl × Nat)} (hb : S.Adv bk) : ∀ (f t : Nat) (x : Bl) (t' : Nat), S.stms r bk f t = .ok x t' → t ≤ t' ∧ t' < S.E ∧ S.K t' = 125
  | 0, t, x, t', h => by cases h
  | f + 1, t, x, t', h => by
    unfold stms at h
    split at h
    · rename_i h5
      injection h with h6 h7
      have := lt_of (S := S) (t := t) (by rw [h5]; decide)
      subst h7
      exact ⟨Nat.le_refl _, this, h5⟩
    · obtain ⟨a, t1, h1, h2⟩ := Pr.bind_eq_ok h
      obtain ⟨b, t2, h3, h4⟩ := Pr.bind_eq_ok h2
      have := stm_adv hb _ _ _ h1
      have := stms_adv hb f _ _ _ h3
      injection h4 with h7 h8
      subst h8
      exact ⟨by omega, this.2⟩
theorem blk_adv (S : Tks) : ∀ r, S.Adv (S.blk r)
  | 0 => by intro t x t' h; cases h
  | r + 1 => by
    intro t x t' h
    unfold blk at h
    split at h
    · cases h
    · obtain ⟨b, t1, h1, h2⟩ := Pr.bind_eq_ok h
      have := stms_adv (blk_adv S r) _ _ _ _ h1
      injection h2 with h7 h8
      omega
theorem parl_adv {S : Tks} : ∀ (f : Nat) (l : List (Ty × List Int32)) (t : Nat) (y : List (Ty × List Int32)) (t' : Nat), S.parl f l t = .ok y t' → t < t' ∧ t' ≤ S.E
  | 0, l, t, y, t', h => by cases h
  | f + 1, l, t, y, t', h => by
    unfold parl at h
    split at h
    · cases h
    · split at h
      · cases h
      · split at h
        · have := parl_adv f _ _ _ _ h
          omega
        · split at h
          · rename_i h5
            injection h with h6 h7
            have := lt_of (S := S) (t := t + 2) (by rw [h5]; decide)
            omega
          · cases h
theorem pars_adv (S : Tks) (r : Nat) : S.Adv (S.pars r) := by
  intro t x t' h
  unfold pars at h
  split at h
  · cases h
  · split at h
    · rename_i h5
      injection h with h6 h7
      have := lt_of (S := S) (t := t + 1) (by rw [h5]; decide)
      omega
    · have := parl_adv _ _ _ _ _ h
      omega
theorem mem_adv (S : Tks) (r : Nat) : S.Adv (S.mem r) := by
  intro t x t' h
  unfold mem at h
  split at h
  · cases h
  · split at h
    · cases h
    · split at h
      · rename_i h5
        injection h with h6 h7
        have := lt_of (S := S) (t := t + 2) (by rw [h5.2]; decide)
        omega
      · obtain ⟨b, t1, h1, h2⟩ := Pr.bind_eq_ok h
        obtain ⟨c, t2, h3, h4⟩ := Pr.bind_eq_ok h2
        have := pars_adv S r _ _ _ h1
        have := blk_adv S r _ _ _ h3
        injection h4 with h7 h8
        omega
theorem mems_adv {S : Tks} {r : Nat} : ∀ (f t : Nat) (x : List Mb) (t' : Nat), S.mems r f t = .ok x t' → t ≤ t' ∧ t' < S.E ∧ S.K t' = 125
  | 0, t, x, t', h => by cases h
  | f + 1, t, x, t', h => by
    unfold mems at h
    split at h
    · rename_i h5
      injection h with h6 h7
      have := lt_of (S := S) (t := t) (by rw [h5]; decide)
      subst h7
      exact ⟨Nat.le_refl _, this, h5⟩
    · obtain ⟨a, t1, h1, h2⟩ := Pr.bind_eq_ok h
      obtain ⟨b, t2, h3, h4⟩ := Pr.bind_eq_ok h2
      have := mem_adv S r _ _ _ h1
      have := mems_adv f _ _ _ h3
      injection h4 with h7 h8
      subst h8
      exact ⟨by omega, this.2⟩
theorem clsB_adv (S : Tks) (w : List Int32) (p : Nat) (o : Option (List Int32)) : S.Adv (S.clsB w p o) := by
  intro t x t' h
  unfold clsB at h
  split at h
  · cases h
  · obtain ⟨b, t1, h1, h2⟩ := Pr.bind_eq_ok h
    have := mems_adv _ _ _ _ h1
    injection h2 with h7 h8
    omega
theorem cls_adv (S : Tks) : S.Adv S.cls := by
  intro t x t' h
  unfold cls at h
  split at h
  · cases h
  · split at h
    · split at h
      · cases h
      · have := clsB_adv S _ _ _ _ _ _ h
        omega
    · have := clsB_adv S _ _ _ _ _ _ h
      omega
end Tks
