/-! ===== WHAT A TEXT MEANS: the words become a tree ===== -/
/-- a row of words: kinds (as the class tells them), numbers, letters, places; from E on there is none -/
structure Tks where
  K : Nat → Int32
  V : Nat → Int32
  W : Nat → List Int32
  P : Nat → Nat
  E : Nat
  end0 : ∀ t, E ≤ t → K t = 0
  mono : ∀ t, K t ≠ 0 → P t < P (t + 1)
  two : ∀ t, (K t = 131 ∨ K t = 132) → P t + 2 ≤ P (t + 1)
inductive Pr (α : Type) where
  | ok (a : α) (t : Nat)
  | no (w : Nat)
def Pr.bind {α β : Type} (x : Pr α) (f : α → Nat → Pr β) : Pr β := match x with
  | .ok a t => f a t
  | .no w => .no w
theorem Pr.bind_ok {α β : Type} (a : α) (t : Nat) (f : α → Nat → Pr β) : (Pr.ok a t).bind f = f a t := rfl
theorem Pr.bind_no {α β : Type} (w : Nat) (f : α → Nat → Pr β) : (Pr.no w : Pr α).bind f = .no w := rfl
theorem Pr.bind_assoc {α β γ : Type} (x : Pr α) (f : α → Nat → Pr β) (g : β → Nat → Pr γ) : (x.bind f).bind g = x.bind (fun a t => (f a t).bind g) := by cases x <;> rfl
theorem Pr.bind_eq_ok {α β : Type} {x : Pr α} {f : α → Nat → Pr β} {b : β} {t : Nat} (h : x.bind f = .ok b t) : ∃ a s, x = .ok a s ∧ f a s = .ok b t := by
  cases x with
  | ok a s => exact ⟨a, s, rfl, h⟩
  | no w => cases h
/-- an expression; self and arg: what a call is of, with its arguments so far -/
inductive Ex where
  | self
  | leaf (k v : Int32) (w : List Int32)
  | un (k v : Int32) (w : List Int32) (a : Ex)
  | bin (k : Int32) (a b : Ex)
  | join (k : Int32) (a b : Ex)
  | arg (a b : Ex)
  | call (n : Nat) (w : List Int32) (s : Ex)
/-- the level of a sign: 1 ||, 2 &&, 3 == !=, 4 < <= is, 5 + -, 6 * / % -/
def lvl (k : Int32) : Nat := if k = 132 then 1 else if k = 131 then 2 else if k = 128 ∨ k = 129 then 3 else if k = 60 ∨ k = 130 ∨ k = 21 then 4 else if k = 43 ∨ k = 45 then 5 else if k = 42 ∨ k = 47 ∨ k = 37 then 6 else 0
def opc (k : Int32) : Int32 := if k = 132 then 29 else if k = 131 then 28 else if k = 128 then 26 else if k = 129 then 27 else if k = 60 then 24 else if k = 130 then 25 else if k = 43 then 22 else if k = 45 then 23 else if k = 42 then 19 else if k = 47 then 20 else 21
def mk2 (k : Int32) (x y : Ex) : Ex := if lvl k ≤ 2 then .join (opc k) x y else .bin (opc k) x y
def onceL (l : Nat) : Bool := l == 3 || l == 4
theorem lvl_le (k : Int32) : lvl k ≤ 6 := by unfold lvl; repeat' split
                                             all_goals omega
theorem lvl_0 : lvl 0 = 0 := by decide
namespace Tks
/-- further on the level l: s reads what stands to the right -/
def lp (S : Tks) (s : Nat → Pr Ex) (l : Nat) : Nat → Ex → Nat → Pr Ex
  | 0, x, t => .ok x t
  | f + 1, x, t => if lvl (S.K t) ≠ l then .ok x t
    else if S.K t = 21 then (if S.K (t + 1) = 22 then .ok (.un 16 0 (S.W (t + 1)) x) (t + 2) else .no (S.P (t + 1)))
    else (s (t + 1)).bind fun y t' => if onceL l then .ok (mk2 (S.K t) x y) t' else lp S s l f (mk2 (S.K t) x y) t'
/-- the levels: 0 is s, i is level 7 - i -/
def lv (S : Tks) (s : Nat → Pr Ex) : Nat → Nat → Pr Ex
  | 0, t => s t
  | i + 1, t => (lv S s i t).bind fun x t' => S.lp (lv S s i) (6 - i) (S.E - t') x t'
/-- between a and b -/
def brk (S : Tks) (r : Nat) (sub : Nat → Pr Ex) (a b : Int32) (t : Nat) : Pr Ex :=
  if S.K t ≠ a ∨ r = 0 then .no (S.P t) else (sub (t + 1)).bind fun x t' => if S.K t' = b then .ok x (t' + 1) else .no (S.P t')
def argl (S : Tks) (sub : Nat → Pr Ex) : Nat → Ex → Nat → Nat → Pr (Ex × Nat)
  | 0, _, _, t => .no (S.P t)
  | f + 1, s, n, t => (sub t).bind fun y t' => if S.K t' = 44 then argl S sub f (.arg s y) (n + 1) (t' + 1) else if S.K t' = 41 then .ok (.arg s y, n + 1) (t' + 1) else .no (S.P t')
/-- ( ARGUMENTS ) of what s is -/
def args (S : Tks) (r : Nat) (sub : Nat → Pr Ex) (s : Ex) (t : Nat) : Pr (Ex × Nat) :=
  if S.K t ≠ 40 ∨ r = 0 then .no (S.P t) else if S.K (t + 1) = 41 then .ok (s, 0) (t + 2) else S.argl sub (S.E - (t + 1)) s 0 (t + 1)
def first (S : Tks) (r : Nat) (sub : Nat → Pr Ex) (t : Nat) : Pr Ex :=
  if S.K t = 23 then .ok (.leaf 1 (S.V t) []) (t + 1)
  else if S.K t = 22 then (if S.K (t + 1) = 40 then (S.args r sub .self (t + 1)).bind fun a t' => .ok (.call a.2 (S.W t) a.1) t' else .ok (.leaf 6 0 (S.W t)) (t + 1))
  else if S.K t = 40 then S.brk r sub 40 41 t
  else if S.K t = 14 then (if S.K (t + 1) = 4 then (S.brk r sub 91 93 (t + 2)).bind fun x t' => .ok (.un 14 0 [] x) t' else if S.K (t + 1) = 22 then .ok (.leaf 13 0 (S.W (t + 1))) (t + 2) else .no (S.P (t + 1)))
  else if S.K t = 15 then .ok (.leaf 3 0 []) (t + 1)
  else if S.K t = 16 then .ok (.leaf 2 1 []) (t + 1)
  else if S.K t = 17 then .ok (.leaf 2 0 []) (t + 1)
  else if S.K t = 18 then .ok (.leaf 4 0 []) (t + 1)
  else if S.K t = 19 then .ok (.leaf 5 0 []) (t + 1)
  else .no (S.P t)
def chn (S : Tks) (r : Nat) (sub : Nat → Pr Ex) : Nat → Ex → Nat → Pr Ex
  | 0, x, t => .ok x t
  | f + 1, x, t => if S.K t = 46 then (if S.K (t + 1) ≠ 22 then .no (S.P (t + 1)) else if S.K (t + 2) = 40 then (S.args r sub x (t + 2)).bind fun a t' => chn S r sub f (.call a.2 (S.W (t + 1)) a.1) t' else chn S r sub f (.un 9 0 (S.W (t + 1)) x) (t + 2))
    else if S.K t = 91 then (S.brk r sub 91 93 t).bind fun y t' => chn S r sub f (.bin 12 x y) t'
    else if S.K t = 20 then (if S.K (t + 1) ≠ 22 then .no (S.P (t + 1)) else chn S r sub f (.un 15 0 (S.W (t + 1)) x) (t + 2))
    else .ok x t
def chain (S : Tks) (r : Nat) (sub : Nat → Pr Ex) (t : Nat) : Pr Ex := (S.first r sub t).bind fun x t' => S.chn r sub (S.E - t') x t'
/-- a ONE with r more levels -/
def sgl (S : Tks) : Nat → Nat → Pr Ex
  | 0, t => if S.K t = 45 ∨ S.K t = 33 then .no (S.P t) else S.chain 0 (fun t => .no (S.P t)) t
  | r + 1, t => if S.K t = 45 ∨ S.K t = 33 then (sgl S r (t + 1)).bind fun x t' => .ok (.un (if S.K t = 45 then 17 else 18) 0 [] x) t' else S.chain (r + 1) (S.lv (sgl S r) 6) t
/-- an EXPRESSION with r more levels -/
def expr (S : Tks) (r : Nat) : Nat → Pr Ex := S.lv (S.sgl r) 6
/-- what reads on -/
def Adv {α : Type} (S : Tks) (p : Nat → Pr α) : Prop := ∀ t x t', p t = .ok x t' → t < t' ∧ t' ≤ S.E
theorem lt_of {S : Tks} {t : Nat} (h : S.K t ≠ 0) : t < S.E := by
  rcases Nat.lt_or_ge t S.E with h1 | h1
  · exact h1
  · exact absurd (S.end0 t h1) h
theorem lp_adv {S : Tks} {s : Nat → Pr Ex} (hs : S.Adv s) (l : Nat) : ∀ (f : Nat) (x : Ex) (t : Nat) (y : Ex) (t' : Nat), t ≤ S.E → S.lp s l f x t = .ok y t' → t ≤ t' ∧ t' ≤ S.E
  | 0, x, t, y, t', ht, h => by
    unfold lp at h
    injection h with h1 h2
    omega
  | f + 1, x, t, y, t', ht, h => by
    unfold lp at h
    split at h
    · injection h with h1 h2
      omega
    · split at h
      · split at h
        · rename_i h3
          injection h with h1 h2
          have := lt_of (S := S) (t := t + 1) (by rw [h3]; decide)
          omega
        · cases h
      · obtain ⟨a, u, h1, h2⟩ := Pr.bind_eq_ok h
        obtain ⟨h3, h4⟩ := hs _ _ _ h1
        split at h2
        · injection h2 with h5 h6
          omega
        · have := lp_adv hs l f _ u y t' h4 h2
          omega
theorem lv_adv {S : Tks} {s : Nat → Pr Ex} (hs : S.Adv s) : ∀ i, S.Adv (S.lv s i)
  | 0 => hs
  | i + 1 => by
    intro t x t' h
    obtain ⟨a, u, h1, h2⟩ := Pr.bind_eq_ok (show (S.lv s i t).bind _ = _ from h)
    obtain ⟨h3, h4⟩ := lv_adv hs i _ _ _ h1
    have := lp_adv (lv_adv hs i) _ _ _ _ _ _ h4 h2
    omega
/-- the fuel is enough where it is as long as what is left -/
theorem lp_fuel {S : Tks} {s : Nat → Pr Ex} (hs : S.Adv s) (l : Nat) : ∀ (f g : Nat) (x : Ex) (t : Nat), l ≠ 0 → S.E ≤ t + f → S.E ≤ t + g → S.lp s l f x t = S.lp s l g x t
  | 0, 0, x, t, _, _, _ => rfl
  | 0, g + 1, x, t, hl, hf, _ => by
    unfold lp
    rw [S.end0 t (by omega), lvl_0, if_pos (fun e => hl e.symm)]
  | f + 1, 0, x, t, hl, _, hf => by
    unfold lp
    rw [S.end0 t (by omega), lvl_0, if_pos (fun e => hl e.symm)]
  | f + 1, g + 1, x, t, hl, hf, hg => by
    unfold lp
    split
    · rfl
    · split
      · rfl
      · cases h1 : s (t + 1) with
        | no w => rfl
        | ok y u =>
          rw [Pr.bind_ok, Pr.bind_ok]
          split
          · rfl
          · have := (hs _ _ _ h1).1
            exact lp_fuel hs l f g _ u hl (by omega) (by omega)
theorem argl_adv {S : Tks} {sub : Nat → Pr Ex} (hs : S.Adv sub) : ∀ (f : Nat) (s : Ex) (n t : Nat) (y : Ex × Nat) (t' : Nat), S.argl sub f s n t = .ok y t' → t < t' ∧ t' ≤ S.E
  | 0, s, n, t, y, t', h => by cases h
  | f + 1, s, n, t, y, t', h => by
    unfold argl at h
    obtain ⟨a, u, h1, h2⟩ := Pr.bind_eq_ok h
    obtain ⟨h3, h4⟩ := hs _ _ _ h1
    split at h2
    · have := argl_adv hs f _ _ _ _ _ h2
      omega
    · split at h2
      · rename_i h5
        injection h2 with h6 h7
        have := lt_of (S := S) (t := u) (by rw [h5]; decide)
        omega
      · cases h2
theorem args_adv {S : Tks} {sub : Nat → Pr Ex} (hs : S.Adv sub) (r : Nat) (s : Ex) : S.Adv (S.args r sub s) := by
  intro t x t' h
  unfold args at h
  split at h
  · cases h
  · split at h
    · rename_i h5
      injection h with h6 h7
      have := lt_of (S := S) (t := t + 1) (by rw [h5]; decide)
      omega
    · have := argl_adv hs _ _ _ _ _ _ h
      omega
theorem brk_adv {S : Tks} {sub : Nat → Pr Ex} (hs : S.Adv sub) (r : Nat) (a b : Int32) (hb : b ≠ 0) : S.Adv (S.brk r sub a b) := by
  intro t x t' h
  unfold brk at h
  split at h
  · cases h
  · obtain ⟨y, u, h1, h2⟩ := Pr.bind_eq_ok h
    obtain ⟨h3, h4⟩ := hs _ _ _ h1
    split at h2
    · rename_i h5
      injection h2 with h6 h7
      have := lt_of (S := S) (t := u) (by rw [h5]; exact hb)
      omega
    · cases h2
theorem first_adv {S : Tks} {sub : Nat → Pr Ex} (hs : S.Adv sub) (r : Nat) : S.Adv (S.first r sub) := by
  intro t x t' h
  have lt1 : ∀ {u : Nat} {k : Int32}, S.K u = k → k ≠ 0 → u < S.E := fun h1 h2 => lt_of (by rw [h1]; exact h2)
  unfold first at h
  repeat' split at h
  all_goals first
    | (injection h with h6 h7; rename_i h5; have := lt1 h5 (by decide); omega)
    | (cases h; done)
    | skip
  · obtain ⟨y, u, h1, h2⟩ := Pr.bind_eq_ok h
    have := args_adv hs _ _ _ _ _ h1
    injection h2 with h6 h7
    omega
  · rename_i h5 h8
    injection h with h6 h7
    have := lt1 h5 (by decide)
    omega
  · exact brk_adv hs _ _ _ (by decide) _ _ _ h
  · obtain ⟨y, u, h1, h2⟩ := Pr.bind_eq_ok h
    have := brk_adv hs _ _ _ (by decide) _ _ _ h1
    injection h2 with h6 h7
    omega
theorem chn_adv {S : Tks} {sub : Nat → Pr Ex} (hs : S.Adv sub) (r : Nat) : ∀ (f : Nat) (x : Ex) (t : Nat) (y : Ex) (t' : Nat), t ≤ S.E → S.chn r sub f x t = .ok y t' → t ≤ t' ∧ t' ≤ S.E
  | 0, x, t, y, t', ht, h => by
    unfold chn at h
    injection h with h1 h2
    omega
  | f + 1, x, t, y, t', ht, h => by
    have lt1 : ∀ {u : Nat} {k : Int32}, S.K u = k → k ≠ 0 → u < S.E := fun h1 h2 => lt_of (by rw [h1]; exact h2)
    unfold chn at h
    split at h
    · split at h
      · cases h
      · rename_i h1
        have h2 := lt1 (Decidable.not_not.mp h1) (by decide)
        split at h
        · obtain ⟨a, u, h3, h4⟩ := Pr.bind_eq_ok h
          obtain ⟨h5, h6⟩ := args_adv hs _ _ _ _ _ h3
          have := chn_adv hs r f _ u y t' h6 h4
          omega
        · have := chn_adv hs r f _ _ y t' (by omega) h
          omega
    · split at h
      · obtain ⟨a, u, h3, h4⟩ := Pr.bind_eq_ok h
        obtain ⟨h5, h6⟩ := brk_adv hs _ _ _ (by decide) _ _ _ h3
        have := chn_adv hs r f _ u y t' h6 h4
        omega
      · split at h
        · split at h
          · cases h
          · rename_i h1
            have h2 := lt1 (Decidable.not_not.mp h1) (by decide)
            have := chn_adv hs r f _ _ y t' (by omega) h
            omega
        · injection h with h1 h2
          omega
theorem chain_adv {S : Tks} {sub : Nat → Pr Ex} (hs : S.Adv sub) (r : Nat) : S.Adv (S.chain r sub) := by
  intro t x t' h
  obtain ⟨y, u, h1, h2⟩ := Pr.bind_eq_ok h
  obtain ⟨h3, h4⟩ := first_adv hs _ _ _ _ h1
  have := chn_adv hs _ _ _ _ _ _ h4 h2
  omega
theorem sgl_adv (S : Tks) : ∀ r, S.Adv (S.sgl r)
  | 0 => by
    intro t x t' h
    unfold sgl at h
    split at h
    · cases h
    · exact chain_adv (fun t x t' h => by cases h) 0 _ _ _ h
  | r + 1 => by
    intro t x t' h
    unfold sgl at h
    split at h
    · obtain ⟨y, u, h1, h2⟩ := Pr.bind_eq_ok h
      have := sgl_adv S r _ _ _ h1
      injection h2 with h6 h7
      omega
    · exact chain_adv (lv_adv (sgl_adv S r) 6) _ _ _ _ h
theorem expr_adv (S : Tks) (r : Nat) : S.Adv (S.expr r) := lv_adv (sgl_adv S r) 6
end Tks
