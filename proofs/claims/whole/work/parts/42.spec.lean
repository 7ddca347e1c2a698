/-! ===== WHAT A TEXT MEANS: the words become a tree ===== -/
/-- a row of words: kinds, numbers, places, and from where on there is none; the places rise -/
abbrev Tks : Type := {S : (Nat → Int32) × (Nat → Nat) × (Nat → Nat) × Nat // (∀ t, S.2.2.2 ≤ t → S.1 t = 0) ∧ (∀ t, S.1 t ≠ 0 → S.2.2.1 t < S.2.2.1 (t + 1)) ∧ ∀ t, (S.1 t = 131 ∨ S.1 t = 132) → S.2.2.1 t + 2 ≤ S.2.2.1 (t + 1)}
def Tks.K (S : Tks) : Nat → Int32 := S.1.1
def Tks.V (S : Tks) : Nat → Nat := S.1.2.1
def Tks.P (S : Tks) : Nat → Nat := S.1.2.2.1
def Tks.E (S : Tks) : Nat := S.1.2.2.2
theorem Tks.end0 (S : Tks) : ∀ t, S.E ≤ t → S.K t = 0 := S.2.1
theorem Tks.mono (S : Tks) : ∀ t, S.K t ≠ 0 → S.P t < S.P (t + 1) := S.2.2.1
theorem Tks.two (S : Tks) : ∀ t, (S.K t = 131 ∨ S.K t = 132) → S.P t + 2 ≤ S.P (t + 1) := S.2.2.2
/-- what reading comes to: a thing and the word behind it, or the wrong place -/
abbrev Pr (α : Type) : Type := (α × Nat) ⊕ Nat
abbrev ok {α : Type} (a : α) (t : Nat) : Pr α := Sum.inl (a, t)
abbrev no {α : Type} (w : Nat) : Pr α := Sum.inr w
theorem ok_inj {α : Type} {a b : α} {t u : Nat} (h : (ok a t : Pr α) = ok b u) : a = b ∧ t = u := by
  have := Sum.inl.inj h
  exact ⟨congrArg Prod.fst this, congrArg Prod.snd this⟩
theorem no_ok {α : Type} {a : α} {t w : Nat} (h : (no w : Pr α) = ok a t) : False := by cases h
def Pr.bind {α β : Type} (x : Pr α) (f : α → Nat → Pr β) : Pr β := match x with
  | Sum.inl (a, t) => f a t
  | Sum.inr w => no w
theorem Pr.bind_ok {α β : Type} (a : α) (t : Nat) (f : α → Nat → Pr β) : Pr.bind (ok a t) f = f a t := rfl
theorem Pr.bind_no {α β : Type} (w : Nat) (f : α → Nat → Pr β) : Pr.bind (no w : Pr α) f = no w := rfl
theorem Pr.bind_assoc {α β γ : Type} (x : Pr α) (f : α → Nat → Pr β) (g : β → Nat → Pr γ) : Pr.bind (Pr.bind x f) g = Pr.bind x (fun a t => Pr.bind (f a t) g) := by rcases x with ⟨a, t⟩ | w <;> rfl
theorem Pr.bind_eq_ok {α β : Type} {x : Pr α} {f : α → Nat → Pr β} {b : β} {t : Nat} (h : Pr.bind x f = ok b t) : ∃ a s, x = ok a s ∧ f a s = ok b t := by
  rcases x with ⟨a, s⟩ | w
  · exact ⟨a, s, rfl, h⟩
  · exact (no_ok h).elim
/-- trees: binary, with three numbers at each fork -/
abbrev Tr : Type := Lean.Data.AC.Expr
def nd (k v w : Nat) (a b : Tr) : Tr := .op (.op (.var k) (.op (.var v) (.var w))) (.op a b)
def nl : Tr := .var 0
/-- expressions: what a call is of where that is this; one with no parts; with one; with two; with one more argument; a call with n of them. Names are told by the word that tells them. -/
def eSelf : Tr := nd 50 0 0 nl nl
def eLeaf (k v w : Nat) : Tr := nd k v w nl nl
def eUn (k v w : Nat) (a : Tr) : Tr := nd k v w a nl
def eBin (k : Nat) (a b : Tr) : Tr := nd k 0 0 a b
def eArg (a b : Tr) : Tr := nd 70 0 0 a b
def eCall (n w : Nat) (s : Tr) : Tr := nd 30 n w s nl
/-- what kind of fork -/
def kd : Tr → Nat
  | .op (.op (.var k) _) _ => k
  | _ => 0
/-- the level of a sign: 1 ||, 2 &&, 3 == !=, 4 < <= is, 5 + -, 6 * / % -/
def lvl (k : Int32) : Nat := if k = 132 then 1 else if k = 131 then 2 else if k = 128 ∨ k = 129 then 3 else if k = 60 ∨ k = 130 ∨ k = 21 then 4 else if k = 43 ∨ k = 45 then 5 else if k = 42 ∨ k = 47 ∨ k = 37 then 6 else 0
def opc (k : Int32) : Nat := if k = 132 then 29 else if k = 131 then 28 else if k = 128 then 26 else if k = 129 then 27 else if k = 60 then 24 else if k = 130 then 25 else if k = 43 then 22 else if k = 45 then 23 else if k = 42 then 19 else if k = 47 then 20 else 21
def mk2 (k : Int32) (x y : Tr) : Tr := eBin (opc k) x y
def onceL (l : Nat) : Bool := l == 3 || l == 4
theorem lvl_le (k : Int32) : lvl k ≤ 6 := by unfold lvl; repeat' split
                                             all_goals omega
theorem lvl_0 : lvl 0 = 0 := by decide
/-- further on the level l: s reads what stands to the right -/
def Tks.lp (S : Tks) (s : Nat → Pr Tr) (l : Nat) : Nat → Tr → Nat → Pr Tr
  | 0, x, t => ok x t
  | f + 1, x, t => if lvl (S.K t) ≠ l then ok x t
    else if S.K t = 21 then (if S.K (t + 1) = 22 then ok (eUn 16 0 (t + 1) x) (t + 2) else no (S.P (t + 1)))
    else (s (t + 1)).bind fun y t' => if onceL l then ok (mk2 (S.K t) x y) t' else Tks.lp S s l f (mk2 (S.K t) x y) t'
/-- the levels: 0 is s, i is level 7 - i -/
def Tks.lv (S : Tks) (s : Nat → Pr Tr) : Nat → Nat → Pr Tr
  | 0, t => s t
  | i + 1, t => (Tks.lv S s i t).bind fun x t' => S.lp (Tks.lv S s i) (6 - i) (S.E - t') x t'
/-- between a and b -/
def Tks.brk (S : Tks) (r : Nat) (sub : Nat → Pr Tr) (a b : Int32) (t : Nat) : Pr Tr :=
  if S.K t ≠ a ∨ r = 0 then no (S.P t) else (sub (t + 1)).bind fun x t' => if S.K t' = b then ok x (t' + 1) else no (S.P t')
def Tks.argl (S : Tks) (sub : Nat → Pr Tr) : Nat → Tr → Nat → Nat → Pr (Tr × Nat)
  | 0, _, _, t => no (S.P t)
  | f + 1, s, n, t => (sub t).bind fun y t' => if S.K t' = 44 then Tks.argl S sub f (eArg s y) (n + 1) (t' + 1) else if S.K t' = 41 then ok (eArg s y, n + 1) (t' + 1) else no (S.P t')
/-- ( ARGUMENTS ) of what s is -/
def Tks.args (S : Tks) (r : Nat) (sub : Nat → Pr Tr) (s : Tr) (t : Nat) : Pr (Tr × Nat) :=
  if S.K t ≠ 40 ∨ r = 0 then no (S.P t) else if S.K (t + 1) = 41 then ok (s, 0) (t + 2) else S.argl sub (S.E - t) s 0 (t + 1)
def Tks.first (S : Tks) (r : Nat) (sub : Nat → Pr Tr) (t : Nat) : Pr Tr :=
  if S.K t = 23 then ok (eLeaf 1 (S.V t) 0) (t + 1)
  else if S.K t = 22 then (if S.K (t + 1) = 40 then (S.args r sub eSelf (t + 1)).bind fun a t' => ok (eCall a.2 t a.1) t' else ok (eLeaf 6 0 t) (t + 1))
  else if S.K t = 40 then S.brk r sub 40 41 t
  else if S.K t = 14 then (if S.K (t + 1) = 4 then (S.brk r sub 91 93 (t + 2)).bind fun x t' => ok (eUn 14 0 0 x) t' else if S.K (t + 1) = 22 then ok (eLeaf 13 0 (t + 1)) (t + 2) else no (S.P (t + 1)))
  else if S.K t = 15 then ok (eLeaf 3 0 0) (t + 1)
  else if S.K t = 16 then ok (eLeaf 2 1 0) (t + 1)
  else if S.K t = 17 then ok (eLeaf 2 0 0) (t + 1)
  else if S.K t = 18 then ok (eLeaf 4 0 0) (t + 1)
  else if S.K t = 19 then ok (eLeaf 5 0 0) (t + 1)
  else no (S.P t)
def Tks.chn (S : Tks) (r : Nat) (sub : Nat → Pr Tr) : Nat → Tr → Nat → Pr Tr
  | 0, x, t => ok x t
  | f + 1, x, t => if S.K t = 46 then (if S.K (t + 1) ≠ 22 then no (S.P (t + 1)) else if S.K (t + 2) = 40 then (S.args r sub x (t + 2)).bind fun a t' => Tks.chn S r sub f (eCall a.2 (t + 1) a.1) t' else Tks.chn S r sub f (eUn 9 0 (t + 1) x) (t + 2))
    else if S.K t = 91 then (S.brk r sub 91 93 t).bind fun y t' => Tks.chn S r sub f (eBin 12 x y) t'
    else if S.K t = 20 then (if S.K (t + 1) ≠ 22 then no (S.P (t + 1)) else Tks.chn S r sub f (eUn 15 0 (t + 1) x) (t + 2))
    else ok x t
def Tks.chain (S : Tks) (r : Nat) (sub : Nat → Pr Tr) (t : Nat) : Pr Tr := (S.first r sub t).bind fun x t' => S.chn r sub (S.E - t') x t'
/-- a ONE with r more levels -/
def Tks.sgl (S : Tks) : Nat → Nat → Pr Tr
  | 0, t => if S.K t = 45 ∨ S.K t = 33 then no (S.P t) else S.chain 0 (fun t => no (S.P t)) t
  | r + 1, t => if S.K t = 45 ∨ S.K t = 33 then (Tks.sgl S r (t + 1)).bind fun x t' => ok (eUn (if S.K t = 45 then 17 else 18) 0 0 x) t' else S.chain (r + 1) (S.lv (Tks.sgl S r) 6) t
/-- an EXPRESSION with r more levels -/
def Tks.expr (S : Tks) (r : Nat) : Nat → Pr Tr := S.lv (S.sgl r) 6
/-- what reads on -/
def Tks.Adv {α : Type} (S : Tks) (p : Nat → Pr α) : Prop := ∀ t x t', p t = ok x t' → t < t' ∧ t' ≤ S.E
theorem Tks.lt_of {S : Tks} {t : Nat} (h : S.K t ≠ 0) : t < S.E := by
  rcases Nat.lt_or_ge t S.E with h1 | h1
  · exact h1
  · exact absurd (S.end0 t h1) h
theorem Tks.lp_adv {S : Tks} {s : Nat → Pr Tr} (hs : S.Adv s) (l : Nat) : ∀ (f : Nat) (x : Tr) (t : Nat) (y : Tr) (t' : Nat), t ≤ S.E → S.lp s l f x t = ok y t' → t ≤ t' ∧ t' ≤ S.E
  | 0, x, t, y, t', ht, h => by
    unfold Tks.lp at h
    obtain ⟨h1, h2⟩ := ok_inj h
    omega
  | f + 1, x, t, y, t', ht, h => by
    unfold Tks.lp at h
    split at h
    · obtain ⟨h1, h2⟩ := ok_inj h
      omega
    · split at h
      · split at h
        · rename_i h3
          obtain ⟨h1, h2⟩ := ok_inj h
          have := Tks.lt_of (S := S) (t := t + 1) (by rw [h3]; decide)
          omega
        · exact (no_ok h).elim
      · obtain ⟨a, u, h1, h2⟩ := Pr.bind_eq_ok h
        obtain ⟨h3, h4⟩ := hs _ _ _ h1
        split at h2
        · obtain ⟨h5, h6⟩ := ok_inj h2
          omega
        · have := Tks.lp_adv hs l f _ u y t' h4 h2
          omega
theorem Tks.lv_adv {S : Tks} {s : Nat → Pr Tr} (hs : S.Adv s) : ∀ i, S.Adv (S.lv s i)
  | 0 => hs
  | i + 1 => by
    intro t x t' h
    obtain ⟨a, u, h1, h2⟩ := Pr.bind_eq_ok (show (S.lv s i t).bind _ = _ from h)
    obtain ⟨h3, h4⟩ := Tks.lv_adv hs i _ _ _ h1
    have := Tks.lp_adv (Tks.lv_adv hs i) _ _ _ _ _ _ h4 h2
    omega
/-- the fuel is enough where it is as long as what is left -/
theorem Tks.lp_fuel {S : Tks} {s : Nat → Pr Tr} (hs : S.Adv s) (l : Nat) : ∀ (f g : Nat) (x : Tr) (t : Nat), l ≠ 0 → S.E ≤ t + f → S.E ≤ t + g → S.lp s l f x t = S.lp s l g x t
  | 0, 0, x, t, _, _, _ => rfl
  | 0, g + 1, x, t, hl, hf, _ => by
    unfold Tks.lp
    rw [S.end0 t (by omega), lvl_0, if_pos (fun e => hl e.symm)]
  | f + 1, 0, x, t, hl, _, hf => by
    unfold Tks.lp
    rw [S.end0 t (by omega), lvl_0, if_pos (fun e => hl e.symm)]
  | f + 1, g + 1, x, t, hl, hf, hg => by
    unfold Tks.lp
    split
    · rfl
    · split
      · rfl
      · rcases h1 : s (t + 1) with ⟨y, u⟩ | w
        · rw [Pr.bind_ok, Pr.bind_ok]
          split
          · rfl
          · have := (hs _ _ _ h1).1
            exact Tks.lp_fuel hs l f g _ u hl (by omega) (by omega)
        · rfl
theorem Tks.argl_adv {S : Tks} {sub : Nat → Pr Tr} (hs : S.Adv sub) : ∀ (f : Nat) (s : Tr) (n t : Nat) (y : Tr × Nat) (t' : Nat), S.argl sub f s n t = ok y t' → t < t' ∧ t' ≤ S.E
  | 0, s, n, t, y, t', h => (no_ok h).elim
  | f + 1, s, n, t, y, t', h => by
    unfold Tks.argl at h
    obtain ⟨a, u, h1, h2⟩ := Pr.bind_eq_ok h
    obtain ⟨h3, h4⟩ := hs _ _ _ h1
    split at h2
    · have := Tks.argl_adv hs f _ _ _ _ _ h2
      omega
    · split at h2
      · rename_i h5
        obtain ⟨h6, h7⟩ := ok_inj h2
        have := Tks.lt_of (S := S) (t := u) (by rw [h5]; decide)
        omega
      · exact (no_ok h2).elim
theorem Tks.args_adv {S : Tks} {sub : Nat → Pr Tr} (hs : S.Adv sub) (r : Nat) (s : Tr) : S.Adv (S.args r sub s) := by
  intro t x t' h
  unfold Tks.args at h
  split at h
  · exact (no_ok h).elim
  · split at h
    · rename_i h5
      obtain ⟨h6, h7⟩ := ok_inj h
      have := Tks.lt_of (S := S) (t := t + 1) (by rw [h5]; decide)
      omega
    · have := Tks.argl_adv hs _ _ _ _ _ _ h
      omega
theorem Tks.brk_adv {S : Tks} {sub : Nat → Pr Tr} (hs : S.Adv sub) (r : Nat) (a b : Int32) (hb : b ≠ 0) : S.Adv (S.brk r sub a b) := by
  intro t x t' h
  unfold Tks.brk at h
  split at h
  · exact (no_ok h).elim
  · obtain ⟨y, u, h1, h2⟩ := Pr.bind_eq_ok h
    obtain ⟨h3, h4⟩ := hs _ _ _ h1
    split at h2
    · rename_i h5
      obtain ⟨h6, h7⟩ := ok_inj h2
      have := Tks.lt_of (S := S) (t := u) (by rw [h5]; exact hb)
      omega
    · exact (no_ok h2).elim
theorem Tks.first_adv {S : Tks} {sub : Nat → Pr Tr} (hs : S.Adv sub) (r : Nat) : S.Adv (S.first r sub) := by
  intro t x t' h
  have lt1 : ∀ {u : Nat} {k : Int32}, S.K u = k → k ≠ 0 → u < S.E := fun h1 h2 => Tks.lt_of (by rw [h1]; exact h2)
  unfold Tks.first at h
  repeat' split at h
  all_goals first
    | (obtain ⟨h6, h7⟩ := ok_inj h; rename_i h5; have := lt1 h5 (by decide); omega)
    | (exact (no_ok h).elim)
    | skip
  · obtain ⟨y, u, h1, h2⟩ := Pr.bind_eq_ok h
    have := Tks.args_adv hs _ _ _ _ _ h1
    obtain ⟨h6, h7⟩ := ok_inj h2
    omega
  · rename_i h5 h8
    obtain ⟨h6, h7⟩ := ok_inj h
    have := lt1 h5 (by decide)
    omega
  · exact Tks.brk_adv hs _ _ _ (by decide) _ _ _ h
  · obtain ⟨y, u, h1, h2⟩ := Pr.bind_eq_ok h
    have := Tks.brk_adv hs _ _ _ (by decide) _ _ _ h1
    obtain ⟨h6, h7⟩ := ok_inj h2
    omega
theorem Tks.chn_adv {S : Tks} {sub : Nat → Pr Tr} (hs : S.Adv sub) (r : Nat) : ∀ (f : Nat) (x : Tr) (t : Nat) (y : Tr) (t' : Nat), t ≤ S.E → S.chn r sub f x t = ok y t' → t ≤ t' ∧ t' ≤ S.E
  | 0, x, t, y, t', ht, h => by
    unfold Tks.chn at h
    obtain ⟨h1, h2⟩ := ok_inj h
    omega
  | f + 1, x, t, y, t', ht, h => by
    have lt1 : ∀ {u : Nat} {k : Int32}, S.K u = k → k ≠ 0 → u < S.E := fun h1 h2 => Tks.lt_of (by rw [h1]; exact h2)
    unfold Tks.chn at h
    split at h
    · split at h
      · exact (no_ok h).elim
      · rename_i h1
        have h2 := lt1 (Decidable.not_not.mp h1) (by decide)
        split at h
        · obtain ⟨a, u, h3, h4⟩ := Pr.bind_eq_ok h
          obtain ⟨h5, h6⟩ := Tks.args_adv hs _ _ _ _ _ h3
          have := Tks.chn_adv hs r f _ u y t' h6 h4
          omega
        · have := Tks.chn_adv hs r f _ _ y t' (by omega) h
          omega
    · split at h
      · obtain ⟨a, u, h3, h4⟩ := Pr.bind_eq_ok h
        obtain ⟨h5, h6⟩ := Tks.brk_adv hs _ _ _ (by decide) _ _ _ h3
        have := Tks.chn_adv hs r f _ u y t' h6 h4
        omega
      · split at h
        · split at h
          · exact (no_ok h).elim
          · rename_i h1
            have h2 := lt1 (Decidable.not_not.mp h1) (by decide)
            have := Tks.chn_adv hs r f _ _ y t' (by omega) h
            omega
        · obtain ⟨h1, h2⟩ := ok_inj h
          omega
theorem Tks.chain_adv {S : Tks} {sub : Nat → Pr Tr} (hs : S.Adv sub) (r : Nat) : S.Adv (S.chain r sub) := by
  intro t x t' h
  obtain ⟨y, u, h1, h2⟩ := Pr.bind_eq_ok h
  obtain ⟨h3, h4⟩ := Tks.first_adv hs _ _ _ _ h1
  have := Tks.chn_adv hs _ _ _ _ _ _ h4 h2
  omega
theorem Tks.sgl_adv (S : Tks) : ∀ r, S.Adv (S.sgl r)
  | 0 => by
    intro t x t' h
    unfold Tks.sgl at h
    split at h
    · exact (no_ok h).elim
    · exact Tks.chain_adv (fun t x t' h => (no_ok h).elim) 0 _ _ _ h
  | r + 1 => by
    intro t x t' h
    unfold Tks.sgl at h
    split at h
    · obtain ⟨y, u, h1, h2⟩ := Pr.bind_eq_ok h
      have := Tks.sgl_adv S r _ _ _ h1
      obtain ⟨h6, h7⟩ := ok_inj h2
      omega
    · exact Tks.chain_adv (Tks.lv_adv (Tks.sgl_adv S r) 6) _ _ _ _ h
theorem Tks.expr_adv (S : Tks) (r : Nat) : S.Adv (S.expr r) := Tks.lv_adv (Tks.sgl_adv S r) 6
