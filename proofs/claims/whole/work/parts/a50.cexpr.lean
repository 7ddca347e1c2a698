/-! ===== THE CLASS' TYPER: an expression's pieces ===== -/
/-- the tree's pieces, typed: R tells of each, with the types of its parts -/
def TX (P : Pgm) (c : Nat) (E : EnvV) (R : Nat → Nat → Nat → Nat → List Nat → Prop) : Tr → Nat → Prop
  | .op (.op (.var k) (.op (.var v) (.var w))) (.op a b), s => if k = 28 ∨ k = 29 then TX P c E R a s ∧ R (s + cl a) k 0 0 [] ∧ TX P c E R b (s + cl a + 1) ∧ R (s + cl a + 1 + cl b) 51 0 0 [] else if k = 70 then TX P c E R a s ∧ TX P c E R b (s + cl a) else TX P c E R a s ∧ TX P c E R b (s + cl a) ∧ R (s + cl a + cl b) k v w ((P.te c E a).getD [] ++ (P.te c E b).getD [])
  | _, _ => True
theorem TX_nd (P : Pgm) (c : Nat) (E : EnvV) (R : Nat → Nat → Nat → Nat → List Nat → Prop) (k v w : Nat) (a b : Tr) (s : Nat) : TX P c E R (nd k v w a b) s = if k = 28 ∨ k = 29 then TX P c E R a s ∧ R (s + cl a) k 0 0 [] ∧ TX P c E R b (s + cl a + 1) ∧ R (s + cl a + 1 + cl b) 51 0 0 [] else if k = 70 then TX P c E R a s ∧ TX P c E R b (s + cl a) else TX P c E R a s ∧ TX P c E R b (s + cl a) ∧ R (s + cl a + cl b) k v w ((P.te c E a).getD [] ++ (P.te c E b).getD []) := rfl
theorem TX_no {P : Pgm} {c : Nat} {E : EnvV} {R : Nat → Nat → Nat → Nat → List Nat → Prop} {e : Tr} (he : ∀ k v w a b, e ≠ nd k v w a b) (s : Nat) : TX P c E R e s := by
  unfold TX
  split
  · exact absurd rfl (he _ _ _ _ _)
  · trivial
theorem TX.mono {P : Pgm} {c : Nat} {E : EnvV} {R R' : Nat → Nat → Nat → Nat → List Nat → Prop} : ∀ (e : Tr) (s : Nat), (∀ i k v w l, s ≤ i → i < s + cl e → R i k v w l → R' i k v w l) → TX P c E R e s → TX P c E R' e s := by
  intro e
  induction e using Tr.rec2 with
  | h2 e he => intro s _ _; exact TX_no he s
  | h1 k v w a b iha ihb =>
    intro s hq h
    rw [cl_nd] at hq
    rw [TX_nd] at h ⊢
    by_cases hk : k = 28 ∨ k = 29
    · rw [if_pos hk] at h hq ⊢
      obtain ⟨h1, h2, h3, h4⟩ := h
      exact ⟨iha s (fun i k v w g i1 i2 => hq i k v w g (by omega) (by omega)) h1, hq _ _ _ _ _ (by omega) (by omega) h2, ihb _ (fun i k v w g i1 i2 => hq i k v w g (by omega) (by omega)) h3, hq _ _ _ _ _ (by omega) (by omega) h4⟩
    · rw [if_neg hk] at h hq ⊢
      by_cases hk2 : k = 70
      · rw [if_pos hk2] at h hq ⊢
        obtain ⟨h1, h2⟩ := h
        exact ⟨iha s (fun i k v w g i1 i2 => hq i k v w g (by omega) (by omega)) h1, ihb _ (fun i k v w g i1 i2 => hq i k v w g (by omega) (by omega)) h2⟩
      · rw [if_neg hk2] at h hq ⊢
        obtain ⟨h1, h2, h3⟩ := h
        exact ⟨iha s (fun i k v w g i1 i2 => hq i k v w g (by omega) (by omega)) h1, ihb _ (fun i k v w g i1 i2 => hq i k v w g (by omega) (by omega)) h2, hq _ _ _ _ _ (by omega) (by omega) h3⟩
/-- kind and first number of a typed piece -/
def Rp (P : Pgm) (C : Cx) (c : Nat) (E : EnvV) (h : pH) (i k v w : Nat) (l : List Nat) : Prop := rd h 39 i = (P.pcK c E k w l (pa C k v w)).1 ∧ rd h 40 i = (P.pcK c E k w l (pa C k v w)).2 ∧ rd h 44 i = Int32.ofNat E.1.length
theorem TX.chg {P : Pgm} {C : Cx} {c s s' t' : Nat} {E : EnvV} {e : Tr} {h h' : pH} (q : TX P c E (Rp P C c E h) e s) (g : Chg (exA s' t') h h') (hd : s + cl e ≤ s' ∨ t' ≤ s) : TX P c E (Rp P C c E h') e s := TX.mono e s (fun i k v w l i1 i2 z => by
  obtain ⟨z1, z2, z3⟩ := z
  exact ⟨by rw [g.2.2.1 _ _ (by unfold exA pyA; omega)]; exact z1, by rw [g.2.2.1 _ _ (by unfold exA pyA; omega)]; exact z2, by rw [g.2.2.1 _ _ (by unfold exA pyA; omega)]; exact z3⟩) q
theorem TyS.bind {P : Pgm} {D : List Int32 → Prop} {num : List Int32 → Nat} {c M X s t u : Nat} {E : EnvV} {σ τ : List Nat} {p : Int32} {Z1 Z2 : Nat → pH → Prop} {o : Option (List Nat)} {f : List Nat → Option (List Nat)} {x : Option (Int32 × pH)} {y1 y2 : pH → Option (Int32 × pH)} {h : pH} (htu : t ≤ u) (q : TyS P D num c E M τ X p s t Z1 o x y1 h) (hf : ∀ r h' X', o = some r → TS P D num c E M (τ ++ r) X' h' → X ≤ X' → Z1 X' h' → Chg (exA s t) h h' → TyS P D num c E M σ X' p s u Z2 (f r) (y1 h') y2 h') : TyS P D num c E M σ X p s u Z2 (o.bind f) x y2 h := by
  cases o with
  | none => exact q
  | some r =>
    obtain ⟨h', X', e1, e2, e3, e4, e5⟩ := q
    have k := hf r h' X' rfl e2 e3 e4 e5
    show TyS P D num c E M σ X p s u Z2 (f r) x y2 h
    rw [e1]
    cases hr : f r with
    | none =>
      rw [hr] at k
      obtain ⟨h2, f1, f2⟩ := k
      exact ⟨h2, f1, (e5.mono exA.ty).trans f2⟩
    | some r' =>
      rw [hr] at k
      obtain ⟨h2, X2, f1, f2, f3, f4, f5⟩ := k
      exact ⟨h2, X2, f1, f2, by omega, f4, (e5.mono (fun a k z => z.mono (Nat.le_refl _) htu)).trans f5⟩
/-- the same, told from further on -/
theorem TyS.low {P : Pgm} {D : List Int32 → Prop} {num : List Int32 → Nat} {c M X s s' t : Nat} {E : EnvV} {σ : List Nat} {p : Int32} {Z Z' : Nat → pH → Prop} {o : Option (List Nat)} {x : Option (Int32 × pH)} {y : pH → Option (Int32 × pH)} {h : pH} (q : TyS P D num c E M σ X p s t Z o x y h) (hs : s' ≤ s) (hz : ∀ r X' h', o = some r → X ≤ X' → TS P D num c E M (σ ++ r) X' h' → Z X' h' → Chg (exA s t) h h' → Z' X' h') : TyS P D num c E M σ X p s' t Z' o x y h := by
  cases o with
  | none => exact q
  | some r =>
    obtain ⟨h', X', e1, e2, e3, e4, e5⟩ := q
    exact ⟨h', X', e1, e2, e3, hz r X' h' rfl e3 e2 e4 e5, e5.mono (fun a k z => z.mono hs (Nat.le_refl _))⟩

/-- how many values the tree leaves -/
def ln : Tr → Nat
  | .op (.op (.var k) (.op (.var _) (.var _))) (.op a b) => if k = 70 then ln a + ln b else 1
  | _ => 0
theorem ln_nd (k v w : Nat) (a b : Tr) : ln (nd k v w a b) = if k = 70 then ln a + ln b else 1 := rfl
theorem Pgm.te_ln {P : Pgm} {c : Nat} {E : EnvV} (e : Tr) : ∀ x, P.te c E e = some x → x.length = ln e := by
  induction e using Tr.rec2 with
  | h2 e he =>
    intro x hx
    have h1 : P.te c E e = some [] := by
      unfold Pgm.te
      split
      · exact absurd rfl (he _ _ _ _ _)
      · rfl
    rw [h1] at hx
    rw [← Option.some.inj hx]
    unfold ln
    split
    · exact absurd rfl (he _ _ _ _ _)
    · rfl
  | h1 k v w a b iha ihb =>
    intro x hx
    rw [Pgm.te_nd] at hx
    obtain ⟨y, h1, hx⟩ := Option.bind_eq_some_iff.mp hx
    obtain ⟨z, h2, hx⟩ := Option.bind_eq_some_iff.mp hx
    have i1 := iha y h1
    have i2 := ihb z h2
    rw [ln_nd]
    by_cases hk : k = 70
    · have he : P.opT c E k w (y ++ z) = some (y ++ z) := by unfold Pgm.opT; rw [if_pos hk]
      rw [he] at hx
      rw [← Option.some.inj hx, List.length_append, if_pos hk, i1, i2]
    · obtain ⟨t, ht, _⟩ := Pgm.opT_one hk hx
      rw [ht, if_neg hk]
      rfl
/-- the tree's values, from height n on, stay within X -/
def HX : Tr → Nat → Nat → Prop
  | .op (.op (.var k) (.op (.var _) (.var _))) (.op a b), n, X => if k = 28 ∨ k = 29 then HX a n X ∧ HX b n X ∧ n + 1 ≤ X else HX a n X ∧ HX b (n + ln a) X ∧ (k ≠ 70 → n + 1 ≤ X)
  | _, n, X => n ≤ X
theorem HX_nd (k v w : Nat) (a b : Tr) (n X : Nat) : HX (nd k v w a b) n X = if k = 28 ∨ k = 29 then HX a n X ∧ HX b n X ∧ n + 1 ≤ X else HX a n X ∧ HX b (n + ln a) X ∧ (k ≠ 70 → n + 1 ≤ X) := rfl
theorem HX.mono {X X' : Nat} (hX : X ≤ X') : ∀ (e : Tr) (n : Nat), HX e n X → HX e n X' := by
  intro e
  induction e using Tr.rec2 with
  | h2 e he =>
    intro n h
    unfold HX at h ⊢
    split at h
    · exact absurd rfl (he _ _ _ _ _)
    · exact Nat.le_trans h hX
  | h1 k v w a b iha ihb =>
    intro n h
    rw [HX_nd] at h ⊢
    split
    · rename_i hk
      rw [if_pos hk] at h
      exact ⟨iha _ h.1, ihb _ h.2.1, by omega⟩
    · rename_i hk
      rw [if_neg hk] at h
      exact ⟨iha _ h.1, ihb _ h.2.1, fun z => Nat.le_trans (h.2.2 z) hX⟩
