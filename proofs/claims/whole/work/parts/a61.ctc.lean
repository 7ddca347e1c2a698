/-! ===== THE CLASS' CODE, typed ===== -/
/-- what typing leaves of a piece as it was -/
def Qo (C : Cx) (o : Int32) (h : pH) (i k v w g : Nat) : Prop := rd h 41 i = pb C k v w ∧ rd h 42 i = Int32.ofNat g ∧ rd h 45 i = o
/-- a typed expression from s on, X high at most -/
def TE (P : Pgm) (C : Cx) (c X : Nat) (h : pH) (E : EnvV) (e : Tr) (s : Nat) (o : Int32) : Prop := TX P c E (Rp P C c E h) e s ∧ CE (Qo C o h) e s ∧ HX e 0 X
/-- a piece without a step; a piece that is one -/
def Ts (h : pH) (i k g : Nat) : Prop := rd h 39 i = Int32.ofNat k ∧ rd h 42 i = Int32.ofNat g
def Tp (h : pH) (i : Nat) (k : Int32) (g : Nat) (o : Int32) (n : Nat) : Prop := rd h 39 i = k ∧ rd h 42 i = Int32.ofNat g ∧ rd h 45 i = o ∧ rd h 44 i = Int32.ofNat n
/-- the parts of a place, and then e -/
def pp : Tr → Tr
  | .op (.op (.var _) (.op (.var _) (.var _))) (.op a b) => nd 70 0 0 a b
  | _ => nl
theorem pp_nd (k v w : Nat) (a b : Tr) : pp (nd k v w a b) = nd 70 0 0 a b := rfl
/-- the statements from s on, typed -/
def TC (P : Pgm) (C : Cx) (c mt M X : Nat) (h : pH) : Tr → EnvV → Nat → Int32 → Prop := foldB (fun _ _ _ => True) (fun _ _ _ => False)
  (fun _ y w _ R E s o => Tp h s 53 0 o E.1.length ∧ rd h 40 s = Int32.ofNat E.1.length ∧ E.1.length < M ∧ R (E.add (P.1 w) (P.rt y) false) (s + 1) o)
  (fun _ y w e _ R E s o => TE P C c X h E e s o ∧ Tp h (s + cl e) 37 0 o E.1.length ∧ rd h 40 (s + cl e) = Int32.ofNat E.1.length ∧ E.1.length < M ∧ R (E.add (P.1 w) (P.rt y) true) (s + cl e + 1) o)
  (fun _ x e _ R E s o => TE P C c X h E (nd 70 0 0 (pp x) e) s o ∧ Tp h (s + (cl x - 1) + cl e) (P.gvK c E (gk x) (P.1 (gw x)) ((P.plT c E x).getD [])).1 0 o E.1.length ∧ rd h 40 (s + (cl x - 1) + cl e) = (P.gvK c E (gk x) (P.1 (gw x)) ((P.plT c E x).getD [])).2 ∧ ∀ E', P.gvE c E x e = some E' → R E' (s + (cl x - 1) + cl e + 1) o)
  (fun _ e a A f b B _ R E s o => TE P C c X h E e s o ∧ A E (s + cl e + 1) o ∧ (if f = 1 then Tp h (s + cl e) 38 (s + cl e + 1 + cb a + 1) o E.1.length ∧ Ts h (s + cl e + 1 + cb a) 54 (s + cl e + 1 + cb a + 1 + cb b) ∧ B E (s + cl e + 1 + cb a + 1) o ∧ Ts h (s + cl e + 1 + cb a + 1 + cb b) 56 0 ∧ (∀ E1 E2, P.chk c mt a E = .inr E1 → P.chk c mt b E = .inr E2 → R (E.join E1 E2) (s + cl e + 1 + cb a + 1 + (cb b + 1)) o) else Tp h (s + cl e) 38 (s + cl e + 1 + cb a) o E.1.length ∧ Ts h (s + cl e + 1 + cb a) 55 0 ∧ R E (s + cl e + 1 + cb a + 1) o))
  (fun _ e a A _ R E s o => TE P C c X h E e s o ∧ A E (s + cl e + 1) o ∧ Tp h (s + cl e) 39 (s + cl e + 1 + cb a + 1) o E.1.length ∧ Ts h (s + cl e + 1 + cb a) 57 s ∧ R E (s + cl e + 1 + cb a + 1) o)
  (fun _ a A cw w b B _ R E s o => (rd h 39 s = 58 ∧ rd h 40 s = Int32.ofNat (s + 1 + cb a) ∧ rd h 45 s = o) ∧ A E (s + 1) (Int32.ofNat s) ∧ ∀ d E0, P.fnd (P.1 cw) = some d → P.ctE E cw w = some E0 → Ts h (s + 1 + cb a) 59 (s + 1 + cb a + 1 + cb b) ∧ rd h 40 (s + 1 + cb a) = Int32.ofNat d ∧ rd h 41 (s + 1 + cb a) = Int32.ofNat E.1.length ∧ E.1.length < M ∧ B E0 (s + 1 + cb a + 1) o ∧ Ts h (s + 1 + cb a + 1 + cb b) 60 0 ∧ ∀ E1 E2, P.chk c mt a E = .inr E1 → P.chk c mt b E0 = .inr E2 → R (E.join E1 E2) (s + 1 + cb a + 1 + cb b + 1) o)
  (fun _ k e _ R E s o => TE P C c X h E e s o ∧ Tp h (s + cl e) (Int32.ofNat k) 0 o E.1.length ∧ ∀ E', P.wkE c mt E k e = some E' → R E' (s + cl e + 1) o)
theorem TC_tell (P : Pgm) (C : Cx) (c mt M X : Nat) (h : pH) (p y w : Nat) (r : Tr) (E : EnvV) (s : Nat) (o : Int32) : TC P C c mt M X h (bTell p y w r) E s o = (Tp h s 53 0 o E.1.length ∧ rd h 40 s = Int32.ofNat E.1.length ∧ E.1.length < M ∧ TC P C c mt M X h r (E.add (P.1 w) (P.rt y) false) (s + 1) o) := rfl
theorem TC_tellv (P : Pgm) (C : Cx) (c mt M X : Nat) (h : pH) (p y w : Nat) (e r : Tr) (E : EnvV) (s : Nat) (o : Int32) : TC P C c mt M X h (bTellv p y w e r) E s o = (TE P C c X h E e s o ∧ Tp h (s + cl e) 37 0 o E.1.length ∧ rd h 40 (s + cl e) = Int32.ofNat E.1.length ∧ E.1.length < M ∧ TC P C c mt M X h r (E.add (P.1 w) (P.rt y) true) (s + cl e + 1) o) := rfl
theorem TC_give (P : Pgm) (C : Cx) (c mt M X : Nat) (h : pH) (p : Nat) (x e r : Tr) (E : EnvV) (s : Nat) (o : Int32) : TC P C c mt M X h (bGive p x e r) E s o = (TE P C c X h E (nd 70 0 0 (pp x) e) s o ∧ Tp h (s + (cl x - 1) + cl e) (P.gvK c E (gk x) (P.1 (gw x)) ((P.plT c E x).getD [])).1 0 o E.1.length ∧ rd h 40 (s + (cl x - 1) + cl e) = (P.gvK c E (gk x) (P.1 (gw x)) ((P.plT c E x).getD [])).2 ∧ ∀ E', P.gvE c E x e = some E' → TC P C c mt M X h r E' (s + (cl x - 1) + cl e + 1) o) := rfl
theorem TC_ite (P : Pgm) (C : Cx) (c mt M X : Nat) (h : pH) (p : Nat) (e a : Tr) (f : Nat) (b r : Tr) (E : EnvV) (s : Nat) (o : Int32) : TC P C c mt M X h (bIte p e a f b r) E s o = (TE P C c X h E e s o ∧ TC P C c mt M X h a E (s + cl e + 1) o ∧ (if f = 1 then Tp h (s + cl e) 38 (s + cl e + 1 + cb a + 1) o E.1.length ∧ Ts h (s + cl e + 1 + cb a) 54 (s + cl e + 1 + cb a + 1 + cb b) ∧ TC P C c mt M X h b E (s + cl e + 1 + cb a + 1) o ∧ Ts h (s + cl e + 1 + cb a + 1 + cb b) 56 0 ∧ (∀ E1 E2, P.chk c mt a E = .inr E1 → P.chk c mt b E = .inr E2 → TC P C c mt M X h r (E.join E1 E2) (s + cl e + 1 + cb a + 1 + (cb b + 1)) o) else Tp h (s + cl e) 38 (s + cl e + 1 + cb a) o E.1.length ∧ Ts h (s + cl e + 1 + cb a) 55 0 ∧ TC P C c mt M X h r E (s + cl e + 1 + cb a + 1) o)) := rfl
theorem TC_whil (P : Pgm) (C : Cx) (c mt M X : Nat) (h : pH) (p : Nat) (e a r : Tr) (E : EnvV) (s : Nat) (o : Int32) : TC P C c mt M X h (bWhil p e a r) E s o = (TE P C c X h E e s o ∧ TC P C c mt M X h a E (s + cl e + 1) o ∧ Tp h (s + cl e) 39 (s + cl e + 1 + cb a + 1) o E.1.length ∧ Ts h (s + cl e + 1 + cb a) 57 s ∧ TC P C c mt M X h r E (s + cl e + 1 + cb a + 1) o) := rfl
theorem TC_try (P : Pgm) (C : Cx) (c mt M X : Nat) (h : pH) (p : Nat) (a : Tr) (cw w : Nat) (b r : Tr) (E : EnvV) (s : Nat) (o : Int32) : TC P C c mt M X h (bTry p a cw w b r) E s o = ((rd h 39 s = 58 ∧ rd h 40 s = Int32.ofNat (s + 1 + cb a) ∧ rd h 45 s = o) ∧ TC P C c mt M X h a E (s + 1) (Int32.ofNat s) ∧ ∀ d E0, P.fnd (P.1 cw) = some d → P.ctE E cw w = some E0 → Ts h (s + 1 + cb a) 59 (s + 1 + cb a + 1 + cb b) ∧ rd h 40 (s + 1 + cb a) = Int32.ofNat d ∧ rd h 41 (s + 1 + cb a) = Int32.ofNat E.1.length ∧ E.1.length < M ∧ TC P C c mt M X h b E0 (s + 1 + cb a + 1) o ∧ Ts h (s + 1 + cb a + 1 + cb b) 60 0 ∧ ∀ E1 E2, P.chk c mt a E = .inr E1 → P.chk c mt b E0 = .inr E2 → TC P C c mt M X h r (E.join E1 E2) (s + 1 + cb a + 1 + cb b + 1) o) := rfl
theorem TC_k {k : Nat} (hk : k = 40 ∨ k = 41 ∨ k = 42 ∨ k = 43 ∨ k = 52) (P : Pgm) (C : Cx) (c mt M X : Nat) (h : pH) (p : Nat) (e r : Tr) (E : EnvV) (s : Nat) (o : Int32) : TC P C c mt M X h (nd k p 0 e r) E s o = (TE P C c X h E e s o ∧ Tp h (s + cl e) (Int32.ofNat k) 0 o E.1.length ∧ ∀ E', P.wkE c mt E k e = some E' → TC P C c mt M X h r E' (s + cl e + 1) o) := by
  rcases hk with rfl | rfl | rfl | rfl | rfl <;> rfl
theorem Pgm.chk_k {k : Nat} (hk : k = 40 ∨ k = 41 ∨ k = 42 ∨ k = 43 ∨ k = 52) (P : Pgm) (c mt p : Nat) (e r : Tr) (E : EnvV) : P.chk c mt (nd k p 0 e r) E = sB (oS p (P.wkE c mt E k e)) (P.chk c mt r) := by
  rcases hk with rfl | rfl | rfl | rfl | rfl <;> rfl
theorem CB_k {k : Nat} (hk : k = 40 ∨ k = 41 ∨ k = 42 ∨ k = 43 ∨ k = 52) (Q : QB) (p : Nat) (e r : Tr) (c : Nat) (o : Int32) : CB Q (nd k p 0 e r) c o = (CE (Q (Int32.ofNat p) o) e c ∧ Q (Int32.ofNat p) o (c + cl e) k 0 0 0 ∧ CB Q r (c + cl e + 1) o) := by
  rcases hk with rfl | rfl | rfl | rfl | rfl <;> rfl
theorem cb_k {k : Nat} (hk : k = 40 ∨ k = 41 ∨ k = 42 ∨ k = 43 ∨ k = 52) (p : Nat) (e r : Tr) : cb (nd k p 0 e r) = cl e + 1 + cb r := by
  rcases hk with rfl | rfl | rfl | rfl | rfl <;> rfl
theorem nv_k {k : Nat} (hk : k = 40 ∨ k = 41 ∨ k = 42 ∨ k = 43 ∨ k = 52) (p : Nat) (e r : Tr) : nv (nd k p 0 e r) = nv r ∧ dp (nd k p 0 e r) = dp r := by
  rcases hk with rfl | rfl | rfl | rfl | rfl <;> exact ⟨rfl, rfl⟩
/-- good rows of statements, with one case for the small ones -/
def GK (S : Tks) : Nat → Tr → Prop
  | 0, e => e = nl
  | n + 1, e => e = nl ∨ (∃ p y w r, e = bTell p y w r ∧ tyW S y ∧ S.K w = 22 ∧ GK S n r) ∨ (∃ p y w x r, e = bTellv p y w x r ∧ tyW S y ∧ S.K w = 22 ∧ Ox S x ∧ GK S n r) ∨ (∃ p k x r, e = nd k p 0 x r ∧ ((k = 40 ∧ x = nl) ∨ ((k = 41 ∨ k = 42 ∨ k = 43 ∨ (k = 52 ∧ isCallE x = true)) ∧ Ox S x)) ∧ GK S n r) ∨ (∃ p x y r, e = bGive p x y r ∧ isPlaceE x = true ∧ Ox S x ∧ Ox S y ∧ GK S n r) ∨ (∃ p x a h b r, e = bIte p x a h b r ∧ (h = 1 ∨ (h = 0 ∧ b = nl)) ∧ Ox S x ∧ GK S n a ∧ GK S n b ∧ GK S n r) ∨ (∃ p x a r, e = bWhil p x a r ∧ Ox S x ∧ GK S n a ∧ GK S n r) ∨ (∃ p a c w b r, e = bTry p a c w b r ∧ S.K c = 22 ∧ S.K w = 22 ∧ GK S n a ∧ GK S n b ∧ GK S n r)
theorem GB.gk {S : Tks} : ∀ {n : Nat} {e : Tr}, GB S n e → GK S n e
  | 0, e, h => h
  | n + 1, e, h => by
    rcases h with h | ⟨p, y, w, r, h1, g1, g2, h2⟩ | ⟨p, y, w, x, r, h1, g1, g2, g3, h2⟩ | ⟨p, r, h1, h2⟩ | ⟨p, k, x, r, h1, h2, g1, h3⟩ | ⟨p, x, r, h1, h2, g1, h3⟩ | ⟨p, x, y, r, h1, h2, g1, g2, h3⟩ | ⟨p, x, a, h, b, r, h1, h2, g1, h3, h4, h5⟩ | ⟨p, x, a, r, h1, g1, h2, h3⟩ | ⟨p, a, c, w, b, r, h1, g1, g2, h2, h3, h4⟩
    · exact Or.inl h
    · exact Or.inr (Or.inl ⟨p, y, w, r, h1, g1, g2, h2.gk⟩)
    · exact Or.inr (Or.inr (Or.inl ⟨p, y, w, x, r, h1, g1, g2, g3, h2.gk⟩))
    · exact Or.inr (Or.inr (Or.inr (Or.inl ⟨p, 40, _, r, h1, Or.inl ⟨rfl, rfl⟩, h2.gk⟩)))
    · exact Or.inr (Or.inr (Or.inr (Or.inl ⟨p, k, x, r, h1, Or.inr ⟨by rcases h2 with h2 | h2 | h2; exact Or.inl h2; exact Or.inr (Or.inl h2); exact Or.inr (Or.inr (Or.inl h2)), g1⟩, h3.gk⟩)))
    · exact Or.inr (Or.inr (Or.inr (Or.inl ⟨p, 52, x, r, h1, Or.inr ⟨Or.inr (Or.inr (Or.inr ⟨rfl, h2⟩)), g1⟩, h3.gk⟩)))
    · exact Or.inr (Or.inr (Or.inr (Or.inr (Or.inl ⟨p, x, y, r, h1, h2, g1, g2, h3.gk⟩))))
    · exact Or.inr (Or.inr (Or.inr (Or.inr (Or.inr (Or.inl ⟨p, x, a, h, b, r, h1, h2, g1, h3.gk, h4.gk, h5.gk⟩)))))
    · exact Or.inr (Or.inr (Or.inr (Or.inr (Or.inr (Or.inr (Or.inl ⟨p, x, a, r, h1, g1, h2.gk, h3.gk⟩))))))
    · exact Or.inr (Or.inr (Or.inr (Or.inr (Or.inr (Or.inr (Or.inr ⟨p, a, c, w, b, r, h1, g1, g2, h2.gk, h3.gk, h4.gk⟩))))))
theorem GKk {S : Tks} {k : Nat} {x : Tr} (h : (k = 40 ∧ x = nl) ∨ ((k = 41 ∨ k = 42 ∨ k = 43 ∨ (k = 52 ∧ isCallE x = true)) ∧ Ox S x)) : k = 40 ∨ k = 41 ∨ k = 42 ∨ k = 43 ∨ k = 52 := by omega
