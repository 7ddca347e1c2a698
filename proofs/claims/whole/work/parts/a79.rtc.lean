/-! ===== THE REFERENCE'S STATEMENTS, typed ===== -/
def RTc (P : Pgm) (num : List Int32 → Nat) (c mt : Nat) (h : pH) : Tr → EnvV → Option Nat → Nat → Nat → Nat → Prop := foldB (fun _ o _ _ _ => lnk h o (-1)) (fun _ _ _ _ _ => False)
  (fun _ y w _ R E o s n l => lnk h o (Int32.ofNat s) ∧ (rd h 151 s = 0 ∧ rd h 154 s = -1 ∧ rd h 158 s = Int32.ofNat E.1.length) ∧ R (E.add (P.1 w) (P.rt y) false) (some s) (s + 1) n l)
  (fun _ y w e _ R E o s n l => lnk h o (Int32.ofNat s) ∧ (rd h 151 s = 0 ∧ rd h 154 s = Int32.ofNat (n + sz e - 1) ∧ rd h 158 s = Int32.ofNat E.1.length) ∧ RXn P num c E h e n l ∧ R (E.add (P.1 w) (P.rt y) true) (some s) (s + 1) (n + sz e) (l + ls e))
  (fun _ x e _ R E o s n l => lnk h o (Int32.ofNat s) ∧ (rd h 151 s = 8 ∧ rd h 154 s = Int32.ofNat (n + sz x + sz e - 1) ∧ rd h 155 s = Int32.ofNat (n + sz x - 1)) ∧ RXn P num c E h x n l ∧ RXn P num c E h e (n + sz x) (l + ls x) ∧ ∀ E', P.gvE c E x e = some E' → R E' (some s) (s + 1) (n + sz x + sz e) (l + ls x + ls e))
  (fun _ e a A f b B _ R E o s n l => lnk h o (Int32.ofNat s) ∧ (rd h 151 s = 1 ∧ rd h 154 s = Int32.ofNat (n + sz e - 1)) ∧ RXn P num c E h e n l ∧ rd h 159 s = fsB a (s + 1) ∧ A E none (s + 1) (n + sz e) (l + ls e) ∧ rd h 160 s = fsB b (s + 1 + stB a) ∧ B E none (s + 1 + stB a) (n + sz e + szB a) (l + ls e + lsB a) ∧ (if f = 1 then (∀ E1 E2, P.chk c mt a E = .inr E1 → P.chk c mt b E = .inr E2 → R (E.join E1 E2) (some s) (s + 1 + stB a + stB b) (n + sz e + szB a + szB b) (l + ls e + lsB a + lsB b)) else R E (some s) (s + 1 + stB a + stB b) (n + sz e + szB a + szB b) (l + ls e + lsB a + lsB b)))
  (fun _ e a A _ R E o s n l => lnk h o (Int32.ofNat s) ∧ (rd h 151 s = 2 ∧ rd h 154 s = Int32.ofNat (n + sz e - 1)) ∧ RXn P num c E h e n l ∧ rd h 159 s = fsB a (s + 1) ∧ A E none (s + 1) (n + sz e) (l + ls e) ∧ R E (some s) (s + 1 + stB a) (n + sz e + szB a) (l + ls e + lsB a))
  (fun _ a A cw w b B _ R E o s n l => lnk h o (Int32.ofNat s) ∧ rd h 151 s = 5 ∧ rd h 159 s = fsB a (s + 1) ∧ A E none (s + 1) n l ∧ rd h 160 s = fsB b (s + 1 + stB a) ∧ ∀ d E0, P.fnd (P.1 cw) = some d → P.ctE E cw w = some E0 → rd h 156 s = Int32.ofNat (10 + d) ∧ rd h 158 s = Int32.ofNat E.1.length ∧ B E0 none (s + 1 + stB a) (n + szB a) (l + lsB a) ∧ ∀ E1 E2, P.chk c mt a E = .inr E1 → P.chk c mt b E0 = .inr E2 → R (E.join E1 E2) (some s) (s + 1 + stB a + stB b) (n + szB a + szB b) (l + lsB a + lsB b))
  (fun _ k e _ R E o s n l => lnk h o (Int32.ofNat s) ∧ (rd h 151 s = sK k ∧ rd h 154 s = if k = 40 then -1 else Int32.ofNat (n + sz e - 1)) ∧ RXn P num c E h e n l ∧ (∀ t, P.te c E e = some [t] → rd h 148 (n + sz e - 1) = Int32.ofNat t) ∧ ∀ E', P.wkE c mt E k e = some E' → R E' (some s) (s + 1) (n + sz e) (l + ls e))
theorem RTc_nl (P : Pgm) (num : List Int32 → Nat) (c mt : Nat) (h : pH) (E : EnvV) (o : Option Nat) (s n l : Nat) : RTc P num c mt h nl E o s n l = lnk h o (-1) := rfl
theorem RTc_tell (P : Pgm) (num : List Int32 → Nat) (c mt : Nat) (h : pH) (p y w : Nat) (r : Tr) (E : EnvV) (o : Option Nat) (s n l : Nat) : RTc P num c mt h (bTell p y w r) E o s n l = (lnk h o (Int32.ofNat s) ∧ (rd h 151 s = 0 ∧ rd h 154 s = -1 ∧ rd h 158 s = Int32.ofNat E.1.length) ∧ RTc P num c mt h r (E.add (P.1 w) (P.rt y) false) (some s) (s + 1) n l) := rfl
theorem RTc_tellv (P : Pgm) (num : List Int32 → Nat) (c mt : Nat) (h : pH) (p y w : Nat) (e r : Tr) (E : EnvV) (o : Option Nat) (s n l : Nat) : RTc P num c mt h (bTellv p y w e r) E o s n l = (lnk h o (Int32.ofNat s) ∧ (rd h 151 s = 0 ∧ rd h 154 s = Int32.ofNat (n + sz e - 1) ∧ rd h 158 s = Int32.ofNat E.1.length) ∧ RXn P num c E h e n l ∧ RTc P num c mt h r (E.add (P.1 w) (P.rt y) true) (some s) (s + 1) (n + sz e) (l + ls e)) := rfl
theorem RTc_give (P : Pgm) (num : List Int32 → Nat) (c mt : Nat) (h : pH) (p : Nat) (x e r : Tr) (E : EnvV) (o : Option Nat) (s n l : Nat) : RTc P num c mt h (bGive p x e r) E o s n l = (lnk h o (Int32.ofNat s) ∧ (rd h 151 s = 8 ∧ rd h 154 s = Int32.ofNat (n + sz x + sz e - 1) ∧ rd h 155 s = Int32.ofNat (n + sz x - 1)) ∧ RXn P num c E h x n l ∧ RXn P num c E h e (n + sz x) (l + ls x) ∧ ∀ E', P.gvE c E x e = some E' → RTc P num c mt h r E' (some s) (s + 1) (n + sz x + sz e) (l + ls x + ls e)) := rfl
theorem RTc_ite (P : Pgm) (num : List Int32 → Nat) (c mt : Nat) (h : pH) (p : Nat) (e a : Tr) (f : Nat) (b r : Tr) (E : EnvV) (o : Option Nat) (s n l : Nat) : RTc P num c mt h (bIte p e a f b r) E o s n l = (lnk h o (Int32.ofNat s) ∧ (rd h 151 s = 1 ∧ rd h 154 s = Int32.ofNat (n + sz e - 1)) ∧ RXn P num c E h e n l ∧ rd h 159 s = fsB a (s + 1) ∧ RTc P num c mt h a E none (s + 1) (n + sz e) (l + ls e) ∧ rd h 160 s = fsB b (s + 1 + stB a) ∧ RTc P num c mt h b E none (s + 1 + stB a) (n + sz e + szB a) (l + ls e + lsB a) ∧ (if f = 1 then (∀ E1 E2, P.chk c mt a E = .inr E1 → P.chk c mt b E = .inr E2 → RTc P num c mt h r (E.join E1 E2) (some s) (s + 1 + stB a + stB b) (n + sz e + szB a + szB b) (l + ls e + lsB a + lsB b)) else RTc P num c mt h r E (some s) (s + 1 + stB a + stB b) (n + sz e + szB a + szB b) (l + ls e + lsB a + lsB b))) := rfl
theorem RTc_whil (P : Pgm) (num : List Int32 → Nat) (c mt : Nat) (h : pH) (p : Nat) (e a r : Tr) (E : EnvV) (o : Option Nat) (s n l : Nat) : RTc P num c mt h (bWhil p e a r) E o s n l = (lnk h o (Int32.ofNat s) ∧ (rd h 151 s = 2 ∧ rd h 154 s = Int32.ofNat (n + sz e - 1)) ∧ RXn P num c E h e n l ∧ rd h 159 s = fsB a (s + 1) ∧ RTc P num c mt h a E none (s + 1) (n + sz e) (l + ls e) ∧ RTc P num c mt h r E (some s) (s + 1 + stB a) (n + sz e + szB a) (l + ls e + lsB a)) := rfl
theorem RTc_try (P : Pgm) (num : List Int32 → Nat) (c mt : Nat) (h : pH) (p : Nat) (a : Tr) (cw w : Nat) (b r : Tr) (E : EnvV) (o : Option Nat) (s n l : Nat) : RTc P num c mt h (bTry p a cw w b r) E o s n l = (lnk h o (Int32.ofNat s) ∧ rd h 151 s = 5 ∧ rd h 159 s = fsB a (s + 1) ∧ RTc P num c mt h a E none (s + 1) n l ∧ rd h 160 s = fsB b (s + 1 + stB a) ∧ ∀ d E0, P.fnd (P.1 cw) = some d → P.ctE E cw w = some E0 → rd h 156 s = Int32.ofNat (10 + d) ∧ rd h 158 s = Int32.ofNat E.1.length ∧ RTc P num c mt h b E0 none (s + 1 + stB a) (n + szB a) (l + lsB a) ∧ ∀ E1 E2, P.chk c mt a E = .inr E1 → P.chk c mt b E0 = .inr E2 → RTc P num c mt h r (E.join E1 E2) (some s) (s + 1 + stB a + stB b) (n + szB a + szB b) (l + lsB a + lsB b)) := rfl
theorem RTc_k {k : Nat} (hk : k = 40 ∨ k = 41 ∨ k = 42 ∨ k = 43 ∨ k = 52) (P : Pgm) (num : List Int32 → Nat) (c mt : Nat) (h : pH) (p : Nat) (e r : Tr) (E : EnvV) (o : Option Nat) (s n l : Nat) : RTc P num c mt h (nd k p 0 e r) E o s n l = (lnk h o (Int32.ofNat s) ∧ (rd h 151 s = sK k ∧ rd h 154 s = if k = 40 then -1 else Int32.ofNat (n + sz e - 1)) ∧ RXn P num c E h e n l ∧ (∀ t, P.te c E e = some [t] → rd h 148 (n + sz e - 1) = Int32.ofNat t) ∧ ∀ E', P.wkE c mt E k e = some E' → RTc P num c mt h r E' (some s) (s + 1) (n + sz e) (l + ls e)) := by
  rcases hk with rfl | rfl | rfl | rfl | rfl <;> rfl
/-- two heaps agree on these statements and nodes -/
def AgT (h h' : pH) (s s' n n' l l' : Nat) : Prop := (∀ a k, 151 ≤ a → a ≤ 160 → s ≤ k → k < s' → rd h' a k = rd h a k) ∧ (∀ k, rd h' 161 k = rd h 161 k) ∧ (∀ a m, (144 ≤ a ∧ a ≤ 148) ∨ a = 182 → n ≤ m → m < n' → rd h' a m = rd h a m) ∧ ∀ m, rd h' 149 m = rd h 149 m
theorem AgT.sub {h h' : pH} {s s' n n' l l' t t' m m' j j' : Nat} (q : AgT h h' s s' n n' l l') (h1 : s ≤ t) (h2 : t' ≤ s') (h3 : n ≤ m) (h4 : m' ≤ n') : AgT h h' t t' m m' j j' := ⟨fun a k i1 i2 i3 i4 => q.1 a k i1 i2 (by omega) (by omega), q.2.1, fun a m i1 i3 i4 => q.2.2.1 a m i1 (by omega) (by omega), q.2.2.2⟩
theorem AgT.lnk {h h' : pH} {s s' n n' l l' : Nat} {o : Option Nat} {x : Int32} (q : AgT h h' s s' n n' l l') (hl : lnk h o x) : lnk h' o x := by
  cases o with
  | none => trivial
  | some o =>
    show rd h' 161 o = x
    rw [q.2.1]
    exact hl
theorem AgT.st {h h' : pH} {s s' n n' l l' t p m : Nat} {k v : Int32} (q : AgT h h' s s' n n' l l') (h1 : s ≤ t) (h2 : t < s') (hl : St h t k p m v) : St h' t k p m v := by
  obtain ⟨r1, r2, r3, r4⟩ := hl
  exact ⟨by rw [q.1 _ _ (by omega) (by omega) h1 h2]; exact r1, by rw [q.1 _ _ (by omega) (by omega) h1 h2]; exact r2, by rw [q.1 _ _ (by omega) (by omega) h1 h2]; exact r3, by rw [q.1 _ _ (by omega) (by omega) h1 h2]; exact r4⟩
theorem AgT.rn {P : Pgm} {D : List Int32 → Prop} {num : List Int32 → Nat} {h h' : pH} {s s' n n' l l' m j : Nat} {e : Tr} (q : AgT h h' s s' n n' l l') (h1 : n ≤ m) (h2 : m + sz e ≤ n') (hl : RN P D num h e m j) : RN P D num h' e m j := RN.ag e m j hl (fun a k i1 i2 i3 i4 => q.2.2.1 a k (by omega) (by omega) (by omega)) q.2.2.2
theorem AgT.rx {P : Pgm} {num : List Int32 → Nat} {c : Nat} {E : EnvV} {h h' : pH} {s s' n n' l l' m j : Nat} {e : Tr} (q : AgT h h' s s' n n' l l') (h1 : n ≤ m) (h2 : m + sz e ≤ n') (hl : RXn P num c E h e m j) : RXn P num c E h' e m j := RXn.ag e m j hl (fun a k i1 i3 i4 => q.2.2.1 a k (by omega) (by omega) (by omega)) (fun m _ _ => q.2.2.2 m)
theorem RBn.ag {S : Tks} {P : Pgm} {D : List Int32 → Prop} {num : List Int32 → Nat} {h h' : pH} : ∀ (m : Nat) (e : Tr) (o : Option Nat) (s n l : Nat), GK S m e → RBn P D num h e o s n l → AgT h h' s (s + stB e) n (n + szB e) l (l + lsB e) → RBn P D num h' e o s n l
  | 0, e, o, s, n, l, hk, q, g => by
    rw [show e = nl from hk] at q ⊢
    exact g.lnk q
  | m + 1, e, o, s, n, l, hk, q, g => by
    have IH := fun e o s n l => RBn.ag (S := S) (P := P) (D := D) (num := num) (h := h) (h' := h') m e o s n l
    rcases hk with rfl | ⟨p, y, w, r, rfl, g1, g2, hr⟩ | ⟨p, y, w, x, r, rfl, g1, g2, g3, hr⟩ | ⟨p, k, x, r, rfl, hk, hr⟩ | ⟨p, x, y, r, rfl, g1, g2, g3, hr⟩ | ⟨p, x, a, f, b, r, rfl, hf, g1, ha, hb, hr⟩ | ⟨p, x, a, r, rfl, g1, ha, hr⟩ | ⟨p, a, cw, w, b, r, rfl, g1, g2, ha, hb, hr⟩
    · exact g.lnk q
    · obtain ⟨e1, e2, e3⟩ := sz_tell p y w r
      rw [e1, e2, e3] at g
      rw [RBn_tell] at q ⊢
      obtain ⟨q1, q2, q3, q4, q5⟩ := q
      have k := fun a i1 i2 => g.1 a s i1 i2 (Nat.le_refl _) (by omega)
      exact ⟨g.lnk q1, g.st (Nat.le_refl _) (by omega) q2, ⟨by rw [k _ (by omega) (by omega)]; exact q3.1, q3.2⟩, ⟨by rw [k _ (by omega) (by omega)]; exact q4.1, q4.2⟩, IH _ _ _ _ _ hr q5 (g.sub (by omega) (by omega) (by omega) (by omega))⟩
    · obtain ⟨e1, e2, e3⟩ := sz_tellv p y w x r
      rw [e1, e2, e3] at g
      rw [RBn_tellv] at q ⊢
      obtain ⟨q1, q2, q3, q4, q5, q6⟩ := q
      have k := fun a i1 i2 => g.1 a s i1 i2 (Nat.le_refl _) (by omega)
      exact ⟨g.lnk q1, g.st (Nat.le_refl _) (by omega) q2, ⟨by rw [k _ (by omega) (by omega)]; exact q3.1, q3.2⟩, ⟨by rw [k _ (by omega) (by omega)]; exact q4.1, q4.2⟩, g.rn (by omega) (by omega) q5, IH _ _ _ _ _ hr q6 (g.sub (by omega) (by omega) (by omega) (by omega))⟩
    · obtain ⟨e1, e2, e3⟩ := sz_k (GKk hk) p x r
      rw [e1, e2, e3] at g
      rw [RBn_k (GKk hk)] at q ⊢
      obtain ⟨q1, q2, q3, q4⟩ := q
      exact ⟨g.lnk q1, g.st (Nat.le_refl _) (by omega) q2, g.rn (by omega) (by omega) q3, IH _ _ _ _ _ hr q4 (g.sub (by omega) (by omega) (by omega) (by omega))⟩
    · obtain ⟨e1, e2, e3⟩ := sz_give p x y r
      rw [e1, e2, e3] at g
      rw [RBn_give] at q ⊢
      obtain ⟨q1, q2, q3, q4, q5, q6⟩ := q
      have k := fun a i1 i2 => g.1 a s i1 i2 (Nat.le_refl _) (by omega)
      exact ⟨g.lnk q1, g.st (Nat.le_refl _) (by omega) q2, by rw [k _ (by omega) (by omega)]; exact q3, g.rn (by omega) (by omega) q4, g.rn (by omega) (by omega) q5, IH _ _ _ _ _ hr q6 (g.sub (by omega) (by omega) (by omega) (by omega))⟩
    · obtain ⟨e1, e2, e3⟩ := sz_ite p x a f b r
      rw [e1, e2, e3] at g
      rw [RBn_ite] at q ⊢
      obtain ⟨q1, q2, q3, q4, q5, q6, q7, q8, q9⟩ := q
      have k := fun a i1 i2 => g.1 a s i1 i2 (Nat.le_refl _) (by omega)
      exact ⟨g.lnk q1, g.st (Nat.le_refl _) (by omega) q2, by rw [k _ (by omega) (by omega)]; exact q3, g.rn (by omega) (by omega) q4, by rw [k _ (by omega) (by omega)]; exact q5, IH _ _ _ _ _ ha q6 (g.sub (by omega) (by omega) (by omega) (by omega)), by rw [k _ (by omega) (by omega)]; exact q7, IH _ _ _ _ _ hb q8 (g.sub (by omega) (by omega) (by omega) (by omega)), IH _ _ _ _ _ hr q9 (g.sub (by omega) (by omega) (by omega) (by omega))⟩
    · obtain ⟨e1, e2, e3⟩ := sz_whil p x a r
      rw [e1, e2, e3] at g
      rw [RBn_whil] at q ⊢
      obtain ⟨q1, q2, q3, q4, q5, q6⟩ := q
      have k := fun a i1 i2 => g.1 a s i1 i2 (Nat.le_refl _) (by omega)
      exact ⟨g.lnk q1, g.st (Nat.le_refl _) (by omega) q2, g.rn (by omega) (by omega) q3, by rw [k _ (by omega) (by omega)]; exact q4, IH _ _ _ _ _ ha q5 (g.sub (by omega) (by omega) (by omega) (by omega)), IH _ _ _ _ _ hr q6 (g.sub (by omega) (by omega) (by omega) (by omega))⟩
    · obtain ⟨e1, e2, e3⟩ := sz_try p a cw w b r
      rw [e1, e2, e3] at g
      rw [RBn_try] at q ⊢
      obtain ⟨q1, q2, q3, q4, q5, q6, q7, q8, q9⟩ := q
      have k := fun a i1 i2 => g.1 a s i1 i2 (Nat.le_refl _) (by omega)
      exact ⟨g.lnk q1, g.st (Nat.le_refl _) (by omega) q2, by rw [k _ (by omega) (by omega)]; exact q3, IH _ _ _ _ _ ha q4 (g.sub (by omega) (by omega) (by omega) (by omega)), ⟨by rw [k _ (by omega) (by omega)]; exact q5.1, q5.2⟩, ⟨by rw [k _ (by omega) (by omega)]; exact q6.1, q6.2⟩, by rw [k _ (by omega) (by omega)]; exact q7, IH _ _ _ _ _ hb q8 (g.sub (by omega) (by omega) (by omega) (by omega)), IH _ _ _ _ _ hr q9 (g.sub (by omega) (by omega) (by omega) (by omega))⟩
theorem RTc.ag {S : Tks} {P : Pgm} {num : List Int32 → Nat} {c mt : Nat} {h h' : pH} : ∀ (m : Nat) (e : Tr) (E : EnvV) (o : Option Nat) (s n l : Nat), GK S m e → RTc P num c mt h e E o s n l → AgT h h' s (s + stB e) n (n + szB e) l (l + lsB e) → RTc P num c mt h' e E o s n l
  | 0, e, E, o, s, n, l, hk, q, g => by
    rw [show e = nl from hk] at q ⊢
    exact g.lnk q
  | m + 1, e, E, o, s, n, l, hk, q, g => by
    have IH := fun e E o s n l => RTc.ag (S := S) (P := P) (num := num) (c := c) (mt := mt) (h := h) (h' := h') m e E o s n l
    rcases hk with rfl | ⟨p, y, w, r, rfl, g1, g2, hr⟩ | ⟨p, y, w, x, r, rfl, g1, g2, g3, hr⟩ | ⟨p, k, x, r, rfl, hk, hr⟩ | ⟨p, x, y, r, rfl, g1, g2, g3, hr⟩ | ⟨p, x, a, f, b, r, rfl, hf, g1, ha, hb, hr⟩ | ⟨p, x, a, r, rfl, g1, ha, hr⟩ | ⟨p, a, cw, w, b, r, rfl, g1, g2, ha, hb, hr⟩
    · exact g.lnk q
    · obtain ⟨e1, e2, e3⟩ := sz_tell p y w r
      rw [e1, e2, e3] at g
      rw [RTc_tell] at q ⊢
      obtain ⟨q1, ⟨q2, q3, q4⟩, q5⟩ := q
      have k := fun a i1 i2 => g.1 a s i1 i2 (Nat.le_refl _) (by omega)
      exact ⟨g.lnk q1, ⟨by rw [k _ (by omega) (by omega)]; exact q2, by rw [k _ (by omega) (by omega)]; exact q3, by rw [k _ (by omega) (by omega)]; exact q4⟩, IH _ _ _ _ _ _ hr q5 (g.sub (by omega) (by omega) (by omega) (by omega))⟩
    · obtain ⟨e1, e2, e3⟩ := sz_tellv p y w x r
      rw [e1, e2, e3] at g
      rw [RTc_tellv] at q ⊢
      obtain ⟨q1, ⟨q2, q3, q4⟩, q5, q6⟩ := q
      have k := fun a i1 i2 => g.1 a s i1 i2 (Nat.le_refl _) (by omega)
      exact ⟨g.lnk q1, ⟨by rw [k _ (by omega) (by omega)]; exact q2, by rw [k _ (by omega) (by omega)]; exact q3, by rw [k _ (by omega) (by omega)]; exact q4⟩, g.rx (by omega) (by omega) q5, IH _ _ _ _ _ _ hr q6 (g.sub (by omega) (by omega) (by omega) (by omega))⟩
    · obtain ⟨e1, e2, e3⟩ := sz_k (GKk hk) p x r
      rw [e1, e2, e3] at g
      rw [RTc_k (GKk hk)] at q ⊢
      obtain ⟨q1, ⟨q2, q3⟩, q4, q5, q6⟩ := q
      have k' := fun a i1 i2 => g.1 a s i1 i2 (Nat.le_refl _) (by omega)
      refine ⟨g.lnk q1, ⟨by rw [k' _ (by omega) (by omega)]; exact q2, by rw [k' _ (by omega) (by omega)]; exact q3⟩, g.rx (by omega) (by omega) q4, fun t ht => ?_, fun E' hE => IH _ _ _ _ _ _ hr (q6 E' hE) (g.sub (by omega) (by omega) (by omega) (by omega))⟩
      have hz : 1 ≤ sz x := by
        rcases hk with ⟨rfl, rfl⟩ | ⟨_, ox⟩
        · cases ht
        · exact ox.sz1
      rw [g.2.2.1 _ _ (by omega) (by omega) (by omega)]
      exact q5 t ht
    · obtain ⟨e1, e2, e3⟩ := sz_give p x y r
      rw [e1, e2, e3] at g
      rw [RTc_give] at q ⊢
      obtain ⟨q1, ⟨q2, q3, q4⟩, q5, q6, q7⟩ := q
      have k := fun a i1 i2 => g.1 a s i1 i2 (Nat.le_refl _) (by omega)
      exact ⟨g.lnk q1, ⟨by rw [k _ (by omega) (by omega)]; exact q2, by rw [k _ (by omega) (by omega)]; exact q3, by rw [k _ (by omega) (by omega)]; exact q4⟩, g.rx (by omega) (by omega) q5, g.rx (by omega) (by omega) q6, fun E' hE => IH _ _ _ _ _ _ hr (q7 E' hE) (g.sub (by omega) (by omega) (by omega) (by omega))⟩
    · obtain ⟨e1, e2, e3⟩ := sz_ite p x a f b r
      rw [e1, e2, e3] at g
      rw [RTc_ite] at q ⊢
      obtain ⟨q1, ⟨q2, q3⟩, q4, q5, q6, q7, q8, q9⟩ := q
      have k := fun a i1 i2 => g.1 a s i1 i2 (Nat.le_refl _) (by omega)
      refine ⟨g.lnk q1, ⟨by rw [k _ (by omega) (by omega)]; exact q2, by rw [k _ (by omega) (by omega)]; exact q3⟩, g.rx (by omega) (by omega) q4, by rw [k _ (by omega) (by omega)]; exact q5, IH _ _ _ _ _ _ ha q6 (g.sub (by omega) (by omega) (by omega) (by omega)), by rw [k _ (by omega) (by omega)]; exact q7, IH _ _ _ _ _ _ hb q8 (g.sub (by omega) (by omega) (by omega) (by omega)), ?_⟩
      by_cases z : f = 1
      · rw [if_pos z] at q9 ⊢
        exact fun E1 E2 u1 u2 => IH _ _ _ _ _ _ hr (q9 E1 E2 u1 u2) (g.sub (by omega) (by omega) (by omega) (by omega))
      · rw [if_neg z] at q9 ⊢
        exact IH _ _ _ _ _ _ hr q9 (g.sub (by omega) (by omega) (by omega) (by omega))
    · obtain ⟨e1, e2, e3⟩ := sz_whil p x a r
      rw [e1, e2, e3] at g
      rw [RTc_whil] at q ⊢
      obtain ⟨q1, ⟨q2, q3⟩, q4, q5, q6, q7⟩ := q
      have k := fun a i1 i2 => g.1 a s i1 i2 (Nat.le_refl _) (by omega)
      exact ⟨g.lnk q1, ⟨by rw [k _ (by omega) (by omega)]; exact q2, by rw [k _ (by omega) (by omega)]; exact q3⟩, g.rx (by omega) (by omega) q4, by rw [k _ (by omega) (by omega)]; exact q5, IH _ _ _ _ _ _ ha q6 (g.sub (by omega) (by omega) (by omega) (by omega)), IH _ _ _ _ _ _ hr q7 (g.sub (by omega) (by omega) (by omega) (by omega))⟩
    · obtain ⟨e1, e2, e3⟩ := sz_try p a cw w b r
      rw [e1, e2, e3] at g
      rw [RTc_try] at q ⊢
      obtain ⟨q1, q2, q3, q4, q5, q6⟩ := q
      have k := fun a i1 i2 => g.1 a s i1 i2 (Nat.le_refl _) (by omega)
      refine ⟨g.lnk q1, by rw [k _ (by omega) (by omega)]; exact q2, by rw [k _ (by omega) (by omega)]; exact q3, IH _ _ _ _ _ _ ha q4 (g.sub (by omega) (by omega) (by omega) (by omega)), by rw [k _ (by omega) (by omega)]; exact q5, fun d E0 u1 u2 => ?_⟩
      obtain ⟨r1, r2, r3, r4⟩ := q6 d E0 u1 u2
      exact ⟨by rw [k _ (by omega) (by omega)]; exact r1, by rw [k _ (by omega) (by omega)]; exact r2, IH _ _ _ _ _ _ hb r3 (g.sub (by omega) (by omega) (by omega) (by omega)), fun E1 E2 w1 w2 => IH _ _ _ _ _ _ hr (r4 E1 E2 w1 w2) (g.sub (by omega) (by omega) (by omega) (by omega))⟩
