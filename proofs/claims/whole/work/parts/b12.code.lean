/-! ===== WHERE THE CLASS' CODE GOES ON ===== -/
/-- the pieces of an expression's rest from s up to t -/
def XC (P : Pgm) (C : Cx) (c : Nat) (E : EnvV) (g : pH) (o : Int32) : List Xi → Nat → Nat → Prop
  | [], s, t => s = t
  | .inl (k, v, w, _, l) :: xs, s, t => Rp P C c E g s k v w l ∧ Qo C o g s k v w 0 ∧ XC P C c E g o xs (s + 1) t
  | .inr (k, b) :: xs, s, t => (rd g 39 s = Int32.ofNat k ∧ rd g 42 s = Int32.ofNat (s + 1 + cl b) ∧ rd g 44 s = Int32.ofNat E.1.length ∧ rd g 45 s = o) ∧ TX P c E (Rp P C c E g) b (s + 1) ∧ CE (Qo C o g) b (s + 1) ∧ Rp P C c E g (s + 1 + cl b) 51 0 0 [] ∧ Qo C o g (s + 1 + cl b) 51 0 0 0 ∧ XC P C c E g o xs (s + 1 + cl b + 1) t
theorem XC.le {P : Pgm} {C : Cx} {c : Nat} {E : EnvV} {g : pH} {o : Int32} : ∀ {xs : List Xi} {s t : Nat}, XC P C c E g o xs s t → s + xs.length ≤ t
  | [], s, t, h => by have h : s = t := h; simp [h]
  | .inl (k, v, w, z, l) :: xs, s, t, h => by
    have := XC.le h.2.2
    rw [List.length_cons]
    omega
  | .inr (k, b) :: xs, s, t, h => by
    have := XC.le h.2.2.2.2.2
    rw [List.length_cons]
    omega
theorem XC.fl {P : Pgm} {C : Cx} {c : Nat} {E : EnvV} {g : pH} {o : Int32} (e : Tr) : ∀ (s t : Nat) (xs : List Xi), TX P c E (Rp P C c E g) e s → CE (Qo C o g) e s → XC P C c E g o xs (s + cl e) t → XC P C c E g o (P.flX c E e ++ xs) s t := by
  induction e using Tr.rec2 with
  | h2 e he =>
    intro s t xs _ _ h
    rw [cl_no he] at h
    rw [Pgm.flX_no he]
    exact h
  | h1 k v w a b iha ihb =>
    intro s t xs h1 h2 h3
    rw [TX_nd] at h1
    rw [CE_nd] at h2
    rw [cl_nd] at h3
    rw [Pgm.flX_nd]
    by_cases hk : k = 28 ∨ k = 29
    · rw [if_pos hk] at h1 h2 h3 ⊢
      obtain ⟨a1, a2, a3, a4⟩ := h1
      obtain ⟨b1, b2, b3, b4⟩ := h2
      rw [List.append_assoc]
      refine iha s t _ a1 b1 ?_
      refine ⟨⟨?_, b2.2.1, a2.2.2, b2.2.2⟩, a3, b3, a4, b4, ?_⟩
      · rw [a2.1]
        unfold Pgm.pcK
        rw [if_neg (by omega), if_neg (by omega), if_neg (by omega)]
      · rw [show s + cl a + 1 + cl b + 1 = s + (cl a + cl b + 2) by omega]
        exact h3
    · rw [if_neg hk] at h1 h2 h3 ⊢
      by_cases h70 : k = 70
      · rw [if_pos h70] at h1 h2 h3 ⊢
        rw [List.append_assoc]
        refine iha s t _ h1.1 h2.1 (ihb _ t _ h1.2 h2.2 ?_)
        rw [show s + cl a + cl b = s + (cl a + cl b + 0) by omega]
        exact h3
      · rw [if_neg h70] at h1 h2 h3 ⊢
        rw [List.append_assoc, List.append_assoc]
        refine iha s t _ h1.1 h2.1 (ihb _ t _ h1.2.1 h2.2.1 ⟨h1.2.2, h2.2.2, ?_⟩)
        rw [show s + cl a + cl b + 1 = s + (cl a + cl b + 1) by omega]
        exact h3
/-- pieces ahead of a statement's step; all pieces of the first statement -/
def exL : Tr → Nat := foldB 0 0 (fun _ _ _ _ _ => 0) (fun _ _ _ e _ _ => cl e) (fun _ x e _ _ => (cl x - 1) + cl e) (fun _ e _ _ _ _ _ _ _ => cl e) (fun _ e _ _ _ _ => cl e) (fun _ _ _ _ _ _ _ _ _ => 0) (fun _ _ e _ _ => cl e)
def slL : Tr → Nat := foldB 0 0 (fun _ _ _ _ _ => 1) (fun _ _ _ e _ _ => cl e + 1) (fun _ x e _ _ => (cl x - 1) + cl e + 1) (fun _ e a _ h b _ _ _ => cl e + 1 + cb a + 1 + (if h = 1 then cb b + 1 else 0)) (fun _ e a _ _ _ => cl e + 1 + cb a + 1) (fun _ a _ _ _ b _ _ _ => 1 + cb a + 1 + cb b + 1) (fun _ _ e _ _ => cl e + 1)
theorem exL_k {k : Nat} (hk : k = 40 ∨ k = 41 ∨ k = 42 ∨ k = 43 ∨ k = 52) (p : Nat) (e r : Tr) : exL (nd k p 0 e r) = cl e ∧ slL (nd k p 0 e r) = cl e + 1 := by
  rcases hk with rfl | rfl | rfl | rfl | rfl <;> exact ⟨rfl, rfl⟩
/-- pieces without a step that lead from s to s' -/
def Jm (g : pH) (s s' : Nat) : Prop := ((rd g 39 s = 55 ∨ rd g 39 s = 56 ∨ rd g 39 s = 60) ∧ s' = s + 1) ∨ ∃ u, (rd g 39 s = 54 ∨ rd g 39 s = 59) ∧ rd g 42 s = Int32.ofNat u ∧ (rd g 39 u = 56 ∨ rd g 39 u = 60) ∧ s < u ∧ s' = u + 1
/-- where statements go on -/
def KC (P : Pgm) (C : Cx) (c mt M X U : Nat) (g : pH) : List Si → Nat → Int32 → Prop
  | [], s, o => rd g 39 s = 61 ∧ s < U ∧ o = (-1 : Int32)
  | (k, E, b, _) :: ks, s, o => if k = 0 then TC P C c mt M X g b E s o ∧ KC P C c mt M X U g ks (s + cb b) o
    else if k = 1 then ∃ s0, s = s0 + exL b ∧ TC P C c mt M X g b E s0 o ∧ s < s0 + slL b ∧ KC P C c mt M X U g ks (s0 + slL b) o
    else if k = 2 then ∃ s', Jm g s s' ∧ KC P C c mt M X U g ks s' o
    else if k = 3 then ∃ s0, rd g 39 s = 57 ∧ rd g 42 s = Int32.ofNat s0 ∧ s + 1 = s0 + slL b ∧ TC P C c mt M X g b E s0 o ∧ KC P C c mt M X U g ks (s0 + slL b) o
    else if k = 4 then ∃ s0 o', o = Int32.ofNat s0 ∧ s = s0 + slL b ∧ TC P C c mt M X g b E s0 o' ∧ KC P C c mt M X U g ks s o'
    else if k = 5 then rd g 39 s = 52 ∧ KC P C c mt M X U g ks (s + 1) o
    else False
theorem KC.lt {P : Pgm} {C : Cx} {c mt M X U : Nat} {g : pH} : ∀ {ks : List Si} {s : Nat} {o : Int32}, KC P C c mt M X U g ks s o → s < U
  | [], s, o, h => h.2.1
  | (k, E, b, z) :: ks, s, o, h => by
    unfold KC at h
    split at h
    · have := KC.lt h.2
      omega
    · split at h
      · obtain ⟨s0, h1, h2, h3, h4⟩ := h
        have := KC.lt h4
        omega
      · split at h
        · obtain ⟨s', h1, h2⟩ := h
          have := KC.lt h2
          rcases h1 with ⟨_, h1⟩ | ⟨u, _, _, _, h1, h3⟩ <;> omega
        · split at h
          · obtain ⟨s0, h1, h2, h3, h4, h5⟩ := h
            have := KC.lt h5
            omega
          · split at h
            · obtain ⟨s0, o', h1, h2, h3, h4⟩ := h
              exact KC.lt h4
            · split at h
              · have := KC.lt h.2
                omega
              · exact h.elim
theorem KC_0 {P : Pgm} {C : Cx} {c mt M X U : Nat} {g : pH} {E : EnvV} {b : Tr} {z : Bool} {ks : List Si} {s : Nat} {o : Int32} : KC P C c mt M X U g ((0, E, b, z) :: ks) s o = (TC P C c mt M X g b E s o ∧ KC P C c mt M X U g ks (s + cb b) o) := rfl
theorem KC_1 {P : Pgm} {C : Cx} {c mt M X U : Nat} {g : pH} {E : EnvV} {b : Tr} {z : Bool} {ks : List Si} {s : Nat} {o : Int32} : KC P C c mt M X U g ((1, E, b, z) :: ks) s o = ∃ s0, s = s0 + exL b ∧ TC P C c mt M X g b E s0 o ∧ s < s0 + slL b ∧ KC P C c mt M X U g ks (s0 + slL b) o := rfl
theorem KC_2 {P : Pgm} {C : Cx} {c mt M X U : Nat} {g : pH} {E : EnvV} {b : Tr} {z : Bool} {ks : List Si} {s : Nat} {o : Int32} : KC P C c mt M X U g ((2, E, b, z) :: ks) s o = ∃ s', Jm g s s' ∧ KC P C c mt M X U g ks s' o := rfl
theorem KC_3 {P : Pgm} {C : Cx} {c mt M X U : Nat} {g : pH} {E : EnvV} {b : Tr} {z : Bool} {ks : List Si} {s : Nat} {o : Int32} : KC P C c mt M X U g ((3, E, b, z) :: ks) s o = ∃ s0, rd g 39 s = 57 ∧ rd g 42 s = Int32.ofNat s0 ∧ s + 1 = s0 + slL b ∧ TC P C c mt M X g b E s0 o ∧ KC P C c mt M X U g ks (s0 + slL b) o := rfl
theorem KC_4 {P : Pgm} {C : Cx} {c mt M X U : Nat} {g : pH} {E : EnvV} {b : Tr} {z : Bool} {ks : List Si} {s : Nat} {o : Int32} : KC P C c mt M X U g ((4, E, b, z) :: ks) s o = ∃ s0 o', o = Int32.ofNat s0 ∧ s = s0 + slL b ∧ TC P C c mt M X g b E s0 o' ∧ KC P C c mt M X U g ks s o' := rfl
theorem KC_5 {P : Pgm} {C : Cx} {c mt M X U : Nat} {g : pH} {E : EnvV} {b : Tr} {z : Bool} {ks : List Si} {s : Nat} {o : Int32} : KC P C c mt M X U g ((5, E, b, z) :: ks) s o = (rd g 39 s = 52 ∧ KC P C c mt M X U g ks (s + 1) o) := rfl
/-- an expression begins -/
theorem XH.bg {P : Pgm} {S : Tks} {c X : Nat} {E : EnvV} {e : Tr} {t : Nat} (he : Ox S e) (ht : P.te c E e = some [t]) (hh : HX e 0 X) : XH (P.flX c E e) 0 X := by
  obtain ⟨n, he⟩ := he
  have := XH.fl (P := P) (c := c) (E := E) n e he [t] ht 0 [] hh (OkE.hx1 he hh)
  rw [List.append_nil] at this
  exact this
theorem XH.bg2 {P : Pgm} {S : Tks} {c X : Nat} {E : EnvV} {x e : Tr} {l : List Nat} {t : Nat} (hx : Ox S x) (hp : isPlaceE x = true) (he : Ox S e) (hl : P.plT c E x = some l) (ht : P.te c E e = some [t]) (hh : HX (nd 70 0 0 (pp x) e) 0 X) : XH (P.flX c E (nd 70 0 0 (pp x) e)) 0 X := by
  have hf : P.flX c E (nd 70 0 0 (pp x) e) = P.flX c E (pp x) ++ P.flX c E e := by rw [Pgm.flX_nd, if_neg (by omega), if_pos rfl]
  rw [HX_nd, if_neg (by omega)] at hh
  obtain ⟨g1, g2, _⟩ := hh
  obtain ⟨n, he⟩ := he
  have e1 : ∀ m, HX e m X → XH (P.flX c E e) m X := fun m hm => by
    have := XH.fl (P := P) (c := c) (E := E) n e he [t] ht m [] hm (OkE.hx1 he hm)
    rw [List.append_nil] at this
    exact this
  obtain ⟨k, v, w, a, b, rfl, hk⟩ := placeOf hx hp
  rw [hf, pp_nd] at *
  rw [HX_nd, if_neg (by omega)] at g1
  rw [ln_nd, if_pos rfl] at g2
  have hpf : P.flX c E (nd 70 0 0 a b) = P.flX c E a ++ P.flX c E b := by rw [Pgm.flX_nd, if_neg (by omega), if_pos rfl]
  rw [hpf]
  rcases hk with ⟨_, rfl, rfl, _⟩ | ⟨_, rfl, ha, _⟩ | ⟨_, ha, hb⟩
  · exact e1 0 g2
  · have hl : ((P.te c E a).bind fun a => (some []).bind fun b => some (a ++ b)) = some l := hl
    obtain ⟨l', l1, _⟩ := Option.bind_eq_some_iff.mp hl
    obtain ⟨n1, ha⟩ := ha
    have := XH.fl (P := P) (c := c) (E := E) n1 a ha l' l1 0 (P.flX c E e) g1.1 (e1 1 (by rw [OkE.ln ha] at g2; exact g2))
    show XH ((P.flX c E a ++ []) ++ P.flX c E e) 0 X
    rw [List.append_nil]
    exact this
  · have hl : ((P.te c E a).bind fun x => (P.te c E b).bind fun y => some (x ++ y)) = some l := hl
    obtain ⟨l', l1, i1⟩ := Option.bind_eq_some_iff.mp hl
    obtain ⟨l'', l2, _⟩ := Option.bind_eq_some_iff.mp i1
    obtain ⟨n1, ha⟩ := ha
    obtain ⟨n2, hb⟩ := hb
    rw [OkE.ln ha] at g1
    rw [OkE.ln ha, OkE.ln hb] at g2
    have := XH.fl (P := P) (c := c) (E := E) n1 a ha l' l1 0 (P.flX c E b ++ P.flX c E e) g1.1 (XH.fl (P := P) (c := c) (E := E) n2 b hb l'' l2 1 (P.flX c E e) g1.2.1 (e1 2 g2))
    rw [List.append_assoc]
    exact this
/-- a statement begins: pieces without a step, and where it goes on -/
theorem st_cls {P : Pgm} {C : Cx} {S : Tks} {c mt M X U n s : Nat} {g : pH} {E E2 : EnvV} {b : Tr} {ks : List Si} {o : Int32} (lo : List Vl) (hk : GK S n b) (hc : P.chk c mt b E = .inr E2) (ht : TC P C c mt M X g b E s o) (hr : KC P C c mt M X U g ks (s + cb b) o) : ∃ o' s' s2, ((s' = s ∧ (P.stU c mt b E lo ks).1 = lo) ∨ (s' = s + 1 ∧ rd g 39 s = 58 ∧ (P.stU c mt b E lo ks).1 = lo) ∨ (s' = s + 1 ∧ rd g 39 s = 53 ∧ rd g 40 s = Int32.ofNat E.1.length ∧ E.1.length < M ∧ (P.stU c mt b E lo ks).1 = lo ++ [.inl 0])) ∧ XC P C c (P.stU c mt b E lo ks).2.1 g o' (P.stU c mt b E lo ks).2.2.1 s' s2 ∧ KC P C c mt M X U g (P.stU c mt b E lo ks).2.2.2 s2 o' ∧ XH (P.stU c mt b E lo ks).2.2.1 0 X := by
  have hnl : ∀ s0, KC P C c mt M X U g ks s0 o → s0 = s → b = nl → ∃ o' s' s2, ((s' = s ∧ (P.stU c mt b E lo ks).1 = lo) ∨ (s' = s + 1 ∧ rd g 39 s = 58 ∧ (P.stU c mt b E lo ks).1 = lo) ∨ (s' = s + 1 ∧ rd g 39 s = 53 ∧ rd g 40 s = Int32.ofNat E.1.length ∧ E.1.length < M ∧ (P.stU c mt b E lo ks).1 = lo ++ [.inl 0])) ∧ XC P C c (P.stU c mt b E lo ks).2.1 g o' (P.stU c mt b E lo ks).2.2.1 s' s2 ∧ KC P C c mt M X U g (P.stU c mt b E lo ks).2.2.2 s2 o' ∧ XH (P.stU c mt b E lo ks).2.2.1 0 X := by
    intro s0 h1 h2 h3
    subst h2 h3
    exact ⟨o, s0, s0, Or.inl ⟨rfl, rfl⟩, rfl, h1, Nat.zero_le _⟩
  match n, hk with
  | 0, hk =>
    obtain rfl : b = nl := hk
    exact hnl _ hr rfl rfl
  | n + 1, hk =>
    rcases hk with rfl | ⟨p, y, w, r, rfl, g1, g2, hkr⟩ | ⟨p, y, w, e, r, rfl, g1, g2, g3, hkr⟩ | ⟨p, k, e, r, rfl, hkk, hkr⟩ | ⟨p, x, e, r, rfl, g1, g2, g3, hkr⟩ | ⟨p, e, a, f, b, r, rfl, hf, g1, ha, hb, hkr⟩ | ⟨p, e, a, r, rfl, g1, ha, hkr⟩ | ⟨p, a, cw, w, b, r, rfl, g1, g2, ha, hb, hkr⟩
    · exact hnl _ hr rfl rfl
    · obtain ⟨i1, i2, i3, i4⟩ := inv_tell hc
      have ht := ht
      rw [TC_tell] at ht
      obtain ⟨t1, t2, t3, t4⟩ := ht
      refine ⟨o, s + 1, s + 1, Or.inr (Or.inr ⟨rfl, t1.1, t2, t3, rfl⟩), rfl, ?_, Nat.zero_le _⟩
      show KC P C c mt M X U g ((0, P.nxE c mt (bTell p y w r) E, r, false) :: ks) (s + 1) o
      rw [KC_0, i3]
      refine ⟨t4, ?_⟩
      rw [show s + 1 + cb r = s + cb (bTell p y w r) by rw [cb_tell]; omega]
      exact hr
    · obtain ⟨t, i1, i2, i3, i4, i5⟩ := inv_tellv hc
      have ht0 := ht
      rw [TC_tellv] at ht
      obtain ⟨⟨x1, x2, x3⟩, t1, t2, t3, t4⟩ := ht
      have hx := XC.fl e s (s + cl e) [] x1 x2 rfl
      rw [List.append_nil] at hx
      refine ⟨o, s, s + cl e, Or.inl ⟨rfl, rfl⟩, hx, ?_, XH.bg g3 i1 x3⟩
      show KC P C c mt M X U g ((1, E, bTellv p y w e r, false) :: (0, P.nxE c mt (bTellv p y w e r) E, r, false) :: ks) (s + cl e) o
      rw [KC_1]
      refine ⟨s, rfl, ht0, ?_, ?_⟩
      · show s + cl e < s + (cl e + 1)
        omega
      · show KC P C c mt M X U g _ (s + (cl e + 1)) o
        rw [KC_0, i4]
        refine ⟨t4, ?_⟩
        rw [show s + (cl e + 1) + cb r = s + cb (bTellv p y w e r) by rw [cb_tellv]; omega]
        exact hr
    · have hk5 := GKk hkk
      obtain ⟨i1, i2⟩ := inv_k hk5 hc
      have ht0 := ht
      rw [TC_k hk5] at ht
      obtain ⟨⟨x1, x2, x3⟩, t1, t2⟩ := ht
      have hx := XC.fl e s (s + cl e) [] x1 x2 rfl
      rw [List.append_nil] at hx
      rw [stU_k hk5]
      have hR : KC P C c mt M X U g ((0, P.nxE c mt (nd k p 0 e r) E, r, false) :: ks) (s + (cl e + 1)) o := by
        rw [KC_0]
        refine ⟨t2 _ i1, ?_⟩
        rw [show s + (cl e + 1) + cb r = s + cb (nd k p 0 e r) by rw [cb_k hk5]; omega]
        exact hr
      have hXH : XH (P.flX c E e) 0 X := by
        rcases hkk with ⟨_, he⟩ | ⟨z, he⟩
        · subst he; exact Nat.zero_le _
        · have hte : ∃ t, P.te c E e = some [t] := by
            unfold Pgm.wkE at i1
            rw [if_neg (by omega)] at i1
            obtain ⟨l, l1, l2⟩ := Option.bind_eq_some_iff.mp i1
            obtain ⟨t, rfl, _⟩ := hdO_some l2
            exact ⟨t, l1⟩
          obtain ⟨t, hte⟩ := hte
          exact XH.bg he hte x3
      refine ⟨o, s, s + cl e, Or.inl ⟨rfl, rfl⟩, hx, ?_, hXH⟩
      by_cases h52 : k = 52
      · subst h52
        show KC P C c mt M X U g ((5, E, nl, decide (P.te c E e = some [3])) :: _) (s + cl e) o
        rw [KC_5]
        exact ⟨t1.1, hR⟩
      · rw [if_neg h52]
        rw [KC_1]
        have := exL_k hk5 p e r
        refine ⟨s, by rw [this.1], ht0, by rw [this.2]; omega, ?_⟩
        rw [this.2]
        exact hR
    · obtain ⟨l, t, i1, i2, i3, i4⟩ := inv_give hc
      have ht0 := ht
      rw [TC_give] at ht
      obtain ⟨⟨x1, x2, x3⟩, t1, t2, t3⟩ := ht
      have hcl := cl_pp (e := e) g2 g1
      have hx := XC.fl (nd 70 0 0 (pp x) e) s (s + cl (nd 70 0 0 (pp x) e)) [] x1 x2 rfl
      rw [List.append_nil, hcl] at hx
      refine ⟨o, s, s + ((cl x - 1) + cl e), Or.inl ⟨rfl, rfl⟩, hx, ?_, XH.bg2 g2 g1 g3 i1 i2 x3⟩
      show KC P C c mt M X U g ((1, E, bGive p x e r, false) :: (0, P.nxE c mt (bGive p x e r) E, r, false) :: ks) (s + ((cl x - 1) + cl e)) o
      rw [KC_1]
      refine ⟨s, rfl, ht0, ?_, ?_⟩
      · show s + ((cl x - 1) + cl e) < s + ((cl x - 1) + cl e + 1)
        omega
      · show KC P C c mt M X U g _ (s + ((cl x - 1) + cl e + 1)) o
        rw [KC_0]
        have hg : P.gvE c E x e = some (P.nxE c mt (bGive p x e r) E) := by
          unfold Pgm.gvE
          rw [i1, i2]
          exact i3
        refine ⟨?_, ?_⟩
        · rw [show s + ((cl x - 1) + cl e + 1) = s + (cl x - 1) + cl e + 1 by omega]
          exact t3 _ hg
        · rw [show s + ((cl x - 1) + cl e + 1) + cb r = s + cb (bGive p x e r) by rw [cb_give]; omega]
          exact hr
    · obtain ⟨i1, E3, i2, i3, i4, i5⟩ := inv_ite hc
      have ht0 := ht
      rw [TC_ite] at ht
      obtain ⟨⟨x1, x2, x3⟩, t1, t2⟩ := ht
      have hx := XC.fl e s (s + cl e) [] x1 x2 rfl
      rw [List.append_nil] at hx
      refine ⟨o, s, s + cl e, Or.inl ⟨rfl, rfl⟩, hx, ?_, XH.bg g1 i1 x3⟩
      show KC P C c mt M X U g ((1, E, bIte p e a f b r, false) :: (0, P.nxE c mt (bIte p e a f b r) E, r, false) :: ks) (s + cl e) o
      rw [KC_1]
      refine ⟨s, rfl, ht0, ?_, ?_⟩
      · show s + cl e < s + (cl e + 1 + cb a + 1 + (if f = 1 then cb b + 1 else 0))
        omega
      · show KC P C c mt M X U g _ (s + (cl e + 1 + cb a + 1 + (if f = 1 then cb b + 1 else 0))) o
        rw [KC_0]
        refine ⟨?_, ?_⟩
        · by_cases hf1 : f = 1
          · rw [if_pos hf1] at t2 ⊢
            obtain ⟨E4, j1, j2⟩ := i3 hf1
            rw [j2, show s + (cl e + 1 + cb a + 1 + (cb b + 1)) = s + cl e + 1 + cb a + 1 + (cb b + 1) by omega]
            exact t2.2.2.2.2 E3 E4 i2 j1
          · rw [if_neg hf1] at t2 ⊢
            rw [i4 hf1, show s + (cl e + 1 + cb a + 1 + 0) = s + cl e + 1 + cb a + 1 by omega]
            exact t2.2.2
        · rw [show s + (cl e + 1 + cb a + 1 + (if f = 1 then cb b + 1 else 0)) + cb r = s + cb (bIte p e a f b r) by show _ = s + (cl e + 1 + cb a + 1 + (if f = 1 then cb b + 1 else 0) + cb r); omega]
          exact hr
    · obtain ⟨i1, E3, i2, i3, i4⟩ := inv_whil hc
      have ht0 := ht
      rw [TC_whil] at ht
      obtain ⟨⟨x1, x2, x3⟩, t1, t2, t3, t4⟩ := ht
      have hx := XC.fl e s (s + cl e) [] x1 x2 rfl
      rw [List.append_nil] at hx
      refine ⟨o, s, s + cl e, Or.inl ⟨rfl, rfl⟩, hx, ?_, XH.bg g1 i1 x3⟩
      show KC P C c mt M X U g ((1, E, bWhil p e a r, false) :: (0, P.nxE c mt (bWhil p e a r) E, r, false) :: ks) (s + cl e) o
      rw [KC_1]
      refine ⟨s, rfl, ht0, ?_, ?_⟩
      · show s + cl e < s + (cl e + 1 + cb a + 1)
        omega
      · show KC P C c mt M X U g _ (s + (cl e + 1 + cb a + 1)) o
        rw [KC_0, i3]
        refine ⟨?_, ?_⟩
        · rw [show s + (cl e + 1 + cb a + 1) = s + cl e + 1 + cb a + 1 by omega]
          exact t4
        · rw [show s + (cl e + 1 + cb a + 1) + cb r = s + cb (bWhil p e a r) by show _ = s + (cl e + 1 + cb a + 1 + cb r); omega]
          exact hr
    · obtain ⟨E3, d, E0, E4, i1, i2, i3, i4, i5, i6, i7⟩ := inv_try hc
      have ht0 := ht
      rw [TC_try] at ht
      obtain ⟨⟨y1, y2, y3⟩, t1, t2⟩ := ht
      obtain ⟨u1, u2, u3, u4, u5, u6, u7⟩ := t2 d E0 i2 i3
      refine ⟨Int32.ofNat s, s + 1, s + 1, Or.inr (Or.inl ⟨rfl, y1, rfl⟩), rfl, ?_, Nat.zero_le _⟩
      show KC P C c mt M X U g ((0, E, a, false) :: (2, P.nxE c mt (bTry p a cw w b r) E, nl, false) :: (4, E, bTry p a cw w b r, false) :: (0, P.nxE c mt (bTry p a cw w b r) E, r, false) :: ks) (s + 1) (Int32.ofNat s)
      rw [KC_0, KC_2]
      refine ⟨t1, s + (1 + cb a + 1 + cb b + 1), Or.inr ⟨s + 1 + cb a + 1 + cb b, Or.inr u1.1, u1.2, Or.inr u6.1, by omega, by omega⟩, ?_⟩
      rw [KC_4]
      refine ⟨s, o, rfl, rfl, ht0, ?_⟩
      rw [KC_0, i6]
      refine ⟨?_, ?_⟩
      · rw [show s + (1 + cb a + 1 + cb b + 1) = s + 1 + cb a + 1 + cb b + 1 by omega]
        exact u7 E3 E4 i1 i5
      · rw [show s + (1 + cb a + 1 + cb b + 1) + cb r = s + cb (bTry p a cw w b r) by show _ = s + (1 + cb a + 1 + cb b + 1 + cb r); omega]
        exact hr
