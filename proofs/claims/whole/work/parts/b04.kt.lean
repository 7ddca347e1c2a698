/-! ===== THE MACHINE, typed: variables, statements, frames ===== -/
def tyV (P : Pgm) (t : Nat) : Prop := t = 0 ∨ t = 1 ∨ t = 2 ∨ (10 ≤ t ∧ t - 10 < P.n)
def GE (P : Pgm) (E : EnvV) : Prop := ∀ (i : Nat) (x : List Int32 × Nat), E.1[i]? = some x → tyV P x.2
/-- the variables as these types tell; what is set is of its type -/
def LoT (P : Pgm) (hp : List Ob) (E : EnvV) (lo : List Vl) : Prop := lo.length = E.1.length ∧ E.2.1 = false ∧ ∀ (i : Nat) (x : List Int32 × Nat) (v : Vl), E.1[i]? = some x → lo[i]? = some v → VT P hp v x.2 ∨ (v = .inl 0 ∧ E.2.2 i = false)
/-- what E tells is enough for E' -/
def Rf (E E' : EnvV) : Prop := Pfx E' E ∧ (E'.2.1 = true → E.2.1 = true) ∧ ∀ i, i < E'.1.length → E'.isS i = true → E.isS i = true
def cty : List Si → Nat
  | [] => 0
  | (k, _) :: ks => (if k = 4 then 1 else 0) + cty ks
/-- its expressions are not too large -/
def exW : Tr → Prop := foldB True True (fun _ _ _ _ R => R) (fun _ _ _ e _ R => wt e ≤ 3000 ∧ R) (fun _ x e _ R => wt x + wt e ≤ 3000 ∧ R) (fun _ e _ A _ _ B _ R => wt e ≤ 3000 ∧ A ∧ B ∧ R) (fun _ e _ A _ R => wt e ≤ 3000 ∧ A ∧ R) (fun _ _ A _ _ _ B _ R => A ∧ B ∧ R) (fun _ _ e _ R => wt e ≤ 3000 ∧ R)
def CapB (z : Nat) (E : EnvV) (b : Tr) (ks : List Si) : Prop := E.1.length + nv b ≤ 899 ∧ exW b ∧ 3 * dp b + ks.length ≤ z ∧ dp b + cty ks ≤ 50
def isW (b : Tr) : Prop := ∃ p e a r, b = bWhil p e a r
def isY (b : Tr) : Prop := ∃ p a cw w b' r, b = bTry p a cw w b' r
def stK : Tr → Bool := foldB false false (fun _ _ _ _ _ => false) (fun _ _ _ _ _ _ => true) (fun _ _ _ _ _ => true) (fun _ _ _ _ _ _ _ _ _ => true) (fun _ _ _ _ _ _ => true) (fun _ _ _ _ _ _ _ _ _ => false) (fun _ k _ _ _ => decide (k ≠ 52))
/-- what is to be done of statements, typed, where the variables are E -/
def KT (P : Pgm) (S : Tks) (c mt : Nat) : List Si → EnvV → Prop
  | [], E => E.2.1 = true ∨ mt = 3
  | (k, E', b, _) :: ks, E => if k = 0 then E = E' ∧ (∃ n, GK S n b) ∧ CapB 100 E b ks ∧ ∃ E2, P.chk c mt b E = .inr E2 ∧ KT P S c mt ks E2
    else if k = 2 then Rf E E' ∧ KT P S c mt ks E'
    else if k = 3 then Rf E E' ∧ isW b ∧ (∃ n, GK S n b) ∧ CapB 101 E' b ks ∧ (∃ E2, P.chk c mt b E' = .inr E2) ∧ KT P S c mt ks (P.nxE c mt b E')
    else if k = 4 then E = P.nxE c mt b E' ∧ isY b ∧ (∃ n, GK S n b) ∧ CapB 101 E' b ks ∧ (∃ E2, P.chk c mt b E' = .inr E2) ∧ KT P S c mt ks E
    else False
/-- the types of a statement's parts -/
def Pgm.prT (P : Pgm) (c : Nat) (E : EnvV) : Tr → List (Bool × Nat) := foldB [] [] (fun _ _ _ _ _ => []) (fun _ _ _ e _ _ => ((P.te c E e).getD []).reverse.map mk3) (fun _ x e _ _ => ((P.plT c E x).getD [] ++ (P.te c E e).getD []).reverse.map mk3) (fun _ e _ _ _ _ _ _ _ => ((P.te c E e).getD []).reverse.map mk3) (fun _ e _ _ _ _ => ((P.te c E e).getD []).reverse.map mk3) (fun _ _ _ _ _ _ _ _ _ => []) (fun _ _ e _ _ => ((P.te c E e).getD []).reverse.map mk3)
/-- where the words of parts are such -/
def KH (P : Pgm) (S : Tks) (c mt : Nat) (ks : List Si) (E : EnvV) (a : List (Bool × Nat)) : Prop := match ks with
  | [] => a = [] ∧ KT P S c mt [] E
  | (k, E', b, z) :: ks' => if k = 1 then E = E' ∧ stK b = true ∧ (∃ n, GK S n b) ∧ CapB 101 E b ks' ∧ (∃ E2, P.chk c mt b E = .inr E2) ∧ a = P.prT c E b ∧ KT P S c mt ks' (P.nxE c mt b E)
    else if k = 5 then (∃ t, a = [mk3 t] ∧ z = decide (t = 3)) ∧ KT P S c mt ks' E
    else a = [] ∧ KT P S c mt ((k, E', b, z) :: ks') E
/-- blocks and tries lie in one another; a try's variables are as they were told -/
def TyL (P : Pgm) (hp : List Ob) (lo : List Vl) : List Si → EnvV → Prop
  | [], _ => True
  | (k, E', _) :: ks, E => if k = 2 ∨ k = 3 ∨ k = 4 then Pfx E' E ∧ (k = 4 → LoT P hp E' (lo.take E'.1.length)) ∧ TyL P hp lo ks E' else TyL P hp lo ks E
/-- an open method that waits for words of these types -/
def FT (P : Pgm) (S : Tks) (hp : List Ob) (f : Fm) (pre : List (Bool × Nat)) : Prop := (∃ b, P.ms[f.1.2.1]? = some b ∧ b.1 = true) ∧ f.1.1 = P.ow f.1.2.1 ∧ (∃ d fs, hp[f.1.2.2]? = some (some d, fs) ∧ P.und d f.1.1 = true) ∧ GE P f.2.2.2.1 ∧ LoT P hp f.2.2.2.1 f.2.1 ∧ TyL P hp f.2.1 f.2.2.2.2.2 f.2.2.2.1 ∧ (∃ a a', OT P hp f.2.2.1 a ∧ XT P S f.1.1 f.2.2.2.1 f.2.2.2.2.1 (pre ++ a) a' ∧ KH P S f.1.1 (P.mty f.1.2.1) f.2.2.2.2.2 f.2.2.2.1 a') ∧ XH f.2.2.2.2.1 (pre.length + f.2.2.1.length) 1999 ∧ xw f.2.2.2.2.1 ≤ 3000
def FsT (P : Pgm) (S : Tks) (hp : List Ob) : List Fm → List (Bool × Nat) → Prop
  | [], pre => pre = [mk3 0]
  | f :: fs, pre => FT P S hp f pre ∧ FsT P S hp fs [mk3 (P.mty f.1.2.1)]
/-- what is so all the time -/
def GdM (P : Pgm) (S : Tks) : Mst → Prop
  | (G, .inl fs) => HO P G.1 ∧ FsT P S G.1 fs [] ∧ fs ≠ [] ∧ fs.length ≤ 100 ∧ G.2.2.2.2 ≤ 10900
  | (G, .inr _) => HO P G.1
/-- what a program's check leaves -/
def PgF (P : Pgm) (S : Tks) : Prop := Acy P ∧ P.badB = none ∧ P.P5 ∧ P.P3 ∧ P.n ≤ 400 ∧ P.ms.length ≤ 1000 ∧ ∀ (m : Nat) (b : Mb), P.ms[m]? = some b → b.1 = true → (∃ n, GK S n (mbB b)) ∧ dp (mbB b) ≤ 30 ∧ mbP b + nv (mbB b) ≤ 899 ∧ exW (mbB b) ∧ P.rt b.2.1 ≠ 5 ∧ P.chkM (P.ow m) b = none
/-! ===== what a good statement tells ===== -/
theorem inv_tell {P : Pgm} {c mt p y w : Nat} {r : Tr} {E E2 : EnvV} (h : P.chk c mt (bTell p y w r) E = .inr E2) : P.rt y ≠ 5 ∧ E.fnd (P.1 w) = none ∧ P.nxE c mt (bTell p y w r) E = E.add (P.1 w) (P.rt y) false ∧ P.chk c mt r (P.nxE c mt (bTell p y w r) E) = .inr E2 := by
  rw [Pgm.chk_tell] at h
  obtain ⟨E1, h1, h2⟩ := sB_inr h
  have h3 := oS_inr h1
  obtain ⟨rfl, z⟩ := Pgm.tlX_some h3
  exact ⟨z.1, z.2, rfl, h2⟩
theorem inv_tellv {P : Pgm} {c mt p y w : Nat} {e r : Tr} {E E2 : EnvV} (h : P.chk c mt (bTellv p y w e r) E = .inr E2) : ∃ t, P.te c E e = some [t] ∧ P.sub t (P.rt y) = true ∧ P.rt y ≠ 5 ∧ P.nxE c mt (bTellv p y w e r) E = E.add (P.1 w) (P.rt y) true ∧ P.chk c mt r (P.nxE c mt (bTellv p y w e r) E) = .inr E2 := by
  rw [Pgm.chk_tellv] at h
  obtain ⟨E1, h1, h2⟩ := sB_inr h
  obtain ⟨t, h3, h4, h5⟩ := Pgm.tvE_some (oS_inr h1)
  obtain ⟨rfl, z⟩ := Pgm.tlX_some h5
  exact ⟨t, h3, h4, z.1, rfl, h2⟩
theorem inv_give {P : Pgm} {c mt p : Nat} {x e r : Tr} {E E2 : EnvV} (h : P.chk c mt (bGive p x e r) E = .inr E2) : ∃ l t, P.plT c E x = some l ∧ P.te c E e = some [t] ∧ P.gvX c E (gk x) (P.1 (gw x)) l t = some (P.nxE c mt (bGive p x e r) E) ∧ P.chk c mt r (P.nxE c mt (bGive p x e r) E) = .inr E2 := by
  rw [Pgm.chk_give] at h
  obtain ⟨E1, h1, h2⟩ := sB_inr h
  have h3 := oS_inr h1
  obtain ⟨l, t, h4, h5, h6⟩ := Pgm.gvE_some h3
  have hn : P.nxE c mt (bGive p x e r) E = E1 := by
    show (P.gvE c E x e).getD E = E1
    rw [h3]; rfl
  rw [hn]
  exact ⟨l, t, h4, h5, h6, h2⟩
theorem inv_ite {P : Pgm} {c mt p : Nat} {e a b r : Tr} {f : Nat} {E E2 : EnvV} (h : P.chk c mt (bIte p e a f b r) E = .inr E2) : P.te c E e = some [1] ∧ ∃ E3, P.chk c mt a E = .inr E3 ∧ (f = 1 → ∃ E4, P.chk c mt b E = .inr E4 ∧ P.nxE c mt (bIte p e a f b r) E = E.join E3 E4) ∧ (f ≠ 1 → P.nxE c mt (bIte p e a f b r) E = E) ∧ P.chk c mt r (P.nxE c mt (bIte p e a f b r) E) = .inr E2 := by
  rw [Pgm.chk_ite] at h
  obtain ⟨E0, h0, h⟩ := sB_inr h
  obtain ⟨E1, h1, h2⟩ := sB_inr h
  have hn : P.nxE c mt (bIte p e a f b r) E = if f = 1 then E.join (ckE E (P.chk c mt a E)) (ckE E (P.chk c mt b E)) else E := rfl
  refine ⟨(Pgm.bcE_some (oS_inr h0)).2, E1, h1, ?_⟩
  rw [hn]
  split at h2
  · rename_i hf
    obtain ⟨E4, h3, h4⟩ := sB_inr h2
    rw [if_pos hf, h1, h3]
    exact ⟨fun _ => ⟨E4, rfl, rfl⟩, fun z => absurd hf z, h4⟩
  · rename_i hf
    rw [if_neg hf]
    exact ⟨fun z => absurd z hf, fun _ => rfl, h2⟩
theorem inv_whil {P : Pgm} {c mt p : Nat} {e a r : Tr} {E E2 : EnvV} (h : P.chk c mt (bWhil p e a r) E = .inr E2) : P.te c E e = some [1] ∧ ∃ E3, P.chk c mt a E = .inr E3 ∧ P.nxE c mt (bWhil p e a r) E = E ∧ P.chk c mt r E = .inr E2 := by
  rw [Pgm.chk_whil] at h
  obtain ⟨E0, h0, h⟩ := sB_inr h
  obtain ⟨E1, h1, h2⟩ := sB_inr h
  exact ⟨(Pgm.bcE_some (oS_inr h0)).2, E1, h1, rfl, h2⟩
theorem inv_try {P : Pgm} {c mt p : Nat} {a b r : Tr} {cw w : Nat} {E E2 : EnvV} (h : P.chk c mt (bTry p a cw w b r) E = .inr E2) : ∃ E3 d E0 E4, P.chk c mt a E = .inr E3 ∧ P.fnd (P.1 cw) = some d ∧ P.ctE E cw w = some E0 ∧ E0 = E.add (P.1 w) (10 + d) true ∧ P.chk c mt b E0 = .inr E4 ∧ P.nxE c mt (bTry p a cw w b r) E = E.join E3 E4 ∧ P.chk c mt r (P.nxE c mt (bTry p a cw w b r) E) = .inr E2 := by
  rw [Pgm.chk_try] at h
  obtain ⟨E1, h1, h⟩ := sB_inr h
  obtain ⟨E0, h0, h⟩ := sB_inr h
  obtain ⟨E4, h3, h4⟩ := sB_inr h
  have hc := oS_inr h0
  obtain ⟨d, d1, d2, d3⟩ := Pgm.ctE_some hc
  have hn : P.nxE c mt (bTry p a cw w b r) E = E.join E1 E4 := by
    show E.join (ckE E (P.chk c mt a E)) (ckE E (P.chk c mt b ((P.ctE E cw w).getD E))) = _
    rw [h1, hc]
    show E.join E1 (ckE E (P.chk c mt b E0)) = _
    rw [h3]
    rfl
  rw [hn]
  exact ⟨E1, d, E0, E4, h1, d1, hc, d3, h3, rfl, h4⟩
theorem nxE_k {k : Nat} (hk : k = 40 ∨ k = 41 ∨ k = 42 ∨ k = 43 ∨ k = 52) (P : Pgm) (c mt p : Nat) (e r : Tr) (E : EnvV) : P.nxE c mt (nd k p 0 e r) E = (P.wkE c mt E k e).getD E := by
  rcases hk with rfl | rfl | rfl | rfl | rfl <;> rfl
theorem inv_k {k : Nat} (hk : k = 40 ∨ k = 41 ∨ k = 42 ∨ k = 43 ∨ k = 52) {P : Pgm} {c mt p : Nat} {e r : Tr} {E E2 : EnvV} (h : P.chk c mt (nd k p 0 e r) E = .inr E2) : P.wkE c mt E k e = some (P.nxE c mt (nd k p 0 e r) E) ∧ P.chk c mt r (P.nxE c mt (nd k p 0 e r) E) = .inr E2 := by
  rw [Pgm.chk_k hk] at h
  obtain ⟨E1, h1, h2⟩ := sB_inr h
  have h3 := oS_inr h1
  have hn : P.nxE c mt (nd k p 0 e r) E = E1 := by
    rw [nxE_k hk, h3]; rfl
  rw [hn]
  exact ⟨h3, h2⟩
theorem exW_k {k : Nat} (hk : k = 40 ∨ k = 41 ∨ k = 42 ∨ k = 43 ∨ k = 52) (p : Nat) (e r : Tr) : exW (nd k p 0 e r) = (wt e ≤ 3000 ∧ exW r) := by
  rcases hk with rfl | rfl | rfl | rfl | rfl <;> rfl
theorem stU_k {k : Nat} (hk : k = 40 ∨ k = 41 ∨ k = 42 ∨ k = 43 ∨ k = 52) (P : Pgm) (c mt p : Nat) (e r : Tr) (E : EnvV) (lo : List Vl) (ks : List Si) : P.stU c mt (nd k p 0 e r) E lo ks = (lo, E, P.flX c E e, (if k = 52 then (5, E, nl, decide (P.te c E e = some [3])) else (1, E, nd k p 0 e r, false)) :: (0, P.nxE c mt (nd k p 0 e r) E, r, false) :: ks) := by
  rcases hk with rfl | rfl | rfl | rfl | rfl <;> rfl
theorem prT_k {k : Nat} (hk : k = 40 ∨ k = 41 ∨ k = 42 ∨ k = 43 ∨ k = 52) (P : Pgm) (c p : Nat) (e r : Tr) (E : EnvV) : P.prT c E (nd k p 0 e r) = ((P.te c E e).getD []).reverse.map mk3 := by
  rcases hk with rfl | rfl | rfl | rfl | rfl <;> rfl
/-! ===== variables ===== -/
theorem Rf.join1 {E E1 E2 : EnvV} (p : Pfx E E1) : Rf E1 (E.join E1 E2) := by
  refine ⟨p, fun z => ?_, fun i hi z => ?_⟩
  · have z : (E1.2.1 && E2.2.1) = true := z
    exact (Bool.and_eq_true_iff.mp z).1
  · have z : (E1.2.1 && E2.2.1 || (E1.isS i && E2.isS i)) = true := z
    rcases Bool.or_eq_true_iff.mp z with z | z
    · unfold EnvV.isS
      rw [(Bool.and_eq_true_iff.mp z).1]
      rfl
    · exact (Bool.and_eq_true_iff.mp z).1
theorem Rf.join2 {E E1 E2 : EnvV} (p : Pfx E E2) : Rf E2 (E.join E1 E2) := by
  refine ⟨p, fun z => ?_, fun i hi z => ?_⟩
  · have z : (E1.2.1 && E2.2.1) = true := z
    exact (Bool.and_eq_true_iff.mp z).2
  · have z : (E1.2.1 && E2.2.1 || (E1.isS i && E2.isS i)) = true := z
    rcases Bool.or_eq_true_iff.mp z with z | z
    · unfold EnvV.isS
      rw [(Bool.and_eq_true_iff.mp z).2]
      rfl
    · exact (Bool.and_eq_true_iff.mp z).2
theorem Rf.grow {E E1 : EnvV} (p : Pfx E E1) (g : E.grow E1) : Rf E1 E := ⟨p, g.1, g.2⟩
theorem Rf.refl (E : EnvV) : Rf E E := ⟨Pfx.refl E, fun z => z, fun _ _ z => z⟩
theorem LoT.mono {P : Pgm} {hp hp' : List Ob} (g : HpL hp hp') {E : EnvV} {lo : List Vl} (h : LoT P hp E lo) : LoT P hp' E lo := ⟨h.1, h.2.1, fun i x v h1 h2 => (h.2.2 i x v h1 h2).imp (fun z => z.mono g) (fun z => z)⟩
/-- a block is left -/
theorem LoT.cut {P : Pgm} {hp : List Ob} {E E' : EnvV} {lo : List Vl} (h : LoT P hp E lo) (r : Rf E E') : LoT P hp E' (lo.take E'.1.length) := by
  obtain ⟨h1, h2, h3⟩ := h
  obtain ⟨r1, r2, r3⟩ := r
  have hl := r1.le
  have hd : E'.2.1 = false := by
    cases z : E'.2.1 with
    | false => rfl
    | true => rw [r2 z] at h2; cases h2
  refine ⟨by rw [List.length_take]; omega, hd, fun i x v hx hv => ?_⟩
  have hi := (List.getElem?_eq_some_iff.mp hx).1
  rw [List.getElem?_take_of_lt hi] at hv
  rcases h3 i x v (r1.get hx) hv with z | ⟨z1, z2⟩
  · exact Or.inl z
  · refine Or.inr ⟨z1, ?_⟩
    cases q : E'.2.2 i with
    | false => rfl
    | true =>
      have := r3 i hi (by unfold EnvV.isS; rw [q, Bool.or_true])
      unfold EnvV.isS at this
      rw [h2, z2] at this
      cases this
theorem LoT.add {P : Pgm} {hp : List Ob} {E : EnvV} {lo : List Vl} (h : LoT P hp E lo) {w : List Int32} {t : Nat} {s : Bool} {v : Vl} (hv : VT P hp v t ∨ (v = .inl 0 ∧ s = false)) : LoT P hp (E.add w t s) (lo ++ [v]) := by
  obtain ⟨h1, h2, h3⟩ := h
  refine ⟨by rw [EnvV.add_len, List.length_append, h1]; rfl, h2, fun i x u hx hu => ?_⟩
  have hx : (E.1 ++ [(w, t)])[i]? = some x := hx
  rcases Nat.lt_trichotomy i E.1.length with z | z | z
  · rw [List.getElem?_append_left z] at hx
    rw [List.getElem?_append_left (by omega)] at hu
    rcases h3 i x u hx hu with q | q
    · exact Or.inl q
    · refine Or.inr ⟨q.1, ?_⟩
      show (if i = E.1.length then s else E.2.2 i) = false
      rw [if_neg (by omega)]; exact q.2
  · subst z
    rw [List.getElem?_append_right (Nat.le_refl _), Nat.sub_self] at hx
    rw [List.getElem?_append_right (by omega), h1, Nat.sub_self] at hu
    obtain rfl : (w, t) = x := Option.some.inj hx
    obtain rfl : v = u := Option.some.inj hu
    refine hv.imp (fun z => z) (fun z => ⟨z.1, ?_⟩)
    show (if E.1.length = E.1.length then s else _) = false
    rw [if_pos rfl]; exact z.2
  · have := (List.getElem?_eq_some_iff.mp hx).1
    rw [List.length_append] at this
    have e : [(w, t)].length = 1 := rfl
    omega
theorem GE.add {P : Pgm} {E : EnvV} (h : GE P E) {w : List Int32} {t : Nat} {s : Bool} (ht : tyV P t) : GE P (E.add w t s) := by
  intro i x hx
  have hx : (E.1 ++ [(w, t)])[i]? = some x := hx
  rcases Nat.lt_or_ge i E.1.length with z | z
  · rw [List.getElem?_append_left z] at hx
    exact h i x hx
  · rw [List.getElem?_append_right z] at hx
    rcases hj : i - E.1.length with _ | j
    · rw [hj] at hx
      obtain rfl : (w, t) = x := Option.some.inj hx
      exact ht
    · rw [hj] at hx; cases hx
theorem GE.pfx {P : Pgm} {E E' : EnvV} (h : GE P E) (p : Pfx E' E) : GE P E' := fun i x hx => h i x (p.get hx)
theorem GE.same {P : Pgm} {E E' : EnvV} (h : GE P E) (p : E'.1 = E.1) : GE P E' := fun i x hx => h i x (by rw [← p]; exact hx)
theorem TyL.mono {P : Pgm} {hp hp' : List Ob} (g : HpL hp hp') {lo : List Vl} : ∀ {ks : List Si} {E : EnvV}, TyL P hp lo ks E → TyL P hp' lo ks E
  | [], E, _ => trivial
  | (k, E', b) :: ks, E, h => by
    unfold TyL at h ⊢
    split
    · rename_i hk
      rw [if_pos hk] at h
      exact ⟨h.1, fun z => (h.2.1 z).mono g, TyL.mono g h.2.2⟩
    · rename_i hk
      rw [if_neg hk] at h
      exact TyL.mono g h
/-- further variables -/
theorem TyL.more {P : Pgm} {hp : List Ob} {lo : List Vl} : ∀ {ks : List Si} {E E2 : EnvV}, TyL P hp lo ks E → Pfx E E2 → TyL P hp lo ks E2
  | [], E, E2, _, _ => trivial
  | (k, E', b) :: ks, E, E2, h, p => by
    unfold TyL at h ⊢
    split
    · rename_i hk
      rw [if_pos hk] at h
      exact ⟨h.1.trans p, h.2⟩
    · rename_i hk
      rw [if_neg hk] at h
      exact TyL.more h p
/-- variables that are the same as far as E goes -/
theorem TyL.lo {P : Pgm} {hp : List Ob} {lo lo' : List Vl} : ∀ {ks : List Si} {E : EnvV}, TyL P hp lo ks E → (∀ E', Pfx E' E → LoT P hp E' (lo.take E'.1.length) → LoT P hp E' (lo'.take E'.1.length)) → TyL P hp lo' ks E
  | [], E, _, _ => trivial
  | (k, E', b) :: ks, E, h, q => by
    unfold TyL at h ⊢
    split
    · rename_i hk
      rw [if_pos hk] at h
      exact ⟨h.1, fun z => q E' h.1 (h.2.1 z), TyL.lo h.2.2 (fun E2 p z => q E2 (p.trans h.1) z)⟩
    · rename_i hk
      rw [if_neg hk] at h
      exact TyL.lo h q
theorem TyL.ap {P : Pgm} {hp : List Ob} {lo : List Vl} {ks : List Si} {E : EnvV} (h : TyL P hp lo ks E) (hl : lo.length = E.1.length) (l : List Vl) : TyL P hp (lo ++ l) ks E := h.lo (fun E' p z => by
  have := p.le
  rw [List.take_append_of_le_length (by omega)]
  exact z)
theorem TyL.tk {P : Pgm} {hp : List Ob} {lo : List Vl} {ks : List Si} {E : EnvV} (h : TyL P hp lo ks E) : TyL P hp (lo.take E.1.length) ks E := h.lo (fun E' p z => by
  have := p.le
  rw [List.take_take, show min E'.1.length E.1.length = E'.1.length by omega]
  exact z)
