/-! ===== STATEMENTS: names stay in front; typed code stays ===== -/
theorem sB_inr {x : CkR} {f : EnvV → CkR} {E' : EnvV} (h : sB x f = .inr E') : ∃ E1, x = .inr E1 ∧ f E1 = .inr E' := by
  cases x with
  | inl p => cases h
  | inr E1 => exact ⟨E1, rfl, h⟩
theorem oS_inr {p : Nat} {O : Option EnvV} {E1 : EnvV} (h : oS p O = .inr E1) : O = some E1 := by
  cases O with
  | none => cases h
  | some E => injection h with h; rw [h]
theorem Pgm.tlX_some {P : Pgm} {E E1 : EnvV} {y w : Nat} {s : Bool} (h : P.tlX E y w s = some E1) : E1 = E.add (P.1 w) (P.rt y) s ∧ P.rt y ≠ 5 ∧ E.fnd (P.1 w) = none := by
  unfold Pgm.tlX at h
  split at h
  · rename_i z
    exact ⟨(Option.some.inj h).symm, z⟩
  · cases h
theorem hdO_some {α : Type} {l : List Nat} {f : Nat → Option α} {x : α} (h : hdO l f = some x) : ∃ t, l = [t] ∧ f t = some x := by
  unfold hdO at h
  split at h
  · exact ⟨_, rfl, h⟩
  · cases h
theorem Pgm.tvE_some {P : Pgm} {c : Nat} {E E1 : EnvV} {y w : Nat} {e : Tr} (h : P.tvE c E y w e = some E1) : ∃ t, P.te c E e = some [t] ∧ P.sub t (P.rt y) = true ∧ P.tlX E y w true = some E1 := by
  obtain ⟨m, h1, h2⟩ := Option.bind_eq_some_iff.mp h
  obtain ⟨t, rfl, h3⟩ := hdO_some h2
  split at h3
  · exact ⟨t, h1, by assumption, h3⟩
  · cases h3
theorem Pgm.gvX_some {P : Pgm} {c : Nat} {E E1 : EnvV} {k t : Nat} {w : List Int32} {l : List Nat} (h : P.gvX c E k w l t = some E1) : E1.1 = E.1 ∧ (E1 = E ∨ ∃ i, E.fnd w = some i ∧ E1 = E.give i) := by
  unfold Pgm.gvX at h
  split at h
  · split at h
    · rename_i i hi
      split at h
      · obtain rfl := Option.some.inj h; exact ⟨rfl, Or.inr ⟨i, hi, rfl⟩⟩
      · cases h
    · split at h
      · obtain rfl := Option.some.inj h; exact ⟨rfl, Or.inl rfl⟩
      · cases h
  · split at h
    · split at h
      · split at h
        · obtain rfl := Option.some.inj h; exact ⟨rfl, Or.inl rfl⟩
        · cases h
      · cases h
    · split at h
      · obtain rfl := Option.some.inj h; exact ⟨rfl, Or.inl rfl⟩
      · cases h
theorem Pgm.gvE_some {P : Pgm} {c : Nat} {E E1 : EnvV} {x e : Tr} (h : P.gvE c E x e = some E1) : ∃ l t, P.plT c E x = some l ∧ P.te c E e = some [t] ∧ P.gvX c E (gk x) (P.1 (gw x)) l t = some E1 := by
  obtain ⟨l, h1, h2⟩ := Option.bind_eq_some_iff.mp h
  obtain ⟨m, h3, h4⟩ := Option.bind_eq_some_iff.mp h2
  obtain ⟨t, rfl, h5⟩ := hdO_some h4
  exact ⟨l, t, h1, h3, h5⟩
theorem Pgm.wkX_some {P : Pgm} {mt k t : Nat} {E E1 : EnvV} (h : P.wkX mt E k t = some E1) : E1.1 = E.1 ∧ (E1 = E ∨ E1 = E.stop) := by
  unfold Pgm.wkX at h
  repeat' split at h
  all_goals first
    | (cases h; done)
    | (obtain rfl := Option.some.inj h; first | exact ⟨rfl, Or.inl rfl⟩ | exact ⟨rfl, Or.inr rfl⟩)
theorem Pgm.wkE_some {P : Pgm} {c mt k : Nat} {E E1 : EnvV} {e : Tr} (h : P.wkE c mt E k e = some E1) : E1.1 = E.1 ∧ (E1 = E ∨ E1 = E.stop) := by
  unfold Pgm.wkE at h
  split at h
  · split at h
    · obtain rfl := Option.some.inj h; exact ⟨rfl, Or.inr rfl⟩
    · cases h
  · obtain ⟨m, h3, h4⟩ := Option.bind_eq_some_iff.mp h
    obtain ⟨t, rfl, h5⟩ := hdO_some h4
    exact Pgm.wkX_some h5
theorem Pgm.bcE_some {P : Pgm} {c : Nat} {E E1 : EnvV} {e : Tr} (h : P.bcE c E e = some E1) : E1 = E ∧ P.te c E e = some [1] := by
  unfold Pgm.bcE at h
  split at h
  · exact ⟨(Option.some.inj h).symm, by assumption⟩
  · cases h
theorem Pgm.ctE_some {P : Pgm} {E E0 : EnvV} {cw w : Nat} (h : P.ctE E cw w = some E0) : ∃ d, P.fnd (P.1 cw) = some d ∧ E.fnd (P.1 w) = none ∧ E0 = E.add (P.1 w) (10 + d) true := by
  obtain ⟨d, h1, h2⟩ := Option.bind_eq_some_iff.mp h
  split at h2
  · exact ⟨d, h1, by assumption, (Option.some.inj h2).symm⟩
  · cases h2
theorem EnvV.add_len (E : EnvV) (w : List Int32) (t : Nat) (s : Bool) : (E.add w t s).1.length = E.1.length + 1 := by
  unfold EnvV.add
  simp
theorem Pgm.chk_pfx {S : Tks} {P : Pgm} {c mt : Nat} : ∀ (n : Nat) (e : Tr) (E E' : EnvV), GK S n e → P.chk c mt e E = .inr E' → Pfx E E' ∧ E'.1.length ≤ E.1.length + nv e
  | 0, e, E, E', hk, h => by
    rw [show e = nl from hk] at h ⊢
    injection h with h
    rw [h]
    exact ⟨Pfx.refl _, Nat.le_add_right _ _⟩
  | n + 1, e, E, E', hk, h => by
    rcases hk with rfl | ⟨p, y, w, r, rfl, _, _, hr⟩ | ⟨p, y, w, x, r, rfl, _, _, _, hr⟩ | ⟨p, k, x, r, rfl, hk, hr⟩ | ⟨p, x, y, r, rfl, _, _, _, hr⟩ | ⟨p, x, a, f, b, r, rfl, hf, _, ha, hb, hr⟩ | ⟨p, x, a, r, rfl, _, ha, hr⟩ | ⟨p, a, cw, w, b, r, rfl, _, _, ha, hb, hr⟩
    · injection h with h
      rw [h]
      exact ⟨Pfx.refl _, Nat.le_add_right _ _⟩
    · rw [Pgm.chk_tell] at h
      obtain ⟨E1, h1, h2⟩ := sB_inr h
      obtain ⟨rfl, _⟩ := Pgm.tlX_some (oS_inr h1)
      obtain ⟨i1, i2⟩ := Pgm.chk_pfx n r _ _ hr h2
      rw [EnvV.add_len] at i2
      exact ⟨(Pfx.add _ _ _ _).trans i1, by show _ ≤ _ + (1 + nv r); omega⟩
    · rw [Pgm.chk_tellv] at h
      obtain ⟨E1, h1, h2⟩ := sB_inr h
      obtain ⟨t, _, _, h3⟩ := Pgm.tvE_some (oS_inr h1)
      obtain ⟨rfl, _⟩ := Pgm.tlX_some h3
      obtain ⟨i1, i2⟩ := Pgm.chk_pfx n r _ _ hr h2
      rw [EnvV.add_len] at i2
      exact ⟨(Pfx.add _ _ _ _).trans i1, by show _ ≤ _ + (1 + nv r); omega⟩
    · rw [Pgm.chk_k (GKk hk)] at h
      obtain ⟨E1, h1, h2⟩ := sB_inr h
      have h3 := (Pgm.wkE_some (oS_inr h1)).1
      obtain ⟨i1, i2⟩ := Pgm.chk_pfx n r _ _ hr h2
      rw [(nv_k (GKk hk) p x r).1]
      rw [h3] at i2
      exact ⟨(Pfx.same h3).trans i1, i2⟩
    · rw [Pgm.chk_give] at h
      obtain ⟨E1, h1, h2⟩ := sB_inr h
      obtain ⟨l, t, _, _, h4⟩ := Pgm.gvE_some (oS_inr h1)
      have h3 := (Pgm.gvX_some h4).1
      obtain ⟨i1, i2⟩ := Pgm.chk_pfx n r _ _ hr h2
      rw [h3] at i2
      exact ⟨(Pfx.same h3).trans i1, i2⟩
    · rw [Pgm.chk_ite] at h
      obtain ⟨E0, _, h⟩ := sB_inr h
      obtain ⟨E1, h1, h2⟩ := sB_inr h
      have hn : nv (bIte p x a f b r) = nv a + nv b + nv r := rfl
      rw [hn]
      split at h2
      · obtain ⟨E2, h3, h4⟩ := sB_inr h2
        obtain ⟨i1, i2⟩ := Pgm.chk_pfx n r _ _ hr h4
        have i2 : E'.1.length ≤ E.1.length + nv r := i2
        exact ⟨(Pfx.same (E' := E.join E1 E2) rfl).trans i1, by omega⟩
      · obtain ⟨i1, i2⟩ := Pgm.chk_pfx n r _ _ hr h2
        exact ⟨i1, by omega⟩
    · rw [Pgm.chk_whil] at h
      obtain ⟨E0, _, h⟩ := sB_inr h
      obtain ⟨E1, h1, h2⟩ := sB_inr h
      have hn : nv (bWhil p x a r) = nv a + nv r := rfl
      rw [hn]
      obtain ⟨i1, i2⟩ := Pgm.chk_pfx n r _ _ hr h2
      exact ⟨i1, by omega⟩
    · rw [Pgm.chk_try] at h
      obtain ⟨E1, h1, h2⟩ := sB_inr h
      obtain ⟨E0, _, h3⟩ := sB_inr h2
      obtain ⟨E2, _, h4⟩ := sB_inr h3
      have hn : nv (bTry p a cw w b r) = 1 + nv a + nv b + nv r := rfl
      rw [hn]
      obtain ⟨i1, i2⟩ := Pgm.chk_pfx n r _ _ hr h4
      have i2 : E'.1.length ≤ E.1.length + nv r := i2
      exact ⟨(Pfx.same (E' := E.join E1 E2) rfl).trans i1, by omega⟩
theorem TE.mono {P : Pgm} {C : Cx} {c X X' s : Nat} {h h' : pH} {E : EnvV} {e : Tr} {o : Int32} (hX : X ≤ X') (hr : ∀ a i, 39 ≤ a → a ≤ 45 → s ≤ i → i < s + cl e → rd h' a i = rd h a i) (q : TE P C c X h E e s o) : TE P C c X' h' E e s o := by
  obtain ⟨q1, q2, q3⟩ := q
  refine ⟨TX.mono e s (fun i k v w l i1 i2 z => ?_) q1, CE.mono e s (fun i k v w g i1 i2 z => ?_) q2, HX.mono hX _ _ q3⟩
  · obtain ⟨z1, z2, z3⟩ := z
    exact ⟨by rw [hr _ _ (by omega) (by omega) i1 i2]; exact z1, by rw [hr _ _ (by omega) (by omega) i1 i2]; exact z2, by rw [hr _ _ (by omega) (by omega) i1 i2]; exact z3⟩
  · obtain ⟨z1, z2, z3⟩ := z
    exact ⟨by rw [hr _ _ (by omega) (by omega) i1 i2]; exact z1, by rw [hr _ _ (by omega) (by omega) i1 i2]; exact z2, by rw [hr _ _ (by omega) (by omega) i1 i2]; exact z3⟩
theorem Tp.mono {h h' : pH} {i g n : Nat} {k o : Int32} (hr : ∀ a, 39 ≤ a → a ≤ 45 → rd h' a i = rd h a i) (q : Tp h i k g o n) : Tp h' i k g o n := by
  obtain ⟨z1, z2, z3, z4⟩ := q
  exact ⟨by rw [hr _ (by omega) (by omega)]; exact z1, by rw [hr _ (by omega) (by omega)]; exact z2, by rw [hr _ (by omega) (by omega)]; exact z3, by rw [hr _ (by omega) (by omega)]; exact z4⟩
theorem Ts.mono {h h' : pH} {i k g : Nat} (hr : ∀ a, 39 ≤ a → a ≤ 45 → rd h' a i = rd h a i) (q : Ts h i k g) : Ts h' i k g := by
  obtain ⟨z1, z2⟩ := q
  exact ⟨by rw [hr _ (by omega) (by omega)]; exact z1, by rw [hr _ (by omega) (by omega)]; exact z2⟩
/-- a place: its parts -/
theorem placeOf {S : Tks} {x : Tr} (h : Ox S x) (hp : isPlaceE x = true) : ∃ k v w a b, x = nd k v w a b ∧ ((k = 6 ∧ a = nl ∧ b = nl ∧ S.K w = 22) ∨ (k = 9 ∧ b = nl ∧ Ox S a ∧ S.K w = 22) ∨ (k = 12 ∧ Ox S a ∧ Ox S b)) := by
  obtain ⟨n, h⟩ := h
  cases n with
  | zero => exact h.elim
  | succ n =>
    have pk : ∀ k v w a b, x = nd k v w a b → k = 6 ∨ k = 9 ∨ k = 12 := by
      intro k v w a b hx
      rw [hx] at hp
      have hp : (k == 6 || k == 9 || k == 12) = true := hp
      simp at hp
      omega
    rcases h with ⟨k, v, rfl, hk⟩ | ⟨k, w, rfl, hk, hw⟩ | ⟨k, a, rfl, hk, ha⟩ | ⟨k, w, a, rfl, hk, hw, ha⟩ | ⟨k, a, b, rfl, hk, ha, hb⟩ | ⟨m, w, s, rfl, hw, hs⟩
    · have := pk k v 0 nl nl rfl
      omega
    · have := pk k 0 w nl nl rfl
      exact ⟨k, 0, w, nl, nl, rfl, Or.inl ⟨by omega, rfl, rfl, hw⟩⟩
    · have := pk k 0 0 a nl rfl
      omega
    · have := pk k 0 w a nl rfl
      exact ⟨k, 0, w, a, nl, rfl, Or.inr (Or.inl ⟨by omega, rfl, ⟨n, ha⟩, hw⟩)⟩
    · have := pk k 0 0 a b rfl
      exact ⟨k, 0, 0, a, b, rfl, Or.inr (Or.inr ⟨by omega, ⟨n, ha⟩, ⟨n, hb⟩⟩)⟩
    · have := pk 30 m w s nl rfl
      omega
theorem cl_pp {S : Tks} {x e : Tr} (ox : Ox S x) (hp : isPlaceE x = true) : cl (nd 70 0 0 (pp x) e) = (cl x - 1) + cl e := by
  obtain ⟨k, v, w, a, b, rfl, hx⟩ := placeOf ox hp
  have h1 : cl (nd k v w a b) = cl a + cl b + 1 := by rw [cl_nd, if_neg (by omega), if_neg (by omega)]
  have h2 : cl (nd 70 0 0 a b) = cl a + cl b := by rw [cl_nd, if_neg (by omega), if_pos rfl]; omega
  rw [pp_nd, cl_nd, if_neg (by omega), if_pos rfl, h1, h2]
  omega
theorem TC.mono {S : Tks} {P : Pgm} {C : Cx} {c mt M M' X X' : Nat} {h h' : pH} (hM : M ≤ M') (hX : X ≤ X') : ∀ (n : Nat) (e : Tr) (E : EnvV) (s : Nat) (o : Int32), GK S n e → (∀ a i, 39 ≤ a → a ≤ 45 → s ≤ i → i < s + cb e → rd h' a i = rd h a i) → TC P C c mt M X h e E s o → TC P C c mt M' X' h' e E s o
  | 0, e, E, s, o, hk, hr, q => by
    rw [show e = nl from hk]
    trivial
  | n + 1, e, E, s, o, hk, hr, q => by
    rcases hk with rfl | ⟨p, y, w, r, rfl, _, _, g1⟩ | ⟨p, y, w, x, r, rfl, _, _, _, g1⟩ | ⟨p, k, x, r, rfl, hk, g1⟩ | ⟨p, x, y, r, rfl, hp, ox, _, g1⟩ | ⟨p, x, a, f, b, r, rfl, hf, _, ga, gb, g1⟩ | ⟨p, x, a, r, rfl, _, ga, g1⟩ | ⟨p, a, cw, w, b, r, rfl, _, _, ga, gb, g1⟩
    · trivial
    · rw [cb_tell] at hr
      rw [TC_tell] at q ⊢
      obtain ⟨q1, q2, q3, q4⟩ := q
      exact ⟨q1.mono (fun a i1 i2 => hr a _ i1 i2 (by omega) (by omega)), by rw [hr _ _ (by omega) (by omega) (by omega) (by omega)]; exact q2, by omega, TC.mono hM hX n r _ _ _ g1 (fun a i i1 i2 i3 i4 => hr a i i1 i2 (by omega) (by omega)) q4⟩
    · rw [cb_tellv] at hr
      rw [TC_tellv] at q ⊢
      obtain ⟨q0, q1, q2, q3, q4⟩ := q
      exact ⟨q0.mono hX (fun a i i1 i2 i3 i4 => hr a i i1 i2 (by omega) (by omega)), q1.mono (fun a i1 i2 => hr a _ i1 i2 (by omega) (by omega)), by rw [hr _ _ (by omega) (by omega) (by omega) (by omega)]; exact q2, by omega, TC.mono hM hX n r _ _ _ g1 (fun a i i1 i2 i3 i4 => hr a i i1 i2 (by omega) (by omega)) q4⟩
    · rw [cb_k (GKk hk)] at hr
      rw [TC_k (GKk hk)] at q ⊢
      obtain ⟨q0, q1, q2⟩ := q
      exact ⟨q0.mono hX (fun a i i1 i2 i3 i4 => hr a i i1 i2 (by omega) (by omega)), q1.mono (fun a i1 i2 => hr a _ i1 i2 (by omega) (by omega)), fun E' hE => TC.mono hM hX n r _ _ _ g1 (fun a i i1 i2 i3 i4 => hr a i i1 i2 (by omega) (by omega)) (q2 E' hE)⟩
    · rw [cb_give] at hr
      rw [TC_give] at q ⊢
      obtain ⟨q0, q1, q2, q3⟩ := q
      have hc := cl_pp (e := y) ox hp
      exact ⟨q0.mono hX (fun a i i1 i2 i3 i4 => hr a i i1 i2 (by omega) (by omega)), q1.mono (fun a i1 i2 => hr a _ i1 i2 (by omega) (by omega)), by rw [hr _ _ (by omega) (by omega) (by omega) (by omega)]; exact q2, fun E' hE => TC.mono hM hX n r _ _ _ g1 (fun a i i1 i2 i3 i4 => hr a i i1 i2 (by omega) (by omega)) (q3 E' hE)⟩
    · rw [cb_ite] at hr
      rw [TC_ite] at q ⊢
      obtain ⟨q0, q1, q2⟩ := q
      refine ⟨q0.mono hX (fun a i i1 i2 i3 i4 => hr a i i1 i2 (by omega) (by omega)), TC.mono hM hX n a _ _ _ ga (fun a i i1 i2 i3 i4 => hr a i i1 i2 (by omega) (by omega)) q1, ?_⟩
      by_cases z : f = 1
      · rw [if_pos z] at q2 hr ⊢
        obtain ⟨q2, q3, q4, q5, q6⟩ := q2
        exact ⟨q2.mono (fun a i1 i2 => hr a _ i1 i2 (by omega) (by omega)), q3.mono (fun a i1 i2 => hr a _ i1 i2 (by omega) (by omega)), TC.mono hM hX n b _ _ _ gb (fun a i i1 i2 i3 i4 => hr a i i1 i2 (by omega) (by omega)) q4, q5.mono (fun a i1 i2 => hr a _ i1 i2 (by omega) (by omega)), fun E1 E2 u1 u2 => TC.mono hM hX n r _ _ _ g1 (fun a i i1 i2 i3 i4 => hr a i i1 i2 (by omega) (by omega)) (q6 E1 E2 u1 u2)⟩
      · rw [if_neg z] at q2 hr ⊢
        obtain ⟨q2, q3, q4⟩ := q2
        exact ⟨q2.mono (fun a i1 i2 => hr a _ i1 i2 (by omega) (by omega)), q3.mono (fun a i1 i2 => hr a _ i1 i2 (by omega) (by omega)), TC.mono hM hX n r _ _ _ g1 (fun a i i1 i2 i3 i4 => hr a i i1 i2 (by omega) (by omega)) q4⟩
    · rw [cb_whil] at hr
      rw [TC_whil] at q ⊢
      obtain ⟨q0, q1, q2, q3, q4⟩ := q
      exact ⟨q0.mono hX (fun a i i1 i2 i3 i4 => hr a i i1 i2 (by omega) (by omega)), TC.mono hM hX n a _ _ _ ga (fun a i i1 i2 i3 i4 => hr a i i1 i2 (by omega) (by omega)) q1, q2.mono (fun a i1 i2 => hr a _ i1 i2 (by omega) (by omega)), q3.mono (fun a i1 i2 => hr a _ i1 i2 (by omega) (by omega)), TC.mono hM hX n r _ _ _ g1 (fun a i i1 i2 i3 i4 => hr a i i1 i2 (by omega) (by omega)) q4⟩
    · rw [cb_try] at hr
      rw [TC_try] at q ⊢
      obtain ⟨⟨q0, q1, q2⟩, q3, q4⟩ := q
      refine ⟨⟨by rw [hr _ _ (by omega) (by omega) (by omega) (by omega)]; exact q0, by rw [hr _ _ (by omega) (by omega) (by omega) (by omega)]; exact q1, by rw [hr _ _ (by omega) (by omega) (by omega) (by omega)]; exact q2⟩, TC.mono hM hX n a _ _ _ ga (fun a i i1 i2 i3 i4 => hr a i i1 i2 (by omega) (by omega)) q3, fun d E0 u1 u2 => ?_⟩
      obtain ⟨q5, q6, q7, q8, q9, q10, q11⟩ := q4 d E0 u1 u2
      exact ⟨q5.mono (fun a i1 i2 => hr a _ i1 i2 (by omega) (by omega)), by rw [hr _ _ (by omega) (by omega) (by omega) (by omega)]; exact q6, by rw [hr _ _ (by omega) (by omega) (by omega) (by omega)]; exact q7, by omega, TC.mono hM hX n b _ _ _ gb (fun a i i1 i2 i3 i4 => hr a i i1 i2 (by omega) (by omega)) q9, q10.mono (fun a i1 i2 => hr a _ i1 i2 (by omega) (by omega)), fun E1 E2 v1 v2 => TC.mono hM hX n r _ _ _ g1 (fun a i i1 i2 i3 i4 => hr a i i1 i2 (by omega) (by omega)) (q11 E1 E2 v1 v2)⟩
