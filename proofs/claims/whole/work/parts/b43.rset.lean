/-! ===== THE REFERENCE settles ===== -/
theorem Pgm.Sls_end (P : Pgm) : ∀ (n : Nat) (σ τ : Mst), P.Sls n σ τ → match τ with
    | (G, .inl (f :: fs)) => P.sil G f fs = none
    | _ => True
  | 0, σ, τ, h => by
    obtain ⟨rfl, h⟩ := h
    exact h
  | n + 1, (G, .inr e), τ, h => h.elim
  | n + 1, (G, .inl []), τ, h => h.elim
  | n + 1, (G, .inl (f :: fs)), τ, h => by
    have hs : (match P.sil G f fs with
      | some σ' => P.Sls n σ' τ
      | none => False) := h
    rcases hsil : P.sil G f fs with _ | σ'
    · rw [hsil] at hs; exact hs.elim
    · rw [hsil] at hs
      exact Pgm.Sls_end P n σ' τ hs
theorem LwR.tail {B : Nat → Nat} {L : List Nat} {h : pH} {f : Fm} {fs : List Fm} {lt pt : Nat} {trs : List (Nat × Nat)} (q : LwR B L h (f :: fs) lt pt trs) : LwR B L h fs q.choose q.choose_spec.choose q.choose_spec.choose_spec.choose := q.choose_spec.choose_spec.choose_spec.2.2.2.2
theorem LwR.kl {B : Nat → Nat} {L : List Nat} {h : pH} {f : Fm} {fs : List Fm} {lt pt : Nat} {trs : List (Nat × Nat)} (q : LwR B L h (f :: fs) lt pt trs) : f.2.2.2.2.2.length ≤ 104 := by
  obtain ⟨lb, pb, tr', q1, -⟩ := q
  exact q1.2.2.2.2.2.2.2.2.2.1
theorem sM_le {S : Tks} : ∀ (q : Nat) (b : Tr), GK S q b → exW b → sM b ≤ 3005 * stB b + 1
  | 0, b, h, _ => by
    obtain rfl : b = nl := h
    exact Nat.le_refl _
  | q + 1, b, h, hx => by
    have IH := fun b h hx => sM_le (S := S) q b h hx
    have hcl := cl_wt
    rcases h with rfl | ⟨p, y, w, r, rfl, g1, g2, hkr⟩ | ⟨p, y, w, e, r, rfl, g1, g2, g3, hkr⟩ | ⟨p, k, e, r, rfl, hkk, hkr⟩ | ⟨p, x, e, r, rfl, g1, g2, g3, hkr⟩ | ⟨p, e, a, f, b, r, rfl, hf, g1, ha, hb, hkr⟩ | ⟨p, e, a, r, rfl, g1, ha, hkr⟩ | ⟨p, a, cw, w, b, r, rfl, g1, g2, ha, hb, hkr⟩
    · exact Nat.le_refl _
    · have hx : exW r := hx
      have := IH r hkr hx
      rw [(sz_tell p y w r).1]
      show 1 + sM r ≤ _
      omega
    · have hx : wt e ≤ 3000 ∧ exW r := hx
      have := IH r hkr hx.2
      have := hcl e
      rw [(sz_tellv p y w e r).1]
      show cl e + 2 + sM r ≤ _
      omega
    · rw [exW_k (GKk hkk)] at hx
      have := IH r hkr hx.2
      have := hcl e
      have hk5 := GKk hkk
      rw [sM_k hk5, stB_nd, if_pos (by omega), if_neg (by omega)]
      omega
    · have hx : wt x + wt e ≤ 3000 ∧ exW r := hx
      have := IH r hkr hx.2
      have := hcl e
      have := hcl x
      rw [(sz_give p x e r).1]
      show cl x + cl e + 2 + sM r ≤ _
      omega
    · have hx : wt e ≤ 3000 ∧ exW a ∧ exW b ∧ exW r := hx
      have := IH r hkr hx.2.2.2
      have := hcl e
      rw [(sz_ite p e a f b r).1]
      show cl e + 2 + sM r ≤ _
      omega
    · have hx : wt e ≤ 3000 ∧ exW a ∧ exW r := hx
      have := IH r hkr hx.2.2
      have := hcl e
      rw [(sz_whil p e a r).1]
      show cl e + 2 + sM r ≤ _
      omega
    · have hx : exW a ∧ exW b ∧ exW r := hx
      have := IH r hkr hx.2.2
      have := IH a ha hx.1
      rw [(sz_try p a cw w b r).1]
      show sM a + 3 + sM r ≤ _
      omega
theorem sKs_le {P : Pgm} {S : Tks} {num : List Int32 → Nat} {c mt : Nat} {g : pH} : ∀ {ks : List Si} {E : EnvV} {t : List It}, KT P S c mt ks E → TdK P num c mt g ks t → sKs ks ≤ 5000000 * ks.length
  | [], _, _, _, _ => Nat.le_refl _
  | (k, E', b, z) :: ks, E, t, h, ht => by
    obtain ⟨t1, t2, -, h1, h2⟩ := ht
    have he : sKs ((k, E', b, z) :: ks) = sI (k, E', b, z) + sKs ks := rfl
    rw [he, List.length_cons]
    have key : ∀ E2, KT P S c mt ks E2 → sI (k, E', b, z) ≤ 5000000 → sI (k, E', b, z) + sKs ks ≤ 5000000 * (ks.length + 1) := fun E2 q1 q2 => by
      have := sKs_le q1 h2
      omega
    rw [KtI_eq] at h1
    unfold KT at h
    by_cases k0 : k = 0
    · rw [if_pos k0] at h h1
      subst k0
      obtain ⟨-, ⟨n, hgk⟩, hcap, E2, -, hk⟩ := h
      obtain ⟨o, s, n, l, r1, -⟩ := h1
      refine key E2 hk ?_
      show sM b ≤ 5000000
      have := sM_le _ b hgk hcap.2.1
      have := r1.2.1
      omega
    · rw [if_neg k0] at h
      by_cases k2 : k = 2
      · rw [if_pos k2] at h
        subst k2
        exact key _ h.2 (by show 1 ≤ 5000000; omega)
      · rw [if_neg k2] at h
        by_cases k3 : k = 3
        · rw [if_pos k3] at h
          subst k3
          obtain ⟨-, ⟨p, e, a, r, rfl⟩, -, hcap, -, hk⟩ := h
          refine key _ hk ?_
          have hx : exW (bWhil p e a r) := hcap.2.1
          have hx : wt e ≤ 3000 := hx.1
          have := cl_wt e
          show cl e + 2 ≤ 5000000
          omega
        · rw [if_neg k3] at h
          by_cases k4 : k = 4
          · rw [if_pos k4] at h
            subst k4
            exact key _ h.2.2.2.2.2 (by show 1 ≤ 5000000; omega)
          · rw [if_neg k4] at h
            exact h.elim
theorem sF_le {P : Pgm} {S : Tks} {num : List Int32 → Nat} {B : Nat → Nat} {L : List Nat} {g h : pH} {hp : List Ob} : ∀ {fs : List Fm} {pre : List (Bool × Nat)} {t : List It} {lt pt : Nat} {trs : List (Nat × Nat)}, FsT P S hp fs pre → TdF P S num g fs t → LwR B L h fs lt pt trs → sF fs ≤ 600000000 * fs.length
  | [], _, _, _, _, _, _, _, _ => Nat.le_refl _
  | (i, lo, ops, E, xs, ks) :: fs, pre, t, _, _, _, hf, ht, q => by
    obtain ⟨t1, t2, t3, -, h1, h2, h3, h4⟩ := ht
    obtain ⟨lb, pb, tr', q1, q2, q3, q4, q5⟩ := q
    have := sF_le hf.2 h4 q5
    have hkl : ks.length ≤ 104 := q1.2.2.2.2.2.2.2.2.2.1
    obtain ⟨-, -, -, -, -, -, ⟨a, a', -, -, kh⟩, -, hw3⟩ := hf.1
    have hw3 : xw xs ≤ 3000 := hw3
    have kh : KH P S i.1 (P.mty i.2.1) ks E a' := kh
    have h3 : TdK P num i.1 (P.mty i.2.1) g ks t2 := h3
    have hs : sKs ks ≤ 5000000 * ks.length := by
      match ks, kh, h3 with
      | [], kh, h3 => exact Nat.le_refl _
      | (k, E', b, z) :: ks, kh, h3 =>
        unfold KH at kh
        dsimp only at kh
        have h30 := h3
        obtain ⟨u1, u2, -, y1, y2⟩ := h3
        have he : sKs ((k, E', b, z) :: ks) = sI (k, E', b, z) + sKs ks := rfl
        by_cases k1 : k = 1
        · rw [if_pos k1] at kh
          subst k1
          have := sKs_le kh.2.2.2.2.2.2 y2
          have e1 : sI (1, E', b, z) = 1 := rfl
          rw [he, e1, List.length_cons]
          omega
        · rw [if_neg k1] at kh
          by_cases k5 : k = 5
          · rw [if_pos k5] at kh
            subst k5
            have := sKs_le kh.2 y2
            have e1 : sI (5, E', b, z) = 1 := rfl
            rw [he, e1, List.length_cons]
            omega
          · rw [if_neg k5] at kh
            exact sKs_le kh.2 h30
    show xw xs + sKs ks + 1 + sF fs ≤ 600000000 * (fs.length + 1)
    omega
theorem rset_all {P : Pgm} {S : Tks} {num : List Int32 → Nat} {N : Nat} {g : pH} {τ : Mst} (hn : P.n ≤ 400) : ∀ (n : Nat) (σ : Mst) (h : pH), P.Sls n σ τ → GdM P S σ → RRs P S num g h σ → ∃ m h', m ≤ n ∧ RRs P S num g h' τ ∧ Chg fmA h h' ∧ ∀ d, fX12_settle_0 N (d + m) 138 h = fX12_settle_0 N d 138 h'
  | 0, σ, h, hs, hg, hr => by
    obtain ⟨rfl, -⟩ := hs
    exact ⟨0, h, Nat.le_refl _, hr, Chg.refl _ _, fun d => rfl⟩
  | n + 1, (G, .inr e), h, hs, hg, hr => hs.elim
  | n + 1, (G, .inl []), h, hs, hg, hr => hs.elim
  | n + 1, (G, .inl (f :: fs)), h, hs, hg, hr => by
    have hs : (match P.sil G f fs with
      | some σ' => P.Sls n σ' τ
      | none => False) := hs
    rcases hsil : P.sil G f fs with _ | σ'
    · rw [hsil] at hs; exact hs.elim
    · rw [hsil] at hs
      obtain ⟨t, hr⟩ := hr
      obtain ⟨m1, h1, b1, ⟨b2, b3⟩, b4⟩ := rsil (N := N) hn hg hr hsil
      obtain ⟨m2, h2, c1, c2, c3, c4⟩ := rset_all hn n σ' h1 hs (sil_good hg hsil) b2
      refine ⟨m2 + m1, h2, by omega, c2, b3.trans c3, fun d => ?_⟩
      rw [← Nat.add_assoc, b4, c4]
/-- it runs; what is to be done left open -/
def RRq (g h : pH) (G : Gs) (fs : List Fm) (t : List It) : Prop := rd h 138 70 = 0 ∧ rd h 138 77 = 0 ∧ ∃ B O L lt pt trs, RBs g G B O L h ∧ LwR B L h fs lt pt trs ∧ rd h 138 100 = Int32.ofNat pt ∧ rd h 138 93 = Int32.ofNat fs.length ∧ TdH t h ∧ TrH trs h
/-- what is to be done where a step is on top -/
def TdS (P : Pgm) (S : Tks) (num : List Int32 → Nat) (g : pH) : List Fm → List It → Prop
  | (i, lo, ops, E, x :: xs, ks) :: fs, t => ∃ it t1 t2 t3, t = it :: (t1 ++ (t2 ++ (8, Int32.ofNat i.2.1) :: t3)) ∧ StI P S num i.1 E g it [x] ∧ TdX P S num i.1 E g t1 (nx xs) ∧ t1.length + 1 ≤ 3000 ∧ TdK P num i.1 (P.mty i.2.1) g ks t2 ∧ TdF P S num g fs t3
  | (i, lo, ops, E, [], ks) :: fs, t => TdF P S num g ((i, lo, ops, E, [], ks) :: fs) t
  | [], _ => False
def RRt (P : Pgm) (S : Tks) (num : List Int32 → Nat) (g h : pH) (σ : Mst) : Prop := match σ with
  | (G, .inl fs) => ∃ t, RRq g h G fs t ∧ TdS P S num g fs t ∧ t.length ≤ 332000
  | (G, .inr e) => RRs P S num g h (G, .inr e)
theorem sI_one {P : Pgm} {S : Tks} {num : List Int32 → Nat} {c : Nat} {E : EnvV} {g : pH} {it : It} {ys : List Xi} (h : StI P S num c E g it ys) : ∃ x, ys = [x] := by
  rcases h with ⟨_, k, v, w, j, _, _, _, _, _, rfl⟩ | ⟨h0, h⟩
  · exact ⟨_, rfl⟩
  · rcases h with ⟨z, _⟩ | ⟨_, k, v, w, z, l, j, a, _, _, _, _, _, _, _, rfl⟩ | ⟨_, k, b, n, l, j, _, _, _, _, _, _, _, _, _, _, rfl⟩
    · omega
    · exact ⟨_, rfl⟩
    · exact ⟨_, rfl⟩
theorem rstop {g h : pH} {P : Pgm} {S : Tks} {num : List Int32 → Nat} {c N d : Nat} {E : EnvV} {it : It} {ys : List Xi} {T : List It} (st : StV g h) (h70 : rd h 138 70 = 0) (hth : TdH (it :: T) h) (hl : T.length < 400000) (hs : StI P S num c E g it ys) : fX12_settle_0 N (d + 1) 138 h = some h := by
  refine set_stop st h70 hth hl ?_
  rcases hs with ⟨h0, k, v, w, j, hlf, hj, hj2, e1, e2, -⟩ | ⟨h0, -⟩
  · rw [r_isStep st hth hl (by omega), if_neg (by omega), if_pos h0, hj, r_leaf st hj2, Option.bind_some]
    dsimp only
    rw [e1, if_pos (rnK_lf hlf), if_neg (by decide)]
  · rw [r_isStep st hth hl (by omega), if_pos (by omega)]
theorem rsettle {P : Pgm} {S : Tks} {num : List Int32 → Nat} {N : Nat} {g h : pH} {σ : Mst} (hN : 100000000000 ≤ N) (hn : P.n ≤ 400) (hg : GdM P S σ) (hr : RRs P S num g h σ) : ∃ n τ h', P.Sls n σ τ ∧ GdM P S τ ∧ fX12_settle N 138 h = some h' ∧ RRt P S num g h' τ ∧ Chg fmA h h' := by
  have hsM : sMst σ ≤ 60000000000 := by
    match σ, hg, hr with
    | (G, .inr e), hg, hr => exact Nat.zero_le _
    | (G, .inl fs), hg, hr =>
      obtain ⟨t, -, -, B, O, L, lt, pt, trs, -, hlw, -, -, htd, -, -⟩ := hr
      have := sF_le hg.2.1 htd hlw
      have := hg.2.2.2.1
      show sF fs ≤ _
      omega
  have sg : Sg h := by
    match σ, hg, hr with
    | (G, .inr e), hg, hr => exact hr.1.1
    | (G, .inl fs), hg, hr =>
      obtain ⟨t, -, -, B, O, L, lt, pt, trs, hb, -⟩ := hr
      exact hb.1.1
  obtain ⟨n, τ, s1, s2, s3⟩ := settles 60000000000 σ hsM hg
  obtain ⟨m, h1, b1, b2, b3, b4⟩ := rset_all (N := N) hn n σ h s2 hg hr
  have sg1 : Sg h1 := b3.sg sg
  suffices hq : ∃ m2 h', m2 ≤ 4000 ∧ (∀ d, fX12_settle_0 N (d + 1 + m2) 138 h1 = some h') ∧ RRt P S num g h' τ ∧ Chg fmA h1 h' by
    obtain ⟨m2, h', q1, q2, q3, q4⟩ := hq
    refine ⟨n, τ, h', s2, s3, ?_, q3, b3.trans q4⟩
    unfold fX12_settle
    rw [if_pos (o_138 sg)]
    have eN : N = (N - m - m2 - 1) + 1 + m2 + m := by omega
    have := b4 ((N - m - m2 - 1) + 1 + m2)
    rw [← eN] at this
    rw [this, q2]
  have hend := P.Sls_end n σ τ s2
  match τ, s3, b2, hend with
  | (G, .inr (k, a)), s3, b2, hend =>
    refine ⟨0, h1, by omega, fun d => set_end sg1 ?_, b2, Chg.refl _ _⟩
    obtain ⟨-, -, -, e70, -, -, -, k1, k2⟩ := b2
    rw [e70]
    exact i_ne (b := 0) (by omega) (by omega) (by omega)
  | (G, .inl []), s3, b2, hend => exact absurd rfl s3.2.2.1
  | (G, .inl ((i, lo, ops, E, x :: xs, ks) :: fs)), s3, b2, hend =>
    have hend : P.sil G (i, lo, ops, E, x :: xs, ks) fs = none := hend
    obtain ⟨t, h70, h77, B, O, L, lt, pt, trs, hb, hlw, h100, h93, htd, hth, htr⟩ := b2
    have htl := htd.len hlw
    have hlen : (fs.length + 1) ≤ 100 := s3.2.2.2.1
    rw [List.length_cons] at htl
    obtain ⟨t1, t2, t3, rfl, x1, x2, x3, x4⟩ := htd
    dsimp only at x1 x3 hth htl
    have hw3 : xw (x :: xs) ≤ 3000 := s3.2.1.1.2.2.2.2.2.2.2.2
    have enx : nx (x :: xs) = x :: nx xs := by
      match x, hend with
      | .inl (k, v, w, z, l), hend =>
        have hend : (if k = 50 then some _ else if k = 51 then some _ else none) = none := hend
        show (if k = 50 ∨ k = 51 then nx xs else _ :: nx xs) = _
        by_cases k0 : k = 50
        · rw [if_pos k0] at hend; cases hend
        · rw [if_neg k0] at hend
          by_cases k1 : k = 51
          · rw [if_pos k1] at hend; cases hend
          · rw [if_neg (by omega)]
      | .inr x, hend => rfl
    rw [enx] at x1
    have hxl := xw_len (x :: xs)
    rw [List.length_cons] at hxl
    have hnl := nx_len xs
    match t1, x1, x2, hth, htl with
    | [], x1, x2, hth, htl => cases x1
    | it :: t1, x1, x2, hth, htl =>
      obtain ⟨ys, ws, w1, w2, w3⟩ := x1
      rw [List.length_append, List.length_cons] at htl
      have hsT : ∀ (h' : pH) (it' : It) (t1' : List It) (A : Nat → Nat → Prop), Chg A h1 h' → (∀ a k, A a k → (a = 201 ∨ a = 202) ∨ (a = 138 ∧ k = 103)) → StI P S num i.1 E g it' [x] → TdX P S num i.1 E g t1' (nx xs) → TdH (it' :: (t1' ++ (t2 ++ (8, Int32.ofNat i.2.1) :: t3))) h' → RRt P S num g h' (G, .inl ((i, lo, ops, E, x :: xs, ks) :: fs)) := fun h' it' t1' A c hA v1 v2 v3 => by
        have n : ∀ a k, ¬ ((a = 201 ∨ a = 202) ∨ (a = 138 ∧ k = 103)) → ¬ A a k := fun a k z y => z (hA a k y)
        have hl1 := v2.len
        refine ⟨_, ⟨(c.2.2.1 _ _ (n _ _ (by omega))).trans h70, (c.2.2.1 _ _ (n _ _ (by omega))).trans h77, B, O, L, lt, pt, trs, hb.chg c (fun a k z => by have := hA a k z; unfold fmA; omega), hlw.chg c (fun a k _ _ hk => n _ _ (by omega)) (fun a k _ hk => n _ _ (by omega)) (fun a k _ hk => n _ _ (by omega)), (c.2.2.1 _ _ (n _ _ (by omega))).trans h100, (c.2.2.1 _ _ (n _ _ (by omega))).trans h93, v3, htr.chg c (n _ _ (by omega)) (fun a k z _ => n _ _ (by omega))⟩, ⟨it', t1', t2, t3, rfl, v1, v2, by omega, x3, x4⟩, ?_⟩
        have hq := x4.len hlw.tail
        have hq2 := x3.len
        have hkl : ks.length ≤ 104 := hlw.kl
        rw [List.length_cons, List.length_append, List.length_append, List.length_cons]
        omega
      by_cases h0 : it.1 = 0
      · rcases w2 with ⟨-, e, n', l', t', z1, z2, z3, z4, z5, z6, rfl⟩ | ⟨z, -⟩ | ⟨z, -⟩
        · have eit : it = (0, Int32.ofNat (n' + sz e - 1)) := by
            obtain ⟨j1, j2⟩ := it
            have h0 : j1 = 0 := h0
            have z4 : j2 = Int32.ofNat (n' + sz e - 1) := z4
            rw [h0, z4]
          rw [eit] at hth
          have hle : (nx (P.flX i.1 E e)).length ≤ 3000 := by
            have := congrArg List.length w1
            rw [List.length_append, List.length_cons] at this
            omega
          obtain ⟨h2, us, ⟨it2, us', ys2, ws2, v1, v2, v3, v4⟩, v5, v6, q2, v7, v8⟩ := unfT (N := N) (by omega) 3000 e n' l' t' h1 (t1 ++ (t2 ++ (8, Int32.ofNat i.2.1) :: t3)) hle z1 z2 z3 z5 z6 hb.1 h70 hth (by rw [List.length_append]; omega)
          obtain ⟨x', rfl⟩ := sI_one v3
          have hx : x' = x ∧ ws2 ++ ws = nx xs := by
            rw [v2] at w1
            have w1 : x :: nx xs = x' :: (ws2 ++ ws) := w1
            injection w1 with y1 y2
            exact ⟨y1.symm, y2.symm⟩
          obtain ⟨rfl, hws⟩ := hx
          have st2 : StV g h2 := hb.1.chg v6 (fun a k z => by unfold tdB; omega)
          have h70' : rd h2 138 70 = 0 := (v6.2.2.1 _ _ (by unfold tdB; omega)).trans h70
          have hall := v4.app w3
          rw [hws] at hall
          have v5 : TdH (it2 :: (us' ++ (t1 ++ (t2 ++ (8, Int32.ofNat i.2.1) :: t3)))) h2 := by
            rw [v1] at v5; exact v5
          refine ⟨q2, h2, by omega, fun d => ?_, hsT h2 it2 (us' ++ t1) _ v6 (fun a k z => by unfold tdB at z; omega) v3 hall (by rw [List.append_assoc]; exact v5), v6.mono (fun a k z => by unfold tdB at z; unfold fmA; omega)⟩
          rw [v8]
          have hal := hall.len
          rw [List.length_append] at hal
          exact rstop st2 h70' v5 (by rw [List.length_append, List.length_append]; omega) v3
        · omega
        · omega
      · have hit : it.1 = 1 ∨ it.1 = 2 := by
          rcases w2 with ⟨z, -⟩ | ⟨z, -⟩ | ⟨z, -⟩
          · exact absurd z h0
          · exact Or.inl z
          · exact Or.inr z
        have hsi : StI P S num i.1 E g it ys := Or.inr ⟨hit, w2⟩
        obtain ⟨x', rfl⟩ := sI_one hsi
        have w1 : x :: nx xs = x' :: ws := w1
        injection w1 with y1 y2
        subst y1
        subst y2
        exact ⟨0, h1, by omega, fun d => rstop (T := t1 ++ (t2 ++ (8, Int32.ofNat i.2.1) :: t3)) hb.1 h70 hth (by rw [List.length_append]; omega) hsi, hsT h1 it t1 (fun _ _ => False) (Chg.refl _ _) (fun _ _ z => z.elim) hsi w3 hth, Chg.refl _ _⟩
  | (G, .inl ((i, lo, ops, E, [], ks) :: fs)), s3, b2, hend =>
    have hend : P.sil G (i, lo, ops, E, [], ks) fs = none := hend
    obtain ⟨t, h70, h77, B, O, L, lt, pt, trs, hb, hlw, h100, h93, htd, hth, htr⟩ := b2
    have htl := htd.len hlw
    have hlen : (fs.length + 1) ≤ 100 := s3.2.2.2.1
    rw [List.length_cons] at htl
    refine ⟨0, h1, by omega, fun d => ?_, ⟨t, ⟨h70, h77, B, O, L, lt, pt, trs, hb, hlw, h100, h93, hth, htr⟩, htd, by omega⟩, Chg.refl _ _⟩
    obtain ⟨t1, t2, t3, rfl, x1, x2, x3, x4⟩ := htd
    obtain rfl := TdX.nil x1
    dsimp only at x3 hth htl
    rw [List.nil_append] at hth htl
    match ks, s3, hend, x3 with
    | [], s3, hend, x3 => cases hend
    | (k, E', b, z) :: ks, s3, hend, x3 =>
      have k1 : k = 1 := by
        have kh := s3.2.1.1.2.2.2.2.2.2.1
        obtain ⟨a, a', ot, xt, kh⟩ := kh
        have kh : KH P S i.1 (P.mty i.2.1) ((k, E', b, z) :: ks) E a' := kh
        unfold KH at kh
        dsimp only at kh
        by_cases k1 : k = 1
        · exact k1
        · exfalso
          rw [if_neg k1] at kh
          have hend : (if k = 0 then some _ else if k = 2 then some _ else if k = 3 then some _ else if k = 4 then some _ else if k = 5 then some _ else none) = none := hend
          by_cases k0 : k = 0
          · rw [if_pos k0] at hend; cases hend
          rw [if_neg k0] at hend
          by_cases k2 : k = 2
          · rw [if_pos k2] at hend; cases hend
          rw [if_neg k2] at hend
          by_cases k3 : k = 3
          · rw [if_pos k3] at hend; cases hend
          rw [if_neg k3] at hend
          by_cases k4 : k = 4
          · rw [if_pos k4] at hend; cases hend
          rw [if_neg k4] at hend
          by_cases k5 : k = 5
          · rw [if_pos k5] at hend; cases hend
          rw [if_neg k5] at kh
          have kh := kh.2
          unfold KT at kh
          rw [if_neg k0, if_neg k2, if_neg k3, if_neg k4] at kh
          exact kh
      subst k1
      obtain ⟨u1, u2, rfl, y1, y2⟩ := x3
      rw [KtI_eq, if_neg (by omega), if_pos rfl] at y1
      obtain ⟨o, s, n, l, r1, rfl⟩ := y1
      have hth : TdH ((4, Int32.ofNat s) :: (u2 ++ (8, Int32.ofNat i.2.1) :: t3)) h1 := by
        rw [List.append_assoc] at hth; exact hth
      rw [List.append_assoc, List.cons_append, List.length_cons] at htl
      have htl : (u2 ++ (8, Int32.ofNat i.2.1) :: t3).length + 1 ≤ 3320 * (fs.length + 1) := htl
      refine set_stop hb.1 h70 hth (by omega) ?_
      rw [r_isStep hb.1 hth (by omega) (show 4 ≤ 8 by omega), if_pos (by omega)]
