/-! ===== THE CLASS settles: to the end ===== -/
theorem pcK_lt {P : Pgm} {c k v w : Nat} {E : EnvV} {l : List Nat} {a : Int32} (hk : kOk k v l) : (P.pcK c E k w l a).1 < 50 := by
  have hk := hk.1
  unfold Pgm.pcK
  split
  · unfold Pgm.nmK
    split
    · show (7 : Int32) < 50
      decide
    · show (8 : Int32) < 50
      decide
  · split
    · unfold Pgm.dotK
      split
      · show (11 : Int32) < 50
        decide
      · show (10 : Int32) < 50
        decide
    · split
      · dsimp only
        rw [show (50 : Int32) = Int32.ofNat 50 from rfl, iLt (by omega) (by omega)]
        omega
      · dsimp only
        rw [show (50 : Int32) = Int32.ofNat 50 from rfl, iLt (by omega) (by omega)]
        omega
theorem gvK_cases (P : Pgm) (c : Nat) (E : EnvV) (k : Nat) (w : List Int32) (l : List Nat) : (P.gvK c E k w l).1 = 32 ∨ (P.gvK c E k w l).1 = 33 ∨ (P.gvK c E k w l).1 = 35 ∨ (P.gvK c E k w l).1 = 36 := by
  unfold Pgm.gvK
  split
  · split
    · exact Or.inl rfl
    · exact Or.inr (Or.inl rfl)
  · split
    · exact Or.inr (Or.inr (Or.inl rfl))
    · exact Or.inr (Or.inr (Or.inr rfl))
/-- where there is no move but a step, the piece is a step -/
theorem step_kind {P : Pgm} {S : Tks} {C : Cx} {U : Nat} {g h : pH} {G : Gs} {f : Fm} {fs : List Fm} {t pc : Nat} (hg : GdM P S (G, .inl (f :: fs))) (hr : CRn P C U g h G f fs t pc) (hsil : P.sil G f fs = none) : rd g 39 pc < 50 := by
  obtain ⟨i, lo, ops, E, xs, ks⟩ := f
  obtain ⟨h13, h14, A, L, hb, b, M, X, o, k1, ⟨s, x1, x2⟩, k3, k4, k5, k6⟩ := hr
  obtain ⟨ho, ⟨⟨-, -, -, hge, hlo, hty, ⟨a, a', ot, xt, kh⟩, -, hw3⟩, hrs⟩, -, hlen, hH⟩ := hg
  have x1 : XC P C i.1 E g o xs pc s := x1
  have x2 : KC P C i.1 (P.mty i.2.1) M X U g ks s o := x2
  have xt : XT P S i.1 E xs a a' := xt
  have kh : KH P S i.1 (P.mty i.2.1) ks E a' := kh
  match xs, x1, xt, hsil with
  | .inr (k, e) :: xs, x1, xt, hsil =>
    obtain ⟨a0, -, hk, -⟩ := xt
    rw [x1.1.1]
    rcases hk with rfl | rfl <;> decide
  | .inl (k, v, w, z, l) :: xs, x1, xt, hsil =>
    have hsil : (if k = 50 then some (G, Sum.inl ((i, lo, (true, .inr (some i.2.2)) :: ops, E, xs, ks) :: fs)) else if k = 51 then some (G, Sum.inl ((i, lo, ops, E, xs, ks) :: fs)) else none) = none := hsil
    by_cases hk : k = 50
    · rw [if_pos hk] at hsil; cases hsil
    · rw [if_neg hk] at hsil
      by_cases hk2 : k = 51
      · rw [if_pos hk2] at hsil; cases hsil
      · rw [XT_p hk hk2] at xt
        obtain ⟨a0, t0, -, -, hok, -⟩ := xt
        rw [x1.1.1]
        exact pcK_lt hok
  | [], x1, xt, hsil =>
    have x1 : pc = s := x1
    subst x1
    match ks, x2, kh, hsil with
    | [], x2, kh, hsil => cases hsil
    | (k, E', bb, z) :: ks, x2, kh, hsil =>
      unfold Pgm.sil at hsil
      dsimp only at hsil
      by_cases c0 : k = 0
      · rw [if_pos c0] at hsil; cases hsil
      rw [if_neg c0] at hsil
      by_cases c2 : k = 2
      · rw [if_pos c2] at hsil; cases hsil
      rw [if_neg c2] at hsil
      by_cases c3 : k = 3
      · rw [if_pos c3] at hsil; cases hsil
      rw [if_neg c3] at hsil
      by_cases c4 : k = 4
      · rw [if_pos c4] at hsil; cases hsil
      rw [if_neg c4] at hsil
      by_cases c5 : k = 5
      · rw [if_pos c5] at hsil; cases hsil
      by_cases c1 : k = 1
      · subst c1
        have kh : E = E' ∧ stK bb = true ∧ (∃ n, GK S n bb) ∧ CapB 101 E bb ks ∧ (∃ E2, P.chk i.1 (P.mty i.2.1) bb E = .inr E2) ∧ a' = P.prT i.1 E bb ∧ KT P S i.1 (P.mty i.2.1) ks (P.nxE i.1 (P.mty i.2.1) bb E) := kh
        obtain ⟨rfl, hst, ⟨n, hgk⟩, -⟩ := kh
        rw [KC_1] at x2
        obtain ⟨s0, j1, j2, -⟩ := x2
        match n, hgk with
        | 0, hgk =>
          obtain rfl : bb = nl := hgk
          cases hst
        | n + 1, hgk =>
          rcases hgk with rfl | ⟨p, y, w, r, rfl, g1, g2, hkr⟩ | ⟨p, y, w, e, r, rfl, g1, g2, g3, hkr⟩ | ⟨p, k, e, r, rfl, hkk, hkr⟩ | ⟨p, x, e, r, rfl, g1, g2, g3, hkr⟩ | ⟨p, e, a, f, b, r, rfl, hf, g1, ha, hb, hkr⟩ | ⟨p, e, a, r, rfl, g1, ha, hkr⟩ | ⟨p, a, cw, w, b, r, rfl, g1, g2, ha, hb, hkr⟩
          · cases hst
          · cases hst
          · rw [TC_tellv] at j2
            rw [j1, show s0 + exL (bTellv p y w e r) = s0 + cl e from rfl, j2.2.1.1]
            decide
          · have hk5 := GKk hkk
            rw [TC_k hk5] at j2
            rw [j1, (exL_k hk5 p e r).1, j2.2.1.1, show (50 : Int32) = Int32.ofNat 50 from rfl, iLt (by omega) (by omega)]
            rcases hk5 with rfl | rfl | rfl | rfl | rfl
            · omega
            · omega
            · omega
            · omega
            · cases hst
          · rw [TC_give] at j2
            rw [j1, show s0 + exL (bGive p x e r) = s0 + ((cl x - 1) + cl e) from rfl, show s0 + ((cl x - 1) + cl e) = s0 + (cl x - 1) + cl e by omega, j2.2.1.1]
            rcases gvK_cases P i.1 E (gk x) (P.1 (gw x)) ((P.plT i.1 E x).getD []) with z | z | z | z <;> rw [z] <;> decide
          · rw [TC_ite] at j2
            rw [j1, show s0 + exL (bIte p e a f b r) = s0 + cl e from rfl]
            by_cases hf1 : f = 1
            · rw [if_pos hf1] at j2
              rw [j2.2.2.1.1]
              decide
            · rw [if_neg hf1] at j2
              rw [j2.2.2.1.1]
              decide
          · rw [TC_whil] at j2
            rw [j1, show s0 + exL (bWhil p e a r) = s0 + cl e from rfl, j2.2.2.1.1]
            decide
          · cases hst
      · unfold KH at kh
        dsimp only at kh
        rw [if_neg c1, if_neg c5] at kh
        have := kh.2
        unfold KT at this
        rw [if_neg c0, if_neg c2, if_neg c3, if_neg c4] at this
        exact this.elim
theorem CRn.pcU {P : Pgm} {C : Cx} {U : Nat} {g h : pH} {G : Gs} {f : Fm} {fs : List Fm} {t pc : Nat} (hr : CRn P C U g h G f fs t pc) : pc < U := by
  obtain ⟨h13, h14, A, L, hb, b, M, X, o, k1, ⟨s, x1, x2⟩, k3, k4, k5, k6⟩ := hr
  have := x1.le
  have := x2.lt
  omega
theorem settle_all {P : Pgm} {S : Tks} {C : Cx} {U N : Nat} {g : pH} {τ : Mst} (hU : Cde U g) : ∀ (n : Nat) (σ : Mst) (h : pH) (pc d v : Nat), P.Sls n σ τ → GdM P S σ → CRs P C U g h σ pc → v + muS pc σ ≤ 1000000 → muS pc σ < d → ∃ h' pc', fX5_settle_2 N d 128 (Int32.ofNat v) h = some h' ∧ CRs P C U g h' τ pc' ∧ GdM P S τ ∧ Out h h'
  | 0, σ, h, pc, d, v, hs, hg, hr, hv, hd => by
    obtain ⟨d, rfl⟩ : ∃ d', d = d' + 1 := ⟨d - 1, by omega⟩
    obtain ⟨rfl, hs⟩ := hs
    refine ⟨h, pc, ?_, hr, hg, Out.refl h⟩
    match σ, hs, hg, hr with
    | (G, .inl []), hs, hg, hr => exact hr.elim
    | (G, .inl (f :: fs)), hs, hg, hr =>
      obtain ⟨t, hr⟩ := hr
      have hk := step_kind hg hr hs
      have hp := hr.pcU
      obtain ⟨h13, h14, A, L, hb, b, M, X, o, k1, k2, k3, k4, k5, k6⟩ := hr
      exact settle_stop hb.1 hU hp k6 hk
    | (G, .inr (k, a)), hs, hg, hr =>
      obtain ⟨r1, r2, r3, r4, r5, r6, r7⟩ := hr
      exact settle_end r1.1 (by rw [r4]; intro z; rw [iZ (by omega)] at z; omega)
  | n + 1, σ, h, pc, d, v, hs, hg, hr, hv, hd => by
    match σ, hs, hg, hr, hv, hd with
    | (G, .inl []), hs, hg, hr, hv, hd => exact hr.elim
    | (G, .inr (k, a)), hs, hg, hr, hv, hd => exact hs.elim
    | (G, .inl (f :: fs)), hs, hg, hr, hv, hd =>
      obtain ⟨t, hr⟩ := hr
      have hs : (match P.sil G f fs with | some σ' => P.Sls n σ' τ | none => False) := hs
      cases hq : P.sil G f fs with
      | none => rw [hq] at hs; exact hs.elim
      | some σ' =>
        rw [hq] at hs
        obtain ⟨m, h1, pc1, c1, c2, c3, c4⟩ := csil (N := N) hU hg hr hq
        have hg' := sil_good hg hq
        obtain ⟨h2, pc2, e1, e2, e3, e4⟩ := settle_all hU n σ' h1 pc1 (d - m) (v + m) hs hg' c1 (by omega) (by omega)
        refine ⟨h2, pc2, ?_, e2, e3, c3.trans e4⟩
        rw [← e1, ← c4 (d - m) v (by omega), show d - m + m = d by omega]
/-- the class settles as the machine does -/
theorem settle_cls {P : Pgm} {S : Tks} {C : Cx} {U N : Nat} {g h : pH} {σ : Mst} {pc : Nat} (hN : 400000 ≤ N) (hU : Cde U g) (hg : GdM P S σ) (hr : CRs P C U g h σ pc) : ∃ n τ h' pc', P.Sls n σ τ ∧ fX5_settle N 128 h = some h' ∧ CRs P C U g h' τ pc' ∧ GdM P S τ ∧ Out h h' := by
  obtain ⟨n, τ, -, h1, -⟩ := settles (P := P) (S := S) _ σ (Nat.le_refl _) hg
  have hmu : muS pc σ ≤ 330000 := by
    match σ, hg with
    | (G, .inl []), hg => exact Nat.zero_le _
    | (G, .inr x), hg => exact Nat.zero_le _
    | (G, .inl ((i, lo, ops, E, xs, ks) :: fs)), hg =>
      have h1 : xw xs ≤ 3000 := hg.2.1.xw _ (List.mem_cons_self ..)
      have h2 : fs.length + 1 ≤ 100 := hg.2.2.2.1
      have := mu_le (pc := pc) (n := fs.length) (ks := ks) h1
      show muF pc xs ks fs.length ≤ 330000
      omega
  have hs : Sg h := by
    match σ, hr with
    | (G, .inl []), hr => exact hr.elim
    | (G, .inr (k, a)), hr => exact hr.1.1
    | (G, .inl (f :: fs)), hr =>
      obtain ⟨t, h13, h14, A, L, hb, _⟩ := hr
      exact hb.1.1
  obtain ⟨h', pc', e1, e2, e3, e4⟩ := settle_all (N := N) hU n σ h pc N 0 h1 hg hr (by omega) (by omega)
  refine ⟨n, τ, h', pc', h1, ?_, e2, e3, e4⟩
  unfold fX5_settle
  rw [if_pos (o_128 hs)]
  exact e1
