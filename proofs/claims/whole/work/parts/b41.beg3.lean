/-! ===== THE REFERENCE begins a statement, whichever ===== -/
theorem call_ty {S : Tks} {P : Pgm} {c : Nat} {E : EnvV} {e : Tr} {t : Nat} (hn : P.n ≤ 400) (ho : Ox S e) (hc : isCallE e = true) (h : P.te c E e = some [t]) : t < 1000 := by
  have hk : kd e = 30 := eq_of_beq hc
  have key : ∀ k v w a b, e = nd k v w a b → t < 1000 := fun k v w a b he => by
    subst he
    have hk : k = 30 := hk
    subst hk
    have h : ((P.te c E a).bind fun x => (P.te c E b).bind fun y => P.callT (P.1 w) (x ++ y)) = some [t] := h
    obtain ⟨x, _, h⟩ := Option.bind_eq_some_iff.mp h
    obtain ⟨y, _, h⟩ := Option.bind_eq_some_iff.mp h
    unfold Pgm.callT at h
    split at h
    · cases h
    · split at h
      · cases h
      · split at h
        · cases h
        · split at h
          · cases h
          · split at h
            · unfold tS at h
              split at h
              · cases h
              · have h := Option.some.inj h
                injection h with h
                rw [← h]
                rename_i b' _ _ _ _ _
                have := P.rt_ok (y := b'.2.1)
                unfold Pgm.tOk at this
                omega
            · cases h
  obtain ⟨k, v, w, a, b, he, -, -⟩ := ho.nd
  exact key k v w a b he
theorem RTb.k0 {P : Pgm} {num : List Int32 → Nat} {c mt q : Nat} {S : Tks} {g : pH} {r : Tr} {E : EnvV} {s s' n l : Nat} {z : Bool} (hk : GK S q r) (h : RTc P num c mt g r E (some s) s' n l) (h1 : s' + stB r ≤ 1600) (h2 : n + szB r ≤ 3200) (h3 : l + lsB r ≤ 3200) : KtI P num c mt g (0, E, r, z) [(3, rd g 161 s)] := by
  rw [KtI_eq, if_pos rfl]
  exact ⟨_, s', n, l, ⟨h, h1, h2, h3⟩, by rw [lnk_fs hk h]⟩
def BgO (P : Pgm) (S : Tks) (num : List Int32 → Nat) (N c mt : Nat) (g : pH) (E : EnvV) (s : Nat) (xs : List Xi) (hd : Si) : Prop := ∀ (h : pH) (T : List It), StV g h → TdH T h → T.length + 10 < 400000 → ∃ h' us ts, fX12_begins N 138 (Int32.ofNat s) h = some h' ∧ TdH (us ++ (ts ++ T)) h' ∧ Chg (tdB T.length) h h' ∧ TdX P S num c E g us (nx xs) ∧ KtI P num c mt g hd ts
theorem beg_st {P : Pgm} {S : Tks} {num : List Int32 → Nat} {N c mt q : Nat} {g : pH} {E E2 : EnvV} {b : Tr} {o : Option Nat} {s n l : Nat} (hn : P.n ≤ 400) (lo : List Vl) (ks : List Si) (hk : GK S q b) (hck : P.chk c mt b E = .inr E2) (hr : RTb P num c mt g b E o s n l) : b = nl ∨ (fsB b s = Int32.ofNat s ∧ s < 1600 ∧ ∃ r, KtI P num c mt g (0, P.nxE c mt b E, r, false) [(3, rd g 161 s)] ∧ ((rd g 151 s = 0 ∧ rd g 154 s = -1 ∧ rd g 158 s = Int32.ofNat E.1.length ∧ P.stU c mt b E lo ks = (lo ++ [.inl 0], P.nxE c mt b E, [], (0, P.nxE c mt b E, r, false) :: ks) ∧ 1 ≤ nv b) ∨ (rd g 151 s = 5 ∧ 1 ≤ dp b ∧ ∃ a, P.stU c mt b E lo ks = (lo, E, [], (0, E, a, false) :: (2, P.nxE c mt b E, nl, false) :: (4, E, b, false) :: (0, P.nxE c mt b E, r, false) :: ks) ∧ KtI P num c mt g (0, E, a, false) [(3, rd g 159 s)] ∧ (P.nxE c mt b E).1.length = E.1.length) ∨ ∃ xs hd, P.stU c mt b E lo ks = (lo, E, xs, hd :: (0, P.nxE c mt b E, r, false) :: ks) ∧ (hd.1 = 1 ∨ hd.1 = 5) ∧ BgO P S num N c mt g E s xs hd)) := by
  have hr0 := hr
  obtain ⟨hr, b1, b2, b3⟩ := hr
  have fsx : 1 ≤ stB b → fsB b s = Int32.ofNat s := fun z => by
    unfold fsB
    rw [if_neg (by omega)]
  have k1 : KtI P num c mt g (1, E, b, false) [(4, Int32.ofNat s)] := by
    rw [KtI_eq, if_neg (by omega), if_pos rfl]
    exact ⟨o, s, n, l, hr0, rfl⟩
  have ex : ∀ (e : Tr) (t : Nat) (n l : Nat) (v2 : Int32), Ox S e → P.te c E e = some [t] → RXn P num c E g e n l → n + sz e ≤ 3200 → l + ls e ≤ 3200 → s < 1600 → rd g 151 s = v2 → v2 ≠ 5 → v2 ≠ 7 → v2 ≠ 8 → rd g 154 s = Int32.ofNat (n + sz e - 1) → BgO P S num N c mt g E s (P.flX c E e) (1, E, b, false) := fun e t n l v2 he ht hx h1 h2 hs e151 n5 n7 n8 e154 h T st td hT => by
    have := sz_ox he
    obtain ⟨h', f1, f2, f3⟩ := beg_1 (N := N) st td hT hs (show n + sz e - 1 < 3200 by omega) e151 n5 n7 n8 e154
    exact ⟨h', [(0, Int32.ofNat (n + sz e - 1))], [(4, Int32.ofNat s)], f1, f2, f3, TdX.one (It0 he ht hx h1 h2), k1⟩
  match q, hk with
  | 0, hk => exact Or.inl hk
  | q + 1, hk =>
    rcases hk with rfl | ⟨p, y, w, r, rfl, g1, g2, hkr⟩ | ⟨p, y, w, e, r, rfl, g1, g2, g3, hkr⟩ | ⟨p, k, e, r, rfl, hkk, hkr⟩ | ⟨p, x, e, r, rfl, g1, g2, g3, hkr⟩ | ⟨p, e, a, f, b', r, rfl, hf, g1, ha, hb, hkr⟩ | ⟨p, e, a, r, rfl, g1, ha, hkr⟩ | ⟨p, a, cw, w, b', r, rfl, g1, g2, ha, hb, hkr⟩
    · exact Or.inl rfl
    · obtain ⟨z1, z2, z3⟩ := sz_tell p y w r
      rw [z1] at b1; rw [z2] at b2; rw [z3] at b3
      rw [RTc_tell] at hr
      obtain ⟨-, ⟨r1, r2, r3⟩, r4⟩ := hr
      refine Or.inr ⟨fsx (by omega), by omega, r, RTb.k0 hkr r4 (by omega) (by omega) (by omega), Or.inl ⟨r1, r2, r3, rfl, ?_⟩⟩
      show 1 ≤ 1 + nv r
      omega
    · obtain ⟨z1, z2, z3⟩ := sz_tellv p y w e r
      rw [z1] at b1; rw [z2] at b2; rw [z3] at b3
      rw [RTc_tellv] at hr
      obtain ⟨-, ⟨r1, r2, -⟩, r3, r4⟩ := hr
      obtain ⟨t, i1, -, -, -, -⟩ := inv_tellv hck
      exact Or.inr ⟨fsx (by omega), by omega, r, RTb.k0 hkr r4 (by omega) (by omega) (by omega), Or.inr (Or.inr ⟨_, _, rfl, Or.inl rfl, ex e t n l 0 g3 i1 r3 (by omega) (by omega) (by omega) r1 (by decide) (by decide) (by decide) r2⟩)⟩
    · have hk5 := GKk hkk
      have z1 : stB (nd k p 0 e r) = 1 + stB r := by rw [stB_nd, if_pos (by omega), if_neg (by omega)]
      have z2 : szB (nd k p 0 e r) = sz e + szB r := by rw [szB_nd, if_neg (by omega)]
      have z3 : lsB (nd k p 0 e r) = ls e + lsB r := by rw [lsB_nd, if_neg (by omega)]
      rw [z1] at b1; rw [z2] at b2; rw [z3] at b3
      rw [RTc_k hk5] at hr
      obtain ⟨-, ⟨r1, r2⟩, r3, r4, r5⟩ := hr
      obtain ⟨i1, i2⟩ := inv_k hk5 hck
      have rest := RTb.k0 (z := false) hkr (r5 _ i1) (by omega) (by omega) (by omega)
      have typ : k ≠ 40 → ∃ t, P.te c E e = some [t] := fun h40 => by
        unfold Pgm.wkE at i1
        rw [if_neg h40] at i1
        obtain ⟨m, m1, m2⟩ := Option.bind_eq_some_iff.mp i1
        match m, m2 with
        | [t], _ => exact ⟨t, m1⟩
      refine Or.inr ⟨fsx (by omega), by omega, r, rest, Or.inr (Or.inr ⟨_, _, stU_k hk5 P c mt p e r E lo ks, ?_, ?_⟩)⟩
      · by_cases h52 : k = 52
        · rw [if_pos h52]; exact Or.inr rfl
        · rw [if_neg h52]; exact Or.inl rfl
      · rcases hkk with ⟨rfl, rfl⟩ | ⟨hkk, he⟩
        · rw [if_neg (by omega)]
          rw [if_pos rfl] at r2
          intro h T st td hT
          obtain ⟨h', f1, f2, f3⟩ := beg_2 (N := N) st td hT (show s < 1600 by omega) r1 r2
          exact ⟨h', [], [(4, Int32.ofNat s)], f1, f2, f3, rfl, k1⟩
        · rw [if_neg (by omega)] at r2
          obtain ⟨t, ht⟩ := typ (by omega)
          by_cases h52 : k = 52
          · rw [if_pos h52]
            subst h52
            have hc : isCallE e = true := by
              rcases hkk with z | z | z | z
              · omega
              · omega
              · omega
              · exact z.2
            intro h T st td hT
            have := sz_ox he
            obtain ⟨h', f1, f2, f3⟩ := beg_3 (N := N) st td hT (show s < 1600 by omega) (show n + sz e - 1 < 3200 by omega) (call_ty hn he hc ht) r1 r2 (r4 t ht)
            refine ⟨h', [(0, Int32.ofNat (n + sz e - 1))], _, f1, f2, f3, TdX.one (It0 he ht r3 (by omega) (by omega)), ?_⟩
            rw [KtI_eq, if_neg (by omega), if_neg (by omega), if_neg (by omega), if_neg (by omega), if_neg (by omega), if_pos rfl, ht]
            by_cases h3 : t = 3
            · rw [if_pos h3, if_pos (by rw [h3]; rfl)]
            · rw [if_neg h3, if_neg (by
                intro z
                have z := of_decide_eq_true z
                have z := Option.some.inj z
                injection z with z
                exact h3 z)]
          · rw [if_neg h52]
            refine ex e t n l (sK k) he ht r3 (by omega) (by omega) (by omega) r1 ?_ ?_ ?_ r2
            · rcases hkk with rfl | rfl | rfl | z
              · decide
              · decide
              · decide
              · omega
            · rcases hkk with rfl | rfl | rfl | z
              · decide
              · decide
              · decide
              · omega
            · rcases hkk with rfl | rfl | rfl | z
              · decide
              · decide
              · decide
              · omega
    · obtain ⟨z1, z2, z3⟩ := sz_give p x e r
      rw [z1] at b1; rw [z2] at b2; rw [z3] at b3
      rw [RTc_give] at hr
      obtain ⟨-, ⟨r1, r2, r3⟩, r4, r5, r6⟩ := hr
      obtain ⟨ll, t, i1, i2, i3, i4⟩ := inv_give hck
      have hgv : P.gvE c E x e = some (P.nxE c mt (bGive p x e r) E) := by
        unfold Pgm.gvE
        rw [i1, Option.bind_some, i2, Option.bind_some]
        exact i3
      have hx1 := sz_ox g2
      have he1 := sz_ox g3
      refine Or.inr ⟨fsx (by omega), by omega, r, RTb.k0 hkr (r6 _ hgv) (by omega) (by omega) (by omega), Or.inr (Or.inr ⟨_, _, rfl, Or.inl rfl, ?_⟩)⟩
      intro h T st td hT
      have ite : ItX P S num c E g (0, Int32.ofNat (n + sz x + sz e - 1)) (nx (P.flX c E e)) := by
        have := It0 (g := g) g3 i2 r5 (by omega) (by omega)
        exact this
      have fin : ∀ us, ((rd g 144 (n + sz x - 1) = 7 ∧ us = [(0, rd g 145 (n + sz x - 1)), (0, rd g 146 (n + sz x - 1))]) ∨ (rd g 144 (n + sz x - 1) = 6 ∧ us = [(0, rd g 145 (n + sz x - 1))]) ∨ (rd g 144 (n + sz x - 1) ≠ 7 ∧ rd g 144 (n + sz x - 1) ≠ 6 ∧ us = [])) → TdX P S num c E g us (nx (P.flX c E (pp x))) → ∃ h' us ts, fX12_begins N 138 (Int32.ofNat s) h = some h' ∧ TdH (us ++ (ts ++ T)) h' ∧ Chg (tdB T.length) h h' ∧ TdX P S num c E g us (nx (P.flX c E (nd 70 0 0 (pp x) e))) ∧ KtI P num c mt g (1, E, bGive p x e r, false) ts := fun us hus hu => by
        obtain ⟨h', f1, f2, f3⟩ := beg_4 (N := N) st td hT (show s < 1600 by omega) (show n + sz x + sz e - 1 < 3200 by omega) (show n + sz x - 1 < 3200 by omega) r1 r2 r3 hus
        refine ⟨h', us ++ [(0, Int32.ofNat (n + sz x + sz e - 1))], [(4, Int32.ofNat s)], f1, by rw [List.append_assoc]; exact f2, f3, ?_, k1⟩
        rw [Pgm.flX_nd, if_neg (by omega), if_pos rfl, nx_app]
        exact hu.app (TdX.one ite)
      rcases gkx g2 g1 with ⟨w, rfl, hgk, hgw⟩ | ⟨w, a, rfl, hgk, hgw, oa⟩ | ⟨a, b', rfl, hgk, oa, ob⟩
      · have r4 := r4
        unfold eLeaf at r4
        rw [RXn_nd] at r4
        have hr := (r4.2.2.resolve_left (by omega)).resolve_left (by omega)
        have e1 : n + sz (eLeaf 6 0 w) - 1 = n + sz nl + sz nl := rfl
        refine fin [] (Or.inr (Or.inr ⟨?_, ?_, rfl⟩)) rfl
        · rw [e1, hr.1]
          unfold Pgm.rnK
          rw [if_pos rfl]
          split
          · exact (show (19 : Int32) ≠ 7 by decide)
          · exact (show (20 : Int32) ≠ 7 by decide)
        · rw [e1, hr.1]
          unfold Pgm.rnK
          rw [if_pos rfl]
          split
          · exact (show (19 : Int32) ≠ 6 by decide)
          · exact (show (20 : Int32) ≠ 6 by decide)
      · have r4 := r4
        have i1 : ((P.te c E a).bind fun x => (some []).bind fun y => some (x ++ y)) = some ll := i1
        obtain ⟨xa, xa1, xa2⟩ := Option.bind_eq_some_iff.mp i1
        obtain ⟨u, rfl, -⟩ := Ox.te_one (S := S) oa xa1
        have hll : ll = [u] := (Option.some.inj xa2).symm
        rw [hgk, hll] at i3
        unfold Pgm.gvX at i3
        rw [if_neg (by omega), if_pos rfl] at i3
        dsimp only at i3
        have hu10 : 10 ≤ u := by
          split at i3
          · rename_i hsub
            unfold Pgm.subO at hsub
            rcases hm : P.fldT (P.1 (gw (eUn 9 0 w a))) u with _ | m'
            · rw [hm] at hsub; cases hsub
            · exact fldT_10 hm
          · cases i3
        unfold eUn at r4
        rw [RXn_nd] at r4
        have hr := (r4.2.2.resolve_left (by omega)).resolve_left (by omega)
        have e1 : n + sz (eUn 9 0 w a) - 1 = n + sz a + sz nl := by
          unfold eUn
          rw [sz_nd, if_neg (by omega)]; omega
        have hsa := sz_ox oa
        have e2 : rd g 145 (n + sz (eUn 9 0 w a) - 1) = Int32.ofNat (n + sz a - 1) := by
          rw [e1, hr.2.1]
          unfold n1
          rw [if_neg (by omega), if_neg (by omega)]
        have zz2 : sz (eUn 9 0 w a) = sz a + 0 + 1 := by
          unfold eUn
          rw [sz_nd, if_neg (by omega), sz_nl]
        have zz3 : ls (eUn 9 0 w a) = ls a + 0 + 0 := by
          unfold eUn
          rw [ls_nd, if_neg (by omega), ls_nl]
        refine fin [(0, Int32.ofNat (n + sz a - 1))] (Or.inr (Or.inl ⟨?_, by rw [e2]⟩)) ?_
        · rw [e1, hr.1, xa1]
          unfold Pgm.rnK
          rw [if_neg (by omega), if_pos rfl]
          rw [if_neg (fun z => by
            have z1 : u = 2 := z.1
            omega)]
        · unfold eUn
          rw [pp_nd, Pgm.flX_nd, if_neg (by omega), if_pos rfl, nx_app]
          have := (TdX.one (It0 (g := g) oa xa1 r4.1 (by omega) (by omega))).app (a := [_]) (b := []) (y := nx (P.flX c E nl)) rfl
          exact this
      · have r4 := r4
        have i1 : ((P.te c E a).bind fun x => (P.te c E b').bind fun y => some (x ++ y)) = some ll := i1
        obtain ⟨xa, xa1, xa2⟩ := Option.bind_eq_some_iff.mp i1
        obtain ⟨xb, xb1, xb2⟩ := Option.bind_eq_some_iff.mp xa2
        obtain ⟨u, rfl, -⟩ := Ox.te_one (S := S) oa xa1
        obtain ⟨u', rfl, -⟩ := Ox.te_one (S := S) ob xb1
        unfold eBin at r4
        rw [RXn_nd] at r4
        have hr := (r4.2.2.resolve_left (by omega)).resolve_left (by omega)
        have e1 : n + sz (eBin 12 a b') - 1 = n + sz a + sz b' := by
          unfold eBin
          rw [sz_nd, if_neg (by omega)]; omega
        have hsa := sz_ox oa
        have hsb := sz_ox ob
        have e2 : rd g 145 (n + sz (eBin 12 a b') - 1) = Int32.ofNat (n + sz a - 1) := by
          rw [e1, hr.2.1]
          unfold n1
          rw [if_neg (by omega), if_neg (by omega)]
        have e3 : rd g 146 (n + sz (eBin 12 a b') - 1) = Int32.ofNat (n + sz a + sz b' - 1) := by
          rw [e1, hr.2.2.1]
          unfold n2
          rw [if_neg (by omega), if_neg (by omega)]
        have zz2 : sz (eBin 12 a b') = sz a + sz b' + 1 := by
          unfold eBin
          rw [sz_nd, if_neg (by omega)]
        have zz3 : ls (eBin 12 a b') = ls a + ls b' + 0 := by
          unfold eBin
          rw [ls_nd, if_neg (by omega)]
        refine fin [(0, Int32.ofNat (n + sz a - 1)), (0, Int32.ofNat (n + sz a + sz b' - 1))] (Or.inl ⟨?_, by rw [e2, e3]⟩) ?_
        · rw [e1, hr.1]
          rw [rnK_v (by omega) (by omega)]
          rfl
        · unfold eBin
          rw [pp_nd, Pgm.flX_nd, if_neg (by omega), if_pos rfl, nx_app]
          exact (TdX.one (It0 (g := g) oa xa1 r4.1 (by omega) (by omega))).app (a := [_]) (TdX.one (It0 (g := g) ob xb1 r4.2.1 (by omega) (by omega)))
    · obtain ⟨z1, z2, z3⟩ := sz_ite p e a f b' r
      rw [z1] at b1; rw [z2] at b2; rw [z3] at b3
      rw [RTc_ite] at hr
      obtain ⟨-, ⟨r1, r2⟩, r3, r4, r5, r6, r7, r8⟩ := hr
      obtain ⟨i1, E3, i2, i3, i4, i5⟩ := inv_ite hck
      have rest : RTc P num c mt g r (P.nxE c mt (bIte p e a f b' r) E) (some s) (s + 1 + stB a + stB b') (n + sz e + szB a + szB b') (l + ls e + lsB a + lsB b') := by
        by_cases hf1 : f = 1
        · rw [if_pos hf1] at r8
          obtain ⟨E4, j1, j2⟩ := i3 hf1
          rw [j2]
          exact r8 _ _ i2 j1
        · rw [if_neg hf1] at r8
          rw [i4 hf1]
          exact r8
      exact Or.inr ⟨fsx (by omega), by omega, r, RTb.k0 hkr rest (by omega) (by omega) (by omega), Or.inr (Or.inr ⟨_, _, rfl, Or.inl rfl, ex e 1 n l 1 g1 i1 r3 (by omega) (by omega) (by omega) r1 (by decide) (by decide) (by decide) r2⟩)⟩
    · obtain ⟨z1, z2, z3⟩ := sz_whil p e a r
      rw [z1] at b1; rw [z2] at b2; rw [z3] at b3
      rw [RTc_whil] at hr
      obtain ⟨-, ⟨r1, r2⟩, r3, r4, r5, r6⟩ := hr
      obtain ⟨i1, E3, i2, i3, i4⟩ := inv_whil hck
      exact Or.inr ⟨fsx (by omega), by omega, r, RTb.k0 hkr (by rw [i3]; exact r6) (by omega) (by omega) (by omega), Or.inr (Or.inr ⟨_, _, rfl, Or.inl rfl, ex e 1 n l 2 g1 i1 r3 (by omega) (by omega) (by omega) r1 (by decide) (by decide) (by decide) r2⟩)⟩
    · obtain ⟨z1, z2, z3⟩ := sz_try p a cw w b' r
      rw [z1] at b1; rw [z2] at b2; rw [z3] at b3
      rw [RTc_try] at hr
      obtain ⟨-, r1, r2, r3, r4, r5⟩ := hr
      obtain ⟨E3, d, E0, E4, i1, i2, i3, i4, i5, i6, i7⟩ := inv_try hck
      obtain ⟨-, -, -, r6⟩ := r5 d E0 i2 i3
      refine Or.inr ⟨fsx (by omega), by omega, r, RTb.k0 hkr (by rw [i6]; exact r6 _ _ i1 i5) (by omega) (by omega) (by omega), Or.inr (Or.inl ⟨r1, ?_, a, rfl, ?_, by rw [i6]; rfl⟩)⟩
      · show 1 ≤ max (max (dp a) (dp b') + 1) (dp r)
        omega
      · rw [KtI_eq, if_pos rfl]
        exact ⟨none, s + 1, n, l, ⟨r3, by omega, by omega, by omega⟩, by rw [r2]⟩
