/-! ===== STEPS keep all typed ===== -/
theorem LoT.set {P : Pgm} {hp : List Ob} {E : EnvV} {lo : List Vl} (h : LoT P hp E lo) {j : Nat} {v : Vl} (hv : ∀ x, E.1[j]? = some x → VT P hp v x.2) : LoT P hp E (lo.set j v) := by
  refine ⟨by rw [List.length_set]; exact h.1, h.2.1, fun i x u hx hu => ?_⟩
  by_cases z : j = i
  · subst z
    rw [List.getElem?_set, if_pos rfl] at hu
    split at hu
    · obtain rfl := Option.some.inj hu
      exact Or.inl (hv x hx)
    · cases hu
  · rw [List.getElem?_set_ne z] at hu
    exact h.2.2 i x u hx hu
theorem LoT.give {P : Pgm} {hp : List Ob} {E : EnvV} {lo : List Vl} (h : LoT P hp E lo) {j : Nat} {v : Vl} (hv : ∀ x, E.1[j]? = some x → VT P hp v x.2) : LoT P hp (E.give j) (lo.set j v) := by
  obtain ⟨s1, s2, s3⟩ := h.set hv
  refine ⟨s1, s2, fun i x u hx hu => ?_⟩
  by_cases z : j = i
  · subst z
    rw [List.getElem?_set, if_pos rfl] at hu
    split at hu
    · obtain rfl := Option.some.inj hu
      exact Or.inl (hv x hx)
    · cases hu
  · rcases s3 i x u hx hu with q | q
    · exact Or.inl q
    · refine Or.inr ⟨q.1, ?_⟩
      show (if i = j then true else E.2.2 i) = false
      rw [if_neg (fun y => z y.symm)]
      exact q.2
theorem gkx {S : Tks} {x : Tr} (h : Ox S x) (hp : isPlaceE x = true) : (∃ w, x = eLeaf 6 0 w ∧ gk x = 31 ∧ gw x = w) ∨ (∃ w a, x = eUn 9 0 w a ∧ gk x = 34 ∧ gw x = w ∧ Ox S a) ∨ ∃ a b, x = eBin 12 a b ∧ gk x = 36 ∧ Ox S a ∧ Ox S b := by
  obtain ⟨n, h⟩ := h
  match n, h with
  | n + 1, h =>
    rcases h with ⟨k, v, rfl, h2⟩ | ⟨k, w, rfl, h2, h3⟩ | ⟨k, a, rfl, h2, h3⟩ | ⟨k, w, a, rfl, h2, h3, h4⟩ | ⟨k, a, b, rfl, h2, h3, h4⟩ | ⟨m, w, s, rfl, h2, h3⟩
    · have hp : (k == 6 || k == 9 || k == 12) = true := hp
      exfalso
      rcases h2 with rfl | ⟨rfl, _⟩ | ⟨rfl | rfl | rfl, _⟩ <;> cases hp
    · have hp : (k == 6 || k == 9 || k == 12) = true := hp
      rcases h2 with rfl | rfl
      · exact Or.inl ⟨w, rfl, rfl, rfl⟩
      · cases hp
    · have hp : (k == 6 || k == 9 || k == 12) = true := hp
      exfalso
      rcases h2 with rfl | rfl | rfl <;> cases hp
    · have hp : (k == 6 || k == 9 || k == 12) = true := hp
      rcases h2 with rfl | rfl | rfl
      · exact Or.inr (Or.inl ⟨w, a, rfl, rfl, rfl, n, h4⟩)
      · cases hp
      · cases hp
    · have hp : (k == 6 || k == 9 || k == 12) = true := hp
      by_cases h12 : k = 12
      · subst h12
        exact Or.inr (Or.inr ⟨a, b, rfl, rfl, ⟨n, h3⟩, n, h4⟩)
      · exfalso
        have e1 : (k == 6) = false := beq_eq_false_iff_ne.mpr (by omega)
        have e2 : (k == 9) = false := beq_eq_false_iff_ne.mpr (by omega)
        have e3 : (k == 12) = false := beq_eq_false_iff_ne.mpr h12
        rw [e1, e2, e3] at hp
        cases hp
    · cases hp
theorem ob_5 {P : Pgm} {hp : List Ob} (ho : HO P hp) {o : Nat} {ob : Ob} (h : hp[o]? = some ob) (hl : 0 < ob.2.length ∨ ob.1 = none) : 5 ≤ o := by
  rcases Nat.lt_or_ge o 5 with z | z
  · rw [ho.1 o z] at h
    obtain rfl := Option.some.inj h
    rcases hl with hl | hl
    · exact absurd hl (Nat.lt_irrefl 0)
    · cases hl
  · exact z
theorem act_good {P : Pgm} {S : Tks} (hP : PgF P S) {G : Gs} {f : Fm} {fs : List Fm} (h : GdM P S (G, .inl (f :: fs))) (hs : P.sil G f fs = none) : GdM P S (P.act G f fs) := by
  obtain ⟨ho, ⟨hf, hfs⟩, _, hlen, hH⟩ := h
  have hl1 : fs.length + 1 ≤ 100 := hlen
  obtain ⟨⟨c, m, se⟩, lo, ops, E, xs, ks⟩ := f
  obtain ⟨ha, hB, p5, p3, hrest⟩ := id hP
  have good : ∀ f', FT P S G.1 f' [] → f'.1.2.1 = m → GdM P S (G, .inl (f' :: fs)) := fun f' h1 h2 => ⟨ho, ⟨h1, by rw [h2]; exact hfs⟩, List.cons_ne_nil _ _, hlen, hH⟩
  have fk := hf.fk
  match xs, hf, fk, hs with
  | .inl (k, v, w, s, l) :: xs, hf, fk, hs =>
    have hs : (if k = 50 then some _ else if k = 51 then some _ else none : Option Mst) = none := hs
    have h50 : k ≠ 50 := fun z => by rw [if_pos z] at hs; cases hs
    have h51 : k ≠ 51 := fun z => by rw [if_neg h50, if_pos z] at hs; cases hs
    obtain ⟨a0, t, q1, q2, q3, q4⟩ := hf.pop h50 h51
    have fk' : FK P S G.1 ((c, m, se), lo, ops, E, xs, ks) := ⟨fk.1, fk.2.1, fk.2.2.1, fk.2.2.2.1, fk.2.2.2.2.1, fk.2.2.2.2.2⟩
    show GdM P S (P.actX G (c, m, se) lo ops E k v w l xs ks fs)
    unfold Pgm.actX
    by_cases h5 : k = 5
    · subst h5
      rw [if_pos rfl]
      have ht : t = 0 := by
        have q2 : some [0] = some [t] := q2
        exact (List.cons.inj (Option.some.inj q2)).1.symm
      subst ht
      have hl0 : l = [] := List.length_eq_zero_iff.mp (by rw [q3.2.1]; rfl)
      subst hl0
      exact ⟨ho, ⟨q4.push (VT.inl_ _) rfl, hfs⟩, List.cons_ne_nil _ _, hlen, hH⟩
    rw [if_neg h5]
    by_cases h13 : k = 13
    · subst h13
      rw [if_pos rfl]
      have q2 : P.clsT (P.1 w) = some [t] := q2
      obtain ⟨d, hd, rfl⟩ := clsT_some q2
      have hl0 : l = [] := List.length_eq_zero_iff.mp (by rw [q3.2.1]; rfl)
      subst hl0
      have hdn := (Pgm.fnd_lt hd).1
      rw [hd]
      refine mkO_good ho q4 hfs hl1 hH (by omega) ?_ ?_
      · refine ⟨hdn, ?_, fun j t u ht hu => ?_⟩
        · show ((P.fts d).map dfl).length = _
          rw [List.length_map, Pgm.fts_len ha _ d rfl hdn]
        · have hu : ((P.fts d).map dfl)[j]? = some u := hu
          have ht : (P.fts d)[j]? = some t := ht
          rw [List.getElem?_map, ht] at hu
          obtain rfl := Option.some.inj hu
          obtain ⟨m', hm', rfl⟩ := Pgm.ftF_mem P P.n d t (List.mem_of_getElem? ht)
          exact VT.dfl (fld_V p3 hB hm')
      · exact VT.ob (by omega) (app_get _ _) (by rw [show 10 + d - 10 = d by omega]; exact P.und_refl d)
    rw [if_neg h13]
    by_cases h14 : k = 14
    · subst h14
      rw [if_pos rfl]
      have q2 : eqT l [0] 2 = some [t] := q2
      obtain ⟨r1, r2⟩ := eqT_one q2
      obtain rfl := (List.cons.inj r1).1
      subst r2
      by_cases hneg : vI (opV ops 0) < 0
      · rw [if_pos hneg]
        exact thr_good hP ho (ho.1 4 (by omega)) fk' hfs hl1 hH
      · rw [if_neg hneg]
        refine mkO_good ho q4 hfs hl1 hH (by omega) (fun u hu => ?_) ?_
        · exact ⟨0, (List.mem_replicate.mp hu).2⟩
        · exact Or.inr (Or.inr (Or.inr (Or.inr (Or.inl ⟨rfl, _, _, rfl, app_get _ _⟩))))
    rw [if_neg h14]
    by_cases h30 : k = 30
    · subst h30
      rw [if_pos rfl]
      exact cal_good hP ho q1 q2 q3 q4 hfs hl1 hH
    rw [if_neg h30]
    have W := wkV_T hP ho fk.2.2.1 fk.2.2.2.1 hf.2.2.2.2.1 q3 h5 h13 h14 h30 q2 q1
    dsimp only at W ⊢
    rcases hw : P.wkV c E se lo G.1 k v w l (opV ops (l.length - 1)) (opV ops 0) with x | n
    · rw [hw] at W
      exact good _ (q4.push W.1 (by show false = decide (t = 3); rw [decide_eq_false W.2])) rfl
    · rw [hw] at W
      exact thr_good hP ho (ho.1 n W) fk' hfs hl1 hH
  | .inr (k, b) :: xs, hf, fk, hs =>
    obtain ⟨h1, h2, h3, h4, h5, h6, ⟨a, a', h7, h8, h9⟩, h10, h11⟩ := hf
    dsimp only at h1 h2 h3 h4 h5 h6 h7 h8 h9 h10 h11
    obtain ⟨a0, e1, e2, ⟨n, e3⟩, e4, e5⟩ := h8
    have e1 : a = mk3 1 :: a0 := e1
    subst e1
    have h10 : 0 + ops.length ≤ 1999 ∧ HX b (0 + ops.length - 1) 1999 ∧ XH xs (0 + ops.length) 1999 := h10
    have h11 : cl b + 2 + xw xs ≤ 3000 := h11
    show GdM P S (P.actH G (c, m, se) lo ops E k b xs ks fs)
    unfold Pgm.actH
    split
    · exact good _ ⟨h1, h2, h3, h4, h5, h6, ⟨mk3 1 :: a0, a', h7, e5, h9⟩, ⟨h10.1, h10.2.2⟩, by show 1 + xw xs ≤ 3000; omega⟩ rfl
    · match ops, h7, h10 with
      | o :: ops, h7, h10 =>
        refine good _ ⟨h1, h2, h3, h4, h5, h6, ⟨a0, a', h7.2.2, ?_, h9⟩, ?_, ?_⟩ rfl
        · exact XT.fl n b e3 1 e4 _ a0 a' e5
        · have hn : 0 + (o :: ops).length = ops.length + 1 := by rw [List.length_cons]; omega
          rw [hn] at h10
          refine XH.fl n b e3 [1] e4 (0 + ops.length) _ ?_ ?_
          · rw [show ops.length + 1 - 1 = 0 + ops.length by omega] at h10
            exact h10.2.1
          · rw [show 0 + ops.length + 1 = ops.length + 1 by omega]
            exact ⟨h10.1, h10.2.2⟩
        · show xw (P.flX c E b ++ .inl (51, 0, 0, false, []) :: xs) ≤ 3000
          rw [xw_app, xw_fl]
          show cl b + (1 + xw xs) ≤ 3000
          omega
  | [], hf, fk, hs =>
    obtain ⟨h1, h2, h3, h4, h5, h6, ⟨a, a', h7, h8, h9⟩, h10, h11⟩ := hf
    dsimp only at h1 h2 h3 h4 h5 h6 h7 h8 h9 h10 h11
    obtain rfl : a = a' := h8
    match ks, fk, h6, h9, hs with
    | [], fk, h6, h9, hs => cases hs
    | (k, E', b, z) :: ks, fk, h6, h9, hs =>
      unfold Pgm.sil at hs
      dsimp only at hs
      unfold KH at h9
      dsimp only at h9
      have k1 : k = 1 := by
        refine Classical.byContradiction fun z1 => ?_
        rw [if_neg z1] at h9
        by_cases z5 : k = 5
        · subst z5
          rw [if_neg (by omega), if_neg (by omega), if_neg (by omega), if_neg (by omega), if_pos rfl] at hs
          cases hs
        · rw [if_neg z5] at h9
          have hk := h9.2
          unfold KT at hk
          by_cases z0 : k = 0
          · rw [if_pos z0] at hs; cases hs
          · rw [if_neg z0] at hk hs
            by_cases z2 : k = 2
            · rw [if_pos z2] at hs; cases hs
            · rw [if_neg z2] at hk hs
              by_cases z3 : k = 3
              · rw [if_pos z3] at hs; cases hs
              · rw [if_neg z3] at hk hs
                by_cases z4 : k = 4
                · rw [if_pos z4] at hs; cases hs
                · rw [if_neg z4] at hk
                  exact hk
      subst k1
      rw [if_pos rfl] at h9
      obtain ⟨hE, g1, ⟨n, g2⟩, g3, ⟨E2, g4⟩, g5, g6⟩ := h9
      subst hE
      rw [TyL_p (by omega)] at h6
      show GdM P S (P.actS G (c, m, se) lo ops fs b E ks)
      have fkt : FK P S G.1 ((c, m, se), lo, ops, E, [], ks) := ⟨h1, h2, h3, h4, h6, _, [], g6.kh⟩
      have after : ∀ (lo' : List Vl) (hp' : List Ob), HpL G.1 hp' → LoT P hp' (P.nxE c (P.mty m) b E) lo' → (P.nxE c (P.mty m) b E).1 = E.1 → TyL P hp' lo' ks (P.nxE c (P.mty m) b E) → FT P S hp' ((c, m, se), lo', [], P.nxE c (P.mty m) b E, [], ks) [] := fun lo' hp' g hlo hE hty => by
        obtain ⟨d, fl, s1, s2⟩ := h3
        obtain ⟨fl', s1', _⟩ := g _ _ s1
        exact ⟨h1, h2, ⟨d, fl', s1', s2⟩, h4.same hE, hlo, hty, ⟨[], [], trivial, rfl, g6.kh⟩, Nat.zero_le _, Nat.zero_le _⟩
      match n, g2 with
      | 0, g2 =>
        obtain rfl : b = nl := g2
        cases g1
      | n + 1, g2 =>
        have g20 : GK S (n + 1) b := g2
        rcases g2 with rfl | ⟨p, y, w, r, rfl, w1, w2, hkr⟩ | ⟨p, y, w, e, r, rfl, w1, w2, w3, hkr⟩ | ⟨p, k, e, r, rfl, hkk, hkr⟩ | ⟨p, x, e, r, rfl, w1, w2, w3, hkr⟩ | ⟨p, e, a', f, b, r, rfl, hff, w1, ha', hb', hkr⟩ | ⟨p, e, a', r, rfl, w1, ha', hkr⟩ | ⟨p, a', cw, w, b, r, rfl, w1, w2, ha', hb', hkr⟩
        · cases g1
        · cases g1
        · obtain ⟨t, i1, i2, i3, i4, i5⟩ := inv_tellv g4
          have hp1 : P.prT c E (bTellv p y w e r) = [mk3 t] := by
            show ((P.te c E e).getD []).reverse.map mk3 = _
            rw [te_getD i1]; rfl
          rw [g5, hp1] at h7
          match ops, h7 with
          | [o], h7 =>
            have hv : VT P G.1 (opV [o] 0) t := h7.2.1
            refine good ((c, m, se), lo ++ [opV [o] 0], [], P.nxE c (P.mty m) (bTellv p y w e r) E, [], ks) ⟨h1, h2, h3, ?_, ?_, ?_, ⟨[], [], trivial, rfl, g6.kh⟩, Nat.zero_le _, Nat.zero_le _⟩ rfl
            · show GE P (P.nxE c (P.mty m) (bTellv p y w e r) E)
              rw [i4]; exact h4.add (rt_V w1 i3)
            · show LoT P G.1 (P.nxE c (P.mty m) (bTellv p y w e r) E) (lo ++ [opV [o] 0])
              rw [i4]; exact h5.add (Or.inl (hv.sub ha ho i2))
            · show TyL P G.1 (lo ++ [opV [o] 0]) ks (P.nxE c (P.mty m) (bTellv p y w e r) E)
              refine (h6.ap h5.1 _).more ?_
              rw [i4]
              exact Pfx.add _ _ _ _
        · have hk5 := GKk hkk
          obtain ⟨i1, i2⟩ := inv_k hk5 g4
          have h52 : k ≠ 52 := by
            rintro rfl
            cases g1
          have hA : P.actS G (c, m, se) lo ops fs (nd k p 0 e r) E ks = if k = 40 then retM G true (.inl 0) fs
            else if k = 41 then retM G false (opV ops 0) fs
            else if k = 42 then (match opV ops 0 with
              | .inr (some o) => P.thr G o (((c, m, se), lo, ops, E, [], ks) :: fs)
              | _ => P.thr G 0 (((c, m, se), lo, ops, E, [], ks) :: fs))
            else ((G.1, G.2.1, G.2.2.1 ++ [vI (opV ops 0)], G.2.2.2), .inl (((c, m, se), lo, ops.drop 1, P.nxE c (P.mty m) (nd k p 0 e r) E, [], ks) :: fs)) := by
            rcases hk5 with rfl | rfl | rfl | rfl | rfl <;> rfl
          rw [hA]
          by_cases h40 : k = 40
          · subst h40
            rw [if_pos rfl]
            have hmt : P.mty m = 3 := by
              unfold Pgm.wkE at i1
              rw [if_pos rfl] at i1
              split at i1
              · assumption
              · cases i1
            refine ret_good (t := 3) ho (by have := hfs; dsimp only at this; rw [hmt] at this; exact this) (by omega) hH rfl (Or.inr (Or.inr (Or.inl ⟨rfl, rfl⟩)))
          · rw [if_neg h40]
            have hte : ∃ t, P.te c E e = some [t] ∧ P.wkX (P.mty m) E k t = some (P.nxE c (P.mty m) (nd k p 0 e r) E) := by
              unfold Pgm.wkE at i1
              rw [if_neg h40] at i1
              obtain ⟨l, l1, l2⟩ := Option.bind_eq_some_iff.mp i1
              obtain ⟨t, rfl, l3⟩ := hdO_some l2
              exact ⟨t, l1, l3⟩
            obtain ⟨t, ht, hx⟩ := hte
            have hp1 : P.prT c E (nd k p 0 e r) = [mk3 t] := by
              rw [prT_k hk5, te_getD ht]; rfl
            rw [g5, hp1] at h7
            match ops, h7, fkt with
            | [o], h7, fkt =>
              have hv : VT P G.1 (opV [o] 0) t := h7.2.1
              unfold Pgm.wkX at hx
              by_cases h41 : k = 41
              · rw [if_pos h41] at hx ⊢
                split at hx
                · rename_i hq
                  exact ret_good ho hfs (by omega) hH (by show false = decide (P.mty m = 3); rw [decide_eq_false hq.1]) (hv.sub ha ho hq.2)
                · cases hx
              · rw [if_neg h41] at hx ⊢
                by_cases h42 : k = 42
                · rw [if_pos h42] at hx ⊢
                  split at hx
                  · rename_i hq
                    rcases hv.obj hq with z1 | ⟨i, c', fl, z1, z2, z3⟩
                    · rw [z1]
                      exact thr_good hP ho (ho.1 0 (by omega)) fkt hfs hl1 hH
                    · rw [z1]
                      exact thr_good hP ho z2 fkt hfs hl1 hH
                  · cases hx
                · rw [if_neg h42] at hx ⊢
                  have h43 : k = 43 := by omega
                  rw [if_pos h43] at hx
                  split at hx
                  · have hE := Option.some.inj hx
                    refine ⟨ho, ⟨?_, hfs⟩, List.cons_ne_nil _ _, hlen, hH⟩
                    refine after lo G.1 (HpL.refl _) ?_ ?_ ?_
                    · rw [← hE]; exact h5
                    · rw [← hE]
                    · rw [← hE]; exact h6
                  · cases hx
        · obtain ⟨l, t, i1, i2, i3, i4⟩ := inv_give g4
          have hp1 : P.prT c E (bGive p x e r) = (l ++ [t]).reverse.map mk3 := by
            show ((P.plT c E x).getD [] ++ (P.te c E e).getD []).reverse.map mk3 = _
            rw [i1, te_getD i2]; rfl
          rw [g5, hp1] at h7
          have hE1 := (Pgm.gvX_some i3).1
          show GdM P S (P.givM G (c, m, se) lo ops E (P.nxE c (P.mty m) (bGive p x e r) E) x ks fs)
          unfold Pgm.givM
          have put : ∀ (o j : Nat) (ob : Ob) (v : Vl), G.1[o]? = some ob → 5 ≤ o → (match ob.1 with
              | some c => ∀ t, (P.fts c)[j]? = some t → VT P G.1 v t
              | none => ∃ n, v = .inl n) → P.nxE c (P.mty m) (bGive p x e r) E = E → GdM P S ((obS G.1 o j v, G.2), .inl (((c, m, se), lo, [], P.nxE c (P.mty m) (bGive p x e r) E, [], ks) :: fs)) := fun o j ob v q1 q2 q3 q4 => by
            have g := HpL.put q1 j v
            refine ⟨ho.put q1 q2 q3, ⟨after lo _ g ?_ hE1 ?_, hfs.mono g⟩, List.cons_ne_nil _ _, hlen, hH⟩
            · rw [q4]; exact h5.mono g
            · rw [q4]; exact h6.mono g
          rcases gkx w2 w1 with ⟨w, hx, hgk, hgw⟩ | ⟨w, xa, hx, hgk, hgw, oa⟩ | ⟨xa, xb, hx, hgk, oa, ob⟩
          · have hl0 : l = [] := by
              subst hx
              exact (Option.some.inj i1).symm
            subst hl0
            rw [hgk, if_pos rfl]
            rw [hgk] at i3
            unfold Pgm.gvX at i3
            rw [if_pos rfl] at i3
            match ops, h7 with
            | [o], h7 =>
              have hv : VT P G.1 (opV [o] 0) t := h7.2.1
              rcases hfn : E.fnd (P.1 (gw x)) with _ | j
              · rw [hfn] at i3
                dsimp only at i3 ⊢
                split at i3
                · rename_i hsub
                  have hE := (Option.some.inj i3).symm
                  unfold Pgm.subO at hsub
                  rcases hm : P.fldT (P.1 (gw x)) (10 + c) with _ | m'
                  · rw [hm] at hsub; cases hsub
                  · rw [hm] at hsub
                    obtain ⟨d, fl, s1, s2⟩ := h3
                    obtain ⟨f1, f2, f3, f4⟩ := obF_T ha ho s1 (t := 10 + c) (by rw [show 10 + c - 10 = c by omega]; exact s2) hm
                    refine put se (P.mo m') (some d, fl) (opV [o] 0) s1 (ob_5 ho s1 (Or.inl (by show 0 < fl.length; omega))) (fun t' ht' => ?_) hE
                    rw [f4] at ht'
                    obtain rfl := Option.some.inj ht'
                    exact hv.sub ha ho hsub
                · cases i3
              · rw [hfn] at i3
                dsimp only at i3 ⊢
                split at i3
                · rename_i hsub
                  have hE := Option.some.inj i3
                  have vv : ∀ x, E.1[j]? = some x → VT P G.1 (opV [o] 0) x.2 := fun x hx => by
                    have : E.tyv j = x.2 := by unfold EnvV.tyv; rw [hx]
                    rw [this] at hsub
                    exact hv.sub ha ho hsub
                  refine good _ (after (lo.set j (opV [o] 0)) G.1 (HpL.refl _) ?_ hE1 ?_) rfl
                  · rw [← hE]; exact h5.give vv
                  · refine TyL.more (E := E) ?_ (Pfx.same hE1)
                    refine h6.lo (fun E' p' z => ?_)
                    rw [List.take_set]
                    exact z.set (fun x hx => vv x (p'.get hx))
                · cases i3
          · rw [hgk, if_neg (by omega), if_pos rfl]
            rw [hgk] at i3
            unfold Pgm.gvX at i3
            rw [if_neg (by omega), if_pos rfl] at i3
            match l, i3, i1, h7 with
            | [u], i3, i1, h7 =>
              dsimp only at i3
              split at i3
              · rename_i hsub
                have hE := (Option.some.inj i3).symm
                match ops, h7, fkt with
                | [o, o2], h7, fkt =>
                  have hv : VT P G.1 (opV [o, o2] 0) t := h7.2.1
                  have hv2 : VT P G.1 (opV [o, o2] 1) u := h7.2.2.2.1
                  unfold Pgm.subO at hsub
                  rcases hm : P.fldT (P.1 (gw x)) u with _ | m'
                  · rw [hm] at hsub; cases hsub
                  · rw [hm] at hsub
                    rcases hv2.obj (fldT_10 hm) with z1 | ⟨i, c', fl, z1, z2, z3⟩
                    · rw [z1]
                      exact thr_good hP ho (ho.1 0 (by omega)) fkt hfs hl1 hH
                    · rw [z1]
                      dsimp only
                      rw [i1]
                      show GdM P S ((obS G.1 i (P.foO (P.fldT (P.1 (gw x)) u)) (opV [o, o2] 0), G.2), .inl (((c, m, se), lo, [], _, [], ks) :: fs))
                      rw [hm]
                      obtain ⟨f1, f2, f3, f4⟩ := obF_T ha ho z2 z3 hm
                      refine put i (P.mo m') (some c', fl) (opV [o, o2] 0) z2 (ob_5 ho z2 (Or.inl (by show 0 < fl.length; omega))) (fun t' ht' => ?_) hE
                      rw [f4] at ht'
                      obtain rfl := Option.some.inj ht'
                      exact hv.sub ha ho hsub
              · cases i3
          · rw [hgk, if_neg (by omega), if_neg (by omega)]
            rw [hgk] at i3
            unfold Pgm.gvX at i3
            rw [if_neg (by omega), if_neg (by omega)] at i3
            split at i3
            · rename_i hq
              obtain ⟨hq1, hq2⟩ := hq
              subst hq1 hq2
              have hE := (Option.some.inj i3).symm
              match ops, h7, fkt with
              | [o, o2, o3], h7, fkt =>
                have hv : VT P G.1 (opV [o, o2, o3] 0) 0 := h7.2.1
                have hv3 : VT P G.1 (opV [o, o2, o3] 2) 2 := h7.2.2.2.2.2.1
                rcases hv3.row with z1 | ⟨i, fl, z1, z2⟩
                · rw [z1]
                  exact thr_good hP ho (ho.1 0 (by omega)) fkt hfs hl1 hH
                · rw [z1]
                  dsimp only
                  split
                  · exact put i _ (none, fl) (opV [o, o2, o3] 0) z2 (ob_5 ho z2 (Or.inr rfl)) hv.int hE
                  · exact thr_good hP ho (ho.1 1 (by omega)) fkt hfs hl1 hH
            · cases i3
        · obtain ⟨i1, E3, i2, i3, i4, i5⟩ := inv_ite g4
          have hp1 : P.prT c E (bIte p e a' f b r) = [mk3 1] := by
            show ((P.te c E e).getD []).reverse.map mk3 = _
            rw [te_getD i1]; rfl
          rw [g5, hp1] at h7
          have hx : exW (bIte p e a' f b r) := g3.2.1
          have hd : dp (bIte p e a' f b r) = max (max (dp a') (dp b) + 1) (dp r) := rfl
          have hnv : nv (bIte p e a' f b r) = nv a' + nv b + nv r := rfl
          have hnl : (P.nxE c (P.mty m) (bIte p e a' f b r) E).1 = E.1 := by
            by_cases hf1 : f = 1
            · obtain ⟨E4, _, j2⟩ := i3 hf1
              rw [j2]; rfl
            · rw [i4 hf1]
          match ops, h7 with
          | [o], h7 =>
            show GdM P S (G, .inl (((c, m, se), lo, [], E, [], (0, E, if vI (opV [o] 0) ≠ 0 then a' else b, false) :: (2, P.nxE c (P.mty m) (bIte p e a' f b r) E, nl, false) :: ks) :: fs))
            have blk : ∀ (q : Tr) (E5 : EnvV), GK S n q → dp q + 1 ≤ dp (bIte p e a' f b r) → nv q ≤ nv (bIte p e a' f b r) → exW q → P.chk c (P.mty m) q E = .inr E5 → Rf E5 (P.nxE c (P.mty m) (bIte p e a' f b r) E) → FT P S G.1 ((c, m, se), lo, [], E, [], (0, E, q, false) :: (2, P.nxE c (P.mty m) (bIte p e a' f b r) E, nl, false) :: ks) [] := fun q E5 b1 b2 b3 b4 b5 b6 => by
              have k0 := KT_0 (z := false) b1 (E := E) (ks := (2, P.nxE c (P.mty m) (bIte p e a' f b r) E, nl, false) :: ks) ⟨by have := g3.1; omega, b4, by have := g3.2.2.1; rw [List.length_cons]; omega, by
                have := g3.2.2.2
                show dp q + ((if (2 : Nat) = 4 then 1 else 0) + cty ks) ≤ 50
                rw [if_neg (by omega)]
                omega⟩ b5 (KT_2 b6 g6)
              refine ⟨h1, h2, h3, h4, h5, ?_, ⟨[], [], trivial, rfl, k0.kh⟩, Nat.zero_le _, Nat.zero_le _⟩
              show TyL P G.1 lo ((0, E, _) :: (2, P.nxE c (P.mty m) (bIte p e a' f b r) E, _) :: ks) E
              rw [TyL_p (by omega), TyL_b (by omega)]
              exact ⟨Pfx.same hnl.symm, fun z => by omega, h6.more (Pfx.same hnl)⟩
            refine good _ ?_ rfl
            have pe3 := (Pgm.chk_pfx n a' E E3 ha' i2).1
            have ge3 := Pgm.chk_grow n a' E E3 ha' i2
            by_cases hc : vI (opV [o] 0) ≠ 0
            · rw [if_pos hc]
              refine blk a' E3 ha' (by omega) (by omega) hx.2.1 i2 ?_
              by_cases hf1 : f = 1
              · obtain ⟨E4, _, j2⟩ := i3 hf1
                rw [j2]; exact Rf.join1 pe3
              · rw [i4 hf1]; exact Rf.grow pe3 ge3
            · rw [if_neg hc]
              by_cases hf1 : f = 1
              · obtain ⟨E4, j1, j2⟩ := i3 hf1
                refine blk b E4 hb' (by omega) (by omega) hx.2.2.1 j1 ?_
                rw [j2]; exact Rf.join2 (Pgm.chk_pfx n b E E4 hb' j1).1
              · have hbn : b = nl := by
                  rcases hff with y | y
                  · exact absurd y hf1
                  · exact y.2
                subst hbn
                refine blk nl E hb' (by show 0 + 1 ≤ _; omega) (by show 0 ≤ _; omega) trivial rfl ?_
                rw [i4 hf1]; exact Rf.refl E
        · obtain ⟨i1, E3, i2, i3, i5⟩ := inv_whil g4
          have hp1 : P.prT c E (bWhil p e a' r) = [mk3 1] := by
            show ((P.te c E e).getD []).reverse.map mk3 = _
            rw [te_getD i1]; rfl
          rw [g5, hp1] at h7
          have hx : exW (bWhil p e a' r) := g3.2.1
          have hd : dp (bWhil p e a' r) = max (dp a' + 1) (dp r) := rfl
          have hnv : nv (bWhil p e a' r) = nv a' + nv r := rfl
          match ops, h7 with
          | [o], h7 =>
            show GdM P S (if vI (opV [o] 0) ≠ 0 then (G, .inl (((c, m, se), lo, [], E, [], (0, E, a', false) :: (3, E, bWhil p e a' r, false) :: ks) :: fs)) else (G, .inl (((c, m, se), lo, [], E, [], ks) :: fs)))
            rw [i3] at g6
            split
            · have pe3 := (Pgm.chk_pfx n a' E E3 ha' i2).1
              have ge3 := Pgm.chk_grow n a' E E3 ha' i2
              have k3 : KT P S c (P.mty m) ((3, E, bWhil p e a' r, false) :: ks) E3 := KT_3 (Rf.grow pe3 ge3) ⟨p, e, a', r, rfl⟩ g20 g3 g4 (by rw [i3]; exact g6)
              have k0 := KT_0 (z := false) ha' (E := E) ⟨by have := g3.1; omega, hx.2.1, by have := g3.2.2.1; rw [List.length_cons]; omega, by
                have := g3.2.2.2
                show dp a' + ((if (3 : Nat) = 4 then 1 else 0) + cty ks) ≤ 50
                rw [if_neg (by omega)]
                omega⟩ i2 k3
              refine good _ ⟨h1, h2, h3, h4, h5, ?_, ⟨[], [], trivial, rfl, k0.kh⟩, Nat.zero_le _, Nat.zero_le _⟩ rfl
              show TyL P G.1 lo ((0, E, _) :: (3, E, _) :: ks) E
              rw [TyL_p (by omega), TyL_b (by omega)]
              exact ⟨Pfx.refl E, fun z => by omega, h6⟩
            · exact good _ ⟨h1, h2, h3, h4, h5, h6, ⟨[], [], trivial, rfl, g6.kh⟩, Nat.zero_le _, Nat.zero_le _⟩ rfl
        · cases g1
