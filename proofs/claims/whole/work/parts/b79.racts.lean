/-! ===== THE REFERENCE'S STEPS, all: statements ===== -/
section RS
variable {P : Pgm} {S : Tks} {D : List Int32 → Prop} {num : List Int32 → Nat} {N : Nat} {g h : pH} {G : Gs} {i : Nat × Nat × Nat} {lo : List Vl} {ops : List (Bool × Vl)} {E : EnvV} {xs : List Xi} {ks : List Si} {fs : List Fm} {t1 t2 t3 : List It} {B O : Nat → Nat} {L : List Nat} {lb pb : Nat} {tr' : List (Nat × Nat)}
theorem ops_1 {P : Pgm} {hp : List Ob} {t : Nat} (h : OT P hp ops [mk3 t]) (h3 : t ≠ 3) : ∃ v, ops = [(false, v)] ∧ VT P hp v t := by
  match ops, h with
  | [(z, v)], h =>
    obtain ⟨h1, h2, -⟩ := h
    have h1 : z = decide (t = 3) := h1
    rw [decide_eq_false h3] at h1
    subst h1
    exact ⟨v, rfl, h2⟩
  | [], h => exact h.elim
  | _ :: _ :: _, h => exact h.2.2.elim
theorem FsT.cap {P : Pgm} {S : Tks} {hp : List Ob} {fs : List Fm} {t : Nat} (h : FsT P S hp fs [mk3 t]) : ∀ f2 fs2, fs = f2 :: fs2 → f2.2.2.1.length + 1 ≤ 1999 := fun f2 fs2 e => by
  subst e
  have := XH.le h.1.2.2.2.2.2.2.2.1
  have e : 1 + f2.2.2.1.length ≤ 1999 := this
  omega
theorem ract_S {bb : Tr} {z : Bool} {j0 : Int32} (hN : 400000 ≤ N) (hst : Stw P S D num g) (ho : HO P G.1) (hpr : G.2.2.1.length < 2000000000) (hf : FT P S G.1 (i, lo, ops, E, [], (1, E, bb, z) :: ks) []) (hfs : FsT P S G.1 fs [mk3 (P.mty i.2.1)]) (hl1 : fs.length + 1 ≤ 100) (q0 : RRq g h G ((i, lo, ops, E, [], (1, E, bb, z) :: ks) :: fs) (t2 ++ (8, Int32.ofNat i.2.1) :: t3)) (hTl : t2.length + t3.length + 20 < 400000) (hkt : KtI P num i.1 (P.mty i.2.1) g (1, E, bb, z) [(4, j0)]) (hk : TdK P num i.1 (P.mty i.2.1) g ks t2) (hF : TdF P S num g fs t3) : ∃ h2, fX12_done N 138 j0 h = some h2 ∧ RRs P S num g h2 (P.actS G i lo ops fs bb E ks) ∧ Chg rnA h h2 := by
  obtain ⟨B, O, L, lb, pb, tr', q⟩ := ROp.of0 (P := P) (S := S) (num := num) q0 rfl rfl hk hF
  have hP := hst.1.1
  obtain ⟨ha, hB, p5, p3, hrest⟩ := id hP
  have hcap := hfs.cap
  obtain ⟨q1, q2, q3, q4, q5, q6, ⟨a, a', q7, q8, q9⟩, q10, q11⟩ := hf
  dsimp only at q1 q2 q3 q4 q5 q6 q7 q8 q9 q10 q11
  obtain rfl : a = a' := q8
  have q9 : E = E ∧ stK bb = true ∧ (∃ n, GK S n bb) ∧ CapB 101 E bb ks ∧ (∃ E2, P.chk i.1 (P.mty i.2.1) bb E = .inr E2) ∧ a = P.prT i.1 E bb ∧ KT P S i.1 (P.mty i.2.1) ks (P.nxE i.1 (P.mty i.2.1) bb E) := q9
  obtain ⟨-, g1, ⟨n, g2⟩, g3, ⟨E2, g4⟩, g5, g6⟩ := q9
  subst g5
  rw [TyL_p (by omega)] at q6
  have fkt : FK P S G.1 (i, lo, ops, E, [], ks) := ⟨q1, q2, q3, q4, q6, _, [], g6.kh⟩
  rw [KtI_eq, if_neg (by omega), if_pos rfl] at hkt
  obtain ⟨o, s, m, ll, hrt, et⟩ := hkt
  obtain rfl : j0 = Int32.ofNat s := congrArg Prod.snd (List.cons.inj et).1
  have hlE : lo.length = E.1.length := q5.1
  have hkl : ks.length ≤ 102 := by have := g3.2.2.1; have : dp bb ≥ 0 := Nat.zero_le _; omega
  match n, g2 with
  | 0, g2 =>
    obtain rfl : bb = nl := g2
    cases g1
  | n + 1, g2 =>
    rcases g2 with rfl | ⟨p, y, w, r, rfl, w1, w2, hkr⟩ | ⟨p, y, w, e, r, rfl, w1, w2, w3, hkr⟩ | ⟨p, k, e, r, rfl, hkk, hkr⟩ | ⟨p, x, e, r0, rfl, w1, w2, w3, hkr⟩ | ⟨p, e, a', f, b', r, rfl, hff, w1, ha', hb', hkr⟩ | ⟨p, e, a', r, rfl, w1, ha', hkr⟩ | ⟨p, a', cw, w, b', r, rfl, w1, w2, ha', hb', hkr⟩
    · cases g1
    · cases g1
    · obtain ⟨t0, i1, i2, i3, i4, i5⟩ := inv_tellv g4
      have hp1 : P.prT i.1 E (bTellv p y w e r) = [mk3 t0] := by
        show ((P.te i.1 E e).getD []).reverse.map mk3 = _
        rw [te_getD i1]; rfl
      rw [hp1] at q7
      have ht3 : t0 ≠ 3 := fun z => by
        subst z
        exact tyW_no3 w1 (Pgm.sub_3 i2)
      obtain ⟨v, rfl, hv⟩ := ops_1 q7 ht3
      obtain ⟨hr1, b1, b2, b3⟩ := hrt
      rw [RTc_tellv] at hr1
      obtain ⟨-, ⟨r1, r2, r3⟩, -⟩ := hr1
      have hst1 := (sz_tellv p y w e r).1
      have hnv : E.1.length + nv (bTellv p y w e r) ≤ 899 := g3.1
      have hnv1 : nv (bTellv p y w e r) = nv r + 1 := by show 1 + nv r = _; omega
      obtain ⟨h2, z1, z2, z3⟩ := done_tellv (N := N) (E' := P.nxE i.1 (P.mty i.2.1) (bTellv p y w e r) E) q (by omega) r1 (by rw [r3, hlE]) (by omega) hl1
      exact ⟨h2, z1, z2, z3.mono fmA.rn⟩
    · have hk5 := GKk hkk
      obtain ⟨i1, i2⟩ := inv_k hk5 g4
      have h52 : k ≠ 52 := by
        rintro rfl
        cases g1
      obtain ⟨hr1, b1, b2, b3⟩ := hrt
      rw [RTc_k hk5] at hr1
      obtain ⟨-, ⟨r1, r2⟩, -⟩ := hr1
      obtain ⟨hst1, hsz1, -⟩ := sz_k hk5 p e r
      have hs : s < 1600 := by omega
      have hA : P.actS G i lo ops fs (nd k p 0 e r) E ks = if k = 40 then retM G true (.inl 0) fs
        else if k = 41 then retM G false (opV ops 0) fs
        else if k = 42 then (match opV ops 0 with
          | .inr (some o) => P.thr G o ((i, lo, ops, E, [], ks) :: fs)
          | _ => P.thr G 0 ((i, lo, ops, E, [], ks) :: fs))
        else ((G.1, G.2.1, G.2.2.1 ++ [vI (opV ops 0)], G.2.2.2), .inl ((i, lo, ops.drop 1, P.nxE i.1 (P.mty i.2.1) (nd k p 0 e r) E, [], ks) :: fs)) := by
        rcases hk5 with rfl | rfl | rfl | rfl | rfl <;> rfl
      rw [hA]
      by_cases h40 : k = 40
      · subst h40
        rw [if_pos rfl]
        obtain ⟨h2, z1, z2, z3⟩ := done_40 hN q hs r1 r2 hcap hl1
        exact ⟨h2, z1, z2, z3.mono fmA.rn⟩
      · rw [if_neg h40]
        rw [if_neg h40] at r2
        have hte : ∃ t, P.te i.1 E e = some [t] ∧ P.wkX (P.mty i.2.1) E k t = some (P.nxE i.1 (P.mty i.2.1) (nd k p 0 e r) E) := by
          unfold Pgm.wkE at i1
          rw [if_neg h40] at i1
          obtain ⟨l, l1, l2⟩ := Option.bind_eq_some_iff.mp i1
          obtain ⟨t, rfl, l3⟩ := hdO_some l2
          exact ⟨t, l1, l3⟩
        obtain ⟨t0, ht, hx⟩ := hte
        have hp1 : P.prT i.1 E (nd k p 0 e r) = [mk3 t0] := by
          rw [prT_k hk5, te_getD ht]; rfl
        rw [hp1] at q7
        unfold Pgm.wkX at hx
        by_cases h41 : k = 41
        · subst h41
          rw [if_pos rfl] at hx ⊢
          split at hx
          · rename_i hq
            have ht3 : t0 ≠ 3 := fun z => by
              subst z
              exact hq.1 (Pgm.sub_3 hq.2)
            obtain ⟨v, rfl, hv⟩ := ops_1 q7 ht3
            obtain ⟨h2, z1, z2, z3⟩ := done_41 hN q hs (j := m + sz e - 1) (by omega) r1 r2 (fun hnil => by
              subst hnil
              have hm : mk3 (P.mty i.2.1) = mk3 0 := by
                have : [mk3 (P.mty i.2.1)] = [mk3 0] := hfs
                exact (List.cons.inj this).1
              have hm0 : P.mty i.2.1 = 0 := congrArg Prod.snd hm
              exact (hv.sub ha ho hq.2).subm hm0) hcap hl1
            exact ⟨h2, z1, z2, z3.mono fmA.rn⟩
          · cases hx
        · rw [if_neg h41] at hx ⊢
          by_cases h42 : k = 42
          · subst h42
            rw [if_pos rfl] at hx ⊢
            split at hx
            · rename_i hq
              obtain ⟨v, rfl, hv⟩ := ops_1 q7 (by omega)
              obtain ⟨h2, z1, z2, z3⟩ := done_42 hN hst.1 q ho fkt hfs hv hq hs r1 hl1
              rcases hv.obj hq with rfl | ⟨o', c', fl', rfl, -, -⟩
              · exact ⟨h2, z1, z2, z3.mono thA.rn⟩
              · exact ⟨h2, z1, z2, z3.mono thA.rn⟩
            · cases hx
          · rw [if_neg h42] at hx ⊢
            have h43 : k = 43 := by omega
            subst h43
            rw [if_pos rfl] at hx
            split at hx
            · rename_i hq
              obtain ⟨v, rfl, hv⟩ := ops_1 q7 (by omega)
              obtain ⟨x, rfl⟩ := hv.n01 (by omega)
              obtain ⟨h2, z1, z2, z3⟩ := done_print (N := N) (E' := P.nxE i.1 (P.mty i.2.1) (nd 43 p 0 e r) E) q hs r1 hpr hl1
              exact ⟨h2, z1, z2, z3.mono prA.rn⟩
            · cases hx
    · obtain ⟨l, t0, i1, i2, i3, i4⟩ := inv_give g4
      have hp1 : P.prT i.1 E (bGive p x e r0) = (l ++ [t0]).reverse.map mk3 := by
        show ((P.plT i.1 E x).getD [] ++ (P.te i.1 E e).getD []).reverse.map mk3 = _
        rw [i1, te_getD i2]; rfl
      rw [hp1] at q7
      obtain ⟨hr1, b1, b2, b3⟩ := hrt
      rw [RTc_give] at hr1
      obtain ⟨-, ⟨r1, r2, r3⟩, r4, -⟩ := hr1
      obtain ⟨hst1, hsz1, -⟩ := sz_give p x e r0
      have hs : s < 1600 := by omega
      show ∃ h2, fX12_done N 138 (Int32.ofNat s) h = some h2 ∧ RRs P S num g h2 (P.givM G i lo ops E (P.nxE i.1 (P.mty i.2.1) (bGive p x e r0) E) x ks fs) ∧ Chg rnA h h2
      rw [done_8 q.st hs r1]
      unfold Pgm.givM
      rcases gkx w2 w1 with ⟨w, hx, hgk, hgw⟩ | ⟨w, xa, hx, hgk, hgw, oa⟩ | ⟨xa, xb, hx, hgk, oa, ob⟩
      · have hl0 : l = [] := by
          subst hx
          exact (Option.some.inj i1).symm
        subst hl0
        have q7 : OT P G.1 ops [mk3 t0] := q7
        rw [hgk, hgw] at i3
        rw [hgk, if_pos rfl, hgw]
        unfold Pgm.gvX at i3
        rw [if_pos rfl] at i3
        subst hx
        have hsx : sz (eLeaf 6 0 w) = 1 := rfl
        rw [hsx] at r3 hsz1
        have r4 : RXn P num i.1 E g (nd 6 0 w nl nl) m ll := r4
        rw [RXn_nd] at r4
        obtain ⟨-, -, r4⟩ := r4
        have r4 := r4.resolve_left (by omega) |>.resolve_left (by omega)
        obtain ⟨x144, -, -, x147, -⟩ := r4
        have em : m + sz nl + sz nl = m := rfl
        rw [em] at x144 x147
        have r3 : rd g 155 s = Int32.ofNat m := r3
        have hrn : P.rnK num i.1 E 6 0 w nl ((P.te i.1 E nl).getD [] ++ (P.te i.1 E nl).getD []) = match E.fnd (P.1 w) with
          | some i => (19, Int32.ofNat i)
          | none => (20, P.moO (P.fldT (P.1 w) (10 + i.1))) := rfl
        rw [hrn] at x144 x147
        rcases hfn : E.fnd (P.1 w) with _ | j
        · rw [hfn] at i3 x144 x147
          dsimp only at i3 x144 x147 ⊢
          split at i3
          · rename_i hsub
            unfold Pgm.subO at hsub
            rcases hm : P.fldT (P.1 w) (10 + i.1) with _ | m'
            · rw [hm] at hsub; cases hsub
            · rw [hm] at hsub x147
              dsimp only at hsub
              obtain ⟨d, fl, s1', s2'⟩ := q3
              obtain ⟨ff1, ff2, ff3, ff4⟩ := obF_T ha ho s1' (t := 10 + i.1) (by rw [show 10 + i.1 - 10 = i.1 by omega]; exact s2') hm
              have ht3 : t0 ≠ 3 := fun z => by
                subst z
                have := Pgm.sub_3 hsub
                exact tyV_3 (fld_V p3 hB ff3) this
              obtain ⟨v, rfl, hv⟩ := ops_1 q7 ht3
              obtain ⟨h2, z1, z2, z3⟩ := sets_20 (N := N) (E' := P.nxE i.1 (P.mty i.2.1) (bGive p (eLeaf 6 0 w) e r0) E) q ho hs (show m < 3200 by omega) r3 x144 x147 s1' ff2 (hv.sub ha ho hsub) ff1 hl1
              rw [z1, Option.bind_some]
              exact ⟨h2, rfl, z2, z3.mono (fun a k z => thO.rn a k (Or.inr z))⟩
          · cases i3
        · rw [hfn] at i3 x144 x147
          dsimp only at i3 x144 x147 ⊢
          split at i3
          · rename_i hsub
            obtain ⟨k1, k2, k3, k4⟩ := fstN_some hfn
            have hjl : j < E.1.length := by omega
            have hget : E.1[j]? = some E.1[j] := List.getElem?_eq_getElem hjl
            have tv := q4 j _ hget
            have etv : E.tyv j = E.1[j].2 := by unfold EnvV.tyv; rw [hget]
            have ht3 : t0 ≠ 3 := fun z => by
              subst z
              have := Pgm.sub_3 hsub
              rw [etv] at this
              exact tyV_3 tv this
            obtain ⟨v, rfl, hv⟩ := ops_1 q7 ht3
            obtain ⟨h2, z1, z2, z3⟩ := sets_19 (N := N) (E' := P.nxE i.1 (P.mty i.2.1) (bGive p (eLeaf 6 0 w) e r0) E) q hs (show m < 3200 by omega) r3 x144 x147 (by omega) hl1
            rw [z1, Option.bind_some]
            exact ⟨h2, rfl, z2, z3.mono fmA.rn⟩
          · cases i3
      · rw [hgk, hgw] at i3
        rw [hgk, if_neg (by omega), if_pos rfl, hgw]
        unfold Pgm.gvX at i3
        rw [if_neg (by omega), if_pos rfl] at i3
        match l, i3, i1, q7 with
        | [u], i3, i1, q7 =>
          dsimp only at i3
          split at i3
          · rename_i hsub
            unfold Pgm.subO at hsub
            rcases hm : P.fldT (P.1 w) u with _ | m'
            · rw [hm] at hsub; cases hsub
            · rw [hm] at hsub
              dsimp only at hsub
              have hu10 := fldT_10 hm
              have hte : P.te i.1 E xa = some [u] ∧ P.te i.1 E nl = some [] := by
                subst hx
                have i1 : ((P.te i.1 E xa).bind fun x => (P.te i.1 E nl).bind fun y => some (x ++ y)) = some [u] := i1
                obtain ⟨l1, l2, l3⟩ := Option.bind_eq_some_iff.mp i1
                have hnl : P.te i.1 E nl = some [] := rfl
                rw [hnl, Option.bind_some, List.append_nil] at l3
                exact ⟨by rw [l2, Option.some.inj l3], hnl⟩
              have hft : P.isF m' = true := (Pgm.fldT_at hm).2
              have ht3 : t0 ≠ 3 := fun z => by
                subst z
                have := Pgm.sub_3 hsub
                exact tyV_3 (fld_V p3 hB hft) this
              have q7 : OT P G.1 ops [mk3 t0, mk3 u] := q7
              match ops, q7, q, fkt with
              | [(z1, v), (z2, xv)], q7, q, fkt =>
                obtain ⟨y1, y2, y3, y4, -⟩ := q7
                have y1 : z1 = decide (t0 = 3) := y1
                have y3 : z2 = decide (u = 3) := y3
                rw [decide_eq_false ht3] at y1
                rw [decide_eq_false (by omega)] at y3
                subst y1
                subst y3
                have y2 : VT P G.1 v t0 := y2
                have y4 : VT P G.1 xv u := y4
                subst hx
                have hsx : sz (eUn 9 0 w xa) = sz xa + 1 := sz_un 0 w xa (by omega)
                rw [hsx] at r3 hsz1
                have r4 : RXn P num i.1 E g (nd 9 0 w xa nl) m ll := r4
                rw [RXn_nd] at r4
                obtain ⟨-, -, r4⟩ := r4
                have r4 := r4.resolve_left (by omega) |>.resolve_left (by omega)
                obtain ⟨x144, -, -, x147, -⟩ := r4
                rw [te_getD hte.1, te_getD hte.2, List.append_nil] at x144 x147
                have em : m + sz xa + sz nl = m + sz xa := rfl
                rw [em] at x144 x147
                have hrn : P.rnK num i.1 E 9 0 w xa [u] = if lget [u] 0 = 2 ∧ P.1 w = knW 7 then (18, 7) else (6, P.moO (P.fldT (P.1 w) (lget [u] 0))) := rfl
                rw [hrn, if_neg (by show ¬ (u = 2 ∧ _); omega)] at x144 x147
                have x147 : rd g 147 (m + sz xa) = P.moO (P.fldT (P.1 w) u) := x147
                rw [hm] at x147
                have r3 : rd g 155 s = Int32.ofNat (m + sz xa) := by rw [r3]; congr 1
                obtain ⟨h2, z1, z2, z3⟩ := sets_6 (E' := P.nxE i.1 (P.mty i.2.1) (bGive p (eUn 9 0 w xa) e r0) E) (j := P.mo m') (t := P.mty m') hN hst.1 q ho fkt hfs hs (show m + sz xa < 3200 by omega) r3 x144 x147 y4 hu10 (y2.sub ha ho hsub) (fun oo c fl _ h2 h3 => by
                  obtain ⟨ff1, ff2, -, -⟩ := obF_T ha ho h2 h3 hm
                  exact ⟨ff2, ff1⟩) hl1
                rw [z1, Option.bind_some]
                refine ⟨h2, rfl, ?_, z3.mono thO.rn⟩
                have ep : P.foO (P.fldT (P.1 w) (lget ((P.plT i.1 E (eUn 9 0 w xa)).getD []) 0)) = P.mo m' := by
                  rw [i1]
                  show P.foO (P.fldT (P.1 w) u) = P.mo m'
                  rw [hm]
                  rfl
                rw [ep]
                exact z2
              | [], q7, q, fkt => exact q7.elim
              | [_], q7, q, fkt => exact q7.2.2.elim
              | _ :: _ :: _ :: _, q7, q, fkt => exact q7.2.2.2.2.elim
          · cases i3
        | [], i3, i1, q7 => cases i3
        | _ :: _ :: _, i3, i1, q7 => cases i3
      · rw [hgk] at i3
        rw [hgk, if_neg (by omega), if_neg (by omega)]
        unfold Pgm.gvX at i3
        rw [if_neg (by omega), if_neg (by omega)] at i3
        split at i3
        · rename_i hsub
          obtain ⟨rfl, rfl⟩ := hsub
          have q7 : OT P G.1 ops [mk3 0, mk3 0, mk3 2] := q7
          match ops, q7, q, fkt with
          | [(z1, v), (z2, y), (z3, xv)], q7, q, fkt =>
            obtain ⟨y1, y2, y3, y4, y5, y6, -⟩ := q7
            obtain rfl : z1 = false := y1
            obtain rfl : z2 = false := y3
            obtain rfl : z3 = false := y5
            have y2 : VT P G.1 v 0 := y2
            have y4 : VT P G.1 y 0 := y4
            have y6 : VT P G.1 xv 2 := y6
            obtain ⟨nn, rfl⟩ := y4.int
            subst hx
            have hsx : sz (eBin 12 xa xb) = sz xa + sz xb + 1 := sz_bin xa xb (Or.inl rfl)
            rw [hsx] at r3 hsz1
            have r4 : RXn P num i.1 E g (nd 12 0 0 xa xb) m ll := r4
            rw [RXn_nd] at r4
            obtain ⟨-, -, r4⟩ := r4
            have r4 := r4.resolve_left (by omega) |>.resolve_left (by omega)
            obtain ⟨x144, -⟩ := r4
            have x144 : rd g 144 (m + sz xa + sz xb) = 7 := x144
            have r3 : rd g 155 s = Int32.ofNat (m + sz xa + sz xb) := by rw [r3]; congr 1; omega
            obtain ⟨h2, z1, z2, z3⟩ := sets_7 (E' := P.nxE i.1 (P.mty i.2.1) (bGive p (eBin 12 xa xb) e r0) E) hN hst.1 q ho fkt hfs hs (show m + sz xa + sz xb < 3200 by omega) r3 x144 y6 y2 hl1
            rw [z1, Option.bind_some]
            exact ⟨h2, rfl, z2, z3.mono thO.rn⟩
          | [], q7, q, fkt => exact q7.elim
          | [_], q7, q, fkt => exact q7.2.2.elim
          | [_, _], q7, q, fkt => exact q7.2.2.2.2.elim
          | _ :: _ :: _ :: _ :: _, q7, q, fkt => exact q7.2.2.2.2.2.2.elim
        · cases i3
    · obtain ⟨i1, E3, i2, i3⟩ := inv_ite g4
      have hp1 : P.prT i.1 E (bIte p e a' f b' r) = [mk3 1] := by
        show ((P.te i.1 E e).getD []).reverse.map mk3 = _
        rw [te_getD i1]; rfl
      rw [hp1] at q7
      obtain ⟨v, rfl, hv⟩ := ops_1 q7 (by omega)
      obtain ⟨h2, z1, z2, z3⟩ := done_ite (N := N) q hlE hv.bool hrt g4 hkl hTl hl1
      exact ⟨h2, z1, z2, z3.mono thA.rn⟩
    · obtain ⟨i1, E3, i2, i3⟩ := inv_whil g4
      have hp1 : P.prT i.1 E (bWhil p e a' r) = [mk3 1] := by
        show ((P.te i.1 E e).getD []).reverse.map mk3 = _
        rw [te_getD i1]; rfl
      rw [hp1] at q7
      obtain ⟨v, rfl, hv⟩ := ops_1 q7 (by omega)
      obtain ⟨h2, z1, z2, z3⟩ := done_whil (N := N) q hlE hv.bool hrt hkl hTl hl1
      exact ⟨h2, z1, z2, z3.mono thA.rn⟩
    · cases g1
end RS
