/-! ===== THE REFERENCE calls ===== -/
theorem um_app : ∀ (a b : List (Bool × Vl)), um (a ++ b) = um a ++ um b
  | [], b => rfl
  | (true, _) :: a, b => um_app a b
  | (false, v) :: a, b => by
    show v :: um (a ++ b) = v :: (um a ++ um b)
    rw [um_app a b]
theorem OT.ums {P : Pgm} {hp : List Ob} : ∀ {l : List Nat} {o : List (Bool × Vl)}, OT P hp o (l.map mk3) → 3 ∉ l → um o = o.map Prod.snd
  | [], [], _, _ => rfl
  | [], _ :: _, h, _ => h.elim
  | _ :: _, [], h, _ => h.elim
  | t :: l, (z, v) :: o, h, h3 => by
    obtain ⟨h1, h2, h4⟩ := h
    have h1 : z = decide (t = 3) := h1
    rw [decide_eq_false (fun (z : t = 3) => h3 (by rw [z]; exact List.mem_cons_self ..))] at h1
    subst h1
    show v :: um o = v :: o.map Prod.snd
    rw [OT.ums h4 (fun z => h3 (List.mem_cons_of_mem _ z))]
theorem FrR.cut {B : Nat → Nat} {L : List Nat} {h : pH} {n : Nat} {i : Nat × Nat × Nat} {lo : List Vl} {ops : List (Bool × Vl)} {E E' : EnvV} {xs xs' : List Xi} {ks : List Si} {lb pb : Nat} (q : FrR B L h n (i, lo, ops, E, xs, ks) lb pb) (j : Nat) : FrR B L h n (i, lo, ops.drop j, E', xs', ks) lb pb := by
  obtain ⟨k1, k2, k3, k4, k5, k6, k7, k8, k9, k10, k11, k12, k13, k14⟩ := q
  obtain ⟨p, hp⟩ := um_drop ops j
  refine ⟨k1, k2, k3, k4, k5, k6, k7, k8, ?_, k10, k11, k12, fun j' v' hj => ?_, fun v' hv' => k14 v' (List.mem_of_mem_drop hv')⟩
  · show (ops.drop j).length ≤ 1999
    have k9 : ops.length ≤ 1999 := k9
    rw [List.length_drop]
    omega
  · have hj : (um (ops.drop j))[j']? = some v' := hj
    have hjl := (List.getElem?_eq_some_iff.mp hj).1
    have hj2 : (um ops)[p.length + j']? = some v' := by
      rw [hp, List.getElem?_append_right (by omega), show p.length + j' - p.length = j' by omega]
      exact hj
    have := k13 _ v' hj2
    dsimp only at this
    rw [hp, List.length_append, show pb + (p.length + (um (ops.drop j)).length) - 1 - (p.length + j') = pb + (um (ops.drop j)).length - 1 - j' by omega] at this
    exact this
section CAL
variable {P : Pgm} {S : Tks} {D : List Int32 → Prop} {num : List Int32 → Nat} {N : Nat} {g h : pH} {G : Gs} {i : Nat × Nat × Nat} {lo : List Vl} {ops : List (Bool × Vl)} {E : EnvV} {xs : List Xi} {ks : List Si} {fs : List Fm} {t1 t2 t3 : List It} {B O : Nat → Nat} {L : List Nat} {lb pb : Nat} {tr' : List (Nat × Nat)}
/-- the run ends -/
theorem r_end {k : Nat} (st : StV g h) (cn : CnR G h) (h69 : rd h 138 69 = 1) (h77 : rd h 138 77 = 0) (hk1 : 1 ≤ k) (hk4 : k ≤ 4) : ∃ h2, fX12_ends N 138 (Int32.ofNat k) h = some h2 ∧ RRs P S num g h2 (G, .inr (k, 0)) ∧ Chg fmA h h2 := by
  obtain ⟨h', e1, e2, e3, e4, e5, e6⟩ := r_ends (N := N) (k := k) st.1
  exact ⟨h', e1, ⟨st.chg e2 (fun a k z => by unfold fmA; omega), cn.chg e2 (fun a k z => by unfold fmA; omega), (e2.2.2.1 _ _ (by unfold fmA; omega)).trans h69, e3, e6.trans h77, e4, e5, hk1, hk4⟩, e2⟩
/-- the call, where what it is of is known -/
theorem call_59 {v w j r u bs : Nat} {x : Int32} {rv : Vl} {z : Bool} {as : List Nat} {pre : List (Bool × Nat)} (hN : 400000 ≤ N) (hst : Stw P S D num g) (q : ROp P S num g h G i lo ops E xs ks fs t1 t2 t3 B O L lb pb tr') (ho : HO P G.1) (hfk : FK P S G.1 (i, lo, ops, E, xs, ks)) (hfs' : FsT P S G.1 fs pre) (ht : P.callT (P.1 w) (r :: as) = some [u]) (hv : as.length = v) (hvl : v ≤ ops.length) (hj : j < 3200) (e147 : rd g 147 j = Int32.ofNat (num (P.1 w))) (hT : (t1 ++ (t2 ++ (8, Int32.ofNat i.2.1) :: t3)).length + 2 < 400000) (hfs : fs.length + 1 ≤ 100) (trv : VT P G.1 rv r) (hx : RV B L x 1 rv) (ebs : bs = pb + (um (ops.drop (v + 1))).length + (if z = true then 0 else 1)) (has : ∀ (k : Nat) (y : Vl), (((ops.take v).map Prod.snd).reverse)[k]? = some y → RV B L (rd h 199 (bs + k)) (rd h 200 (bs + k)) y) : ∃ h2, fX12_calls_59 N 138 (Int32.ofNat j) (Int32.ofNat v) (Int32.ofNat bs) (if z = true then 1 else 0) x h = some h2 ∧ RRs P S num g h2 (P.calM G w ((ops.take v).map Prod.snd).reverse rv ((i, lo, ops, E, xs, ks) :: fs) ((i, lo, ops.drop (v + 1), E, xs, ks) :: fs)) ∧ Chg thA h h2 := by
  have st := q.st
  have sg := st.1
  have hP := hst.1.1
  obtain ⟨ha, hB, p5, p3, hrest⟩ := id hP
  have h10 := callT_10 ht
  obtain ⟨m, bm, hm, hbm, harg, ht'⟩ := callT_some ht
  obtain ⟨n1, n2⟩ := argT_of harg
  have h93 := q.2.2.2.2.1
  have hpb : pb ≤ 1999 * fs.length := q.2.1.2.2.2.2.2.2.1
  have hol : ops.length ≤ 1999 := q.2.1.2.2.2.2.2.2.2.2.1
  have hul := um_le (ops.drop (v + 1))
  rw [List.length_drop] at hul
  unfold fX12_calls_59 Pgm.calM
  rcases trv.obj h10 with y | ⟨ob, d, fl, y, y1, y2⟩
  · subst y
    obtain ⟨h2, r1, r2, r3⟩ := r_flt (n := 0) hN hst.1 q ho (by omega) hfk hfs' hfs
    have r1 : fX12_faults N 138 0 h = some h2 := r1
    rw [hx.1, if_neg (by decide), r1, Option.bind_some]
    exact ⟨h2, rfl, r2, r3⟩
  · subst y
    obtain ⟨x1, -, x3⟩ := hx
    have x1 : x = Int32.ofNat (B ob) := x1
    obtain ⟨b1, b2, -⟩ := q.1.2.2.2.2.2.at x3
    obtain ⟨e185, -⟩ := b2 _ y1
    have e185 : rd h 185 (B ob) = Int32.ofNat d := e185
    have hdn := (ho.2 ob _ y1).2.1
    have hrn := Pgm.und_lt ha hdn y2
    obtain ⟨m', hm', b3, b', s1, s2, s3, s4, s5, s6, s7⟩ := Pgm.had_same ha hB hrn hm hdn y2
    have hc : (obC G.1 ob).getD 0 = d := by unfold obC; rw [y1]; rfl
    dsimp only
    rw [hc, hm', x1, if_pos (i_nn0 (by omega)), g_138_93 sg, Option.bind_some, h93]
    have hbb : b3 = bm := by rw [hbm] at s1; exact (Option.some.inj s1).symm
    subst hbb
    show ∃ h2, _ ∧ RRs P S num g h2 (if ((i, lo, ops.drop (v + 1), E, xs, ks) :: fs).length = 100 then (G, .inr (4, 0)) else (G, .inl (P.newF m' ob ((ops.take v).map Prod.snd).reverse :: (i, lo, ops.drop (v + 1), E, xs, ks) :: fs))) ∧ Chg thA h h2
    rw [List.length_cons]
    by_cases h100 : fs.length + 1 = 100
    · rw [if_pos h100, h100, if_pos (show Int32.ofNat 100 = 100 from rfl)]
      obtain ⟨h2, r1, r2, r3⟩ := r_end (P := P) (S := S) (num := num) (N := N) (k := 4) st q.1.2.2.2.1 q.1.2.2.2.2.1 q.1.2.1 (by omega) (by omega)
      have r1 : fX12_ends N 138 4 h = some h2 := r1
      rw [r1, Option.bind_some]
      exact ⟨h2, rfl, r2, r3.mono (fun a k z => Or.inl z)⟩
    · rw [if_neg h100, if_neg (show ¬ Int32.ofNat (fs.length + 1) = (100 : Int32) by rw [show (100 : Int32) = Int32.ofNat 100 from rfl, iEq (by omega) (by omega)]; omega)]
      have hD : D (P.1 w) := by
        obtain ⟨b2, b21, b22, b23⟩ := mIs_get (Pgm.had_ow ha _ d rfl hdn hm').2.2
        have := (hst.1.2.1.2.2.2.2.2.2.2.2.2.2.2 m' b2 b21).1
        rw [b23] at this
        exact this
      have ehad := RT.memberOf (N := N) (kk := true) (st.rt hst.1.2.1) (st.rpr hst.1.2.2) ha (by omega) hD hdn
      rw [hm'] at ehad
      have ehad : fX12_memberOf N 138 (Int32.ofNat d) (Int32.ofNat (num (P.1 w))) 1 h = some (Int32.ofNat m', h) := ehad
      have hlr : ((ops.take v).map Prod.snd).reverse.length = v := by
        rw [List.length_reverse, List.length_map, List.length_take]; omega
      have hmp : v ≤ 899 := by
        have := (hrest.2.2 m' b' s2 s4).2.2.1
        omega
      obtain ⟨q1, q2, q3, q4, q5, q6, q7, q8, q9, q10, q11⟩ := q
      have hLw : LwR B L h ((i, lo, ops.drop (v + 1), E, xs, ks) :: fs) (lb + lo.length) (pb + (um (ops.drop (v + 1))).length) (tyE pb ks ++ tr') := ⟨lb, pb, tr', q2.cut (v + 1), rfl, rfl, rfl, q3⟩
      obtain ⟨h1, a1, a2, a3, a4, a5, a6, a7, a8⟩ := r_open (N := N) (m := m') (v := v) (bs := bs) (x := Int32.ofNat (B ob)) (as := ((ops.take v).map Prod.snd).reverse) hN hst s2 s4 st (show rd h 138 93 = Int32.ofNat ((i, lo, ops.drop (v + 1), E, xs, ks) :: fs).length from h93) (by rw [List.length_cons]; omega) hLw hlr hmp (by split at ebs <;> omega) has q6 hT
      have sg1 := a2.sg sg
      have s5 := sg1.wr 138 100 (Int32.ofNat (pb + (um (ops.drop (v + 1))).length))
      rw [R_138_83 sg, Option.bind_some, L_185 sg (by omega), Option.bind_some, e185, R_138_19 sg, Option.bind_some, L_147 sg hj, Option.bind_some, st.2.1 147 j (by omega) (by omega), e147, ehad, Option.bind_some]
      dsimp only
      rw [a1, Option.bind_some]
      have e130 : fX12_calls_130 N 138 138 (Int32.ofNat (pb + (um (ops.drop (v + 1))).length)) h1 = some (wr (wr h1 138 100 (Int32.ofNat (pb + (um (ops.drop (v + 1))).length))) 196 (fs.length + 1) (Int32.ofNat (pb + (um (ops.drop (v + 1))).length))) := by
        unfold fX12_calls_130
        have a6 : rd h1 138 93 = Int32.ofNat (fs.length + 1 + 1) := a6
        rw [p_138_100 sg1, Option.bind_some, R_138_97 s5, Option.bind_some, g_138_93 s5, Option.bind_some, g_138_100 s5, Option.bind_some, rd_wr_ne _ _ (by omega), a6, w_138_100 sg1, i_sub1, T_196 s5 (by omega), Option.bind_some]
      have eif : (if (if z = true then (1 : Int32) else 0) = 0 then fX12_calls_130 N 138 138 (Int32.ofNat bs - 1) h1 else fX12_calls_130 N 138 138 (Int32.ofNat bs) h1) = fX12_calls_130 N 138 138 (Int32.ofNat (pb + (um (ops.drop (v + 1))).length)) h1 := by
        cases z
        · have ebs' : bs = pb + (um (ops.drop (v + 1))).length + 1 := ebs
          show (if (0 : Int32) = 0 then _ else _) = _
          rw [if_pos rfl, ebs', i_sub1]
        · have ebs' : bs = pb + (um (ops.drop (v + 1))).length := ebs
          show (if (1 : Int32) = 0 then _ else _) = _
          rw [if_neg (by decide), ebs']
      rw [eif, e130]
      have c2 : Chg (fun a k => (a = 138 ∧ k = 100) ∨ (a = 196 ∧ k = fs.length + 1)) h1 (wr (wr h1 138 100 (Int32.ofNat (pb + (um (ops.drop (v + 1))).length))) 196 (fs.length + 1) (Int32.ofNat (pb + (um (ops.drop (v + 1))).length))) := (Chg.wr h1 138 100 _ (by omega)).trans (Chg.wr _ 196 _ _ (by omega))
      obtain ⟨r1, r2⟩ := open_rr (o := ob) hst s2 s4 q1.1 q1.2.1 q1.2.2 (by rw [List.length_cons]; omega) hLw hlr hmp ⟨t1, t2, t3, rfl, q8, q9, q10, q11⟩ q7 x3 a2 a3 a4 a5 a6 a7 a8 c2 (by rw [rd_wr_ne _ _ (by omega), w_138_100 sg1]) (W_196 s5 _ _)
      exact ⟨_, rfl, r1, r2.mono (fun a k z => Or.inl z)⟩
theorem work_30 {v w j u : Nat} {z : Bool} {a : Tr} {l : List Nat} {a0 : List (Bool × Nat)} {pre : List (Bool × Nat)} (hN : 400000 ≤ N) (hst : Stw P S D num g) (q : ROp P S num g h G i lo ops E xs ks fs t1 t2 t3 B O L lb pb tr') (ho : HO P G.1) (hfk : FK P S G.1 (i, lo, ops, E, xs, ks)) (hfs' : FsT P S G.1 fs pre) (hops : OT P G.1 ops (popT 30 z l ++ a0)) (ht : P.opT i.1 E 30 w l = some [u]) (hk : kOk 30 v l) (hj : j < 3200) (e144 : rd g 144 j = (P.rnK num i.1 E 30 v w a l).1) (e147 : rd g 147 j = (P.rnK num i.1 E 30 v w a l).2) (ez : ownT a = z) (e182 : rd g 182 j = Int32.ofNat v) (hT : (t1 ++ (t2 ++ (8, Int32.ofNat i.2.1) :: t3)).length + 2 < 400000) (hfs : fs.length + 1 ≤ 100) : ∃ h2, fX12_work N 138 (Int32.ofNat j) h = some h2 ∧ RRs P S num g h2 (P.actX G i lo ops E 30 v w l xs ks fs) ∧ Chg thA h h2 := by
  have st := q.st
  have sg := st.1
  have p3 := hst.1.1.2.2.2.1
  have h93 := q.2.2.2.2.1
  have h100 := q.2.2.2.1
  have hpb : pb ≤ 1999 * fs.length := q.2.1.2.2.2.2.2.2.1
  have hol : ops.length ≤ 1999 := q.2.1.2.2.2.2.2.2.2.2.1
  have e144 : rd g 144 j = if z = true then 9 else 8 := by rw [← ez]; exact e144
  have e147 : rd g 147 j = Int32.ofNat (num (P.1 w)) := e147
  rw [opT_30] at ht
  have hlen : l.length = v + 1 := by rw [hk.2.1]; unfold arK; rw [if_pos rfl]
  have hact : P.actX G i lo ops E 30 v w l xs ks fs = P.calM G w ((ops.take v).map Prod.snd).reverse (opV ops v) ((i, lo, ops, E, xs, ks) :: fs) ((i, lo, ops.drop (v + 1), E, xs, ks) :: fs) := rfl
  rw [hact]
  match l, hlen, hops, ht with
  | r :: as, hlen, hops, ht =>
    have hv : as.length = v := by rw [List.length_cons] at hlen; omega
    have hpo : popT 30 z (r :: as) ++ a0 = as.reverse.map mk3 ++ ((z, r) :: a0) := by
      show (as.reverse.map mk3 ++ [(z, r)]) ++ a0 = _
      rw [List.append_assoc]; rfl
    rw [hpo] at hops
    have hrl : (as.reverse.map mk3).length = v := by rw [List.length_map, List.length_reverse, hv]
    obtain ⟨hrec, ⟨yz, yv⟩, y1, y2, y3⟩ := hops.get (j := v) (x := (z, r)) (by
      rw [List.getElem?_append_right (by omega), hrl, Nat.sub_self]
      rfl)
    have hrec : VT P G.1 (opV ops v) r := hrec
    have y2 : yz = z := y2
    have y3 : yv = opV ops v := y3
    subst y2
    subst y3
    have hvl := (List.getElem?_eq_some_iff.mp y1).1
    have n3 := Pgm.callT_no3 p3 ht
    have hA := (hops.app).1
    rw [hrl] at hA
    have hum := hA.ums (fun z => n3 (List.mem_cons_of_mem _ (List.mem_reverse.mp z)))
    have hsplit : ops = ops.take v ++ (yz, opV ops v) :: ops.drop (v + 1) := by
      have e1 : ops.drop v = ops[v] :: ops.drop (v + 1) := List.drop_eq_getElem_cons hvl
      have e2 : ops[v] = (yz, opV ops v) := (List.getElem?_eq_some_iff.mp y1).2
      rw [← e2, ← e1, List.take_append_drop]
    have hu : um ops = (ops.take v).map Prod.snd ++ um ((yz, opV ops v) :: ops.drop (v + 1)) := by
      have e := congrArg um hsplit
      rw [um_app, hum] at e
      exact e
    have htl : ((ops.take v).map Prod.snd).length = v := by rw [List.length_map, List.length_take]; omega
    have hul := um_le ops
    have hlu : (um ((yz, opV ops v) :: ops.drop (v + 1))).length = (um (ops.drop (v + 1))).length + (if yz = true then 0 else 1) := by
      cases yz
      · rfl
      · rfl
    have hulen : (um ops).length = v + ((um (ops.drop (v + 1))).length + (if yz = true then 0 else 1)) := by
      rw [hu, List.length_append, htl, hlu]
    have has : ∀ (k : Nat) (y : Vl), (((ops.take v).map Prod.snd).reverse)[k]? = some y → RV B L (rd h 199 (pb + (um (ops.drop (v + 1))).length + (if yz = true then 0 else 1) + k)) (rd h 200 (pb + (um (ops.drop (v + 1))).length + (if yz = true then 0 else 1) + k)) y := fun k y hk => by
      have hkl := (List.getElem?_eq_some_iff.mp hk).1
      rw [List.length_reverse, htl] at hkl
      rw [rev_get _ (by omega), htl] at hk
      have hk2 : (um ops)[v - 1 - k]? = some y := by
        rw [hu, List.getElem?_append_left (by omega)]
        exact hk
      have := q.top hk2
      rw [show pb + (um ops).length - 1 - (v - 1 - k) = pb + (um (ops.drop (v + 1))).length + (if yz = true then 0 else 1) + k by omega] at this
      exact this
    have hrv : ∃ x, RV B L x 1 (opV ops v) ∧ fX12_calls N 138 (Int32.ofNat j) h = fX12_calls_59 N 138 (Int32.ofNat j) (Int32.ofNat v) (Int32.ofNat (pb + (um (ops.drop (v + 1))).length + (if yz = true then 0 else 1))) (if yz = true then 1 else 0) x h := by
      have e1 : Int32.ofNat (pb + (um ops).length) - Int32.ofNat v = Int32.ofNat (pb + (um (ops.drop (v + 1))).length + (if yz = true then 0 else 1)) := by
        rw [i_subk (by omega)]
        congr 1
        omega
      unfold fX12_calls
      rw [if_pos (o_138 sg), R_138_68 sg, Option.bind_some, L_182 sg hj, Option.bind_some, st.2.1 182 j (by omega) (by omega), e182, g_138_100 sg, Option.bind_some, h100, R_138_16 sg, Option.bind_some, L_144 sg hj, Option.bind_some, st.2.1 144 j (by omega) (by omega), e144, e1]
      cases yz
      · rw [if_neg (show ¬ (false = true) by decide), if_neg (by decide)]
        unfold fX12_calls_30
        rw [if_pos rfl]
        have hk2 : (um ops)[v]? = some (opV ops v) := by
          rw [hu, List.getElem?_append_right (by omega), htl, Nat.sub_self]
          rfl
        have tp := q.top hk2
        have hulen : (um ops).length = v + ((um (ops.drop (v + 1))).length + 1) := hulen
        rw [show pb + (um ops).length - 1 - v = pb + (um (ops.drop (v + 1))).length by omega] at tp
        refine ⟨rd h 199 (pb + (um (ops.drop (v + 1))).length), ?_, ?_⟩
        · rcases hrec.obj (callT_10 ht) with y | ⟨o, d, fl, y, -, -⟩
          · rw [y] at tp ⊢
            exact ⟨tp.1, rfl⟩
          · rw [y] at tp ⊢
            exact ⟨tp.1, rfl, tp.2.2⟩
        · have e5 : Int32.ofNat (pb + (um (ops.drop (v + 1))).length + (if false = true then 0 else 1)) - 1 = Int32.ofNat (pb + (um (ops.drop (v + 1))).length) := i_sub1 _
          rw [R_138_101 sg, Option.bind_some, e5, L_199 sg (by omega), Option.bind_some]
          rfl
      · rw [if_pos rfl, if_pos rfl]
        unfold fX12_calls_30
        rw [if_neg (by decide), R_138_94 sg, Option.bind_some, g_138_93 sg, Option.bind_some, h93, i_sub1, L_193 sg (by omega), Option.bind_some, q.self.1]
        refine ⟨_, ?_, rfl⟩
        have k14 := q.2.1.2.2.2.2.2.2.2.2.2.2.2.2.2 (opV ops v) (List.mem_of_getElem? y1)
        rcases hrec.obj (callT_10 ht) with y | ⟨o, d, fl, y, -, -⟩
        · rw [y] at k14
          rcases k14 with k | k
          · cases k
          · cases k
        · rw [y] at k14
          rcases k14 with k | k
          · cases k
          · rw [y, k]
            exact ⟨rfl, rfl, q.self.2⟩
    obtain ⟨x, hx, hcl⟩ := hrv
    obtain ⟨h2, r1, r2, r3⟩ := call_59 (z := yz) hN hst q ho hfk hfs' ht hv (by omega) hj e147 hT hfs hrec hx rfl has
    refine ⟨h2, ?_, r2, r3⟩
    unfold fX12_work
    rw [if_pos (o_138 sg), g_138_100 sg, Option.bind_some, R_138_16 sg, Option.bind_some, L_144 sg hj, Option.bind_some, st.2.1 144 j (by omega) (by omega), e144]
    have e228 : fX12_work_228 N 138 (Int32.ofNat j) h = some h2 := by
      unfold fX12_work_228
      rw [hcl, r1, Option.bind_some]
    cases yz
    · rw [if_neg (show ¬ (false = true) by decide), if_neg (by decide), if_neg (by decide), if_pos (by decide), e228]
    · rw [if_pos rfl, if_neg (by decide), if_neg (by decide), if_neg (by decide), if_pos (by decide), e228]
end CAL
