/-! ===== THE CLASS' TYPER: small statements ===== -/
theorem RunB.zero {S : Tks} {P : Pgm} {D : List Int32 → Prop} {num : List Int32 → Nat} {C : Cx} {c mt N en : Nat} {v1 v2 : Int32} {k2 : Nat → Int32 → pH → Option (Int32 × pH)} {k23 : Nat → Int32 → Int32 → pH → Option (Int32 × pH)} : RunB S P D num C c mt N v1 v2 k2 k23 en nl := fun E s M X d f o h q _ _ _ _ => ⟨h, M, X, rfl, q, Nat.le_refl _, Nat.le_refl _, trivial, Chg.refl _ _⟩
theorem RunB.tell {S : Tks} {P : Pgm} {D : List Int32 → Prop} {num : List Int32 → Nat} {C : Cx} {c mt N en : Nat} {v1 v2 : Int32} {k2 : Nat → Int32 → pH → Option (Int32 × pH)} {k23 : Nat → Int32 → Int32 → pH → Option (Int32 × pH)} (hN : 1100 ≤ N) (h5 : P.P5) (hn : P.n ≤ 400) (hc : c < P.n) (hen : en < 3000) (hm : P.tOk mt) (hm5 : mt ≠ 5) (hC : ∀ w, S.K w = 22 → D (P.1 w) ∧ C.2.1 w = Int32.ofNat (num (P.1 w))) {p y w n : Nat} {r : Tr} (hy : tyW S y) (hw : S.K w = 22) (hr : GK S n r) (RB : RunB S P D num C c mt N v1 v2 k2 k23 en r) : RunB S P D num C c mt N v1 v2 k2 k23 en (bTell p y w r) := by
  intro E s M X d f o h q cbk hb hd hv
  have hcb : cb (bTell p y w r) = 1 + cb r := cb_tell _ _ _ _
  have hnv : nv (bTell p y w r) = 1 + nv r := rfl
  have hdp : dp (bTell p y w r) = dp r := rfl
  rw [hcb] at hb ⊢
  rw [hnv] at hv
  rw [hdp] at hd
  rw [CB_tell] at cbk
  obtain ⟨c1, c2⟩ := cbk
  obtain ⟨w1, w2⟩ := hC w hw
  obtain ⟨y1, y2⟩ := tyc_of hC hy
  have A := TB.stm1 (N := N) (e := en) (v1 := v1) (v2 := v2) (k2 := k2) (k23 := k23) (C := C) (x := nl) (k := 53) (v := y) (w := w) (g := 0) (s := s) (dr := d) (O := P.tlX E y w false) (Z := fun h' => rd h' 39 s = 53 ∧ rd h' 40 s = Int32.ofNat E.1.length) (n := f + cb r) q RunX.nl (CE_nl _ _) c1 (by show s + 0 ≤ en; omega) hen (fun z => by cases z) (by
    intro r h1 X1 hr t1 r8 r11 g
    obtain rfl : [] = r := Option.some.inj hr
    rw [cl_nl] at g
    refine FnL.z ((fine_53 (N := N) (i := s) (y := y) (w := w) hN t1.1 t1.2.1 t1.2.2.1 (by omega) w1 y1 ?_ ?_ (by omega)).toL r11) (fun h' z => ⟨z.1.trans ?_, z.2⟩)
    · rw [g.2.2.1 _ _ (by unfold exA pyA; omega), c1.2.1]; exact w2
    · rw [g.2.2.1 _ _ (by unfold exA pyA; omega), c1.2.2.1]; exact y2
    · rw [g.2.2.1 _ _ (by unfold exA pyA; omega)]; exact c1.1)
  rw [show f + (1 + cb r) = f + cb r + (cl nl + 1) by rw [cl_nl]; omega, show s + (1 + cb r) = s + cl nl + 1 + cb r by rw [cl_nl]; omega]
  refine BlS.seq (t := s + cl nl + 1) hr RB A (by omega) c2 (by rw [cl_nl]; omega) hd (fun E' hE => ?_) (fun E' M1 X1 h1 M2 X2 h2 hE z m2 x2 kp hl tc => ?_)
  · rw [(Pgm.tlX_some hE).1, EnvV.add_len]; omega
  · obtain ⟨rfl, _⟩ := Pgm.tlX_some hE
    rw [EnvV.add_len] at hl
    rw [cl_nl] at kp
    have z0 : Tp h1 s 53 0 o E.1.length := ⟨z.2.1.1, z.2.2.1, z.2.2.2.1, z.2.2.2.2⟩
    rw [TC_tell]
    exact ⟨z0.kp kp (by omega) (by omega), by rw [kp _ _ (by omega) (by omega) (by omega) (by omega)]; exact z.2.1.2, by omega, tc⟩
theorem RunB.tellv {S : Tks} {P : Pgm} {D : List Int32 → Prop} {num : List Int32 → Nat} {C : Cx} {c mt N en : Nat} {v1 v2 : Int32} {k2 : Nat → Int32 → pH → Option (Int32 × pH)} {k23 : Nat → Int32 → Int32 → pH → Option (Int32 × pH)} (hN : 1100 ≤ N) (h5 : P.P5) (hn : P.n ≤ 400) (hc : c < P.n) (hen : en < 3000) (hm : P.tOk mt) (hm5 : mt ≠ 5) (hC : ∀ w, S.K w = 22 → D (P.1 w) ∧ C.2.1 w = Int32.ofNat (num (P.1 w))) {p y w n : Nat} {x r : Tr} (hy : tyW S y) (hw : S.K w = 22) (ox : Ox S x) (hr : GK S n r) (RB : RunB S P D num C c mt N v1 v2 k2 k23 en r) : RunB S P D num C c mt N v1 v2 k2 k23 en (bTellv p y w x r) := by
  intro E s M X d f o h q cbk hb hd hv
  have hcb : cb (bTellv p y w x r) = cl x + 1 + cb r := cb_tellv _ _ _ _ _
  have hnv : nv (bTellv p y w x r) = 1 + nv r := rfl
  have hdp : dp (bTellv p y w x r) = dp r := rfl
  rw [hcb] at hb ⊢
  rw [hnv] at hv
  rw [hdp] at hd
  rw [CB_tellv] at cbk
  obtain ⟨c0, c1, c2⟩ := cbk
  obtain ⟨w1, w2⟩ := hC w hw
  obtain ⟨y1, y2⟩ := tyc_of hC hy
  obtain ⟨nx, ox'⟩ := id ox
  have rx := (RunX.all (M := M) (E := E) (p := Int32.ofNat p) (o := o) (v1 := v1) (v2 := v2) (k2 := k2) (k23 := k23) (en := en) hN h5 hn hc (by omega) hC nx x ox').1
  have A := TB.stm1 (N := N) (e := en) (v1 := v1) (v2 := v2) (k2 := k2) (k23 := k23) (C := C) (x := x) (k := 37) (v := y) (w := w) (g := 0) (s := s) (dr := d) (O := P.tvE c E y w x) (Z := fun h' => rd h' 39 (s + cl x) = 37 ∧ rd h' 40 (s + cl x) = Int32.ofNat E.1.length) (n := f + cb r) q rx c0 c1 (by omega) hen (fun z => by unfold Pgm.tvE; rw [z]; rfl) (by
    intro r h1 X1 hr t1 r8 r11 g
    obtain ⟨t, rfl, _⟩ := ox.te_one hr
    have hO : P.tvE c E y w x = if P.sub t (P.rt y) = true then P.tlX E y w true else none := by unfold Pgm.tvE; rw [hr]; rfl
    rw [hO]
    refine FnL.z ((fine_37 (N := N) (i := s + cl x) (y := y) (w := w) hN t1.1 t1.2.1 t1.2.2.1 (by omega) w1 y1 ?_ ?_ (by omega)).toL r11) (fun h' z => ⟨z.1.trans ?_, z.2⟩)
    · rw [g.2.2.1 _ _ (by unfold exA pyA; omega), c1.2.1]; exact w2
    · rw [g.2.2.1 _ _ (by unfold exA pyA; omega), c1.2.2.1]; exact y2
    · rw [g.2.2.1 _ _ (by unfold exA pyA; omega)]; exact c1.1)
  rw [show f + (cl x + 1 + cb r) = f + cb r + (cl x + 1) by omega, show s + (cl x + 1 + cb r) = s + cl x + 1 + cb r by omega]
  refine BlS.seq (t := s + cl x + 1) hr RB A (by omega) c2 (by omega) hd (fun E' hE => ?_) (fun E' M1 X1 h1 M2 X2 h2 hE z m2 x2 kp hl tc => ?_)
  · obtain ⟨t, _, _, hE⟩ := Pgm.tvE_some hE
    rw [(Pgm.tlX_some hE).1, EnvV.add_len]; omega
  · obtain ⟨t, _, _, hE⟩ := Pgm.tvE_some hE
    obtain ⟨rfl, _⟩ := Pgm.tlX_some hE
    rw [EnvV.add_len] at hl
    have z0 : Tp h1 (s + cl x) 37 0 o E.1.length := ⟨z.2.1.1, z.2.2.1, z.2.2.2.1, z.2.2.2.2⟩
    rw [TC_tellv]
    exact ⟨z.1.kp kp (Nat.le_refl _) (by omega) x2, z0.kp kp (by omega) (by omega), by rw [kp _ _ (by omega) (by omega) (by omega) (by omega)]; exact z.2.1.2, by omega, tc⟩
theorem RunB.work {S : Tks} {P : Pgm} {D : List Int32 → Prop} {num : List Int32 → Nat} {C : Cx} {c mt N en : Nat} {v1 v2 : Int32} {k2 : Nat → Int32 → pH → Option (Int32 × pH)} {k23 : Nat → Int32 → Int32 → pH → Option (Int32 × pH)} (hN : 1100 ≤ N) (h5 : P.P5) (hn : P.n ≤ 400) (hc : c < P.n) (hen : en < 3000) (hm : P.tOk mt) (hm5 : mt ≠ 5) (hC : ∀ w, S.K w = 22 → D (P.1 w) ∧ C.2.1 w = Int32.ofNat (num (P.1 w))) {p k n : Nat} {x r : Tr} (hk : (k = 40 ∧ x = nl) ∨ ((k = 41 ∨ k = 42 ∨ k = 43 ∨ (k = 52 ∧ isCallE x = true)) ∧ Ox S x)) (hr : GK S n r) (RB : RunB S P D num C c mt N v1 v2 k2 k23 en r) : RunB S P D num C c mt N v1 v2 k2 k23 en (nd k p 0 x r) := by
  intro E s M X d f o h q cbk hb hd hv
  have hcb : cb (nd k p 0 x r) = cl x + 1 + cb r := cb_k (GKk hk) _ _ _
  obtain ⟨hnv, hdp⟩ := nv_k (GKk hk) p x r
  rw [hcb] at hb ⊢
  rw [hnv] at hv
  rw [hdp] at hd
  rw [CB_k (GKk hk)] at cbk
  obtain ⟨c0, c1, c2⟩ := cbk
  have rx : RunX P D num C c E M N (Int32.ofNat p) o v1 v2 k2 k23 en x := by
    rcases hk with ⟨_, rfl⟩ | ⟨_, nx, ox⟩
    · exact RunX.nl
    · exact (RunX.all hN h5 hn hc (by omega) hC nx x ox).1
  have A := TB.stm1 (N := N) (e := en) (v1 := v1) (v2 := v2) (k2 := k2) (k23 := k23) (C := C) (x := x) (k := k) (v := 0) (w := 0) (g := 0) (s := s) (dr := d) (O := P.wkE c mt E k x) (Z := fun h' => rd h' 39 (s + cl x) = Int32.ofNat k) (n := f + cb r) q rx c0 c1 (by omega) hen (by
    intro z
    rcases hk with ⟨_, rfl⟩ | ⟨hk, ox⟩
    · cases z
    · unfold Pgm.wkE
      rw [if_neg (by omega), z]; rfl) (by
    intro r h1 X1 hr t1 r8 r11 g
    have r39 : rd h1 39 (s + cl x) = Int32.ofNat k := by rw [g.2.2.1 _ _ (by unfold exA pyA; omega)]; exact c1.1
    rcases hk with ⟨rfl, rfl⟩ | ⟨hk, ox⟩
    · obtain rfl : [] = r := Option.some.inj hr
      exact FnL.z ((fine_40 (N := N) (i := s + cl nl) t1.1 t1.2.1 t1.2.2.1 r8 hm).toL r11) (fun h' z => z.1.trans r39)
    · obtain ⟨t, rfl, _⟩ := ox.te_one hr
      have hO : P.wkE c mt E k x = P.wkX mt E k t := by
        unfold Pgm.wkE
        rw [if_neg (by omega), hr]; rfl
      rw [hO]
      exact FnL.z ((fine_wk (N := N) (i := s + cl x) hN (by omega) t1.1 t1.2.1 t1.2.2.1 r8 hm hm5).toL r11) (fun h' z => z.1.trans r39))
  rw [show f + (cl x + 1 + cb r) = f + cb r + (cl x + 1) by omega, show s + (cl x + 1 + cb r) = s + cl x + 1 + cb r by omega, Pgm.chk_k (GKk hk)]
  refine BlS.seq (t := s + cl x + 1) hr RB A (by omega) c2 (by omega) hd (fun E' hE => ?_) (fun E' M1 X1 h1 M2 X2 h2 hE z m2 x2 kp hl tc => ?_)
  · rw [(Pgm.wkE_some hE).1]; exact hv
  · have z0 : Tp h1 (s + cl x) (Int32.ofNat k) 0 o E.1.length := ⟨z.2.1, z.2.2.1, z.2.2.2.1, z.2.2.2.2⟩
    rw [TC_k (GKk hk)]
    exact ⟨z.1.kp kp (Nat.le_refl _) (by omega) x2, z0.kp kp (by omega) (by omega), fun E2 hE2 => by rw [hE] at hE2; obtain rfl := Option.some.inj hE2; exact tc⟩
theorem RunB.give {S : Tks} {P : Pgm} {D : List Int32 → Prop} {num : List Int32 → Nat} {C : Cx} {c mt N en : Nat} {v1 v2 : Int32} {k2 : Nat → Int32 → pH → Option (Int32 × pH)} {k23 : Nat → Int32 → Int32 → pH → Option (Int32 × pH)} (hN : 1100 ≤ N) (h5 : P.P5) (hn : P.n ≤ 400) (hc : c < P.n) (hen : en < 3000) (hm : P.tOk mt) (hm5 : mt ≠ 5) (hC : ∀ w, S.K w = 22 → D (P.1 w) ∧ C.2.1 w = Int32.ofNat (num (P.1 w))) {p n : Nat} {x y r : Tr} (hp : isPlaceE x = true) (ox : Ox S x) (oy : Ox S y) (hr : GK S n r) (RB : RunB S P D num C c mt N v1 v2 k2 k23 en r) : RunB S P D num C c mt N v1 v2 k2 k23 en (bGive p x y r) := by
  intro E s M X d f o h q cbk hb hd hv
  have hcb : cb (bGive p x y r) = (cl x - 1) + cl y + 1 + cb r := cb_give _ _ _ _
  have hnv : nv (bGive p x y r) = nv r := rfl
  have hdp : dp (bGive p x y r) = dp r := rfl
  rw [hcb] at hb ⊢
  rw [hnv] at hv
  rw [hdp] at hd
  rw [CB_give] at cbk
  obtain ⟨c0, c0', c1, c2⟩ := cbk
  have hcl := cl_pp (e := y) ox hp
  obtain ⟨ny, oy'⟩ := id oy
  have ry := (RunX.all (M := M) (E := E) (p := Int32.ofNat p) (o := o) (v1 := v1) (v2 := v2) (k2 := k2) (k23 := k23) (en := en) hN h5 hn hc (by omega) hC ny y oy').1
  have rox : ∀ {a : Tr}, Ox S a → RunX P D num C c E M N (Int32.ofNat p) o v1 v2 k2 k23 en a := fun ⟨na, oa⟩ => (RunX.all hN h5 hn hc (by omega) hC na _ oa).1
  obtain ⟨k, v, w, a, b, rfl, hx⟩ := placeOf ox hp
  have rx : RunX P D num C c E M N (Int32.ofNat p) o v1 v2 k2 k23 en (nd 70 0 0 (pp (nd k v w a b)) y) := by
    rw [pp_nd]
    refine RunX.arg (RunX.arg ?_ ?_) ry
    · rcases hx with ⟨_, rfl, _, _⟩ | ⟨_, _, oa, _⟩ | ⟨_, oa, _⟩
      · exact RunX.nl
      · exact rox oa
      · exact rox oa
    · rcases hx with ⟨_, _, rfl, _⟩ | ⟨_, rfl, _, _⟩ | ⟨_, _, ob⟩
      · exact RunX.nl
      · exact RunX.nl
      · exact rox ob
  have hclx : cl (nd k v w a b) - 1 = cl a + cl b := by
    rw [cl_nd, if_neg (by omega), if_neg (by omega)]; omega
  have ce : CE (QC C (Int32.ofNat p) o h) (nd 70 0 0 (pp (nd k v w a b)) y) s := by
    rw [pp_nd, CE_nd, if_neg (by omega), if_pos rfl, CE_nd, if_neg (by omega), if_pos rfl]
    refine ⟨⟨c0.1, c0.2⟩, ?_⟩
    rw [cl_nd, if_neg (by omega), if_pos rfl, Nat.add_zero, ← hclx]
    exact c0'
  have hte : P.te c E (nd 70 0 0 (pp (nd k v w a b)) y) = (P.plT c E (nd k v w a b)).bind fun l => (P.te c E y).bind fun m => some (l ++ m) := by
    rw [pp_nd, Pgm.te_nd, Pgm.te_nd, Pgm.plT_nd]
    rfl
  have hgk : gk (nd k v w a b) = if k = 6 then 31 else if k = 9 then 34 else 36 := rfl
  have hgw : gw (nd k v w a b) = w := rfl
  have A := TB.stm1 (N := N) (e := en) (v1 := v1) (v2 := v2) (k2 := k2) (k23 := k23) (C := C) (x := nd 70 0 0 (pp (nd k v w a b)) y) (k := gk (nd k v w a b)) (v := 0) (w := gw (nd k v w a b)) (g := 0) (s := s) (dr := d) (O := P.gvE c E (nd k v w a b) y) (Z := fun h' => rd h' 39 (s + cl (nd 70 0 0 (pp (nd k v w a b)) y)) = (P.gvK c E (gk (nd k v w a b)) (P.1 (gw (nd k v w a b))) ((P.plT c E (nd k v w a b)).getD [])).1 ∧ rd h' 40 (s + cl (nd 70 0 0 (pp (nd k v w a b)) y)) = (P.gvK c E (gk (nd k v w a b)) (P.1 (gw (nd k v w a b))) ((P.plT c E (nd k v w a b)).getD [])).2) (n := f + cb r) q rx ce (by rw [hcl, ← Nat.add_assoc]; exact c1) (by omega) hen (by
    intro z
    rw [hte] at z
    unfold Pgm.gvE
    cases h1 : P.plT c E (nd k v w a b) with
    | none => rfl
    | some l =>
      rw [h1] at z
      cases h2 : P.te c E y with
      | none => rfl
      | some m => rw [h2] at z; cases z) (by
    intro rr h1 X1 hrr t1 r8 r11 g
    rw [hte] at hrr
    obtain ⟨l, l1, hrr⟩ := Option.bind_eq_some_iff.mp hrr
    obtain ⟨m, m1, hrr⟩ := Option.bind_eq_some_iff.mp hrr
    obtain ⟨t, rfl, _⟩ := oy.te_one m1
    obtain rfl := Option.some.inj hrr
    have hO : P.gvE c E (nd k v w a b) y = P.gvX c E (gk (nd k v w a b)) (P.1 (gw (nd k v w a b))) l t := by
      unfold Pgm.gvE
      rw [l1, m1]; rfl
    rw [hO, l1]
    have e39 : rd h1 39 (s + cl (nd 70 0 0 (pp (nd k v w a b)) y)) = rd h 39 (s + (cl (nd k v w a b) - 1) + cl y) := by
      rw [g.2.2.1 _ _ (by unfold exA pyA; omega), hcl, ← Nat.add_assoc]
    have e40 : rd h1 40 (s + cl (nd 70 0 0 (pp (nd k v w a b)) y)) = rd h 40 (s + (cl (nd k v w a b) - 1) + cl y) := by
      rw [g.2.2.1 _ _ (by unfold exA pyA; omega), hcl, ← Nat.add_assoc]
    rw [hgk, hgw] at c1 ⊢
    rw [Pgm.plT_nd] at l1
    obtain ⟨la, la1, l1⟩ := Option.bind_eq_some_iff.mp l1
    obtain ⟨lb, lb1, l1⟩ := Option.bind_eq_some_iff.mp l1
    obtain rfl := Option.some.inj l1
    show FnL P D num M X1 d d _ (fun h' => rd h' 39 _ = (P.gvK c E _ (P.1 w) (la ++ lb)).1 ∧ rd h' 40 _ = (P.gvK c E _ (P.1 w) (la ++ lb)).2) _ _ h1
    rcases hx with ⟨rfl, rfl, rfl, hw⟩ | ⟨rfl, rfl, oa, hw⟩ | ⟨rfl, oa, ob⟩
    · rw [if_pos rfl] at c1 ⊢
      obtain ⟨w1, w2⟩ := hC w hw
      obtain rfl : [] = la := Option.some.inj la1
      obtain rfl : [] = lb := Option.some.inj lb1
      exact (fine_31 (N := N) hN t1.1 t1.2.1 t1.2.2.1 t1.2.2.2 hc (by omega) w1 (by rw [e40, c1.2.1]; exact w2)).toL r11
    · rw [if_neg (by decide), if_pos rfl] at c1 ⊢
      obtain ⟨w1, w2⟩ := hC w hw
      obtain ⟨u, rfl, _⟩ := oa.te_one la1
      obtain rfl : [] = lb := Option.some.inj lb1
      exact (fine_34 (N := N) hN t1.1 t1.2.1 t1.2.2.1 (by omega) w1 (by rw [e40, c1.2.1]; exact w2)).toL r11
    · rw [if_neg (by decide), if_neg (by decide)] at c1 ⊢
      obtain ⟨u, rfl, _⟩ := oa.te_one la1
      obtain ⟨u2, rfl, _⟩ := ob.te_one lb1
      exact (fine_36 (N := N) (a := u) (b := u2) hN t1.1 t1.2.1 t1.2.2.1 (by rw [e40, c1.2.1]; rfl) (by rw [e39, c1.1]; rfl)).toL r11)
  rw [show f + (cl (nd k v w a b) - 1 + cl y + 1 + cb r) = f + cb r + (cl (nd 70 0 0 (pp (nd k v w a b)) y) + 1) by omega, show s + (cl (nd k v w a b) - 1 + cl y + 1 + cb r) = s + cl (nd 70 0 0 (pp (nd k v w a b)) y) + 1 + cb r by omega]
  have hs0 : s + cl (nd 70 0 0 (pp (nd k v w a b)) y) = s + (cl (nd k v w a b) - 1) + cl y := by omega
  refine BlS.seq (t := s + cl (nd 70 0 0 (pp (nd k v w a b)) y) + 1) hr RB A (by omega) (by rw [hs0]; exact c2) (by omega) hd (fun E' hE => ?_) (fun E' M1 X1 h1 M2 X2 h2 hE z m2 x2 kp hl tc => ?_)
  · obtain ⟨l, t, _, _, hg⟩ := Pgm.gvE_some hE
    rw [(Pgm.gvX_some hg).1]; exact hv
  · have z0 : Tp h1 (s + cl (nd 70 0 0 (pp (nd k v w a b)) y)) _ 0 o E.1.length := ⟨z.2.1.1, z.2.2.1, z.2.2.2.1, z.2.2.2.2⟩
    rw [TC_give]
    refine ⟨z.1.kp kp (Nat.le_refl _) (by omega) x2, ?_, ?_, fun E2 hE2 => ?_⟩
    · rw [← hs0]; exact z0.kp kp (by omega) (by omega)
    · rw [← hs0, kp _ _ (by omega) (by omega) (by omega) (by omega)]; exact z.2.1.2
    · rw [hE] at hE2
      obtain rfl := Option.some.inj hE2
      rw [← hs0]; exact tc
