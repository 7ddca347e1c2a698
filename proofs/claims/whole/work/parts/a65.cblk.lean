/-! ===== THE CLASS' TYPER: if, while, try ===== -/
theorem TB.w44 {P : Pgm} {D : List Int32 → Prop} {num : List Int32 → Nat} {c mt M X d : Nat} {E : EnvV} {h : pH} (q : TB P D num c mt E M X d h) (i : Nat) : TB P D num c mt E M X d (wr h 44 i (rd h 52 2)) := by
  obtain ⟨q1, q2, q3⟩ := q
  have gw : Chg (exA i (i + 1)) h (wr h 44 i (rd h 52 2)) := Chg.wr _ _ _ _ (by unfold exA; omega)
  have gw4 : Chg (fun a k => a = 44 ∧ k = i) h (wr h 44 i (rd h 52 2)) := Chg.wr _ _ _ _ ⟨rfl, rfl⟩
  exact ⟨q1.of gw (q1.2.2.1.chg gw4 (fun a k z => by omega)), by rw [rd_wr_ne _ _ (by omega)]; exact q2, by rw [rd_wr_ne _ _ (by omega)]; exact q3⟩
theorem KSc.w44 {E : EnvV} {d i : Nat} {x : Int32} {h : pH} (q : KSc E d h) : KSc E d (wr h 44 i x) := q.chg (A := fun a _ => a = 44) (Chg.wr _ _ _ _ rfl) (by omega) (by omega) (by omega)
theorem TSc.w44 {E : EnvV} {n d i : Nat} {x : Int32} {h : pH} (q : TSc E n d h) : TSc E n d (wr h 44 i x) := q.chg (A := fun a _ => a = 44) (Chg.wr _ _ _ _ rfl) (by omega) (by omega)
theorem KSc.st {E : EnvV} {d s t : Nat} {h h' : pH} (hd : d < 32) (q : KSc E d h) (g : Chg (svA s t (d + 1)) h h') : KSc E d h' := q.chg g (by unfold svA exA pyA; omega) (by unfold svA exA pyA; omega) (by unfold svA exA pyA; omega)
theorem TSc.st {E : EnvV} {n d s t : Nat} {h h' : pH} (hd : d < 32) (q : TSc E n d h) (g : Chg (svA s t (d + 1)) h h') : TSc E n d h' := q.chg g (by unfold svA exA pyA; omega) (by unfold svA exA pyA; omega)
/-- a piece alone -/
theorem BlS.one {P : Pgm} {D : List Int32 → Prop} {num : List Int32 → Nat} {c mt M X N f i e k p d d' dr s : Nat} {E : EnvV} {v1 v2 : Int32} {O : Option EnvV} {Z : pH → Prop} {k2 : Nat → Int32 → pH → Option (Int32 × pH)} {k23 : Nat → Int32 → Int32 → pH → Option (Int32 × pH)} {h : pH} (q : TB P D num c mt E M X d' h) (hi : i ≤ e) (he : e < 3000) (hs : s ≤ i) (h39 : rd h 39 i = Int32.ofNat k) (h43 : O = none → rd h 43 i = Int32.ofNat p) (F : FnL P D num M X d dr i Z O (fX9_isFine N 51 (Int32.ofNat i) (Int32.ofNat k) (wr h 44 i (rd h 52 2))) (wr h 44 i (rd h 52 2))) : BlS P D num c mt M X d dr s (i + 1) (fun _ _ h' => Z h' ∧ Kp 0 i h h' ∧ Kp (i + 1) 4000 h h' ∧ rd h' 42 i = rd h 42 i ∧ rd h' 45 i = rd h 45 i) (oS p O) (fX9_check_79 N k2 k23 (f + 1) 51 v1 v2 (Int32.ofNat e) (Int32.ofNat i) h) (fX9_check_79 N k2 k23 f 51 v1 v2 (Int32.ofNat e) (Int32.ofNat (i + 1))) h :=
  (TS.last q.1 q.2.1 hi (by omega) h39 h43 F).low hs (Nat.le_refl _) (Nat.le_refl _) (fun E' M' X' h' _ _ _ _ z g => ⟨z.1, Kp.of g (Or.inl (Nat.le_refl _)), Kp.of g (Or.inr (Nat.le_refl _)), g.2.2.1 _ _ (by unfold svA exA pyA; omega), g.2.2.1 _ _ (by unfold svA exA pyA; omega)⟩)
/-- an inner block -/
theorem BlS.inner {S : Tks} {P : Pgm} {D : List Int32 → Prop} {num : List Int32 → Nat} {C : Cx} {c mt N en : Nat} {v1 v2 : Int32} {k2 : Nat → Int32 → pH → Option (Int32 × pH)} {k23 : Nat → Int32 → Int32 → pH → Option (Int32 × pH)} {M X n s s1 d f : Nat} {E : EnvV} {a : Tr} {o : Int32} {h : pH} (hd : d < 32) (ga : GK S n a) (RBa : RunB S P D num C c mt N v1 v2 k2 k23 en a) (tb : TB P D num c mt E M X (d + 1) h) (ca : CB (QC5 C h) a s1 o) (hb : s1 + cb a ≤ en + 1) (hdp : d + 1 + dp a ≤ 31) (hv : E.1.length + nv a ≤ 999) (hs : s ≤ s1) : BlS P D num c mt M X d (d + 1) s (s1 + cb a) (fun M' X' h' => TC P C c mt M' X' h' a E s1 o ∧ Kp 0 s1 h h' ∧ Kp (s1 + cb a) 4000 h h' ∧ (∀ E0, KSc E0 d h → KSc E0 d h') ∧ (∀ E0 n, TSc E0 n d h → TSc E0 n d h')) (P.chk c mt a E) (fX9_check_79 N k2 k23 (f + cb a) 51 v1 v2 (Int32.ofNat en) (Int32.ofNat s1) h) (fX9_check_79 N k2 k23 f 51 v1 v2 (Int32.ofNat en) (Int32.ofNat (s1 + cb a))) h :=
  (RBa E s1 M X (d + 1) f o h tb ca hb hdp hv).low hs (Nat.le_refl _) (by omega) (fun E' M' X' h' _ _ _ _ z g => ⟨z, Kp.of g (Or.inl (Nat.le_refl _)), Kp.of g (Or.inr (Nat.le_refl _)), fun E0 z => z.st hd g, fun E0 n z => z.st hd g⟩)
/-- the condition, and the piece that opens -/
theorem BlS.cond {S : Tks} {P : Pgm} {D : List Int32 → Prop} {num : List Int32 → Nat} {C : Cx} {c mt N en : Nat} {v1 v2 : Int32} {k2 : Nat → Int32 → pH → Option (Int32 × pH)} {k23 : Nat → Int32 → Int32 → pH → Option (Int32 × pH)} (hN : 1100 ≤ N) (h5 : P.P5) (hn : P.n ≤ 400) (hc : c < P.n) (hen : en < 3000) (hm : P.tOk mt) (hm5 : mt ≠ 5) (hC : ∀ w, S.K w = 22 → D (P.1 w) ∧ C.2.1 w = Int32.ofNat (num (P.1 w))) {M X s d f p k g : Nat} {E : EnvV} {x : Tr} {o : Int32} {h : pH} (hk : k = 38 ∨ k = 39) (ox : Ox S x) (q : TB P D num c mt E M X d h) (hd : d < 32) (c0 : CE (QC C (Int32.ofNat p) o h) x s) (c1 : QC C (Int32.ofNat p) o h (s + cl x) k 0 0 g) (hs : s + cl x ≤ en) : BlS P D num c mt M X d (d + 1) s (s + cl x + 1) (fun M' X' h' => TE P C c X' h' E x s o ∧ Tp h' (s + cl x) (Int32.ofNat k) g o E.1.length ∧ KSc E d h' ∧ Kp (s + cl x + 1) 4000 h h') (oS p (P.bcE c E x)) (fX9_check_79 N k2 k23 (f + (cl x + 1)) 51 v1 v2 (Int32.ofNat en) (Int32.ofNat s) h) (fX9_check_79 N k2 k23 f 51 v1 v2 (Int32.ofNat en) (Int32.ofNat (s + cl x + 1))) h := by
  obtain ⟨nx, ox'⟩ := id ox
  have rx := (RunX.all (M := M) (E := E) (p := Int32.ofNat p) (o := o) (v1 := v1) (v2 := v2) (k2 := k2) (k23 := k23) (en := en) hN h5 hn hc (by omega) hC nx x ox').1
  have A := TB.stm1 (N := N) (e := en) (v1 := v1) (v2 := v2) (k2 := k2) (k23 := k23) (C := C) (x := x) (k := k) (v := 0) (w := 0) (g := g) (s := s) (dr := d + 1) (O := P.bcE c E x) (Z := fun h' => rd h' 39 (s + cl x) = Int32.ofNat k ∧ KSc E d h') (n := f) q rx c0 c1 hs hen (fun z => by unfold Pgm.bcE; rw [z]; exact if_neg (fun y => by cases y)) (by
    intro r h1 X1 hr t1 r8 r11 g
    obtain ⟨t, rfl, _⟩ := ox.te_one hr
    have hO : P.bcE c E x = if t = 1 then some E else none := by
      unfold Pgm.bcE
      rw [hr]
      by_cases z : t = 1
      · rw [if_pos z, z, if_pos rfl]
      · rw [if_neg z, if_neg (fun y => z (by injection y with y; injection y))]
    rw [hO]
    exact FnL.z (fine_38 (N := N) (i := s + cl x) hk t1.1 t1.2.1 t1.2.2.1 r11 hd) (fun h' z => ⟨z.1.trans (by rw [g.2.2.1 _ _ (by unfold exA pyA; omega)]; exact c1.1), z.2.2⟩))
  exact A.low (Nat.le_refl _) (Nat.le_refl _) (Nat.le_refl _) (fun E' M' X' h' _ _ _ _ z g => ⟨z.1, ⟨z.2.1.1, z.2.2.1, z.2.2.2.1, z.2.2.2.2⟩, z.2.1.2, Kp.of g (Or.inr (Nat.le_refl _))⟩)
theorem RunB.whil {S : Tks} {P : Pgm} {D : List Int32 → Prop} {num : List Int32 → Nat} {C : Cx} {c mt N en : Nat} {v1 v2 : Int32} {k2 : Nat → Int32 → pH → Option (Int32 × pH)} {k23 : Nat → Int32 → Int32 → pH → Option (Int32 × pH)} (hN : 1100 ≤ N) (h5 : P.P5) (hn : P.n ≤ 400) (hc : c < P.n) (hen : en < 3000) (hm : P.tOk mt) (hm5 : mt ≠ 5) (hC : ∀ w, S.K w = 22 → D (P.1 w) ∧ C.2.1 w = Int32.ofNat (num (P.1 w))) {p n : Nat} {x a r : Tr} (ox : Ox S x) (ga : GK S n a) (gr : GK S n r) (RBa : RunB S P D num C c mt N v1 v2 k2 k23 en a) (RBr : RunB S P D num C c mt N v1 v2 k2 k23 en r) : RunB S P D num C c mt N v1 v2 k2 k23 en (bWhil p x a r) := by
  intro E s M X d f o h q cbk hb hd hv
  have hcb : cb (bWhil p x a r) = cl x + 1 + cb a + 1 + cb r := cb_whil _ _ _ _
  have hnv : nv (bWhil p x a r) = nv a + nv r := rfl
  have hdp : dp (bWhil p x a r) = max (dp a + 1) (dp r) := rfl
  rw [hcb] at hb ⊢
  rw [hnv] at hv
  rw [hdp] at hd
  have hd1 : d + 1 + dp a ≤ 31 := by omega
  have hd2 : d + dp r ≤ 31 := by omega
  rw [CB_whil] at cbk
  obtain ⟨c0, ca, c1, ⟨p2, c57⟩, cr⟩ := cbk
  rw [Pgm.chk_whil, show f + (cl x + 1 + cb a + 1 + cb r) = f + cb r + 1 + cb a + (cl x + 1) by omega, show s + (cl x + 1 + cb a + 1 + cb r) = s + cl x + 1 + cb a + 1 + cb r by omega]
  refine BlS.bind (by omega) (BlS.cond (f := f + cb r + 1 + cb a) hN h5 hn hc hen hm hm5 hC (Or.inr rfl) ox q (by omega) c0 c1 (by omega)) (fun E' h1 M1 X1 hE tb1 m1 x1 z1 g1 => ?_)
  rw [(Pgm.bcE_some (oS_inr hE)).1] at tb1
  obtain ⟨z1a, z1b, z1c, kp1⟩ := z1
  refine BlS.bind (by omega) (BlS.inner (s := s) (f := f + cb r + 1) (by omega) ga RBa tb1 (CB.kp ga ca kp1 (Nat.le_refl _) (by omega)) (by omega) hd1 (by omega) (by omega)) (fun E1 h2 M2 X2 hE1 tb2 m2 x2 z2 g2 => ?_)
  obtain ⟨tca, kp2, kp2', ks2, ts2⟩ := z2
  have c57' := QC.kp (QC.kp c57 kp1 (by omega) (by omega)) kp2' (by omega) (by omega)
  have tb2' := tb2.w44 (s + cl x + 1 + cb a)
  refine BlS.bind (o := oS 0 (some E)) (f := fun _ => P.chk c mt r E) (t := s + cl x + 1 + cb a + 1) (by omega) (BlS.one (s := s) (f := f + cb r) (p := 0) tb2 (by omega) hen (by omega) c57'.1 (fun z => by cases z) (fine_55 (N := N) (Or.inr rfl) tb2'.1.1 tb2'.1.2.1 tb2'.1.2.2.1 tb2'.2.2 (by omega) (ks2 E z1c).w44 (Pgm.chk_pfx n a E E1 ga hE1).1)) (fun E3 h3 M3 X3 hE3 tb3 m3 x3 z3 g3 => ?_)
  rw [← Option.some.inj (oS_inr hE3)] at tb3
  obtain ⟨z3a, kp3, kp3', z42, z45⟩ := z3
  have kpr : Kp (s + cl x + 1 + cb a + 1) 4000 h h3 := ((kp1.sub (by omega) (Nat.le_refl _)).trans kp2' (by omega) (Nat.le_refl _)).trans kp3' (by omega) (Nat.le_refl _)
  refine (RBr E _ M3 X3 d f o h3 tb3 (CB.kp gr cr kpr (Nat.le_refl _) (by omega)) (by omega) hd2 (by omega)).low (by omega) (Nat.le_refl _) (Nat.le_refl _) (fun E4 M4 X4 h4 _ m4 x4 _ z4 g4 => ?_)
  have kp4 : Kp 0 (s + cl x + 1 + cb a + 1) h3 h4 := Kp.of g4 (Or.inl (Nat.le_refl _))
  have kp34 : Kp 0 (s + cl x + 1 + cb a) h2 h4 := kp3.trans kp4 (by omega) (by omega)
  have kp24 : Kp 0 (s + cl x + 1) h1 h4 := kp2.trans kp34 (by omega) (by omega)
  have z57 : Ts h3 (s + cl x + 1 + cb a) 57 s := ⟨by rw [z3a, rd_wr_ne _ _ (by omega)]; exact c57'.1, by rw [z42]; exact c57'.2.2.2.1⟩
  rw [TC_whil]
  exact ⟨z1a.kp kp24 (by omega) (by omega) (by omega), TC.kp ga tca kp34 (by omega) (by omega) (by omega) (by omega), z1b.kp kp24 (by omega) (by omega), z57.kp kp4 (by omega) (by omega), z4⟩
theorem RunB.ite {S : Tks} {P : Pgm} {D : List Int32 → Prop} {num : List Int32 → Nat} {C : Cx} {c mt N en : Nat} {v1 v2 : Int32} {k2 : Nat → Int32 → pH → Option (Int32 × pH)} {k23 : Nat → Int32 → Int32 → pH → Option (Int32 × pH)} (hN : 1100 ≤ N) (h5 : P.P5) (hn : P.n ≤ 400) (hc : c < P.n) (hen : en < 3000) (hm : P.tOk mt) (hm5 : mt ≠ 5) (hC : ∀ w, S.K w = 22 → D (P.1 w) ∧ C.2.1 w = Int32.ofNat (num (P.1 w))) {p n ff : Nat} {x a b r : Tr} (hff : ff = 1 ∨ (ff = 0 ∧ b = nl)) (ox : Ox S x) (ga : GK S n a) (gb : GK S n b) (gr : GK S n r) (RBa : RunB S P D num C c mt N v1 v2 k2 k23 en a) (RBb : RunB S P D num C c mt N v1 v2 k2 k23 en b) (RBr : RunB S P D num C c mt N v1 v2 k2 k23 en r) : RunB S P D num C c mt N v1 v2 k2 k23 en (bIte p x a ff b r) := by
  intro E s M X d f o h q cbk hb hd hv
  have hcb : cb (bIte p x a ff b r) = cl x + 1 + cb a + 1 + (if ff = 1 then cb b + 1 else 0) + cb r := cb_ite _ _ _ _ _ _
  have hnv : nv (bIte p x a ff b r) = nv a + nv b + nv r := rfl
  have hdp : dp (bIte p x a ff b r) = max (max (dp a) (dp b) + 1) (dp r) := rfl
  rw [hcb] at hb ⊢
  rw [hnv] at hv
  rw [hdp] at hd
  have hd1 : d + 1 + dp a ≤ 31 := by omega
  have hd3 : d + 1 + dp b ≤ 31 := by omega
  have hd2 : d + dp r ≤ 31 := by omega
  rw [CB_ite] at cbk
  obtain ⟨c0, ca, cif, cr⟩ := cbk
  rcases hff with rfl | ⟨rfl, _⟩
  · rw [if_pos rfl] at hb cif cr ⊢
    obtain ⟨c1, ⟨p2, c54⟩, cbb, ⟨p4, c56⟩⟩ := cif
    rw [Pgm.chk_ite, show f + (cl x + 1 + cb a + 1 + (cb b + 1) + cb r) = f + cb r + 1 + cb b + 1 + cb a + (cl x + 1) by omega, show s + (cl x + 1 + cb a + 1 + (cb b + 1) + cb r) = s + cl x + 1 + cb a + 1 + (cb b + 1) + cb r by omega]
    refine BlS.bind (by omega) (BlS.cond (f := f + cb r + 1 + cb b + 1 + cb a) hN h5 hn hc hen hm hm5 hC (Or.inl rfl) ox q (by omega) c0 c1 (by omega)) (fun E' h1 M1 X1 hE tb1 m1 x1 z1 g1 => ?_)
    rw [(Pgm.bcE_some (oS_inr hE)).1] at tb1
    obtain ⟨z1a, z1b, z1c, kp1⟩ := z1
    refine BlS.bind (by omega) (BlS.inner (s := s) (f := f + cb r + 1 + cb b + 1) (by omega) ga RBa tb1 (CB.kp ga ca kp1 (Nat.le_refl _) (by omega)) (by omega) hd1 (by omega) (by omega)) (fun E1 h2 M2 X2 hE1 tb2 m2 x2 z2 g2 => ?_)
    obtain ⟨tca, kp2, kp2', ks2, ts2⟩ := z2
    have c54' := QC.kp (QC.kp c54 kp1 (by omega) (by omega)) kp2' (by omega) (by omega)
    have tb2' := tb2.w44 (s + cl x + 1 + cb a)
    refine BlS.bind (o := oS 0 (some E)) (f := fun _ => sB (P.chk c mt b E) fun E2 => P.chk c mt r (E.join E1 E2)) (t := s + cl x + 1 + cb a + 1) (by omega) (BlS.one (s := s) (f := f + cb r + 1 + cb b) (p := 0) tb2 (by omega) hen (by omega) c54'.1 (fun z => by cases z) (fine_54 (N := N) tb2'.1.1 tb2'.1.2.1 tb2'.1.2.2.1 tb2'.2.2 (by omega) (ks2 E z1c).w44 (Pgm.chk_pfx n a E E1 ga hE1).1)) (fun E3 h3 M3 X3 hE3 tb3 m3 x3 z3 g3 => ?_)
    rw [← Option.some.inj (oS_inr hE3)] at tb3
    obtain ⟨⟨z3a, z3b, z3c⟩, kp3, kp3', z42, z45⟩ := z3
    have kpb : Kp (s + cl x + 1 + cb a + 1) 4000 h h3 := ((kp1.sub (by omega) (Nat.le_refl _)).trans kp2' (by omega) (Nat.le_refl _)).trans kp3' (by omega) (Nat.le_refl _)
    refine BlS.bind (by omega) (BlS.inner (s := s) (f := f + cb r + 1) (by omega) gb RBb tb3 (CB.kp gb cbb kpb (Nat.le_refl _) (by omega)) (by omega) hd3 (by omega) (by omega)) (fun E2 h4 M4 X4 hE2 tb4 m4 x4 z4 g4 => ?_)
    obtain ⟨tcb, kp4, kp4', ks4, ts4⟩ := z4
    have c56' := QC.kp (QC.kp c56 kpb (by omega) (by omega)) kp4' (by omega) (by omega)
    have tb4' := tb4.w44 (s + cl x + 1 + cb a + 1 + cb b)
    refine BlS.bind (o := oS 0 (some (E.join E1 E2))) (f := fun _ => P.chk c mt r (E.join E1 E2)) (t := s + cl x + 1 + cb a + 1 + cb b + 1) (by omega) (BlS.one (s := s) (f := f + cb r) (p := 0) tb4 (by omega) hen (by omega) c56'.1 (fun z => by cases z) (fine_56 (N := N) hN (Or.inl rfl) tb4'.1.1 tb4'.1.2.1 tb4'.1.2.2.1 tb4'.2.2 (by omega) (ks4 E z3b).w44 (ts4 E1 _ z3c).w44 (Pgm.chk_pfx n b E E2 gb hE2).1)) (fun E5 h5' M5 X5 hE5 tb5 m5 x5 z5 g5 => ?_)
    rw [← Option.some.inj (oS_inr hE5)] at tb5
    obtain ⟨z5a, kp5, kp5', z52, z55⟩ := z5
    have kpr : Kp (s + cl x + 1 + cb a + 1 + cb b + 1) 4000 h h5' := ((kpb.sub (by omega) (Nat.le_refl _)).trans kp4' (by omega) (Nat.le_refl _)).trans kp5' (by omega) (Nat.le_refl _)
    refine (RBr (E.join E1 E2) (s + cl x + 1 + cb a + 1 + (cb b + 1)) M5 X5 d f o h5' tb5 (CB.kp gr cr kpr (by omega) (by omega)) (by omega) hd2 (by show E.1.length + nv r ≤ 999; omega)).low (by omega) (Nat.le_refl _) (Nat.le_refl _) (fun E6 M6 X6 h6 _ m6 x6 _ z6 g6 => ?_)
    have kp6 : Kp 0 (s + cl x + 1 + cb a + 1 + cb b + 1) h5' h6 := Kp.of g6 (Or.inl (by omega))
    have kp56 : Kp 0 (s + cl x + 1 + cb a + 1 + cb b) h4 h6 := kp5.trans kp6 (by omega) (by omega)
    have kp36 : Kp 0 (s + cl x + 1 + cb a + 1) h3 h6 := kp4.trans kp56 (by omega) (by omega)
    have kp26 : Kp 0 (s + cl x + 1 + cb a) h2 h6 := kp3.trans kp36 (by omega) (by omega)
    have kp16 : Kp 0 (s + cl x + 1) h1 h6 := kp2.trans kp26 (by omega) (by omega)
    have z54 : Ts h3 (s + cl x + 1 + cb a) 54 (s + cl x + 1 + cb a + 1 + cb b) := ⟨by rw [z3a, rd_wr_ne _ _ (by omega)]; exact c54'.1, by rw [z42]; exact c54'.2.2.2.1⟩
    have z56 : Ts h5' (s + cl x + 1 + cb a + 1 + cb b) 56 0 := ⟨by rw [z5a, rd_wr_ne _ _ (by omega)]; exact c56'.1, by rw [z52]; exact c56'.2.2.2.1⟩
    rw [TC_ite, if_pos rfl]
    exact ⟨z1a.kp kp16 (by omega) (by omega) (by omega), TC.kp ga tca kp26 (by omega) (by omega) (by omega) (by omega), z1b.kp kp16 (by omega) (by omega), z54.kp kp36 (by omega) (by omega), TC.kp gb tcb kp56 (by omega) (by omega) (by omega) (by omega), z56.kp kp6 (by omega) (by omega), fun F1 F2 u1 u2 => by
      rw [hE1] at u1
      rw [hE2] at u2
      injection u1 with u1
      injection u2 with u2
      rw [← u1, ← u2]
      exact z6⟩
  · rw [if_neg (by decide)] at hb cif cr ⊢
    obtain ⟨c1, ⟨p2, c55⟩⟩ := cif
    rw [Pgm.chk_ite, show f + (cl x + 1 + cb a + 1 + 0 + cb r) = f + cb r + 1 + cb a + (cl x + 1) by omega, show s + (cl x + 1 + cb a + 1 + 0 + cb r) = s + cl x + 1 + cb a + 1 + cb r by omega]
    refine BlS.bind (by omega) (BlS.cond (f := f + cb r + 1 + cb a) hN h5 hn hc hen hm hm5 hC (Or.inl rfl) ox q (by omega) c0 c1 (by omega)) (fun E' h1 M1 X1 hE tb1 m1 x1 z1 g1 => ?_)
    rw [(Pgm.bcE_some (oS_inr hE)).1] at tb1
    obtain ⟨z1a, z1b, z1c, kp1⟩ := z1
    refine BlS.bind (by omega) (BlS.inner (s := s) (f := f + cb r + 1) (by omega) ga RBa tb1 (CB.kp ga ca kp1 (Nat.le_refl _) (by omega)) (by omega) hd1 (by omega) (by omega)) (fun E1 h2 M2 X2 hE1 tb2 m2 x2 z2 g2 => ?_)
    obtain ⟨tca, kp2, kp2', ks2, ts2⟩ := z2
    have c55' := QC.kp (QC.kp c55 kp1 (by omega) (by omega)) kp2' (by omega) (by omega)
    have tb2' := tb2.w44 (s + cl x + 1 + cb a)
    refine BlS.bind (o := oS 0 (some E)) (f := fun _ => P.chk c mt r E) (t := s + cl x + 1 + cb a + 1) (by omega) (BlS.one (s := s) (f := f + cb r) (p := 0) tb2 (by omega) hen (by omega) c55'.1 (fun z => by cases z) (fine_55 (N := N) (Or.inl rfl) tb2'.1.1 tb2'.1.2.1 tb2'.1.2.2.1 tb2'.2.2 (by omega) (ks2 E z1c).w44 (Pgm.chk_pfx n a E E1 ga hE1).1)) (fun E3 h3 M3 X3 hE3 tb3 m3 x3 z3 g3 => ?_)
    rw [← Option.some.inj (oS_inr hE3)] at tb3
    obtain ⟨z3a, kp3, kp3', z42, z45⟩ := z3
    have kpr : Kp (s + cl x + 1 + cb a + 1) 4000 h h3 := ((kp1.sub (by omega) (Nat.le_refl _)).trans kp2' (by omega) (Nat.le_refl _)).trans kp3' (by omega) (Nat.le_refl _)
    refine (RBr E _ M3 X3 d f o h3 tb3 (CB.kp gr cr kpr (Nat.le_refl _) (by omega)) (by omega) hd2 (by omega)).low (by omega) (Nat.le_refl _) (Nat.le_refl _) (fun E4 M4 X4 h4 _ m4 x4 _ z4 g4 => ?_)
    have kp4 : Kp 0 (s + cl x + 1 + cb a + 1) h3 h4 := Kp.of g4 (Or.inl (Nat.le_refl _))
    have kp34 : Kp 0 (s + cl x + 1 + cb a) h2 h4 := kp3.trans kp4 (by omega) (by omega)
    have kp24 : Kp 0 (s + cl x + 1) h1 h4 := kp2.trans kp34 (by omega) (by omega)
    have z55' : Ts h3 (s + cl x + 1 + cb a) 55 0 := ⟨by rw [z3a, rd_wr_ne _ _ (by omega)]; exact c55'.1, by rw [z42]; exact c55'.2.2.2.1⟩
    rw [TC_ite, if_neg (by decide)]
    exact ⟨z1a.kp kp24 (by omega) (by omega) (by omega), TC.kp ga tca kp34 (by omega) (by omega) (by omega) (by omega), z1b.kp kp24 (by omega) (by omega), z55'.kp kp4 (by omega) (by omega), z4⟩
theorem RunB.try_ {S : Tks} {P : Pgm} {D : List Int32 → Prop} {num : List Int32 → Nat} {C : Cx} {c mt N en : Nat} {v1 v2 : Int32} {k2 : Nat → Int32 → pH → Option (Int32 × pH)} {k23 : Nat → Int32 → Int32 → pH → Option (Int32 × pH)} (hN : 1100 ≤ N) (h5 : P.P5) (hn : P.n ≤ 400) (hc : c < P.n) (hen : en < 3000) (hm : P.tOk mt) (hm5 : mt ≠ 5) (hC : ∀ w, S.K w = 22 → D (P.1 w) ∧ C.2.1 w = Int32.ofNat (num (P.1 w))) {p n cw w : Nat} {a b r : Tr} (hcw : S.K cw = 22) (hw : S.K w = 22) (ga : GK S n a) (gb : GK S n b) (gr : GK S n r) (RBa : RunB S P D num C c mt N v1 v2 k2 k23 en a) (RBb : RunB S P D num C c mt N v1 v2 k2 k23 en b) (RBr : RunB S P D num C c mt N v1 v2 k2 k23 en r) : RunB S P D num C c mt N v1 v2 k2 k23 en (bTry p a cw w b r) := by
  intro E s M X d f o h q cbk hb hd hv
  have hcb : cb (bTry p a cw w b r) = 1 + cb a + 1 + cb b + 1 + cb r := cb_try _ _ _ _ _ _
  have hnv : nv (bTry p a cw w b r) = 1 + nv a + nv b + nv r := rfl
  have hdp : dp (bTry p a cw w b r) = max (max (dp a) (dp b) + 1) (dp r) := rfl
  rw [hcb] at hb ⊢
  rw [hnv] at hv
  rw [hdp] at hd
  have hd1 : d + 1 + dp a ≤ 31 := by omega
  have hd3 : d + 1 + dp b ≤ 31 := by omega
  have hd2 : d + dp r ≤ 31 := by omega
  rw [CB_try] at cbk
  obtain ⟨c0, ca, c59, cbb, ⟨p4, c60⟩, cr⟩ := cbk
  obtain ⟨w1, w2⟩ := hC w hw
  obtain ⟨u1, u2⟩ := hC cw hcw
  have tb0 := q.w44 s
  rw [Pgm.chk_try, show f + (1 + cb a + 1 + cb b + 1 + cb r) = f + cb r + 1 + cb b + 1 + cb a + 1 by omega, show s + (1 + cb a + 1 + cb b + 1 + cb r) = s + 1 + cb a + 1 + cb b + 1 + cb r by omega]
  refine BlS.bind (o := oS 0 (some E)) (f := fun _ => sB (P.chk c mt a E) fun E1 => sB (oS p (P.ctE E cw w)) fun E0 => sB (P.chk c mt b E0) fun E2 => P.chk c mt r (E.join E1 E2)) (t := s + 1) (by omega) (BlS.one (s := s) (f := f + cb r + 1 + cb b + 1 + cb a) (p := 0) q (by omega) hen (by omega) c0.1 (fun z => by cases z) (fine_58 (N := N) tb0.1.1 tb0.1.2.1 tb0.1.2.2.1 tb0.2.2 (by omega))) (fun E' h1 M1 X1 hE tb1 m1 x1 z1 g1 => ?_)
  rw [← Option.some.inj (oS_inr hE)] at tb1
  obtain ⟨⟨z1a, z1b, z1c⟩, _, kp1, z142, z145⟩ := z1
  refine BlS.bind (by omega) (BlS.inner (s := s) (f := f + cb r + 1 + cb b + 1) (by omega) ga RBa tb1 (CB.kp ga ca kp1 (Nat.le_refl _) (by omega)) (by omega) hd1 (by omega) (by omega)) (fun E1 h2 M2 X2 hE1 tb2 m2 x2 z2 g2 => ?_)
  obtain ⟨tca, kp2, kp2', ks2, ts2⟩ := z2
  have c59' := QC.kp (QC.kp c59 kp1 (by omega) (by omega)) kp2' (by omega) (by omega)
  have tb2' := tb2.w44 (s + 1 + cb a)
  refine BlS.bind (t := s + 1 + cb a + 1) (by omega) (BlS.one (s := s) (f := f + cb r + 1 + cb b) (p := p) tb2 (by omega) hen (by omega) c59'.1 (fun _ => c59'.2.2.2.2.1) (fine_59 (N := N) (cw := cw) (w := w) hN tb2'.1.1 tb2'.1.2.1 tb2'.1.2.2.1 tb2'.2.2 (by omega) (ks2 E z1c).w44 (Pgm.chk_pfx n a E E1 ga hE1).1 (by omega) u1 w1 (by rw [rd_wr_ne _ _ (by omega), c59'.2.1]; exact u2) (by rw [rd_wr_ne _ _ (by omega), c59'.2.2.1]; exact w2) (by omega))) (fun E0 h3 M3 X3 hE3 tb3 m3 x3 z3 g3 => ?_)
  obtain ⟨⟨z3a, z3d, z3e, z3b, z3c⟩, kp3, kp3', z42, z45⟩ := z3
  have hct := oS_inr hE3
  obtain ⟨dd, hdd, hfn, hE0⟩ := Pgm.ctE_some hct
  have hl0 : E0.1.length = E.1.length + 1 := by rw [hE0, EnvV.add_len]
  have kpb : Kp (s + 1 + cb a + 1) 4000 h h3 := ((kp1.sub (by omega) (Nat.le_refl _)).trans kp2' (by omega) (Nat.le_refl _)).trans kp3' (by omega) (Nat.le_refl _)
  refine BlS.bind (by omega) (BlS.inner (s := s) (f := f + cb r + 1) (by omega) gb RBb tb3 (CB.kp gb cbb kpb (Nat.le_refl _) (by omega)) (by omega) hd3 (by omega) (by omega)) (fun E2 h4 M4 X4 hE2 tb4 m4 x4 z4 g4 => ?_)
  obtain ⟨tcb, kp4, kp4', ks4, ts4⟩ := z4
  have c60' := QC.kp (QC.kp c60 kpb (by omega) (by omega)) kp4' (by omega) (by omega)
  have tb4' := tb4.w44 (s + 1 + cb a + 1 + cb b)
  have pf : Pfx E E2 := Pfx.trans (by rw [hE0]; exact Pfx.add _ _ _ _) (Pgm.chk_pfx n b E0 E2 gb hE2).1
  refine BlS.bind (o := oS 0 (some (E.join E1 E2))) (f := fun _ => P.chk c mt r (E.join E1 E2)) (t := s + 1 + cb a + 1 + cb b + 1) (by omega) (BlS.one (s := s) (f := f + cb r) (p := 0) tb4 (by omega) hen (by omega) c60'.1 (fun z => by cases z) (fine_56 (N := N) hN (Or.inr rfl) tb4'.1.1 tb4'.1.2.1 tb4'.1.2.2.1 tb4'.2.2 (by omega) (ks4 E z3b).w44 (ts4 E1 _ z3c).w44 pf)) (fun E5 h5' M5 X5 hE5 tb5 m5 x5 z5 g5 => ?_)
  rw [← Option.some.inj (oS_inr hE5)] at tb5
  obtain ⟨z5a, kp5, kp5', z52, z55⟩ := z5
  have kpr : Kp (s + 1 + cb a + 1 + cb b + 1) 4000 h h5' := ((kpb.sub (by omega) (Nat.le_refl _)).trans kp4' (by omega) (Nat.le_refl _)).trans kp5' (by omega) (Nat.le_refl _)
  refine (RBr (E.join E1 E2) (s + 1 + cb a + 1 + cb b + 1) M5 X5 d f o h5' tb5 (CB.kp gr cr kpr (by omega) (by omega)) (by omega) hd2 (by show E.1.length + nv r ≤ 999; omega)).low (by omega) (Nat.le_refl _) (Nat.le_refl _) (fun E6 M6 X6 h6 _ m6 x6 _ z6 g6 => ?_)
  have kp6 : Kp 0 (s + 1 + cb a + 1 + cb b + 1) h5' h6 := Kp.of g6 (Or.inl (by omega))
  have kp56 : Kp 0 (s + 1 + cb a + 1 + cb b) h4 h6 := kp5.trans kp6 (by omega) (by omega)
  have kp36 : Kp 0 (s + 1 + cb a + 1) h3 h6 := kp4.trans kp56 (by omega) (by omega)
  have kp26 : Kp 0 (s + 1 + cb a) h2 h6 := kp3.trans kp36 (by omega) (by omega)
  have kp16 : Kp 0 (s + 1) h1 h6 := kp2.trans kp26 (by omega) (by omega)
  have z59 : Ts h3 (s + 1 + cb a) 59 (s + 1 + cb a + 1 + cb b) := ⟨by rw [z3a, rd_wr_ne _ _ (by omega)]; exact c59'.1, by rw [z42]; exact c59'.2.2.2.1⟩
  have z60 : Ts h5' (s + 1 + cb a + 1 + cb b) 60 0 := ⟨by rw [z5a, rd_wr_ne _ _ (by omega)]; exact c60'.1, by rw [z52]; exact c60'.2.2.2.1⟩
  have hM3 := tb3.1.2.1.2.2.1
  rw [TC_try]
  refine ⟨⟨?_, ?_, ?_⟩, TC.kp ga tca kp26 (by omega) (by omega) (by omega) (by omega), fun d2 F0 v1 v2 => ?_⟩
  · rw [kp16 _ _ (by omega) (by omega) (by omega) (by omega), z1a, rd_wr_ne _ _ (by omega)]; exact c0.1
  · rw [kp16 _ _ (by omega) (by omega) (by omega) (by omega), z1b, rd_wr_ne _ _ (by omega)]; exact c0.2.1
  · rw [kp16 _ _ (by omega) (by omega) (by omega) (by omega), z145]; exact c0.2.2.2.2.2
  · rw [hdd] at v1
    obtain rfl := Option.some.inj v1
    rw [hct] at v2
    obtain rfl := Option.some.inj v2
    refine ⟨z59.kp kp36 (by omega) (by omega), ?_, ?_, by omega, TC.kp gb tcb kp56 (by omega) (by omega) (by omega) (by omega), z60.kp kp6 (by omega) (by omega), fun F1 F2 u1 u2 => ?_⟩
    · rw [kp36 _ _ (by omega) (by omega) (by omega) (by omega), z3d, hdd]; rfl
    · rw [kp36 _ _ (by omega) (by omega) (by omega) (by omega), z3e]
    · rw [hE1] at u1
      rw [hE2] at u2
      injection u1 with u1
      injection u2 with u2
      rw [← u1, ← u2]
      exact z6
theorem RunB.all {S : Tks} {P : Pgm} {D : List Int32 → Prop} {num : List Int32 → Nat} {C : Cx} {c mt N en : Nat} {v1 v2 : Int32} {k2 : Nat → Int32 → pH → Option (Int32 × pH)} {k23 : Nat → Int32 → Int32 → pH → Option (Int32 × pH)} (hN : 1100 ≤ N) (h5 : P.P5) (hn : P.n ≤ 400) (hc : c < P.n) (hen : en < 3000) (hm : P.tOk mt) (hm5 : mt ≠ 5) (hC : ∀ w, S.K w = 22 → D (P.1 w) ∧ C.2.1 w = Int32.ofNat (num (P.1 w))) : ∀ (n : Nat) (e : Tr), GK S n e → RunB S P D num C c mt N v1 v2 k2 k23 en e
  | 0, e, hk => by
    rw [show e = nl from hk]
    exact RunB.zero
  | n + 1, e, hk => by
    have IH := RunB.all hN h5 hn hc hen hm hm5 hC (v1 := v1) (v2 := v2) (k2 := k2) (k23 := k23) n
    rcases hk with rfl | ⟨p, y, w, r, rfl, g1, g2, hr⟩ | ⟨p, y, w, x, r, rfl, g1, g2, g3, hr⟩ | ⟨p, k, x, r, rfl, hk, hr⟩ | ⟨p, x, y, r, rfl, g1, g2, g3, hr⟩ | ⟨p, x, a, f, b, r, rfl, hf, g1, ha, hb, hr⟩ | ⟨p, x, a, r, rfl, g1, ha, hr⟩ | ⟨p, a, cw, w, b, r, rfl, g1, g2, ha, hb, hr⟩
    · exact RunB.zero
    · exact RunB.tell hN h5 hn hc hen hm hm5 hC g1 g2 hr (IH r hr)
    · exact RunB.tellv hN h5 hn hc hen hm hm5 hC g1 g2 g3 hr (IH r hr)
    · exact RunB.work hN h5 hn hc hen hm hm5 hC hk hr (IH r hr)
    · exact RunB.give hN h5 hn hc hen hm hm5 hC g1 g2 g3 hr (IH r hr)
    · exact RunB.ite hN h5 hn hc hen hm hm5 hC hf g1 ha hb hr (IH a ha) (IH b hb) (IH r hr)
    · exact RunB.whil hN h5 hn hc hen hm hm5 hC g1 ha hr (IH a ha) (IH r hr)
    · exact RunB.try_ hN h5 hn hc hen hm hm5 hC g1 g2 ha hb hr (IH a ha) (IH b hb) (IH r hr)
