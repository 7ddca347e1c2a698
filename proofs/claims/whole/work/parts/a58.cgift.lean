/-! ===== THE CLASS' TYPER: gifts and works ===== -/
def Pgm.moO (P : Pgm) : Option Nat → Int32
  | none => 0
  | some m => Int32.ofNat (P.mo m)
/-- the kind and the number that a gift becomes -/
def Pgm.gvK (P : Pgm) (c : Nat) (E : EnvV) (k : Nat) (w : List Int32) (l : List Nat) : Int32 × Int32 :=
  if k = 31 then (match E.fnd w with
    | some i => (32, Int32.ofNat i)
    | none => (33, P.moO (P.fldT w (10 + c))))
  else if k = 34 then (35, P.moO (P.fldT w (lget l 0)))
  else (36, 0)
theorem ctI_e3 {P : Pgm} (hn : P.n ≤ 400) {t : Nat} (ht : P.tOk t) {α : Type} (x y : α) : (if ctI t = -4 then x else y) = if t = 3 then x else y := by rw [← ct3]; exact ctI_is hn ht (by omega) x y
theorem CK.giveF {P : Pgm} {D : List Int32 → Prop} {num : List Int32 → Nat} {E : EnvV} {M X N i t u : Nat} {w : List Int32} {x : Int32} {h : pH} (hN : 1100 ≤ N) (q : CK P D num h) (qe : CSc P D num E M h) (qs : CSt P [] X h) (hi : i < 3100) (hw : D w) (h40 : rd h 40 i = Int32.ofNat (num w)) (hu : P.tOk u) (ht : P.tOk t) (h5 : t ≠ 5) : FnS P D num M X i (fun h' => rd h' 39 i = x ∧ rd h' 40 i = P.moO (P.fldT w u)) (if P.subO t (P.fldT w u) = true then some E else none) ((fX9_fieldType N 51 (Int32.ofNat i) (ctI u) x h).bind fun q9 => (fX9_fits N 51 (ctI t) q9.1 q9.2).bind fun q10 => if pRet .boolean q10.1 = true then some (q10.1, q10.2) else none) h := by
  have hs := q.1.1
  have ft := CK.fieldType (x := x) hN q hw hi h40 hu
  rw [ft]
  rcases hm : P.fldT w u with _ | m
  · rw [Option.bind_some]
    dsimp only
    rw [show (-6 : Int32) = ctI 5 from ct5.symm, q.fits hN ht (Or.inl (by omega)) h5, Pgm.sub_5 h5, Option.bind_some]
    exact ⟨h, if_pos (pRet_01 (Or.inl rfl)), Chg.refl _ _⟩
  · rw [Option.bind_some]
    dsimp only
    have hs1 := hs.wr 39 i x
    have g : Chg (fun a k => (a = 39 ∨ a = 40) ∧ k = i) h (wr (wr h 39 i x) 40 i (Int32.ofNat (P.mo m))) := (Chg.wr _ _ _ _ (by omega)).trans (Chg.wr _ _ _ _ (by omega))
    have gt : Chg (tlA i) h (wr (wr h 39 i x) 40 i (Int32.ofNat (P.mo m))) := g.mono (fun a k z => by unfold tlA; omega)
    rw [(q.chg gt tlA.ck).fits hN ht (q.type (Pgm.fldT_at hm).1).2 h5, Option.bind_some]
    show FnS P D num M X i _ (if P.sub t (P.mty m) = true then some E else none) _ h
    cases P.sub t (P.mty m) with
    | false => exact ⟨_, if_pos (pRet_01 (Or.inl rfl)), gt⟩
    | true => exact ⟨_, M, if_pos (pRet_01 (Or.inr rfl)), qe.chg g (fun a k z => by omega), qs.chg g (fun a k z => by omega), Nat.le_refl _, ⟨by rw [rd_wr_ne _ _ (by omega), W_39 hs], W_40 hs1 _ _⟩, gt⟩
theorem fine_31 {P : Pgm} {D : List Int32 → Prop} {num : List Int32 → Nat} {E : EnvV} {M X N i c t : Nat} {w : List Int32} {l : List Nat} {h : pH} (hN : 1100 ≤ N) (q : CK P D num h) (qe : CSc P D num E M h) (qs : CSt P ([] ++ [t]) X h) (h7 : rd h 51 7 = Int32.ofNat c) (hc : c < P.n) (hi : i < 3100) (hw : D w) (h40 : rd h 40 i = Int32.ofNat (num w)) : FnS P D num M X i (fun h' => rd h' 39 i = (P.gvK c E 31 w l).1 ∧ rd h' 40 i = (P.gvK c E 31 w l).2) (P.gvX c E 31 w l t) (fX9_isFine N 51 (Int32.ofNat i) (Int32.ofNat 31) h) h := by
  have hs := q.1.1
  obtain ⟨h1, e1, e2, t1, t2, g, s1⟩ := CSt.pop1 (N := N) hs qs
  have gt : Chg (tlA i) h h1 := g.mono (fun a k z => Or.inl z)
  have q1 := q.chg gt tlA.ck
  have qe1 := qe.chg g (fun a k z => by unfold pyA; omega)
  have fd := qe1.find hN s1 q1.1.2.1 q1.1.2.2.1 hw
  have h41 : rd h1 40 i = Int32.ofNat (num w) := by rw [g.2.2.1 _ _ (by unfold pyA; omega)]; exact h40
  have h71 : rd h1 51 7 = Int32.ofNat c := by rw [g.2.2.1 _ _ (by unfold pyA; omega)]; exact h7
  unfold fX9_isFine
  rw [if_pos (o_51 hs)]
  refine FnS.wrap ?_
  unfold fX9_isGiftFine
  rw [if_pos (o_51 hs)]
  show FnS P D num M X i _ _ ((fX9_pop N 51 h).bind fun q2 => (fX9_isGivenNameFine N 51 (Int32.ofNat i) q2.1 q2.2).bind fun q6 => if pRet .boolean q6.1 = true then some (q6.1, q6.2) else none) h
  rw [e1, Option.bind_some]
  dsimp only
  refine FnS.wrap ?_
  refine FnS.low (h := h1) (Z := fun h' => rd h' 39 i = (P.gvK c E 31 w l).1 ∧ rd h' 40 i = (P.gvK c E 31 w l).2) ?_ gt (fun _ z => z)
  unfold fX9_isGivenNameFine
  rw [if_pos (o_51 s1), R_51_3 s1, Option.bind_some, R_51_2 s1, Option.bind_some, R_38_1 s1, Option.bind_some, L_40 s1 hi, Option.bind_some, h41, fd, Option.bind_some]
  dsimp only
  rw [isNone_kI (fun e he => by have := (EnvV.fnd_lt he).1; have := qe1.2.2.1; have := qe1.2.2.2.1; omega)]
  unfold Pgm.gvX Pgm.gvK
  rw [if_pos rfl, if_pos rfl]
  rcases hf : E.fnd w with _ | j
  · rw [if_pos (show (none : Option Nat).isNone = true from rfl), g_51_7 s1, Option.bind_some, h71]
    have G := CK.giveF (N := N) (x := 33) (u := 10 + c) hN q1 qe1 e2 hi hw h41 (Or.inr ⟨by omega, by omega⟩) t1 t2
    rw [ctI_cls (by omega), show 10 + c - 10 = c by omega] at G
    exact G
  · obtain ⟨j1, j2⟩ := EnvV.fnd_lt hf
    have hx : E.1[j]? = some (E.1[j]'j1) := List.getElem?_eq_getElem j1
    generalize E.1[j]'j1 = x at hx
    have hty := (EnvV.nm_get hx).2
    have hs1 := s1.wr 39 i 32
    have hs2 := hs1.wr 40 i (Int32.ofNat j)
    have g0 : Chg (fun a k => (a = 39 ∨ a = 40) ∧ k = i) h1 (wr (wr h1 39 i 32) 40 i (Int32.ofNat j)) := (Chg.wr _ _ _ _ (by omega)).trans (Chg.wr _ _ _ _ (by omega))
    obtain ⟨h3, f1, f2, g3⟩ := CSc.give (N := N) hs2 (qe1.chg g0 (fun a k z => by omega)) j1
    have hs3 : Sg h3 := hs2.of g3.1
    have g13 : Chg (tlA i) h1 h3 := (g0.mono (fun a k z => by unfold tlA; omega)).trans (g3.mono (fun a k z => by unfold tlA; omega))
    obtain ⟨a1, a2, a3, a4, a5⟩ := f2.2.2.2.2.1 j x hx
    have q3 := q1.chg g13 tlA.ck
    have hjl := f2.2.2.1
    have hjm := f2.2.2.2.1
    have hjE : E.1.length ≤ M := hjl
    rw [if_neg (show ¬ (some j).isNone = true from Bool.false_ne_true), show oI (-1) (some j) = Int32.ofNat j from rfl, R_51_2 s1, Option.bind_some, R_38_0 s1, Option.bind_some, T_39 s1 hi, Option.bind_some, R_51_2 hs1, Option.bind_some, R_38_1 hs1, Option.bind_some, T_40 hs1 hi, Option.bind_some, R_51_3 hs2, Option.bind_some, f1, Option.bind_some, R_51_0 hs3, Option.bind_some, R_51_3 hs3, Option.bind_some, R_52_1 hs3, Option.bind_some, L_54 hs3 (by omega), Option.bind_some, a3, q3.1.isSub q3.2.1 hN t1 a4 t2 a5, Option.bind_some]
    show FnS P D num M X i _ (if P.sub t (E.tyv j) = true then some (E.give j) else none) _ h1
    rw [hty]
    cases P.sub t x.2 with
    | false => exact ⟨_, if_pos (pRet_01 (Or.inl rfl)), g13⟩
    | true => exact ⟨_, M, if_pos (pRet_01 (Or.inr rfl)), f2, (e2.chg g0 (fun a k z => by omega)).chg g3 (fun a k z => by omega), Nat.le_refl _, ⟨by rw [g3.2.2.1 _ _ (by omega), rd_wr_ne _ _ (by omega), W_39 s1], by rw [g3.2.2.1 _ _ (by omega), W_40 hs1]⟩, g13⟩
theorem fine_34 {P : Pgm} {D : List Int32 → Prop} {num : List Int32 → Nat} {E : EnvV} {M X N i c t u : Nat} {w : List Int32} {h : pH} (hN : 1100 ≤ N) (q : CK P D num h) (qe : CSc P D num E M h) (qs : CSt P ([] ++ [u, t]) X h) (hi : i < 3100) (hw : D w) (h40 : rd h 40 i = Int32.ofNat (num w)) : FnS P D num M X i (fun h' => rd h' 39 i = (P.gvK c E 34 w [u]).1 ∧ rd h' 40 i = (P.gvK c E 34 w [u]).2) (P.gvX c E 34 w [u] t) (fX9_isFine N 51 (Int32.ofNat i) (Int32.ofNat 34) h) h := by
  have hs := q.1.1
  obtain ⟨h1, h2, e1, e2, e3, t1, t2, u1, u2, g, s1, s2, _⟩ := CSt.pop2 (N := N) hs qs
  have gt : Chg (tlA i) h h2 := g.mono (fun a k z => Or.inl z)
  have q1 := q.chg gt tlA.ck
  have qe1 := qe.chg g (fun a k z => by unfold pyA; omega)
  have h41 : rd h2 40 i = Int32.ofNat (num w) := by rw [g.2.2.1 _ _ (by unfold pyA; omega)]; exact h40
  unfold fX9_isFine
  rw [if_pos (o_51 hs)]
  refine FnS.wrap ?_
  unfold fX9_isGiftFine
  rw [if_pos (o_51 hs)]
  show FnS P D num M X i _ _ ((fX9_pop N 51 h).bind fun q2 => (fX9_pop N 51 q2.2).bind fun q8 => (fX9_fieldType N 51 (Int32.ofNat i) q8.1 (35 : Int32) q8.2).bind fun q9 => (fX9_fits N 51 q2.1 q9.1 q9.2).bind fun q10 => if pRet .boolean q10.1 = true then some (q10.1, q10.2) else none) h
  rw [e1, Option.bind_some]
  dsimp only
  rw [e2, Option.bind_some]
  dsimp only
  exact (CK.giveF (N := N) (x := 35) (u := u) hN q1 qe1 e3 hi hw h41 t1 u1 u2).low gt (fun _ z => z)
theorem fine_36 {P : Pgm} {D : List Int32 → Prop} {num : List Int32 → Nat} {E : EnvV} {M X N i c t a b : Nat} {w : List Int32} {h : pH} (hN : 1100 ≤ N) (q : CK P D num h) (qe : CSc P D num E M h) (qs : CSt P ([] ++ [a, b, t]) X h) (h40 : rd h 40 i = 0) (h39 : rd h 39 i = 36) : FnS P D num M X i (fun h' => rd h' 39 i = (P.gvK c E 36 w [a, b]).1 ∧ rd h' 40 i = (P.gvK c E 36 w [a, b]).2) (P.gvX c E 36 w [a, b] t) (fX9_isFine N 51 (Int32.ofNat i) (Int32.ofNat 36) h) h := by
  have hs := q.1.1
  have hn : P.n ≤ 400 := by have := q.1.2.2.2.2.2.1; omega
  obtain ⟨h1, e1, e2, t1, t2, g1, s1⟩ := CSt.pop1 (N := N) (σ := [a, b]) hs qs
  obtain ⟨h2, f1, f2, b1, b2, g2, s2⟩ := CSt.pop1 (N := N) (σ := [a]) s1 e2
  obtain ⟨h3, k1, k2, a1, a2, g3, s3⟩ := CSt.pop1 (N := N) (σ := []) s2 f2
  have gt1 : Chg (tlA i) h h1 := g1.mono (fun a k z => Or.inl z)
  have gt2 : Chg (tlA i) h h2 := gt1.trans (g2.mono (fun a k z => Or.inl z))
  have gt3 : Chg (tlA i) h h3 := gt2.trans (g3.mono (fun a k z => Or.inl z))
  have gp : Chg pyA h h3 := (g1.trans g2).trans g3
  have qe3 := qe.chg gp (fun a k z => by unfold pyA; omega)
  unfold fX9_isFine
  rw [if_pos (o_51 hs)]
  refine FnS.wrap ?_
  unfold fX9_isGiftFine
  rw [if_pos (o_51 hs)]
  show FnS P D num M X i _ _ ((fX9_pop N 51 h).bind fun q2 => if q2.1 = (-1 : Int32) then ((fX9_pop N 51 q2.2).bind fun q13 => if q13.1 = (-1 : Int32) then ((fX9_pop N 51 q13.2).bind fun q15 => if q15.1 = (-3 : Int32) then some ((1 : Int32), q15.2) else some ((0 : Int32), q15.2)) else some ((0 : Int32), q13.2)) else some ((0 : Int32), q2.2)) h
  rw [e1, Option.bind_some]
  dsimp only
  unfold Pgm.gvX Pgm.gvK
  rw [ctI_e0 hn t1, if_neg (by decide), if_neg (by decide), if_neg (by decide), if_neg (by decide)]
  by_cases z1 : t = 0
  · rw [if_pos z1, f1, Option.bind_some]
    dsimp only
    rw [ctI_e0 hn b1]
    by_cases z2 : b = 0
    · rw [if_pos z2, k1, Option.bind_some]
      dsimp only
      rw [ctI_e2 hn a1]
      by_cases z3 : a = 2
      · rw [if_pos z3, if_pos ⟨by rw [z2, z3], z1⟩]
        exact ⟨h3, M, rfl, qe3, k2, Nat.le_refl _, ⟨by rw [gp.2.2.1 _ _ (by unfold pyA; omega)]; exact h39, by rw [gp.2.2.1 _ _ (by unfold pyA; omega)]; exact h40⟩, gt3⟩
      · rw [if_neg z3, if_neg (fun u => z3 (by injection u.1))]
        exact ⟨h3, rfl, gt3⟩
    · rw [if_neg z2, if_neg (fun u => z2 (by injection u.1 with _ u; injection u))]
      exact ⟨h2, rfl, gt2⟩
  · rw [if_neg z1, if_neg (fun u => z1 u.2)]
    exact ⟨h1, rfl, gt1⟩
theorem fine_40 {P : Pgm} {D : List Int32 → Prop} {num : List Int32 → Nat} {E : EnvV} {M X N i mt : Nat} {h : pH} (q : CK P D num h) (qe : CSc P D num E M h) (qs : CSt P [] X h) (h8 : rd h 51 8 = ctI mt) (hm : P.tOk mt) : FnS P D num M X i (fun h' => rd h' 39 i = rd h 39 i ∧ rd h' 40 i = rd h 40 i) (if mt = 3 then some E.stop else none) (fX9_isFine N 51 (Int32.ofNat i) (Int32.ofNat 40) h) h := by
  have hs := q.1.1
  have hn : P.n ≤ 400 := by have := q.1.2.2.2.2.2.1; omega
  obtain ⟨h1, e1, e2, g1⟩ := CSc.stop (N := N) hs qe
  have hs1 : Sg h1 := hs.of g1.1
  have gt : Chg (tlA i) h h1 := g1.mono (fun a k z => by unfold tlA; omega)
  unfold fX9_isFine
  rw [if_pos (o_51 hs)]
  refine FnS.wrap ?_
  unfold fX9_isWorkFine
  rw [if_pos (o_51 hs)]
  show FnS P D num M X i _ _ ((getR h 51 9 3).bind fun t10 => (fX8_stop N t10 h).bind fun h11 => (getI h11 51 9 8).bind fun t12 => if t12 = (-4 : Int32) then some ((1 : Int32), h11) else some ((0 : Int32), h11)) h
  rw [R_51_3 hs, Option.bind_some, e1, Option.bind_some, g_51_8 hs1, Option.bind_some, g1.2.2.1 _ _ (by omega), h8, ctI_e3 hn hm]
  by_cases z : mt = 3
  · rw [if_pos z, if_pos z]
    exact ⟨h1, M, rfl, e2, qs.chg g1 (fun a k z => by omega), Nat.le_refl _, ⟨g1.2.2.1 _ _ (by omega), g1.2.2.1 _ _ (by omega)⟩, gt⟩
  · rw [if_neg z, if_neg z]
    exact ⟨h1, rfl, gt⟩
theorem fine_wk {P : Pgm} {D : List Int32 → Prop} {num : List Int32 → Nat} {E : EnvV} {M X N i mt t k : Nat} {h : pH} (hN : 1100 ≤ N) (hk : k = 41 ∨ k = 42 ∨ k = 43 ∨ k = 52) (q : CK P D num h) (qe : CSc P D num E M h) (qs : CSt P ([] ++ [t]) X h) (h8 : rd h 51 8 = ctI mt) (hm : P.tOk mt) (hm5 : mt ≠ 5) : FnS P D num M X i (fun h' => rd h' 39 i = rd h 39 i ∧ rd h' 40 i = rd h 40 i) (P.wkX mt E k t) (fX9_isFine N 51 (Int32.ofNat i) (Int32.ofNat k) h) h := by
  have hs := q.1.1
  have hn : P.n ≤ 400 := by have := q.1.2.2.2.2.2.1; omega
  obtain ⟨h1, e1, e2, g1⟩ := CSc.stop (N := N) hs qe
  have hs1 : Sg h1 := hs.of g1.1
  have gt1 : Chg (tlA i) h h1 := g1.mono (fun a k z => by unfold tlA; omega)
  obtain ⟨h2, f1, f2, t1, t2, g2, s2⟩ := CSt.pop1 (N := N) hs1 (qs.chg g1 (fun a k z => by omega))
  have gt2 : Chg (tlA i) h h2 := gt1.trans (g2.mono (fun a k z => Or.inl z))
  have qe2 := e2.chg g2 (fun a k z => by unfold pyA; omega)
  obtain ⟨h3, p1, p2, _, _, g3, s3⟩ := CSt.pop1 (N := N) hs qs
  have gt3 : Chg (tlA i) h h3 := g3.mono (fun a k z => Or.inl z)
  have qe3 := qe.chg g3 (fun a k z => by unfold pyA; omega)
  have z2 : rd h2 39 i = rd h 39 i ∧ rd h2 40 i = rd h 40 i := ⟨by rw [g2.2.2.1 _ _ (by unfold pyA; omega), g1.2.2.1 _ _ (by omega)], by rw [g2.2.2.1 _ _ (by unfold pyA; omega), g1.2.2.1 _ _ (by omega)]⟩
  have z3 : rd h3 39 i = rd h 39 i ∧ rd h3 40 i = rd h 40 i := ⟨g3.2.2.1 _ _ (by unfold pyA; omega), g3.2.2.1 _ _ (by unfold pyA; omega)⟩
  have h82 : rd h2 51 8 = ctI mt := by rw [g2.2.2.1 _ _ (by unfold pyA; omega), g1.2.2.1 _ _ (by omega)]; exact h8
  have q2 := q.chg gt2 tlA.ck
  unfold fX9_isFine
  rw [if_pos (o_51 hs)]
  rcases hk with rfl | rfl | rfl | rfl
  · refine FnS.wrap ?_
    unfold fX9_isWorkFine
    rw [if_pos (o_51 hs)]
    show FnS P D num M X i _ (if mt ≠ 3 ∧ P.sub t mt = true then some E.stop else none) ((getR h 51 9 3).bind fun t14 => (fX8_stop N t14 h).bind fun h15 => (getI h15 51 9 8).bind fun t16 => if t16 = (-4 : Int32) then some ((0 : Int32), h15) else ((getR h15 51 9 0).bind fun t18 => (fX9_pop N 51 h15).bind fun q19 => (getI q19.2 51 9 8).bind fun t20 => (fX1_isSub N t18 q19.1 t20 q19.2).bind fun q21 => if q21.1 = 0 then some ((0 : Int32), q21.2) else some ((1 : Int32), q21.2))) h
    rw [R_51_3 hs, Option.bind_some, e1, Option.bind_some, g_51_8 hs1, Option.bind_some, g1.2.2.1 _ _ (by omega), h8, ctI_e3 hn hm]
    by_cases z : mt = 3
    · rw [if_pos z, if_neg (fun u => u.1 z)]
      exact ⟨h1, rfl, gt1⟩
    · rw [if_neg z, R_51_0 hs1, Option.bind_some, f1, Option.bind_some]
      dsimp only
      rw [g_51_8 s2, Option.bind_some, h82, q2.1.isSub q2.2.1 hN t1 hm t2 hm5, Option.bind_some]
      dsimp only
      rw [kI_if]
      by_cases y : P.sub t mt = true
      · rw [if_pos y, if_pos ⟨z, y⟩]
        exact ⟨h2, M, rfl, qe2, f2, Nat.le_refl _, z2, gt2⟩
      · rw [if_neg y, if_neg (fun u => y u.2)]
        exact ⟨h2, rfl, gt2⟩
  · refine FnS.wrap ?_
    unfold fX9_isWorkFine
    rw [if_pos (o_51 hs)]
    show FnS P D num M X i _ (if 10 ≤ t then some E.stop else none) ((getR h 51 9 3).bind fun t23 => (fX8_stop N t23 h).bind fun h24 => (fX9_pop N 51 h24).bind fun q25 => if q25.1 < 0 then some ((0 : Int32), q25.2) else some ((1 : Int32), q25.2)) h
    rw [R_51_3 hs, Option.bind_some, e1, Option.bind_some, f1, Option.bind_some]
    dsimp only
    rw [ctI_neg hn t1]
    by_cases z : t < 10
    · rw [if_pos z, if_neg (by omega)]
      exact ⟨h2, rfl, gt2⟩
    · rw [if_neg z, if_pos (by omega)]
      exact ⟨h2, M, rfl, qe2, f2, Nat.le_refl _, z2, gt2⟩
  · refine FnS.wrap ?_
    unfold fX9_isWorkFine
    rw [if_pos (o_51 hs)]
    show FnS P D num M X i _ (if t = 0 ∨ t = 1 then some E else none) ((fX9_pop N 51 h).bind fun q27 => if q27.1 = (-1 : Int32) then some ((1 : Int32), q27.2) else if q27.1 = (-2 : Int32) then some ((1 : Int32), q27.2) else some ((0 : Int32), q27.2)) h
    rw [p1, Option.bind_some]
    dsimp only
    rw [ctI_e0 hn t1, ctI_e1 hn t1]
    by_cases y : t = 0
    · rw [if_pos y, if_pos (Or.inl y)]
      exact ⟨h3, M, rfl, qe3, p2, Nat.le_refl _, z3, gt3⟩
    · by_cases y1 : t = 1
      · rw [if_neg y, if_pos y1, if_pos (Or.inr y1)]
        exact ⟨h3, M, rfl, qe3, p2, Nat.le_refl _, z3, gt3⟩
      · rw [if_neg y, if_neg y1, if_neg (by omega)]
        exact ⟨h3, rfl, gt3⟩
  · refine FnS.wrap ?_
    unfold fX9_isSilentFine
    rw [if_pos (o_51 hs)]
    show FnS P D num M X i _ (some E) ((fX9_pop N 51 h).bind fun q23 => some ((1 : Int32), q23.2)) h
    rw [p1, Option.bind_some]
    exact ⟨h3, M, rfl, qe3, p2, Nat.le_refl _, z3, gt3⟩
