/-! ===== THE CLASS' TYPER: parts ===== -/
def Pgm.dotK (P : Pgm) (w : List Int32) (t : Nat) : Int32 × Int32 := if t = 2 ∧ w = knW 7 then (11, 28) else (10, match P.fldT w t with
  | some m => Int32.ofNat (P.mo m)
  | none => 0)
theorem CK.dotFine {P : Pgm} {D : List Int32 → Prop} {num : List Int32 → Nat} {σ : List Nat} {X N i t : Nat} {w : List Int32} {h : pH} (hN : 1100 ≤ N) (q : CK P D num h) (qs : CSt P (σ ++ [t]) X h) (hw : D w) (hi : i < 3100) (h40 : rd h 40 i = Int32.ofNat (num w)) : TyN P σ X i (P.dotK w t).1 (P.dotK w t).2 (P.dotT w t) (fX9_isDotFine N 51 (Int32.ofNat i) h) h := by
  have hn : P.n ≤ 400 := by have := q.1.2.2.2.2.2.1; omega
  have hl := qs.cons_len (fun z => by cases z)
  obtain ⟨h1, e1, e2, t1, t2, g, hs⟩ := CSt.pop1 (N := N) q.1.1 qs
  have q1 := q.chg g (fun a k z => by unfold ckA ctA at z; unfold pyA; omega)
  have r40 : rd h1 40 i = Int32.ofNat (num w) := by rw [g.2.2.1 _ _ (by unfold pyA; omega)]; exact h40
  obtain ⟨k7, n7⟩ := q.1.2.2.2.1 7 (by decide)
  have nl := q.1.2.2.1 w
  have e42 : ¬ (t = 2 ∧ w = knW 7) → TyN P σ X i (P.dotK w t).1 (P.dotK w t).2 (P.dotT w t) (fX9_isDotFine_42 N 51 (Int32.ofNat i) (ctI t) h1) h := fun z => by
    unfold fX9_isDotFine_42 Pgm.dotT Pgm.dotK
    rw [if_neg z, if_neg z, CK.fieldType hN q1 hw hi r40 t1]
    rcases hm : P.fldT w t with _ | m
    · rw [Option.bind_some]
      dsimp only
      rw [push5 hs, Option.bind_some]
      exact ⟨h1, if_pos (pRet_01 (Or.inl rfl)), g.mono (fun a k z => Or.inl z)⟩
    · rw [Option.bind_some]
      dsimp only
      have hs1 := (hs.wr 39 i 10).wr 40 i (Int32.ofNat (P.mo m))
      have g0 : Chg (fun a k => (a = 39 ∨ a = 40) ∧ k = i) h1 (wr (wr h1 39 i 10) 40 i (Int32.ofNat (P.mo m))) := (Chg.wr _ _ _ _ (by omega)).trans (Chg.wr _ _ _ _ (by omega))
      exact CSt.pushN (N := N) hn hs1 (e2.chg g0 (fun a k z => by omega)) (q.type (Pgm.fldT_at hm).1).2 hl ((g.mono (fun a k z => Or.inl z)).trans (g0.mono (fun a k z => Or.inr z))) (by rw [rd_wr_ne _ _ (by omega), W_39 hs]) (W_40 (hs.wr 39 i 10) _ _) wrap_push
  unfold fX9_isDotFine
  rw [if_pos (o_51 q.1.1), e1, Option.bind_some]
  dsimp only
  rw [ctI_e2 hn t1]
  by_cases z2 : t = 2
  · rw [if_pos z2, R_51_2 hs, Option.bind_some, R_38_1 hs, Option.bind_some, L_40 hs hi, Option.bind_some, r40, show (28 : Int32) = Int32.ofNat 28 from rfl, ifEq (by omega) (by omega)]
    by_cases z7 : w = knW 7
    · have hnw : num w = 28 := by rw [z7, n7]
      have hs1 := hs.wr 39 i 11
      have g0 : Chg (fun a k => (a = 39 ∨ a = 40) ∧ k = i) h1 (wr h1 39 i 11) := Chg.wr _ _ _ _ (by omega)
      have hT : P.dotT w t = tS 0 := by unfold Pgm.dotT; rw [if_pos ⟨z2, z7⟩]; rfl
      have hK : P.dotK w t = (11, 28) := if_pos ⟨z2, z7⟩
      rw [if_pos hnw, Option.bind_some, R_38_0 hs, Option.bind_some, T_39 hs hi, Option.bind_some, hT, hK, ← ct0]
      exact CSt.pushN (N := N) hn hs1 (e2.chg g0 (fun a k z => by omega)) (Or.inl (by omega)) hl ((g.mono (fun a k z => Or.inl z)).trans (g0.mono (fun a k z => Or.inr z))) (W_39 hs _ _) (by rw [rd_wr_ne _ _ (by omega), r40, hnw]; rfl) wrap_push
    · have hnw : ¬ num w = 28 := fun y => z7 (q.1.2.1 _ _ hw k7 (by rw [y, n7]))
      rw [if_neg hnw]
      exact e42 (fun y => z7 y.2)
  · rw [if_neg z2]
    exact e42 (fun y => z2 y.1)
theorem CK.classNamed {P : Pgm} {D : List Int32 → Prop} {num : List Int32 → Nat} {N i : Nat} {w : List Int32} {h : pH} (hN : 1100 ≤ N) (q : CK P D num h) (hw : D w) (hi : i < 3100) (h40 : rd h 40 i = Int32.ofNat (num w)) : fX9_classNamed N 51 (Int32.ofNat i) h = some (oI (-6) (P.fnd w), wr h 40 i (oI (-6) (P.fnd w))) := by
  have hs := q.1.1
  have hs1 := hs.wr 40 i (oI (-6) (P.fnd w))
  unfold fX9_classNamed
  rw [if_pos (o_51 hs), R_51_2 hs, Option.bind_some, R_38_1 hs, Option.bind_some, R_51_0 hs, Option.bind_some, Option.bind_some, R_38_1 hs, Option.bind_some, L_40 hs hi, Option.bind_some, h40, q.1.find hN hw, Option.bind_some]
  dsimp only
  rw [T_40 hs hi, Option.bind_some, R_51_2 hs1, Option.bind_some, R_38_1 hs1, Option.bind_some, L_40 hs1 hi, Option.bind_some, W_40 hs]
/-- a class' name and its type -/
theorem Pgm.cls_ct {P : Pgm} {w : List Int32} (o : Option Nat) (ho : P.fnd w = o) : ∃ t, oI (-6) o = ctI t ∧ P.tOk t ∧ P.clsT w = tS t ∧ (t < 10 ↔ o = none) := by
  unfold Pgm.clsT
  rw [ho]
  rcases o with _ | d
  · exact ⟨5, by decide, Or.inl (by omega), rfl, by constructor; intro _; rfl; intro _; omega⟩
  · have := (Pgm.fnd_lt ho).1
    exact ⟨10 + d, by rw [ctI_cls (by omega), show 10 + d - 10 = d by omega]; rfl, Or.inr ⟨by omega, by omega⟩, (show some [10 + d] = tS (10 + d) from (if_neg (by omega)).symm), by constructor; intro z; omega; intro z; cases z⟩
/-- the parts 12 to 16: an element, a new object, new ints, as, is -/
theorem CK.part {P : Pgm} {D : List Int32 → Prop} {num : List Int32 → Nat} {σ : List Nat} {E : EnvV} {X N i c k w : Nat} {l : List Nat} {h : pH} (hN : 1100 ≤ N) (q : CK P D num h) (hk : 12 ≤ k ∧ k ≤ 16) (hl : l.length = if k = 13 then 0 else if k = 12 then 2 else 1) (qs : CSt P (σ ++ l) X h) (hsl : σ.length ≤ 3000) (hi : i < 3100) (h39 : rd h 39 i = Int32.ofNat k) (hw : k = 13 ∨ k = 15 ∨ k = 16 → D (P.1 w) ∧ rd h 40 i = Int32.ofNat (num (P.1 w))) : TyN P σ X i (Int32.ofNat k) (if k = 13 ∨ k = 15 ∨ k = 16 then oI (-6) (P.fnd (P.1 w)) else rd h 40 i) (P.opT c E k w l) (fX9_isPartFine N 51 (Int32.ofNat i) (Int32.ofNat k) h) h := by
  have hn : P.n ≤ 400 := by have := q.1.2.2.2.2.2.1; omega
  have hs := q.1.1
  unfold fX9_isPartFine
  rw [if_pos (o_51 hs)]
  obtain rfl | rfl | rfl | rfl | rfl : k = 12 ∨ k = 13 ∨ k = 14 ∨ k = 15 ∨ k = 16 := by omega
  · -- an element
    obtain ⟨t, u, rfl⟩ : ∃ t u, l = [t, u] := by
      rcases l with _ | ⟨t, _ | ⟨u, _ | ⟨v, l⟩⟩⟩
      · cases hl
      · cases hl
      · exact ⟨t, u, rfl⟩
      · cases hl
    obtain ⟨h1, h2, e1, e2, e3, t1, t2, u1, u2, g, s1, s2, g1⟩ := CSt.pop2 (N := N) hs qs
    show TyN P σ X i (Int32.ofNat 12) (rd h 40 i) (eqT [t, u] [2, 0] 0) ((fX9_pop N 51 h).bind fun q17 => if q17.1 = (-1 : Int32) then (fX9_pop N 51 q17.2).bind fun q19 => if q19.1 = (-3 : Int32) then (fX9_push N 51 (-1 : Int32) q19.2).bind fun q21 => if q21.1 = 0 then some ((0 : Int32), q21.2) else some ((1 : Int32), q21.2) else some ((0 : Int32), q19.2) else some ((0 : Int32), q17.2)) h
    rw [e1, Option.bind_some]
    dsimp only
    rw [ctI_e0 hn u1, e2, Option.bind_some]
    dsimp only
    rw [ctI_e2 hn t1]
    by_cases z : u = 0
    · rw [if_pos z]
      by_cases y : t = 2
      · rw [if_pos y, z, y, show eqT [2, 0] [2, 0] 0 = tS 0 from rfl, ← ct0]
        exact CSt.pushN (N := N) hn s2 e3 (Or.inl (by omega)) hsl (g.mono (fun a k z => Or.inl z)) (by rw [g.2.2.1 _ _ (by unfold pyA; omega)]; exact h39) (by rw [g.2.2.1 _ _ (by unfold pyA; omega)]) wrap2_push
      · rw [if_neg y, show eqT [t, u] [2, 0] 0 = none from if_neg (fun v => y (by injection v))]
        exact ⟨h2, rfl, g.mono (fun a k z => Or.inl z)⟩
    · rw [if_neg z, show eqT [t, u] [2, 0] 0 = none from if_neg (fun v => z (by injection v with _ v; injection v))]
      exact ⟨h1, rfl, g1.mono (fun a k z => Or.inl z)⟩
  · -- a new object
    obtain rfl : l = [] := List.length_eq_zero_iff.mp hl
    rw [List.append_nil] at qs
    obtain ⟨hw1, hw2⟩ := hw (Or.inl rfl)
    obtain ⟨t, o1, o2, o3, o4⟩ := P.cls_ct (w := P.1 w) _ rfl
    have g0 : Chg (fun a k => (a = 39 ∨ a = 40) ∧ k = i) h (wr h 40 i (oI (-6) (P.fnd (P.1 w)))) := Chg.wr _ _ _ _ (by omega)
    show TyN P σ X i (Int32.ofNat 13) (oI (-6) (P.fnd (P.1 w))) (P.clsT (P.1 w)) ((fX9_classNamed N 51 (Int32.ofNat i) h).bind fun q23 => (fX9_push N 51 q23.1 q23.2).bind fun q24 => if pRet .boolean q24.1 = true then some (q24.1, q24.2) else none) h
    rw [CK.classNamed hN q hw1 hi hw2, Option.bind_some]
    dsimp only
    rw [o3, o1]
    rw [o1] at g0
    exact CSt.pushN (N := N) hn (hs.wr 40 i (ctI t)) (qs.chg g0 (fun a k z => by omega)) o2 hsl (g0.mono (fun a k z => Or.inr z)) (by rw [rd_wr_ne _ _ (by omega)]; exact h39) (W_40 hs _ _) wrap_push
  · -- new ints
    obtain ⟨t, rfl⟩ : ∃ t, l = [t] := List.length_eq_one_iff.mp hl
    obtain ⟨h1, e1, e2, t1, t2, g, s1⟩ := CSt.pop1 (N := N) hs qs
    show TyN P σ X i (Int32.ofNat 14) (rd h 40 i) (eqT [t] [0] 2) ((fX9_pop N 51 h).bind fun q26 => if q26.1 = (-1 : Int32) then (fX9_push N 51 (-3 : Int32) q26.2).bind fun q28 => if q28.1 = 0 then some ((0 : Int32), q28.2) else some ((1 : Int32), q28.2) else some ((0 : Int32), q26.2)) h
    rw [e1, Option.bind_some]
    dsimp only
    rw [ctI_e0 hn t1]
    by_cases z : t = 0
    · rw [if_pos z, z, show eqT [0] [0] 2 = tS 2 from rfl, ← ct2]
      exact CSt.pushN (N := N) hn s1 e2 (Or.inl (by omega)) hsl (g.mono (fun a k z => Or.inl z)) (by rw [g.2.2.1 _ _ (by unfold pyA; omega)]; exact h39) (by rw [g.2.2.1 _ _ (by unfold pyA; omega)]) wrap2_push
    · rw [if_neg z, show eqT [t] [0] 2 = none from if_neg (fun v => z (by injection v))]
      exact ⟨h1, rfl, g.mono (fun a k z => Or.inl z)⟩
  · -- as
    obtain ⟨t, rfl⟩ : ∃ t, l = [t] := List.length_eq_one_iff.mp hl
    obtain ⟨hw1, hw2⟩ := hw (Or.inr (Or.inl rfl))
    obtain ⟨h1, e1, e2, t1, t2, g, s1⟩ := CSt.pop1 (N := N) hs qs
    have q1 := q.chg g (fun a k z => by unfold ckA ctA at z; unfold pyA; omega)
    obtain ⟨u, o1, o2, o3, o4⟩ := P.cls_ct (w := P.1 w) _ rfl
    have g0 : Chg (fun a k => (a = 39 ∨ a = 40) ∧ k = i) h1 (wr h1 40 i (oI (-6) (P.fnd (P.1 w)))) := Chg.wr _ _ _ _ (by omega)
    show TyN P σ X i (Int32.ofNat 15) (oI (-6) (P.fnd (P.1 w))) (if obT t = true then P.clsT (P.1 w) else none) ((fX9_pop N 51 h).bind fun q30 => (fX9_isObject N q30.1 q30.2).bind fun q31 => if q31.1 = 0 then some ((0 : Int32), q31.2) else (fX9_classNamed N 51 (Int32.ofNat i) q31.2).bind fun q33 => (fX9_push N 51 q33.1 q33.2).bind fun q34 => if q34.1 = 0 then some ((0 : Int32), q34.2) else some ((1 : Int32), q34.2)) h
    rw [e1, Option.bind_some]
    dsimp only
    rw [e9_isObject hn t1, Option.bind_some]
    dsimp only
    rw [kI_if]
    cases obT t with
    | false => exact ⟨h1, rfl, g.mono (fun a k z => Or.inl z)⟩
    | true =>
      rw [if_pos rfl, if_pos rfl, CK.classNamed hN q1 hw1 hi (by rw [g.2.2.1 _ _ (by unfold pyA; omega)]; exact hw2), Option.bind_some]
      dsimp only
      rw [o3, o1]
      rw [o1] at g0
      exact CSt.pushN (N := N) hn (s1.wr 40 i (ctI u)) (e2.chg g0 (fun a k z => by omega)) o2 hsl ((g.mono (fun a k z => Or.inl z)).trans (g0.mono (fun a k z => Or.inr z))) (by rw [rd_wr_ne _ _ (by omega), g.2.2.1 _ _ (by unfold pyA; omega)]; exact h39) (W_40 s1 _ _) wrap2_push
  · -- is
    obtain ⟨t, rfl⟩ : ∃ t, l = [t] := List.length_eq_one_iff.mp hl
    obtain ⟨hw1, hw2⟩ := hw (Or.inr (Or.inr rfl))
    obtain ⟨h1, e1, e2, t1, t2, g, s1⟩ := CSt.pop1 (N := N) hs qs
    have q1 := q.chg g (fun a k z => by unfold ckA ctA at z; unfold pyA; omega)
    obtain ⟨u, o1, o2, o3, o4⟩ := P.cls_ct (w := P.1 w) _ rfl
    have g0 : Chg (fun a k => (a = 39 ∨ a = 40) ∧ k = i) h1 (wr h1 40 i (oI (-6) (P.fnd (P.1 w)))) := Chg.wr _ _ _ _ (by omega)
    show TyN P σ X i (Int32.ofNat 16) (oI (-6) (P.fnd (P.1 w))) (if obT t = true then (if (P.fnd (P.1 w)).isSome = true then some [1] else none) else none) (fX9_isPartFine_142 N 51 (Int32.ofNat i) h) h
    unfold fX9_isPartFine_142
    rw [e1, Option.bind_some]
    dsimp only
    rw [e9_isObject hn t1, Option.bind_some]
    dsimp only
    rw [kI_if]
    cases obT t with
    | false => exact ⟨h1, rfl, g.mono (fun a k z => Or.inl z)⟩
    | true =>
      rw [if_pos rfl, if_pos rfl, CK.classNamed hN q1 hw1 hi (by rw [g.2.2.1 _ _ (by unfold pyA; omega)]; exact hw2), Option.bind_some]
      dsimp only
      rw [o1, ctI_neg hn o2]
      rw [o1] at g0
      by_cases z : u < 10
      · rw [if_pos z, o4.mp z]
        exact ⟨_, rfl, (g.mono (fun a k z => Or.inl z)).trans (g0.mono (fun a k z => Or.inr z))⟩
      · have : (P.fnd (P.1 w)).isSome = true := by
          rcases hf : P.fnd (P.1 w) with _ | d
          · exact absurd (o4.mpr hf) z
          · rfl
        rw [if_neg z, if_pos this, show some [1] = tS 1 from rfl, ← ct1]
        exact CSt.pushN (N := N) hn (s1.wr 40 i (ctI u)) (e2.chg g0 (fun a k z => by omega)) (Or.inl (by omega)) hsl ((g.mono (fun a k z => Or.inl z)).trans (g0.mono (fun a k z => Or.inr z))) (by rw [rd_wr_ne _ _ (by omega), g.2.2.1 _ _ (by unfold pyA; omega)]; exact h39) (W_40 s1 _ _) wrap2_push
