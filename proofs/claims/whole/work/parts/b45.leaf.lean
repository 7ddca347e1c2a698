/-! ===== THE REFERENCE'S STEPS: leaves ===== -/
theorem HpR.fld {P : Pgm} {hp : List Ob} {H : Nat} {B O : Nat → Nat} {L : List Nat} {h : pH} {i j : Nat} {ob : Ob} (q : HpR hp H B O L h) (ho : HO P hp) (hi : i ∈ L ∨ i < 5) (hob : hp[i]? = some ob) (hj : j < ob.2.length) : i ∈ L ∧ B i < 5200 ∧ rd h 186 (B i) = Int32.ofNat (O i) ∧ O i + j < 12000 ∧ RV B L (rd h 191 (O i + j)) (rd h 192 (O i + j)) (obF hp i j) := by
  have h5 : 5 ≤ i := ob_5 ho hob (Or.inl (by omega))
  have hiL : i ∈ L := hi.resolve_right (by omega)
  obtain ⟨b1, b2, b3⟩ := q.at hi
  rw [if_neg (by omega)] at b3
  have hl : obL hp i = ob.2.length := by unfold obL; rw [hob]
  obtain ⟨c1, c2, c3, c4⟩ := b2 ob hob
  have hg : ob.2[j]? = some ob.2[j] := List.getElem?_eq_getElem hj
  refine ⟨hiL, by omega, c2, by omega, ?_⟩
  rw [obF_get hob, hg]
  exact c4 j _ hg
theorem fld_lt {P : Pgm} {hp : List Ob} {i c t m : Nat} {fl : List Vl} {w : List Int32} (ha : Acy P) (ho : HO P hp) (h : hp[i]? = some (some c, fl)) (hu : P.und c (t - 10) = true) (hm : P.fldT w t = some m) : P.mo m < fl.length := by
  obtain ⟨-, p1, p2, -⟩ := ho.2 i _ h
  obtain ⟨f1, -, -⟩ := Pgm.fldT_fts ha p1 hu hm
  have := (List.getElem?_eq_some_iff.mp f1).1
  rw [Pgm.fts_len ha _ c rfl p1] at this
  have p2 : fl.length = P.nf c := p2
  omega
section LF
variable {P : Pgm} {S : Tks} {num : List Int32 → Nat} {N : Nat} {g h : pH} {G : Gs} {i : Nat × Nat × Nat} {lo : List Vl} {ops : List (Bool × Vl)} {E : EnvV} {xs : List Xi} {ks : List Si} {fs : List Fm} {t1 t2 t3 : List It} {B O : Nat → Nat} {L : List Nat} {lb pb : Nat} {tr' : List (Nat × Nat)}
/-- a word is put on top -/
theorem ROp.one {x f : Int32} {v : Vl} (q : ROp P S num g h G i lo ops E xs ks fs t1 t2 t3 B O L lb pb tr') (hv : RV B L x f v) (hl : ops.length + 1 ≤ 1999) (hfs : fs.length + 1 ≤ 100) : ∃ h2, fX12_push N 138 x f h = some h2 ∧ RRs P S num g h2 (G, .inl ((i, lo, (false, v) :: ops, E, xs, ks) :: fs)) ∧ Chg fmA h h2 := by
  obtain ⟨h2, p1, p2, p3⟩ := ROp.val (N := N) (j := 0) (A := fun _ _ => False) q (Chg.refl _ _) (fun _ _ z => z.elim) q.2.2.2.1 hv q.2.2.2.2.2.2.2.1 hl hfs
  exact ⟨h2, p1, p2.rrs, p3⟩
theorem leaf_v {k v w j u : Nat} (hP : PgF P S) (q : ROp P S num g h G i lo ops E xs ks fs t1 t2 t3 B O L lb pb tr') (ho : HO P G.1) (hse : ∃ d fl, G.1[i.2.2]? = some (some d, fl) ∧ P.und d i.1 = true) (hlo : LoT P G.1 E lo) (hk : lfK k) (h5 : k ≠ 5) (h13 : k ≠ 13) (ht : P.opT i.1 E k w [] = some [u]) (hj : j < 3200) (e144 : rd g 144 j = (P.rnK num i.1 E k v w nl []).1) (e147 : rd g 147 j = (P.rnK num i.1 E k v w nl []).2) (hl : ops.length + 1 ≤ 1999) (hfs : fs.length + 1 ≤ 100) : ∃ h2, fX12_leaf N 138 (Int32.ofNat j) h = some h2 ∧ RRs P S num g h2 (P.actX G i lo ops E k v w [] xs ks fs) ∧ Chg fmA h h2 := by
  have st := q.st
  have sg := st.1
  obtain ⟨ha, hB, p5, p3, _⟩ := hP
  have h93 := q.2.2.2.2.1
  obtain ⟨se1, se2⟩ := q.self
  have hF := q.2.1
  have hpre : ∀ K : Int32, rd g 144 j = K → fX12_leaf N 138 (Int32.ofNat j) h = (if K = 0 then fX12_leaf_116 N 138 (Int32.ofNat j) h else if K = 1 then ((fX12_push N 138 (-1 : Int32) (1 : Int32) h).bind fun h40 => some h40) else if K = 2 then ((getR h 138 12 94).bind fun t41 => (ldI h t41 (Int32.ofNat (fs.length + 1) - (1 : Int32))).bind fun t42 => (fX12_push N 138 t42 (1 : Int32) h).bind fun h43 => some h43) else fX12_leaf N 138 (Int32.ofNat j) h) := fun K hK => by
    by_cases k0 : K = 0
    · rw [if_pos k0]
      unfold fX12_leaf
      rw [if_pos (o_138 sg), g_138_93 sg, Option.bind_some, R_138_16 sg, Option.bind_some, L_144 sg hj, Option.bind_some, st.2.1 144 j (by omega) (by omega), hK, if_pos k0]
    rw [if_neg k0]
    by_cases k1 : K = 1
    · rw [if_pos k1]
      unfold fX12_leaf
      rw [if_pos (o_138 sg), g_138_93 sg, Option.bind_some, R_138_16 sg, Option.bind_some, L_144 sg hj, Option.bind_some, st.2.1 144 j (by omega) (by omega), hK, if_neg k0, if_pos k1]
    rw [if_neg k1]
    by_cases k2 : K = 2
    · rw [if_pos k2]
      unfold fX12_leaf
      rw [if_pos (o_138 sg), g_138_93 sg, Option.bind_some, h93, R_138_16 sg, Option.bind_some, L_144 sg hj, Option.bind_some, st.2.1 144 j (by omega) (by omega), hK, if_neg k0, if_neg k1, if_pos k2]
    rw [if_neg k2]
  have h19 : ∀ K : Int32, rd g 144 j = K → K = 19 ∨ K = 20 ∨ K = 21 → fX12_leaf N 138 (Int32.ofNat j) h = (if K = 19 then ((getR h 138 12 98).bind fun t46 =>
  (getR h 138 12 95).bind fun t47 =>
  (ldI h t47 (Int32.ofNat (fs.length + 1) - (1 : Int32))).bind fun t48 =>
  (getR h 138 12 19).bind fun t49 =>
  (ldI h t49 (Int32.ofNat j)).bind fun t50 =>
  (ldI h t46 (t48 + t50)).bind fun t51 =>
  (getR h 138 12 99).bind fun t52 =>
  (getR h 138 12 95).bind fun t53 =>
  (ldI h t53 (Int32.ofNat (fs.length + 1) - (1 : Int32))).bind fun t54 =>
  (getR h 138 12 19).bind fun t55 =>
  (ldI h t55 (Int32.ofNat j)).bind fun t56 =>
  (ldZ h t52 (t54 + t56)).bind fun t57 =>
  (fX12_push N 138 t51 t57 h).bind fun h58 =>
  some h58) else if K = 20 then (
  (getR h 138 12 84).bind fun t59 =>
  (getR h 138 12 94).bind fun t60 =>
  (ldI h t60 (Int32.ofNat (fs.length + 1) - (1 : Int32))).bind fun t61 =>
  (ldI h t59 t61).bind fun t62 =>
  (getR h 138 12 19).bind fun t63 =>
  (ldI h t63 (Int32.ofNat j)).bind fun t64 =>
  (getR h 138 12 91).bind fun t65 =>
  (ldI h t65 (t62 + t64)).bind fun t66 =>
  (getR h 138 12 92).bind fun t67 =>
  (ldZ h t67 (t62 + t64)).bind fun t68 =>
  (fX12_push N 138 t66 t68 h).bind fun h69 =>
  some h69) else fX12_leaf_116 N 138 (Int32.ofNat j) h) := fun K hK hh => by
    unfold fX12_leaf
    rw [if_pos (o_138 sg), g_138_93 sg, Option.bind_some, h93, R_138_16 sg, Option.bind_some, L_144 sg hj, Option.bind_some, st.2.1 144 j (by omega) (by omega), hK]
    rcases hh with rfl | rfl | rfl
    · rfl
    · rfl
    · rfl
  have hnum : ∀ x : Int32, rd g 147 j = x → fX12_leaf_116 N 138 (Int32.ofNat j) h = (fX12_push N 138 x (0 : Int32) h).bind fun h14 => some h14 := fun x hx => by
    unfold fX12_leaf_116
    rw [R_138_19 sg, Option.bind_some, L_147 sg hj, Option.bind_some, st.2.1 147 j (by omega) (by omega), hx]
  unfold Pgm.actX
  rw [if_neg h5, if_neg h13, if_neg (by unfold lfK at hk; omega), if_neg (by unfold lfK at hk; omega)]
  unfold Pgm.wkV
  by_cases k1 : k = 1 ∨ k = 2
  · rw [if_pos k1]
    dsimp only
    have e147' : rd g 147 j = Int32.ofNat v := by
      rw [e147]
      rcases k1 with rfl | rfl <;> rfl
    obtain ⟨h2, r1, r2, r3⟩ := q.one (N := N) (x := Int32.ofNat v) (f := 0) (v := .inl (Int32.ofNat v)) ⟨rfl, rfl⟩ hl hfs
    refine ⟨h2, ?_, r2, r3⟩
    rcases k1 with rfl | rfl
    · have e144 : rd g 144 j = 0 := e144
      rw [hpre 0 e144, if_pos rfl, hnum _ e147', r1, Option.bind_some]
    · have e144 : rd g 144 j = 21 := e144
      rw [h19 21 e144 (Or.inr (Or.inr rfl)), if_neg (by decide), if_neg (by decide), hnum _ e147', r1, Option.bind_some]
  rw [if_neg k1]
  by_cases k3 : k = 3
  · subst k3
    rw [if_pos rfl]
    dsimp only
    have e144 : rd g 144 j = 1 := e144
    obtain ⟨h2, r1, r2, r3⟩ := q.one (N := N) (x := -1) (f := 1) (v := .inr none) ⟨rfl, rfl⟩ hl hfs
    exact ⟨h2, by rw [hpre 1 e144, if_neg (by decide), if_pos rfl, r1, Option.bind_some], r2, r3⟩
  rw [if_neg k3]
  by_cases k4 : k = 4
  · subst k4
    rw [if_pos rfl]
    dsimp only
    have e144 : rd g 144 j = 2 := e144
    obtain ⟨h2, r1, r2, r3⟩ := q.one (N := N) (x := Int32.ofNat (B i.2.2)) (f := 1) (v := .inr (some i.2.2)) ⟨rfl, rfl, se2⟩ hl hfs
    exact ⟨h2, by rw [hpre 2 e144, if_neg (by decide), if_neg (by decide), if_pos rfl, R_138_94 sg, Option.bind_some, i_sub1, L_193 sg (by omega), Option.bind_some, se1, r1, Option.bind_some], r2, r3⟩
  rw [if_neg k4]
  have k6 : k = 6 := by unfold lfK at hk; omega
  subst k6
  rw [if_pos rfl]
  dsimp only
  have ht : P.nmT i.1 E (P.1 w) = some [u] := ht
  unfold Pgm.rnK at e144 e147
  rw [if_pos rfl] at e144 e147
  unfold Pgm.nmT at ht
  rcases hfn : E.fnd (P.1 w) with _ | m
  · rw [hfn] at e144 e147 ht
    dsimp only at e144 e147 ht
    rcases hm : P.fldT (P.1 w) (10 + i.1) with _ | m
    · rw [hm] at ht; cases ht
    · rw [hm] at e147
      obtain ⟨d, fl, s1, s2⟩ := hse
      have hml := fld_lt ha ho s1 (t := 10 + i.1) (by rw [show 10 + i.1 - 10 = i.1 by omega]; exact s2) hm
      obtain ⟨f1, f2, f3, f4, f5⟩ := q.1.2.2.2.2.2.fld ho se2 s1 hml
      obtain ⟨h2, r1, r2, r3⟩ := q.one (N := N) f5 hl hfs
      refine ⟨h2, ?_, r2, r3⟩
      have e147 : rd g 147 j = Int32.ofNat (P.mo m) := e147
      rw [h19 20 e144 (Or.inr (Or.inl rfl)), if_neg (by decide), if_pos rfl, R_138_84 sg, Option.bind_some, R_138_94 sg, Option.bind_some, i_sub1, L_193 sg (by omega), Option.bind_some, se1, L_186 sg f2, Option.bind_some, f3, R_138_19 sg, Option.bind_some, L_147 sg hj, Option.bind_some, st.2.1 147 j (by omega) (by omega), e147, ← Int32.ofNat_add, R_138_91 sg, Option.bind_some, L_191 sg f4, Option.bind_some, R_138_92 sg, Option.bind_some, L_192 sg f4, Option.bind_some, r1, Option.bind_some]
  · rw [hfn] at e144 e147
    dsimp only at e144 e147
    have hml := (EnvV.fnd_lt hfn).1
    have hlE := hlo.1
    have hg : lo[m]? = some lo[m] := List.getElem?_eq_getElem (by omega)
    dsimp only
    rw [hg]
    have hlb : lb ≤ 899 * fs.length := hF.2.2.2.2.2.1
    have hl8 : lo.length ≤ 899 := hF.2.2.2.2.2.2.2.1
    have h194 : rd h 194 fs.length = Int32.ofNat lb := hF.2.2.1
    have f5 := hF.2.2.2.2.2.2.2.2.2.2.2.1 m _ hg
    obtain ⟨h2, r1, r2, r3⟩ := q.one (N := N) f5 hl hfs
    refine ⟨h2, ?_, r2, r3⟩
    rw [h19 19 e144 (Or.inl rfl), if_pos rfl, R_138_98 sg, Option.bind_some, R_138_95 sg, Option.bind_some, i_sub1, L_194 sg (by omega), Option.bind_some, h194, R_138_19 sg, Option.bind_some, L_147 sg hj, Option.bind_some, st.2.1 147 j (by omega) (by omega), e147, ← Int32.ofNat_add, L_197 sg (by omega), Option.bind_some, R_138_99 sg, Option.bind_some]
    simp only [Option.bind_some]
    rw [L_194 sg (by omega), Option.bind_some, h194, L_147 sg hj, Option.bind_some, st.2.1 147 j (by omega) (by omega), e147, ← Int32.ofNat_add, L_198 sg (by omega), Option.bind_some, r1, Option.bind_some]
end LF
