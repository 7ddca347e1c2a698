/-! ===== THE REFERENCE'S TYPER: a node by its kind ===== -/
/-- the kind and the number that a node becomes -/
def Pgm.rnK (P : Pgm) (num : List Int32 → Nat) (c : Nat) (E : EnvV) (k v w : Nat) (a : Tr) (l : List Nat) : Int32 × Int32 :=
  if k = 6 then (match E.fnd (P.1 w) with
    | some i => (19, Int32.ofNat i)
    | none => (20, P.moO (P.fldT (P.1 w) (10 + c))))
  else if k = 9 then (if lget l 0 = 2 ∧ P.1 w = knW 7 then (18, 7) else (6, P.moO (P.fldT (P.1 w) (lget l 0))))
  else if k = 13 ∨ k = 15 ∨ k = 16 then (nK k a, oI (-1) (P.fnd (P.1 w)))
  else (nK k a, ofN P num k v w)
theorem RT.n400 {P : Pgm} {D : List Int32 → Prop} {num : List Int32 → Nat} {h : pH} (q : RT P D num h) : P.n ≤ 400 := by have := q.2.2.2.2.2.1; omega
/-- a name that is given to -/
def Pgm.pnT (P : Pgm) (c : Nat) (E : EnvV) (w : List Int32) : Option (List Nat) := match E.fnd w with
  | some i => tS (E.tyv i)
  | none => P.fT (P.fldT w (10 + c))
theorem RS.named41 {P : Pgm} {D : List Int32 → Prop} {num : List Int32 → Nat} {c N m j : Nat} {E : EnvV} {z : Bool} {h : pH} (q : RS P D num c E h) (hm : m < 3200) (hj : j < E.1.length) : fX12_named_41 N 138 (Int32.ofNat m) (Int32.ofNat j) (kI z) h = some (Int32.ofNat (if (E.isS j || z) = true then E.tyv j else 5), wr (wr h 144 m 19) 147 m (Int32.ofNat j)) := by
  obtain ⟨⟨rt, _⟩, rsc, _, _, _⟩ := q
  have hs := rt.1
  have hs1 := hs.wr 144 m 19
  have hs2 := hs1.wr 147 m (Int32.ofNat j)
  obtain ⟨s1, s2, s3, s4, s5⟩ := rsc
  have hx : E.1[j]? = some (E.1[j]'hj) := List.getElem?_eq_getElem hj
  generalize E.1[j]'hj = x at hx
  have hty := (EnvV.nm_get hx).2
  obtain ⟨a1, a2, a3, a4, a5⟩ := s3 j x hx
  obtain ⟨b, b1, b2⟩ := s5 j hj
  have g : Chg (fun a k => (a = 144 ∨ a = 147) ∧ k = m) h (wr (wr h 144 m 19) 147 m (Int32.ofNat j)) := (Chg.wr _ _ _ _ (by omega)).trans (Chg.wr _ _ _ _ (by omega))
  have r66 : rd (wr (wr h 144 m 19) 147 m (Int32.ofNat j)) 138 66 = kI E.2.1 := by rw [g.2.2.1 _ _ (by omega)]; exact s4
  have r179 : rd (wr (wr h 144 m 19) 147 m (Int32.ofNat j)) 179 j = Int32.ofNat x.2 := by rw [g.2.2.1 _ _ (by omega)]; exact a3
  have r180 : rd (wr (wr h 144 m 19) 147 m (Int32.ofNat j)) 180 j = kI b := by rw [g.2.2.1 _ _ (by omega)]; exact b1
  unfold fX12_named_41
  rw [R_138_16 hs, Option.bind_some, T_144 hs hm, Option.bind_some, R_138_19 hs1, Option.bind_some, T_147 hs1 hm, Option.bind_some, g_138_66 hs2, Option.bind_some, r66, kI_if, R_138_64 hs2, Option.bind_some, L_179 hs2 (by omega), Option.bind_some, r179, R_138_65 hs2, Option.bind_some, L_180 hs2 (by omega), Option.bind_some, r180, kI_if, kI_if]
  unfold EnvV.isS
  rw [hty]
  cases hd : E.2.1 with
  | true => rfl
  | false =>
    rw [← b2 hd]
    cases b with
    | true => rfl
    | false => cases z <;> rfl
theorem RS.named {P : Pgm} {D : List Int32 → Prop} {num : List Int32 → Nat} {c N m s w : Nat} {E : EnvV} {z : Bool} {h : pH} (hN : 1100 ≤ N) (ha : Acy P) (hc : c < P.n) (q : RS P D num c E h) (hm : m < 3200) (hsl : s < 1600) (hw : D (P.1 w)) (h147 : rd h 147 m = Int32.ofNat (num (P.1 w))) (hz : z = decide (rd h 151 s = 8 ∧ Int32.ofNat m = rd h 155 s)) : ∃ h1 t, fX12_named N 138 (Int32.ofNat s) (Int32.ofNat m) h = some (Int32.ofNat t, h1) ∧ P.tOk t ∧ (if z = true then P.pnT c E (P.1 w) else P.nmT c E (P.1 w)) = tS t ∧ (t ≠ 5 → rd h1 144 m = (P.rnK num c E 6 0 w nl []).1 ∧ rd h1 147 m = (P.rnK num c E 6 0 w nl []).2) ∧ Chg (ndA m (m + 1)) h h1 := by
  obtain ⟨⟨rt, rp, rq, rm, rl⟩, rsc, h60, ho, h3⟩ := id q
  have hs := rt.1
  have hn := rt.n400
  have hml := rt.2.2.2.2.2.2.2.2.2.2.1
  have vo := rsc.variableOf hN hs rt.2.1 rt.2.2.1 ho hw
  have hel := rsc.2.1
  unfold fX12_named Pgm.rnK
  rw [if_pos (o_138 hs), R_138_19 hs, Option.bind_some, L_147 hs hm, Option.bind_some, h147, vo, Option.bind_some]
  dsimp only
  rw [i_neg_oI (fun e he => by have := (EnvV.fnd_lt he).1; omega), if_pos rfl]
  unfold Pgm.pnT Pgm.nmT
  rcases hf : E.fnd (P.1 w) with _ | j
  · have mo := rt.memberOf (kk := false) rp ha hN hw hc
    have hfl : P.fldT (P.1 w) (10 + c) = P.had false (P.1 w) c := by unfold Pgm.fldT; rw [if_neg (by omega), show 10 + c - 10 = c by omega]
    rw [if_pos (show (none : Option Nat).isNone = true from rfl), g_138_60 hs, Option.bind_some, h60, R_138_19 hs, Option.bind_some, L_147 hs hm, Option.bind_some, h147, show (0 : Int32) = kI false from rfl, mo, Option.bind_some, ← hfl]
    dsimp only
    rw [show kI false = (0 : Int32) from rfl, i_nn_oI (fun e he => by have := (Pgm.fldT_at he).1; omega)]
    have hif : (if z = true then P.fT (P.fldT (P.1 w) (10 + c)) else P.fT (P.fldT (P.1 w) (10 + c))) = P.fT (P.fldT (P.1 w) (10 + c)) := by cases z <;> rfl
    show ∃ h1 t, _ ∧ _ ∧ (if z = true then P.fT (P.fldT (P.1 w) (10 + c)) else P.fT (P.fldT (P.1 w) (10 + c))) = tS t ∧ _
    rw [hif]
    rcases hd : P.fldT (P.1 w) (10 + c) with _ | m'
    · exact ⟨h, 5, rfl, Or.inl (by omega), rfl, fun z => absurd rfl z, Chg.refl _ _⟩
    · obtain ⟨f1, f2⟩ := Pgm.fldT_at hd
      obtain ⟨t1, t2⟩ := RK.type q.1 f1
      have la := rl.at f1 f2
      have hs1 := hs.wr 144 m 20
      have g : Chg (fun a k => (a = 144 ∨ a = 147) ∧ k = m) h (wr (wr h 144 m 20) 147 m (Int32.ofNat (P.mo m'))) := (Chg.wr _ _ _ _ (by omega)).trans (Chg.wr _ _ _ _ (by omega))
      have hs2 := hs1.wr 147 m (Int32.ofNat (P.mo m'))
      refine ⟨wr (wr h 144 m 20) 147 m (Int32.ofNat (P.mo m')), P.mty m', ?_, t2, rfl, fun _ => ⟨by rw [rd_wr_ne _ _ (by omega), W_144 hs], W_147 hs1 _ _⟩, g.mono (fun a k z => by unfold ndA; omega)⟩
      rw [if_neg (show ¬ (some m').isNone = true from Bool.false_ne_true), show oI (-1) (some m') = Int32.ofNat m' from rfl, R_138_16 hs, Option.bind_some, T_144 hs hm, Option.bind_some, R_138_19 hs1, Option.bind_some, R_138_52 hs1, Option.bind_some, L_175 hs1 (by omega), Option.bind_some, rd_wr_ne _ _ (by omega), la, T_147 hs1 hm, Option.bind_some, R_138_47 hs2, Option.bind_some, L_170 hs2 (by omega), Option.bind_some, rd_wr_ne _ _ (by omega), rd_wr_ne _ _ (by omega), t1]
  · obtain ⟨j1, j2⟩ := EnvV.fnd_lt hf
    have hx : E.1[j]? = some (E.1[j]'j1) := List.getElem?_eq_getElem j1
    have hty := (EnvV.nm_get hx).2
    have htk := (rsc.2.2.1 j _ hx).2.2.2.1
    rw [← hty] at htk
    have hs1 := hs.wr 144 m 19
    have g : Chg (fun a k => (a = 144 ∨ a = 147) ∧ k = m) h (wr (wr h 144 m 19) 147 m (Int32.ofNat j)) := (Chg.wr _ _ _ _ (by omega)).trans (Chg.wr _ _ _ _ (by omega))
    have nm := RS.named41 (N := N) (z := z) q hm j1
    refine ⟨wr (wr h 144 m 19) 147 m (Int32.ofNat j), if (E.isS j || z) = true then E.tyv j else 5, ?_, ?_, ?_, fun _ => ⟨by rw [rd_wr_ne _ _ (by omega), W_144 hs], W_147 hs1 _ _⟩, g.mono (fun a k z => by unfold ndA; omega)⟩
    · rw [if_neg (show ¬ (some j).isNone = true from Bool.false_ne_true), show oI (-1) (some j) = Int32.ofNat j from rfl, R_138_26 hs, Option.bind_some, L_151 hs hsl, Option.bind_some, R_138_30 hs, Option.bind_some, L_155 hs hsl, Option.bind_some]
      unfold fX12_named_40
      by_cases z8 : rd h 151 s = 8
      · rw [if_pos z8]
        by_cases zm : Int32.ofNat m = rd h 155 s
        · rw [if_pos zm, show (1 : Int32) = kI true from rfl]
          rw [hz, decide_eq_true ⟨z8, zm⟩] at nm
          rw [nm, hz, decide_eq_true ⟨z8, zm⟩]
        · rw [if_neg zm, show (0 : Int32) = kI false from rfl]
          rw [hz, decide_eq_false (fun u => zm u.2)] at nm
          rw [nm, hz, decide_eq_false (fun u => zm u.2)]
      · rw [if_neg z8, show (0 : Int32) = kI false from rfl]
        rw [hz, decide_eq_false (fun u => z8 u.1)] at nm
        rw [nm, hz, decide_eq_false (fun u => z8 u.1)]
    · split
      · exact htk
      · exact Or.inl (by omega)
    · show (if z = true then tS (E.tyv j) else if E.isS j = true then tS (E.tyv j) else none) = _
      cases z with
      | true => rw [Bool.or_true, if_pos rfl, if_pos rfl]
      | false =>
        rw [Bool.or_false, if_neg (by decide)]
        cases E.isS j <;> rfl
theorem RS.meantClass {P : Pgm} {D : List Int32 → Prop} {num : List Int32 → Nat} {c N m w : Nat} {E : EnvV} {h : pH} (hN : 1100 ≤ N) (q : RS P D num c E h) (hm : m < 3200) (hw : D (P.1 w)) (h147 : rd h 147 m = Int32.ofNat (num (P.1 w))) : ∃ t, fX12_meantClass N 138 (Int32.ofNat m) h = some (Int32.ofNat t, wr h 147 m (oI (-1) (P.fnd (P.1 w)))) ∧ P.tOk t ∧ P.clsT (P.1 w) = tS t ∧ (t = 5 ↔ P.fnd (P.1 w) = none) := by
  have rt := q.1.1
  have hs := rt.1
  have hn := rt.n400
  have hs1 := hs.wr 147 m (oI (-1) (P.fnd (P.1 w)))
  have hfn : ∀ c, P.fnd (P.1 w) = some c → c < 100000 := fun c hc => by have := (Pgm.fnd_lt hc).1; omega
  unfold fX12_meantClass
  rw [if_pos (o_138 hs), R_138_19 hs, Option.bind_some, L_147 hs hm, Option.bind_some, h147, rt.classOf hN hw, Option.bind_some]
  dsimp only
  rw [R_138_19 hs, Option.bind_some, T_147 hs hm, Option.bind_some, i_nn_oI hfn]
  unfold Pgm.clsT
  rcases hf : P.fnd (P.1 w) with _ | d
  · exact ⟨5, rfl, Or.inl (by omega), rfl, fun _ => rfl, fun _ => rfl⟩
  · have hd := (Pgm.fnd_lt hf).1
    refine ⟨10 + d, ?_, Or.inr ⟨by omega, by omega⟩, ?_, fun z => by omega, fun z => by cases z⟩
    · rw [if_neg (show ¬ (some d).isNone = true from Bool.false_ne_true)]
      show some ((10 : Int32) + Int32.ofNat d, _) = _
      rw [show (10 : Int32) = Int32.ofNat 10 from rfl, ← Int32.ofNat_add]
    · unfold tS
      rw [if_neg (by omega)]
theorem nd_leaf {P : Pgm} {D : List Int32 → Prop} {num : List Int32 → Nat} {c N m k v w : Nat} {E : EnvV} {a : Tr} {s : Int32} {h : pH} (hc : c < P.n) (hk : k = 1 ∨ k = 2 ∨ k = 3 ∨ k = 4 ∨ k = 5) (q : RS P D num c E h) (hm : m < 3200) (h144 : rd h 144 m = nK k a) : NdR P (nK k a) (rd h 147 m) m (P.opT c E k w []) (fX12_checkNode N 138 s (Int32.ofNat m) h) h := by
  have hs := q.1.1.1
  have hn := q.1.1.n400
  rw [ckB_of hs hm, h144]
  rcases hk with rfl | rfl | rfl | rfl | rfl
  · show NdR P _ _ m (tS 0) (ckB N s (Int32.ofNat m) _ _ 0 h) h
    rw [ckB_0]
    exact ck417 (t := 0) hn hs hm (Or.inl (by omega)) (Chg.refl _ _) (fun _ => h144) (fun _ => rfl)
  · show NdR P _ _ m (tS 1) (ckB N s (Int32.ofNat m) _ _ 21 h) h
    rw [ckB_21]
    exact ck417 (t := 1) hn hs hm (Or.inl (by omega)) (Chg.refl _ _) (fun _ => h144) (fun _ => rfl)
  · show NdR P _ _ m (tS 4) (ckB N s (Int32.ofNat m) _ _ 1 h) h
    rw [ckB_1]
    exact ck417 (t := 4) hn hs hm (Or.inl (by omega)) (Chg.refl _ _) (fun _ => h144) (fun _ => rfl)
  · have e : P.opT c E 4 w [] = tS (10 + c) := by
      unfold tS
      rw [if_neg (by omega)]
      rfl
    rw [e]
    show NdR P _ _ m _ (ckB N s (Int32.ofNat m) _ _ 2 h) h
    rw [ckB_2, g_138_60 hs, Option.bind_some, q.2.2.1, show (10 : Int32) = Int32.ofNat 10 from rfl, ← Int32.ofNat_add]
    exact ck417 hn hs hm (Or.inr ⟨by omega, by omega⟩) (Chg.refl _ _) (fun _ => h144) (fun _ => rfl)
  · show NdR P _ _ m (tS 0) (ckB N s (Int32.ofNat m) _ _ 3 h) h
    rw [ckB_3]
    exact ck417 (t := 0) hn hs hm (Or.inl (by omega)) (Chg.refl _ _) (fun _ => h144) (fun _ => rfl)
theorem nd_name {P : Pgm} {D : List Int32 → Prop} {num : List Int32 → Nat} {c N m s w : Nat} {E : EnvV} {z : Bool} {h : pH} (hN : 1100 ≤ N) (ha : Acy P) (hc : c < P.n) (q : RS P D num c E h) (hm : m < 3200) (hsl : s < 1600) (hw : D (P.1 w)) (h144 : rd h 144 m = 4) (h147 : rd h 147 m = Int32.ofNat (num (P.1 w))) (hz : z = decide (rd h 151 s = 8 ∧ Int32.ofNat m = rd h 155 s)) : NdR P (P.rnK num c E 6 0 w nl []).1 (P.rnK num c E 6 0 w nl []).2 m (if z = true then P.pnT c E (P.1 w) else P.nmT c E (P.1 w)) (fX12_checkNode N 138 (Int32.ofNat s) (Int32.ofNat m) h) h := by
  have hs := q.1.1.1
  obtain ⟨h1, t, e1, e2, e3, e4, g⟩ := RS.named (z := z) hN ha hc q hm hsl hw h147 hz
  rw [ckB_of hs hm, h144, ckB_4, e1, Option.bind_some, e3]
  exact ck417 q.1.1.n400 (hs.of g.1) hm e2 g (fun z => (e4 z).1) (fun z => (e4 z).2)
theorem nd_class {P : Pgm} {D : List Int32 → Prop} {num : List Int32 → Nat} {c N m w : Nat} {E : EnvV} {a : Tr} {s : Int32} {h : pH} (hN : 1100 ≤ N) (q : RS P D num c E h) (hm : m < 3200) (hw : D (P.1 w)) (h144 : rd h 144 m = 5) (h147 : rd h 147 m = Int32.ofNat (num (P.1 w))) : NdR P 5 (oI (-1) (P.fnd (P.1 w))) m (P.clsT (P.1 w)) (fX12_checkNode N 138 s (Int32.ofNat m) h) h := by
  have hs := q.1.1.1
  obtain ⟨t, e1, e2, e3, e4⟩ := RS.meantClass (N := N) hN q hm hw h147
  rw [ckB_of hs hm, h144, ckB_5, e1, Option.bind_some, e3]
  exact ck417 q.1.1.n400 (hs.wr 147 m _) hm e2 (Chg.wr _ _ _ _ (by unfold ndA; omega)) (fun _ => by rw [rd_wr_ne _ _ (by omega)]; exact h144) (fun _ => W_147 hs _ _)
/-- as and is -/
theorem nd_as {P : Pgm} {D : List Int32 → Prop} {num : List Int32 → Nat} {c N m j k w t : Nat} {E : EnvV} {s : Int32} {h : pH} (hN : 1100 ≤ N) (hk : k = 15 ∨ k = 16) (q : RS P D num c E h) (hm : m < 3200) (hj : j < 3200) (hjm : j ≠ m) (hw : D (P.1 w)) (h144 : rd h 144 m = if k = 15 then 10 else 11) (h145 : rd h 145 m = Int32.ofNat j) (h147 : rd h 147 m = Int32.ofNat (num (P.1 w))) (ht : rd h 148 j = Int32.ofNat t) (hto : P.tOk t) : NdR P (if k = 15 then 10 else 11) (oI (-1) (P.fnd (P.1 w))) m (P.opT c E k w [t]) (fX12_checkNode N 138 s (Int32.ofNat m) h) h := by
  have hs := q.1.1.1
  have hn := q.1.1.n400
  have htl := tOk_lt hn hto
  obtain ⟨u, e1, e2, e3, e4⟩ := RS.meantClass (N := N) hN q hm hw h147
  have hs1 := hs.wr 147 m (oI (-1) (P.fnd (P.1 w)))
  have g1 : Chg (ndA m (m + 1)) h (wr h 147 m (oI (-1) (P.fnd (P.1 w)))) := Chg.wr _ _ _ _ (by unfold ndA; omega)
  have r148 : rd (wr h 147 m (oI (-1) (P.fnd (P.1 w)))) 148 j = Int32.ofNat t := by rw [rd_wr_ne _ _ (by omega)]; exact ht
  have r144 : rd (wr h 147 m (oI (-1) (P.fnd (P.1 w)))) 144 m = if k = 15 then 10 else 11 := by rw [rd_wr_ne _ _ (by omega)]; exact h144
  have r147 : rd (wr h 147 m (oI (-1) (P.fnd (P.1 w)))) 147 m = oI (-1) (P.fnd (P.1 w)) := W_147 hs _ _
  have F : ∀ z, P.tOk z → NdR P (if k = 15 then 10 else 11) (oI (-1) (P.fnd (P.1 w))) m (tS z) (fX12_checkNode_417 N 138 (Int32.ofNat m) (Int32.ofNat z) (wr h 147 m (oI (-1) (P.fnd (P.1 w))))) h := fun z hz => ck417 hn hs1 hm hz g1 (fun _ => r144) (fun _ => r147)
  have ul := tOk_lt hn e2
  have body : NdR P (if k = 15 then 10 else 11) (oI (-1) (P.fnd (P.1 w))) m (P.opT c E k w [t]) (fX12_checkNode_231 N 138 (Int32.ofNat m) (Int32.ofNat j) h) h := by
    have good : NdR P (if k = 15 then 10 else 11) (oI (-1) (P.fnd (P.1 w))) m (if k = 15 then P.clsT (P.1 w) else if (P.fnd (P.1 w)).isSome = true then some [1] else none) (fX12_checkNode_264 N 138 (Int32.ofNat m) (Int32.ofNat u) 1 (wr h 147 m (oI (-1) (P.fnd (P.1 w))))) h := by
      unfold fX12_checkNode_264
      rw [if_neg (show ¬ (1 : Int32) = 0 by decide), show (5 : Int32) = Int32.ofNat 5 from rfl, ifEq (by omega) (by omega)]
      by_cases z : u = 5
      · rw [if_pos z]
        have : (if k = 15 then P.clsT (P.1 w) else if (P.fnd (P.1 w)).isSome = true then some [1] else none) = tS 5 := by
          rw [e3, z, e4.mp z]
          split <;> rfl
        rw [this]
        exact F 5 (Or.inl (by omega))
      · rw [if_neg z, R_138_16 hs1, Option.bind_some, L_144 hs1 hm, Option.bind_some, r144]
        have hsm : (P.fnd (P.1 w)).isSome = true := by
          cases hf : P.fnd (P.1 w) with
          | none => exact absurd (e4.mpr hf) z
          | some d => rfl
        rcases hk with rfl | rfl
        · rw [if_pos rfl, if_pos rfl, if_neg (show ¬ (10 : Int32) = 11 by decide), e3]
          exact F u e2
        · rw [if_neg (by decide), if_neg (by decide), if_pos rfl, if_pos hsm]
          exact F 1 (Or.inl (by omega))
    unfold fX12_checkNode_231
    rw [e1, Option.bind_some]
    dsimp only
    rw [R_138_20 hs1, Option.bind_some, L_148 hs1 hj, Option.bind_some, r148, show (10 : Int32) = Int32.ofNat 10 from rfl, ifLe (by omega) (by omega)]
    have hop : P.opT c E k w [t] = if obT t = true then (if k = 15 then P.clsT (P.1 w) else if (P.fnd (P.1 w)).isSome = true then some [1] else none) else none := by
      rcases hk with rfl | rfl <;> rfl
    rw [hop]
    unfold obT
    by_cases z : 10 ≤ t
    · rw [if_pos z, decide_eq_true (Or.inr z), if_pos rfl]
      exact good
    · rw [if_neg z, Option.bind_some, L_148 hs1 hj, Option.bind_some, r148, show (4 : Int32) = Int32.ofNat 4 from rfl, ifEq (by omega) (by omega)]
      by_cases y : t = 4
      · rw [if_pos y, decide_eq_true (Or.inl y), if_pos rfl]
        exact good
      · rw [if_neg y, decide_eq_false (by omega), if_neg Bool.false_ne_true]
        exact F 5 (Or.inl (by omega))
  rw [ckB_of hs hm, h144, h145]
  rcases hk with rfl | rfl
  · rw [if_pos rfl, ckB_10]
    exact body
  · rw [if_neg (by decide), ckB_11]
    exact body
