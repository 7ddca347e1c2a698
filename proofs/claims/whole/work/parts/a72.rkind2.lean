/-! ===== THE REFERENCE'S TYPER: fields, signs, calls ===== -/
theorem tS_eq {t u : Nat} {l m : List Nat} (h5 : u ≠ 5) (h : t = if l = m then u else 5) : eqT l m u = tS t := by
  rw [h]
  unfold eqT tS
  by_cases z : l = m
  · rw [if_pos z, if_pos z, if_neg h5]
  · rw [if_neg z, if_neg z, if_pos rfl]
theorem nd_un {P : Pgm} {D : List Int32 → Prop} {num : List Int32 → Nat} {c N m j k v w t : Nat} {E : EnvV} {a : Tr} {s : Int32} {h : pH} (hk : k = 14 ∨ k = 17 ∨ k = 18) (q : RS P D num c E h) (hm : m < 3200) (hj : j < 3200) (h144 : rd h 144 m = nK k a) (h145 : rd h 145 m = Int32.ofNat j) (ht : rd h 148 j = Int32.ofNat t) (hto : P.tOk t) : NdR P (nK k a) (rd h 147 m) m (P.opT c E k w [t]) (fX12_checkNode N 138 s (Int32.ofNat m) h) h := by
  have hs := q.1.1.1
  have hn := q.1.1.n400
  have htl := tOk_lt hn hto
  have F : ∀ z, P.tOk z → NdR P (nK k a) (rd h 147 m) m (tS z) (fX12_checkNode_417 N 138 (Int32.ofNat m) (Int32.ofNat z) h) h := fun z hz => ck417 hn hs hm hz (Chg.refl _ _) (fun _ => h144) (fun _ => rfl)
  have one : ∀ u : Nat, ([t] = [u]) ↔ t = u := fun u => ⟨fun y => by injection y, fun y => by rw [y]⟩
  rw [ckB_of hs hm, h144, h145]
  rcases hk with rfl | rfl | rfl
  · show NdR P _ _ m (eqT [t] [0] 2) (ckB N s (Int32.ofNat m) _ _ 12 h) h
    rw [ckB_12, R_138_20 hs, Option.bind_some, L_148 hs hj, Option.bind_some, ht, show (0 : Int32) = Int32.ofNat 0 from rfl, ifEq (by omega) (by omega)]
    by_cases z : t = 0
    · rw [if_pos z, tS_eq (t := 2) (by omega) (by rw [if_pos ((one 0).mpr z)])]
      exact F 2 (Or.inl (by omega))
    · rw [if_neg z, tS_eq (t := 5) (by omega) (by rw [if_neg (fun y => z ((one 0).mp y))])]
      exact F 5 (Or.inl (by omega))
  · show NdR P _ _ m (eqT [t] [0] 0) (ckB N s (Int32.ofNat m) _ _ 13 h) h
    rw [ckB_13, R_138_20 hs, Option.bind_some, L_148 hs hj, Option.bind_some, ht, show (0 : Int32) = Int32.ofNat 0 from rfl, ifEq (by omega) (by omega)]
    by_cases z : t = 0
    · rw [if_pos z, tS_eq (t := 0) (by omega) (by rw [if_pos ((one 0).mpr z)])]
      exact F 0 (Or.inl (by omega))
    · rw [if_neg z, tS_eq (t := 5) (by omega) (by rw [if_neg (fun y => z ((one 0).mp y))])]
      exact F 5 (Or.inl (by omega))
  · show NdR P _ _ m (eqT [t] [1] 1) (ckB N s (Int32.ofNat m) _ _ 14 h) h
    rw [ckB_14, R_138_20 hs, Option.bind_some, L_148 hs hj, Option.bind_some, ht, show (1 : Int32) = Int32.ofNat 1 from rfl, ifEq (by omega) (by omega)]
    by_cases z : t = 1
    · rw [if_pos z, tS_eq (t := 1) (by omega) (by rw [if_pos ((one 1).mpr z)])]
      exact F 1 (Or.inl (by omega))
    · rw [if_neg z, tS_eq (t := 5) (by omega) (by rw [if_neg (fun y => z ((one 1).mp y))])]
      exact F 5 (Or.inl (by omega))
theorem two_eq (t u x y : Nat) : ([t, u] = [x, y]) ↔ t = x ∧ u = y := ⟨fun z => by injection z with z1 z2; injection z2 with z2 z3; exact ⟨z1, z2⟩, fun z => by rw [z.1, z.2]⟩
/-- an element, && and || -/
theorem nd_bin {P : Pgm} {D : List Int32 → Prop} {num : List Int32 → Nat} {c N m j i k v w t u : Nat} {E : EnvV} {a : Tr} {s : Int32} {h : pH} (hk : k = 12 ∨ k = 28 ∨ k = 29) (q : RS P D num c E h) (hm : m < 3200) (hj : j < 3200) (hi : i < 3200) (h144 : rd h 144 m = nK k a) (h145 : rd h 145 m = Int32.ofNat j) (h146 : rd h 146 m = Int32.ofNat i) (ht : rd h 148 j = Int32.ofNat t) (hto : P.tOk t) (hu : rd h 148 i = Int32.ofNat u) (huo : P.tOk u) : NdR P (nK k a) (rd h 147 m) m (P.opT c E k w [t, u]) (fX12_checkNode N 138 s (Int32.ofNat m) h) h := by
  have hs := q.1.1.1
  have hn := q.1.1.n400
  have htl := tOk_lt hn hto
  have hul := tOk_lt hn huo
  have F : ∀ z, P.tOk z → NdR P (nK k a) (rd h 147 m) m (tS z) (fX12_checkNode_417 N 138 (Int32.ofNat m) (Int32.ofNat z) h) h := fun z hz => ck417 hn hs hm hz (Chg.refl _ _) (fun _ => h144) (fun _ => rfl)
  have A : (k = 28 ∨ k = 29) → NdR P (nK k a) (rd h 147 m) m (eqT [t, u] [1, 1] 1) (fX12_checkNode_361 N 138 (Int32.ofNat m) (Int32.ofNat j) (Int32.ofNat i) h) h := by
    intro hk
    unfold fX12_checkNode_361
    rw [R_138_20 hs, Option.bind_some, L_148 hs hj, Option.bind_some, ht, show (1 : Int32) = Int32.ofNat 1 from rfl, ifEq (by omega) (by omega), Option.bind_some, L_148 hs hi, Option.bind_some, hu, ifEq (by omega) (by omega)]
    by_cases z : t = 1
    · by_cases y : u = 1
      · rw [if_pos z, if_pos y, tS_eq (t := 1) (by omega) (by rw [if_pos ((two_eq _ _ _ _).mpr ⟨z, y⟩)])]
        exact F 1 (Or.inl (by omega))
      · rw [if_pos z, if_neg y, tS_eq (t := 5) (by omega) (by rw [if_neg (fun x => y ((two_eq _ _ _ _).mp x).2)])]
        exact F 5 (Or.inl (by omega))
    · rw [if_neg z, tS_eq (t := 5) (by omega) (by rw [if_neg (fun x => z ((two_eq _ _ _ _).mp x).1)])]
      exact F 5 (Or.inl (by omega))
  rw [ckB_of hs hm, h144, h145, h146]
  rcases hk with rfl | rfl | rfl
  · show NdR P _ _ m (eqT [t, u] [2, 0] 0) (ckB N s (Int32.ofNat m) _ _ 7 h) h
    rw [ckB_7, R_138_20 hs, Option.bind_some, L_148 hs hj, Option.bind_some, ht, show (2 : Int32) = Int32.ofNat 2 from rfl, ifEq (by omega) (by omega), Option.bind_some, L_148 hs hi, Option.bind_some, hu, show (0 : Int32) = Int32.ofNat 0 from rfl, ifEq (by omega) (by omega)]
    by_cases z : t = 2
    · by_cases y : u = 0
      · rw [if_pos z, if_pos y, tS_eq (t := 0) (by omega) (by rw [if_pos ((two_eq _ _ _ _).mpr ⟨z, y⟩)])]
        exact F 0 (Or.inl (by omega))
      · rw [if_pos z, if_neg y, tS_eq (t := 5) (by omega) (by rw [if_neg (fun x => y ((two_eq _ _ _ _).mp x).2)])]
        exact F 5 (Or.inl (by omega))
    · rw [if_neg z, tS_eq (t := 5) (by omega) (by rw [if_neg (fun x => z ((two_eq _ _ _ _).mp x).1)])]
      exact F 5 (Or.inl (by omega))
  · show NdR P _ _ m (eqT [t, u] [1, 1] 1) (ckB N s (Int32.ofNat m) _ _ 16 h) h
    rw [ckB_16]
    exact A (Or.inl rfl)
  · show NdR P _ _ m (eqT [t, u] [1, 1] 1) (ckB N s (Int32.ofNat m) _ _ 17 h) h
    rw [ckB_17]
    exact A (Or.inr rfl)
theorem e12_isObject {P : Pgm} (hn : P.n ≤ 400) {t N : Nat} {h : pH} (ht : P.tOk t) : fX12_isObject N (Int32.ofNat t) h = some (kI (rfT t), h) := by
  have htl := tOk_lt hn ht
  unfold fX12_isObject rfT
  rw [show (10 : Int32) = Int32.ofNat 10 from rfl, show (2 : Int32) = Int32.ofNat 2 from rfl, show (4 : Int32) = Int32.ofNat 4 from rfl]
  rw [ifLe (by omega) (by omega), ifEq (by omega) (by omega), ifEq (by omega) (by omega)]
  by_cases z1 : 10 ≤ t
  · rw [if_pos z1, decide_eq_true (by omega)]; rfl
  · rw [if_neg z1]
    by_cases z2 : t = 2
    · rw [if_pos z2, decide_eq_true (by omega)]; rfl
    · rw [if_neg z2]
      by_cases z3 : t = 4
      · rw [if_pos z3, decide_eq_true (by omega)]; rfl
      · rw [if_neg z3, decide_eq_false (by omega)]; rfl
theorem e12_compared {P : Pgm} {D : List Int32 → Prop} {num : List Int32 → Nat} {c N t u : Nat} {E : EnvV} {sg : Int32} {h : pH} (hN : 1100 ≤ N) (ha : Acy P) (q : RS P D num c E h) (ht : P.tOk t) (hu : P.tOk u) : fX12_compared_14 N 138 (Int32.ofNat t) (Int32.ofNat u) h = some (Int32.ofNat (if P.cmpT t u = true then 1 else 5), h) := by
  obtain ⟨⟨rt, rp, _⟩, _⟩ := q
  have hn := rt.n400
  have htl := tOk_lt hn ht
  have hul := tOk_lt hn hu
  have B : fX12_compared_28 N 138 (Int32.ofNat t) (Int32.ofNat u) h = some (Int32.ofNat (if (rfT t && (rfT u && (P.sub t u || P.sub u t))) = true then 1 else 5), h) := by
    unfold fX12_compared_28
    rw [e12_isObject hn ht, Option.bind_some]
    dsimp only
    rw [e12_isObject hn hu, Option.bind_some, rt.isSub rp ha hN ht hu, Option.bind_some, rt.isSub rp ha hN hu ht, Option.bind_some]
    dsimp only
    rw [kI_if, kI_if, kI_if, kI_if]
    cases rfT t <;> cases rfT u <;> cases P.sub t u <;> cases P.sub u t <;> rfl
  unfold fX12_compared_14 Pgm.cmpT
  rw [ifEq (by omega) (by omega), show (0 : Int32) = Int32.ofNat 0 from rfl, show (1 : Int32) = Int32.ofNat 1 from rfl, ifEq (by omega) (by omega), ifEq (by omega) (by omega)]
  by_cases z0 : t = 0
  · rw [if_pos (Or.inl z0)]
    by_cases y : t = u
    · rw [if_pos y, if_pos z0, decide_eq_true y]
      rfl
    · rw [if_neg y, decide_eq_false y, B, z0]
      rfl
  · by_cases z1 : t = 1
    · rw [if_pos (Or.inr z1)]
      by_cases y : t = u
      · rw [if_pos y, if_neg z0, if_pos z1, decide_eq_true y]
        rfl
      · rw [if_neg y, decide_eq_false y, B, z1]
        rfl
    · rw [if_neg (show ¬ (t = 0 ∨ t = 1) by omega), if_neg z0, if_neg z1, B]
      split <;> rfl
theorem nd_sign {P : Pgm} {D : List Int32 → Prop} {num : List Int32 → Nat} {c N m j i k v w t u : Nat} {E : EnvV} {a : Tr} {s : Int32} {h : pH} (hN : 1100 ≤ N) (ha : Acy P) (hk : 19 ≤ k ∧ k ≤ 27) (q : RS P D num c E h) (hm : m < 3200) (hj : j < 3200) (hi : i < 3200) (h144 : rd h 144 m = nK k a) (h145 : rd h 145 m = Int32.ofNat j) (h146 : rd h 146 m = Int32.ofNat i) (h147 : rd h 147 m = sgC k) (ht : rd h 148 j = Int32.ofNat t) (hto : P.tOk t) (hu : rd h 148 i = Int32.ofNat u) (huo : P.tOk u) : NdR P (nK k a) (rd h 147 m) m (P.opT c E k w [t, u]) (fX12_checkNode N 138 s (Int32.ofNat m) h) h := by
  have hs := q.1.1.1
  have hn := q.1.1.n400
  have htl := tOk_lt hn hto
  have hul := tOk_lt hn huo
  have F : ∀ z, P.tOk z → NdR P (nK k a) (rd h 147 m) m (tS z) (fX12_checkNode_417 N 138 (Int32.ofNat m) (Int32.ofNat z) h) h := fun z hz => ck417 hn hs hm hz (Chg.refl _ _) (fun _ => h144) (fun _ => rfl)
  have hk15 : nK k a = 15 := by
    unfold nK
    repeat (rw [if_neg (by omega)])
  have hcm : ∀ z, fX12_compared N 138 (sgC k) (Int32.ofNat t) (Int32.ofNat u) h = some (Int32.ofNat z, h) → fX12_checkNode N 138 s (Int32.ofNat m) h = fX12_checkNode_417 N 138 (Int32.ofNat m) (Int32.ofNat z) h := by
    intro z hz
    rw [ckB_of hs hm, h144, h145, h146, hk15, ckB_15]
    unfold fX12_checkNode_392
    rw [R_138_19 hs, Option.bind_some, L_147 hs hm, Option.bind_some, h147, R_138_20 hs, Option.bind_some, L_148 hs hj, Option.bind_some, ht, Option.bind_some, L_148 hs hi, Option.bind_some, hu, hz, Option.bind_some]
  have E0 : ∀ x y : Nat, (if Int32.ofNat t = 0 then (if Int32.ofNat u = 0 then some (Int32.ofNat x, h) else some ((5 : Int32), h)) else some ((5 : Int32), h)) = some (Int32.ofNat (if [t, u] = [0, 0] then x else 5), h) := by
    intro x y
    rw [show (0 : Int32) = Int32.ofNat 0 from rfl, ifEq (by omega) (by omega), ifEq (by omega) (by omega)]
    by_cases z : t = 0
    · by_cases y : u = 0
      · rw [if_pos z, if_pos y, if_pos ((two_eq _ _ _ _).mpr ⟨z, y⟩)]
      · rw [if_pos z, if_neg y, if_neg (fun x => y ((two_eq _ _ _ _).mp x).2)]; rfl
    · rw [if_neg z, if_neg (fun x => z ((two_eq _ _ _ _).mp x).1)]; rfl
  have ok5 : ∀ x : Nat, x ≤ 5 → P.tOk (if [t, u] = [0, 0] then x else 5) := fun x hx => by
    split
    · exact Or.inl hx
    · exact Or.inl (by omega)
  have ar : (sgC k = 42 ∨ sgC k = 47 ∨ sgC k = 37 ∨ sgC k = 43 ∨ sgC k = 45) → P.opT c E k w [t, u] = eqT [t, u] [0, 0] 0 → NdR P (nK k a) (rd h 147 m) m (P.opT c E k w [t, u]) (fX12_checkNode N 138 s (Int32.ofNat m) h) h := by
    intro hsg hop
    rw [hop, tS_eq (u := 0) (by omega) rfl, hcm (if [t, u] = [0, 0] then 0 else 5) (by
      unfold fX12_compared
      rw [if_pos (o_138 hs), ← E0 0 0]
      rcases hsg with z | z | z | z | z <;> rw [z] <;> rfl)]
    exact F _ (ok5 0 (by omega))
  have ls : (sgC k = 60 ∨ sgC k = 316) → P.opT c E k w [t, u] = eqT [t, u] [0, 0] 1 → NdR P (nK k a) (rd h 147 m) m (P.opT c E k w [t, u]) (fX12_checkNode N 138 s (Int32.ofNat m) h) h := by
    intro hsg hop
    rw [hop, tS_eq (u := 1) (by omega) rfl, hcm (if [t, u] = [0, 0] then 1 else 5) (by
      unfold fX12_compared
      rw [if_pos (o_138 hs), ← E0 1 0]
      rcases hsg with z | z <;> rw [z] <;> rfl)]
    exact F _ (ok5 1 (by omega))
  have cm : (sgC k = 317 ∨ sgC k = 289) → P.opT c E k w [t, u] = (if P.cmpT t u = true then some [1] else none) → NdR P (nK k a) (rd h 147 m) m (P.opT c E k w [t, u]) (fX12_checkNode N 138 s (Int32.ofNat m) h) h := by
    intro hsg hop
    rw [hop, show (if P.cmpT t u = true then some [1] else none) = tS (if P.cmpT t u = true then 1 else 5) by split <;> rfl, hcm (if P.cmpT t u = true then 1 else 5) (by
      unfold fX12_compared
      rw [if_pos (o_138 hs), ← e12_compared (c := c) (sg := 0) hN ha q hto huo]
      rcases hsg with z | z <;> rw [z] <;> rfl)]
    exact F _ (by split <;> exact Or.inl (by omega))
  have hk9 : k = 19 ∨ k = 20 ∨ k = 21 ∨ k = 22 ∨ k = 23 ∨ k = 24 ∨ k = 25 ∨ k = 26 ∨ k = 27 := by omega
  rcases hk9 with rfl | rfl | rfl | rfl | rfl | rfl | rfl | rfl | rfl
  · exact ar (Or.inl rfl) rfl
  · exact ar (Or.inr (Or.inl rfl)) rfl
  · exact ar (Or.inr (Or.inr (Or.inl rfl))) rfl
  · exact ar (Or.inr (Or.inr (Or.inr (Or.inl rfl)))) rfl
  · exact ar (Or.inr (Or.inr (Or.inr (Or.inr rfl)))) rfl
  · exact ls (Or.inl rfl) rfl
  · exact ls (Or.inr rfl) rfl
  · exact cm (Or.inl rfl) rfl
  · exact cm (Or.inr rfl) rfl
theorem nd_dot {P : Pgm} {D : List Int32 → Prop} {num : List Int32 → Nat} {c N m j w t : Nat} {E : EnvV} {s : Int32} {h : pH} (hN : 1100 ≤ N) (ha : Acy P) (q : RS P D num c E h) (hm : m < 3200) (hj : j < 3200) (hw : D (P.1 w)) (h144 : rd h 144 m = 6) (h145 : rd h 145 m = Int32.ofNat j) (h147 : rd h 147 m = Int32.ofNat (num (P.1 w))) (ht : rd h 148 j = Int32.ofNat t) (hto : P.tOk t) : NdR P (P.rnK num c E 9 0 w nl [t]).1 (P.rnK num c E 9 0 w nl [t]).2 m (P.dotT (P.1 w) t) (fX12_checkNode N 138 s (Int32.ofNat m) h) h := by
  obtain ⟨⟨rt, rp, rq, rm, rl⟩, rsc, h60, ho, h3⟩ := id q
  have hs := rt.1
  have hn := rt.n400
  have htl := tOk_lt hn hto
  have hml := rt.2.2.2.2.2.2.2.2.2.2.1
  obtain ⟨k1, k2⟩ := rt.2.2.2.1 7 (by omega)
  have hnw := rt.2.2.1 (P.1 w)
  have h7 : (num (P.1 w) = 7) ↔ P.1 w = knW 7 := ⟨fun z => rt.2.1 _ _ hw k1 (by rw [z, k2]), fun z => by rw [z, k2]⟩
  rw [ckB_of hs hm, h144, h145, ckB_6]
  have rn : P.rnK num c E 9 0 w nl [t] = if t = 2 ∧ P.1 w = knW 7 then (18, 7) else (6, P.moO (P.fldT (P.1 w) t)) := rfl
  unfold fX12_field Pgm.dotT
  rw [if_pos (o_138 hs), R_138_20 hs, Option.bind_some, L_148 hs hj, Option.bind_some, ht, rn]
  have F33 : (t ≠ 2 ∨ P.1 w ≠ knW 7) → NdR P 6 (P.moO (P.fldT (P.1 w) t)) m (P.fT (P.fldT (P.1 w) t)) ((fX12_field_33 N 138 (Int32.ofNat m) (Int32.ofNat t) h).bind fun q61 => fX12_checkNode_417 N 138 (Int32.ofNat m) q61.1 q61.2) h := by
    intro _
    unfold fX12_field_33
    rw [show (10 : Int32) = Int32.ofNat 10 from rfl, ifLe (by omega) (by omega)]
    by_cases z : 10 ≤ t
    · have htc : t - 10 < P.n := by unfold Pgm.tOk at hto; omega
      have mo := rt.memberOf (kk := false) rp ha hN hw htc
      have hfl : P.fldT (P.1 w) t = P.had false (P.1 w) (t - 10) := by unfold Pgm.fldT; rw [if_neg (by omega)]
      rw [if_pos z, R_138_19 hs, Option.bind_some, L_147 hs hm, Option.bind_some, h147, show Int32.ofNat t - Int32.ofNat 10 = Int32.ofNat (t - 10) from i_sub10 z, show (0 : Int32) = kI false from rfl, mo, Option.bind_some, ← hfl]
      dsimp only
      unfold fX12_field_58
      rw [show (0 : Int32) = kI false from rfl, show kI false = (0 : Int32) from rfl, i_nn_oI (fun e he => by have := (Pgm.fldT_at he).1; omega)]
      rcases hd : P.fldT (P.1 w) t with _ | m'
      · rw [if_pos (show (none : Option Nat).isNone = true from rfl), Option.bind_some]
        exact ck417 (t := 5) hn hs hm (Or.inl (by omega)) (Chg.refl _ _) (fun z => absurd rfl z) (fun z => absurd rfl z)
      · obtain ⟨f1, f2⟩ := Pgm.fldT_at hd
        obtain ⟨t1, t2⟩ := RK.type q.1 f1
        have la := rl.at f1 f2
        have hs1 := hs.wr 147 m (Int32.ofNat (P.mo m'))
        rw [if_neg (show ¬ (some m').isNone = true from Bool.false_ne_true), show oI (-1) (some m') = Int32.ofNat m' from rfl, R_138_19 hs, Option.bind_some, R_138_52 hs, Option.bind_some, L_175 hs (by omega), Option.bind_some, la, T_147 hs hm, Option.bind_some, R_138_47 hs1, Option.bind_some, L_170 hs1 (by omega), Option.bind_some, rd_wr_ne _ _ (by omega), t1, Option.bind_some]
        exact ck417 hn hs1 hm t2 (Chg.wr _ _ _ _ (by unfold ndA; omega)) (fun _ => by rw [rd_wr_ne _ _ (by omega)]; exact h144) (fun _ => W_147 hs _ _)
    · have hfl : P.fldT (P.1 w) t = none := by unfold Pgm.fldT; rw [if_pos (by omega)]
      rw [if_neg z, hfl]
      unfold fX12_field_58
      rw [if_neg (show ¬ (0 : Int32) ≤ -1 by decide), Option.bind_some]
      exact ck417 (t := 5) hn hs hm (Or.inl (by omega)) (Chg.refl _ _) (fun z => absurd rfl z) (fun z => absurd rfl z)
  rw [show (2 : Int32) = Int32.ofNat 2 from rfl, ifEq (by omega) (by omega)]
  by_cases z : t = 2
  · rw [if_pos z, R_138_19 hs, Option.bind_some, L_147 hs hm, Option.bind_some, h147, show (7 : Int32) = Int32.ofNat 7 from rfl, ifEq (by omega) (by omega)]
    by_cases y : P.1 w = knW 7
    · have hs1 := hs.wr 144 m 18
      rw [if_pos (h7.mpr y), if_pos ⟨z, y⟩, if_pos ⟨z, y⟩, R_138_16 hs, Option.bind_some, T_144 hs hm, Option.bind_some, Option.bind_some]
      exact ck417 (t := 0) hn hs1 hm (Or.inl (by omega)) (Chg.wr _ _ _ _ (by unfold ndA; omega)) (fun _ => W_144 hs _ _) (fun _ => by rw [rd_wr_ne _ _ (by omega), h147, h7.mpr y])
    · rw [if_neg (fun x => y (h7.mp x)), if_neg (fun x => y x.2), if_neg (fun x => y x.2)]
      exact F33 (Or.inr y)
  · rw [if_neg z, if_neg (fun x => z x.1), if_neg (fun x => z x.1)]
    exact F33 (Or.inl z)
