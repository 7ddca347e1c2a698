/-! ===== THE REFERENCE'S TYPER: a tree's nodes ===== -/
/-- a tree's nodes, typed -/
def RXn (P : Pgm) (num : List Int32 → Nat) (c : Nat) (E : EnvV) (h : pH) : Tr → Nat → Nat → Prop
  | .op (.op (.var k) (.op (.var v) (.var w))) (.op a b), n, l => RXn P num c E h a n l ∧ RXn P num c E h b (n + sz a) (l + ls a) ∧ (k = 50 ∨ k = 70 ∨ (rd h 144 (n + sz a + sz b) = (P.rnK num c E k v w a ((P.te c E a).getD [] ++ (P.te c E b).getD [])).1 ∧ rd h 145 (n + sz a + sz b) = n1 k a n ∧ rd h 146 (n + sz a + sz b) = n2 k a b n l ∧ rd h 147 (n + sz a + sz b) = (P.rnK num c E k v w a ((P.te c E a).getD [] ++ (P.te c E b).getD [])).2 ∧ (k = 30 → rd h 182 (n + sz a + sz b) = Int32.ofNat v ∧ (argR a n).length = v ∧ ∀ (i j : Nat), (argR a n)[i]? = some j → rd h 149 (l + ls a + i) = Int32.ofNat j)))
  | _, _, _ => True
theorem RXn_nd (P : Pgm) (num : List Int32 → Nat) (c : Nat) (E : EnvV) (h : pH) (k v w : Nat) (a b : Tr) (n l : Nat) : RXn P num c E h (nd k v w a b) n l = (RXn P num c E h a n l ∧ RXn P num c E h b (n + sz a) (l + ls a) ∧ (k = 50 ∨ k = 70 ∨ (rd h 144 (n + sz a + sz b) = (P.rnK num c E k v w a ((P.te c E a).getD [] ++ (P.te c E b).getD [])).1 ∧ rd h 145 (n + sz a + sz b) = n1 k a n ∧ rd h 146 (n + sz a + sz b) = n2 k a b n l ∧ rd h 147 (n + sz a + sz b) = (P.rnK num c E k v w a ((P.te c E a).getD [] ++ (P.te c E b).getD [])).2 ∧ (k = 30 → rd h 182 (n + sz a + sz b) = Int32.ofNat v ∧ (argR a n).length = v ∧ ∀ (i j : Nat), (argR a n)[i]? = some j → rd h 149 (l + ls a + i) = Int32.ofNat j)))) := rfl
theorem RXn_no {P : Pgm} {num : List Int32 → Nat} {c : Nat} {E : EnvV} {h : pH} {e : Tr} (he : ∀ k v w a b, e ≠ nd k v w a b) (n l : Nat) : RXn P num c E h e n l := by
  unfold RXn
  split
  · exact absurd rfl (he _ _ _ _ _)
  · trivial
theorem RXn.ag {P : Pgm} {num : List Int32 → Nat} {c : Nat} {E : EnvV} {h h' : pH} : ∀ (e : Tr) (n l : Nat), RXn P num c E h e n l → (∀ a m, (144 ≤ a ∧ a ≤ 147) ∨ a = 182 → n ≤ m → m < n + sz e → rd h' a m = rd h a m) → (∀ m, l ≤ m → m < l + ls e → rd h' 149 m = rd h 149 m) → RXn P num c E h' e n l := by
  intro e
  induction e using Tr.rec2 with
  | h2 e he => intro n l _ _ _; exact RXn_no he n l
  | h1 k v w a b iha ihb =>
    intro n l q g1 g2
    rw [sz_nd] at g1
    rw [ls_nd] at g2
    rw [RXn_nd] at q ⊢
    obtain ⟨q1, q2, q3⟩ := q
    refine ⟨iha _ _ q1 (fun a m i1 i3 i4 => g1 a m i1 (by omega) (by omega)) (fun m i1 i2 => g2 m (by omega) (by omega)), ihb _ _ q2 (fun a m i1 i3 i4 => g1 a m i1 (by omega) (by omega)) (fun m i1 i2 => g2 m (by omega) (by omega)), ?_⟩
    by_cases z : k = 50 ∨ k = 70
    · rcases z with z | z
      · exact Or.inl z
      · exact Or.inr (Or.inl z)
    · rw [if_neg z] at g1
      obtain ⟨r1, r2, r3, r4, r6⟩ := (q3.resolve_left (fun y => z (Or.inl y))).resolve_left (fun y => z (Or.inr y))
      refine Or.inr (Or.inr ⟨?_, ?_, ?_, ?_, fun hk => ⟨?_, (r6 hk).2.1, fun i j hj => ?_⟩⟩)
      · rw [g1 _ _ (by omega) (by omega) (by omega)]; exact r1
      · rw [g1 _ _ (by omega) (by omega) (by omega)]; exact r2
      · rw [g1 _ _ (by omega) (by omega) (by omega)]; exact r3
      · rw [g1 _ _ (by omega) (by omega) (by omega)]; exact r4
      · rw [g1 _ _ (by omega) (by omega) (by omega)]; exact (r6 hk).1
      · have hlt := (List.getElem?_eq_some_iff.mp hj).1
        rw [(r6 hk).2.1] at hlt
        rw [g2 _ (by omega) (by rw [if_pos hk]; omega)]; exact (r6 hk).2.2 i j hj
theorem RXn.nd {P : Pgm} {num : List Int32 → Nat} {c lo hi n l : Nat} {E : EnvV} {e : Tr} {h h' : pH} (q : RXn P num c E h e n l) (g : Chg (ndA lo hi) h h') (hd : hi ≤ n ∨ n + sz e ≤ lo) : RXn P num c E h' e n l := RXn.ag e n l q (fun a m i1 i3 i4 => g.2.2.1 _ _ (by unfold ndA; omega)) (fun m _ _ => g.2.2.1 _ _ (by unfold ndA; omega))
theorem TyT.nd {P : Pgm} {c lo hi n : Nat} {e : Tr} {x : List Nat} {h h' : pH} (q : TyT P h c e n x) (g : Chg (ndA lo hi) h h') (hd : hi ≤ n ∨ n + sz e ≤ lo) : TyT P h' c e n x := TyT.ag e n x q (fun m i1 i2 => g.2.2.1 _ _ (by unfold ndA; omega))
theorem lp_step {N f s fr to i : Nat} {h : pH} (hi : i ≤ to) (ht : to < 3200) : fX12_checkNodes_6 N (f + 1) 138 (Int32.ofNat s) (Int32.ofNat fr) (Int32.ofNat to) 1 (Int32.ofNat i) h = (fX12_checkNode N 138 (Int32.ofNat s) (Int32.ofNat i) h).bind fun q => fX12_checkNodes_6 N f 138 (Int32.ofNat s) (Int32.ofNat fr) (Int32.ofNat to) q.1 (Int32.ofNat (i + 1)) q.2 := by
  rw [fX12_checkNodes_6, ifLt (by omega) (by omega), if_neg (by omega), if_neg (show ¬ (1 : Int32) = 0 by decide), i_add1]
theorem lp_bad {N f s fr to i : Nat} {h : pH} (hN : 0 < N) : fX12_checkNodes_6 N (f + 1) 138 (Int32.ofNat s) (Int32.ofNat fr) (Int32.ofNat to) 0 (Int32.ofNat i) h = some (0, h) := by
  have e : fX12_checkNodes_32 N 138 (Int32.ofNat s) (Int32.ofNat fr) (Int32.ofNat to) 0 h = some (0, h) := by
    unfold fX12_checkNodes_32
    obtain ⟨N, rfl⟩ : ∃ N', N = N' + 1 := ⟨N - 1, by omega⟩
    rw [fX12_checkNodes_35, if_pos (pRet_01 (Or.inl rfl)), if_pos rfl, ite_self]
  rw [fX12_checkNodes_6, e, if_pos rfl, ite_self]
/-- where a node is void, so is what is left -/
def V3 (h : pH) (n n' : Nat) (r : List Nat) (z : Bool) : Prop := ∀ m, n ≤ m → m < n' → rd h 148 m = 3 → 3 ∈ r ∧ (z = true → m + 1 = n')
theorem V3.nd {h h' : pH} {n n' lo hi : Nat} {r : List Nat} {z : Bool} (q : V3 h n n' r z) (g : Chg (ndA lo hi) h h') (hd : hi ≤ n ∨ n' ≤ lo) : V3 h' n n' r z := fun m m1 m2 m3 => q m m1 m2 (by rw [← g.2.2.1 148 m (by unfold ndA; omega)]; exact m3)
/-- a tree's nodes run -/
def RunN (P : Pgm) (D : List Int32 → Prop) (num : List Int32 → Nat) (c : Nat) (E : EnvV) (N s fr to : Nat) (e : Tr) : Prop := ∀ (n l f : Nat) (h : pH), RS P D num c E h → RN P D num h e n l → n + sz e ≤ to + 1 → l + ls e ≤ 3200 → (∀ m, n ≤ m → m < n + sz e → ¬ (rd h 151 s = 8 ∧ Int32.ofNat m = rd h 155 s)) → match P.te c E e with
  | none => ∃ h', fX12_checkNodes_6 N (f + 1 + sz e) 138 (Int32.ofNat s) (Int32.ofNat fr) (Int32.ofNat to) 1 (Int32.ofNat n) h = some (0, h') ∧ Chg (ndA n (n + sz e)) h h'
  | some r => ∃ h', fX12_checkNodes_6 N (f + 1 + sz e) 138 (Int32.ofNat s) (Int32.ofNat fr) (Int32.ofNat to) 1 (Int32.ofNat n) h = fX12_checkNodes_6 N (f + 1) 138 (Int32.ofNat s) (Int32.ofNat fr) (Int32.ofNat to) 1 (Int32.ofNat (n + sz e)) h' ∧ TyT P h' c e n r ∧ RXn P num c E h' e n l ∧ V3 h' n (n + sz e) r (decide (kd e ≠ 70)) ∧ Chg (ndA n (n + sz e)) h h'
theorem RunN.zero {P : Pgm} {D : List Int32 → Prop} {num : List Int32 → Nat} {c N s fr to : Nat} {E : EnvV} : RunN P D num c E N s fr to nl := fun n l f h _ _ _ _ _ => ⟨h, rfl, rfl, trivial, fun m m1 m2 => absurd m2 (by show ¬ m < n + 0; omega), Chg.refl _ _⟩
/-- two trees, one behind the other -/
theorem RunN.two {P : Pgm} {D : List Int32 → Prop} {num : List Int32 → Nat} {c N s fr to : Nat} {E : EnvV} {a b : Tr} (ra : RunN P D num c E N s fr to a) (rb : RunN P D num c E N s fr to b) {n l f : Nat} {h : pH} (q : RS P D num c E h) (na : RN P D num h a n l) (nb : RN P D num h b (n + sz a) (l + ls a)) (hs : n + sz a + sz b ≤ to + 1) (hl : l + ls a + ls b ≤ 3200) (hT : ∀ m, n ≤ m → m < n + sz a + sz b → ¬ (rd h 151 s = 8 ∧ Int32.ofNat m = rd h 155 s)) : match (P.te c E a).bind fun x => (P.te c E b).bind fun y => some (x, y) with
  | none => ∃ h', fX12_checkNodes_6 N (f + 1 + sz b + sz a) 138 (Int32.ofNat s) (Int32.ofNat fr) (Int32.ofNat to) 1 (Int32.ofNat n) h = some (0, h') ∧ Chg (ndA n (n + sz a + sz b)) h h'
  | some r => ∃ h', fX12_checkNodes_6 N (f + 1 + sz b + sz a) 138 (Int32.ofNat s) (Int32.ofNat fr) (Int32.ofNat to) 1 (Int32.ofNat n) h = fX12_checkNodes_6 N (f + 1) 138 (Int32.ofNat s) (Int32.ofNat fr) (Int32.ofNat to) 1 (Int32.ofNat (n + sz a + sz b)) h' ∧ RS P D num c E h' ∧ TyT P h' c a n r.1 ∧ TyT P h' c b (n + sz a) r.2 ∧ RXn P num c E h' a n l ∧ RXn P num c E h' b (n + sz a) (l + ls a) ∧ V3 h' n (n + sz a) r.1 (decide (kd a ≠ 70)) ∧ V3 h' (n + sz a) (n + sz a + sz b) r.2 (decide (kd b ≠ 70)) ∧ Chg (ndA n (n + sz a + sz b)) h h' := by
  have A := ra n l (f + sz b) h q na (by omega) (by omega) (fun m m1 m2 => hT m m1 (by omega))
  rw [show f + sz b + 1 + sz a = f + 1 + sz b + sz a by omega, show f + sz b + 1 = f + 1 + sz b by omega] at A
  cases hx : P.te c E a with
  | none =>
    rw [hx] at A
    obtain ⟨h', e1, e2⟩ := A
    exact ⟨h', e1, e2.mono (fun a k z => z.mono (Nat.le_refl _) (by omega))⟩
  | some x =>
    rw [hx] at A
    obtain ⟨h1, e1, e2, e3, v1, g1⟩ := A
    have q1 := q.nd g1
    have hr : ∀ a, a = 151 ∨ a = 155 → rd h1 a s = rd h a s := fun a ha => g1.2.2.1 _ _ (by unfold ndA; omega)
    have B := rb (n + sz a) (l + ls a) f h1 q1 (nb.nd g1 (Or.inl (Nat.le_refl _))) (by omega) (by omega) (fun m m1 m2 => by rw [hr _ (Or.inl rfl), hr _ (Or.inr rfl)]; exact hT m (by omega) (by omega))
    rw [Option.bind_some, e1]
    cases hy : P.te c E b with
    | none =>
      rw [hy] at B
      obtain ⟨h', f1, f2⟩ := B
      exact ⟨h', f1, (g1.mono (fun a k z => z.mono (Nat.le_refl _) (by omega))).trans (f2.mono (fun a k z => z.mono (by omega) (Nat.le_refl _)))⟩
    | some y =>
      rw [hy] at B
      obtain ⟨h2, f1, f2, f3, v2, g2⟩ := B
      exact ⟨h2, f1, q1.nd g2, e2.nd g2 (Or.inr (Nat.le_refl _)), f2, e3.nd g2 (Or.inr (Nat.le_refl _)), f3, v1.nd g2 (Or.inr (Nat.le_refl _)), v2, (g1.mono (fun a k z => z.mono (Nat.le_refl _) (by omega))).trans (g2.mono (fun a k z => z.mono (by omega) (Nat.le_refl _)))⟩
theorem RunN.arg {P : Pgm} {D : List Int32 → Prop} {num : List Int32 → Nat} {c N s fr to v w : Nat} {E : EnvV} {a b : Tr} (ra : RunN P D num c E N s fr to a) (rb : RunN P D num c E N s fr to b) : RunN P D num c E N s fr to (nd 70 v w a b) := by
  intro n l f h q rn hs hl hT
  have hz : sz (nd 70 v w a b) = sz a + sz b := by rw [sz_nd, if_pos (Or.inr rfl)]; omega
  have hll : ls (nd 70 v w a b) = ls a + ls b := by rw [ls_nd, if_neg (by omega)]; omega
  rw [hz] at hs hT
  rw [hll] at hl
  rw [RN_nd] at rn
  have A := RunN.two (f := f) ra rb q rn.1 rn.2.1 (by omega) (by omega) (fun m m1 m2 => hT m m1 (by omega))
  have hop : ∀ x, P.opT c E 70 w x = some x := fun x => by unfold Pgm.opT; rw [if_pos rfl]
  rw [hz, show f + 1 + (sz a + sz b) = f + 1 + sz b + sz a by omega, show n + (sz a + sz b) = n + sz a + sz b by omega, Pgm.te_nd]
  cases hx : P.te c E a with
  | none => rw [hx] at A; exact A
  | some x =>
    rw [hx, Option.bind_some] at A
    rw [Option.bind_some]
    cases hy : P.te c E b with
    | none => rw [hy] at A; exact A
    | some y =>
      rw [hy] at A
      rw [Option.bind_some, hop]
      obtain ⟨h', e1, e2, e3, e4, e5, e6, v1, v2, g⟩ := A
      refine ⟨h', e1, ?_, ?_, fun m m1 m2 m3 => ?_, g⟩
      · rw [TyT_nd, if_pos rfl]
        exact ⟨x, y, rfl, e3, e4⟩
      · rw [RXn_nd]
        exact ⟨e5, e6, Or.inr (Or.inl rfl)⟩
      · rcases Nat.lt_or_ge m (n + sz a) with z | z
        · exact ⟨List.mem_append_left _ (v1 m m1 z m3).1, fun y => absurd rfl (of_decide_eq_true y)⟩
        · exact ⟨List.mem_append_right _ (v2 m z m2 m3).1, fun y => absurd rfl (of_decide_eq_true y)⟩
theorem RunN.self {P : Pgm} {D : List Int32 → Prop} {num : List Int32 → Nat} {c N s fr to : Nat} {E : EnvV} : RunN P D num c E N s fr to eSelf := fun n l f h _ _ _ _ _ => ⟨h, rfl, rfl, ⟨trivial, trivial, Or.inl rfl⟩, fun m m1 m2 => absurd m2 (by show ¬ m < n + 0; omega), Chg.refl _ _⟩
theorem RunN.fork {P : Pgm} {D : List Int32 → Prop} {num : List Int32 → Nat} {c N s fr to k v w : Nat} {E : EnvV} {a b : Tr} (hN : 0 < N) (hto : to < 3200) (hk : k ≠ 50 ∧ k ≠ 70) (ra : RunN P D num c E N s fr to a) (rb : RunN P D num c E N s fr to b) (F3 : ∀ x y r, P.te c E a = some x → P.te c E b = some y → P.opT c E k w (x ++ y) = some r → 3 ∉ x ++ y) (F : ∀ (n l : Nat) (h : pH) (x y : List Nat), RS P D num c E h → RNd P D num h k v w a b n l → n + sz a + sz b < 3200 → l + ls a + ls b + (if k = 30 then v else 0) ≤ 3200 → TyT P h c a n x → TyT P h c b (n + sz a) y → P.te c E a = some x → P.te c E b = some y → ¬ (rd h 151 s = 8 ∧ Int32.ofNat (n + sz a + sz b) = rd h 155 s) → NdR P (P.rnK num c E k v w a (x ++ y)).1 (P.rnK num c E k v w a (x ++ y)).2 (n + sz a + sz b) (P.opT c E k w (x ++ y)) (fX12_checkNode N 138 (Int32.ofNat s) (Int32.ofNat (n + sz a + sz b)) h) h ∧ (k = 30 → ∀ h' r, fX12_checkNode N 138 (Int32.ofNat s) (Int32.ofNat (n + sz a + sz b)) h = some (r, h') → rd h' 182 (n + sz a + sz b) = Int32.ofNat v)) : RunN P D num c E N s fr to (nd k v w a b) := by
  intro n l f h q rn hs hl hT
  have hz : sz (nd k v w a b) = sz a + sz b + 1 := by rw [sz_nd, if_neg (by omega)]
  have hll : ls (nd k v w a b) = ls a + ls b + (if k = 30 then v else 0) := ls_nd _ _ _ _ _
  rw [hz] at hs hT
  rw [hll] at hl
  rw [RN_nd] at rn
  obtain ⟨rn1, rn2, rn3⟩ := rn
  have A := RunN.two (f := f + 1) ra rb q rn1 rn2 (by omega) (by omega) (fun m m1 m2 => hT m m1 (by omega))
  rw [hz, show f + 1 + (sz a + sz b + 1) = f + 1 + 1 + sz b + sz a by omega, show n + (sz a + sz b + 1) = n + sz a + sz b + 1 by omega, Pgm.te_nd]
  cases hx : P.te c E a with
  | none =>
    rw [hx] at A
    obtain ⟨h', e1, e2⟩ := A
    exact ⟨h', e1, e2.mono (fun a k z => z.mono (Nat.le_refl _) (by omega))⟩
  | some x =>
    rw [hx, Option.bind_some] at A
    rw [Option.bind_some]
    cases hy : P.te c E b with
    | none =>
      rw [hy] at A
      obtain ⟨h', e1, e2⟩ := A
      exact ⟨h', e1, e2.mono (fun a k z => z.mono (Nat.le_refl _) (by omega))⟩
    | some y =>
      rw [hy] at A
      rw [Option.bind_some]
      obtain ⟨h1, e1, e2, e3, e4, e5, e6, v1, v2, g⟩ := A
      have rn3' : RNd P D num h1 k v w a b n l := by
        obtain ⟨r1, r2, r3, r4, r5, r6⟩ := (rn3.resolve_left hk.1).resolve_left hk.2
        have g1 : ∀ a' , rd h1 a' (n + sz a + sz b) = rd h a' (n + sz a + sz b) := fun a' => g.2.2.1 _ _ (by unfold ndA; omega)
        refine Or.inr (Or.inr ⟨by rw [g1]; exact r1, by rw [g1]; exact r2, by rw [g1]; exact r3, by rw [g1]; exact r4, r5, fun hk => ⟨by rw [g1]; exact (r6 hk).1, (r6 hk).2.1, fun i j hj => ?_⟩⟩)
        rw [g.2.2.1 _ _ (by unfold ndA; omega)]
        exact (r6 hk).2.2 i j hj
      have hr : ∀ a, a = 151 ∨ a = 155 → rd h1 a s = rd h a s := fun a ha => g.2.2.1 _ _ (by unfold ndA; omega)
      obtain ⟨nd1, nd2⟩ := F n l h1 x y e2 rn3' (by omega) (by omega) e3 e4 hx hy (by rw [hr _ (Or.inl rfl), hr _ (Or.inr rfl)]; exact hT _ (by omega) (by omega))
      rw [e1, lp_step (by omega) hto]
      cases ho : P.opT c E k w (x ++ y) with
      | none =>
        rw [ho] at nd1
        obtain ⟨h2, f1, g2⟩ := nd1
        refine ⟨h2, ?_, (g.mono (fun a k z => z.mono (Nat.le_refl _) (by omega))).trans (g2.mono (fun a k z => z.mono (by omega) (Nat.le_refl _)))⟩
        rw [f1, Option.bind_some]
        exact lp_bad hN
      | some r =>
        rw [ho] at nd1
        obtain ⟨h2, t, f0, f1, f2, f3, f4, f5, g2⟩ := nd1
        have n3 := F3 x y r hx hy ho
        refine ⟨h2, ?_, ?_, ?_, fun m m1 m2 m3 => ?_, (g.mono (fun a k z => z.mono (Nat.le_refl _) (by omega))).trans (g2.mono (fun a k z => z.mono (by omega) (Nat.le_refl _)))⟩
        · rw [f1, Option.bind_some]
        · rw [TyT_nd, if_neg hk.2, if_neg hk.1]
          exact ⟨t, f0, f2, f3⟩
        · rw [RXn_nd, hx, hy]
          obtain ⟨r1, r2, r3, r4, r5, r6⟩ := (rn3'.resolve_left hk.1).resolve_left hk.2
          refine ⟨e5.nd g2 (Or.inr (by omega)), e6.nd g2 (Or.inr (by omega)), Or.inr (Or.inr ⟨f4, ?_, ?_, f5, fun h30 => ⟨nd2 h30 _ _ f1, (r6 h30).2.1, fun i j hj => ?_⟩⟩)⟩
          · rw [g2.2.2.1 _ _ (by unfold ndA; omega)]; exact r2
          · rw [g2.2.2.1 _ _ (by unfold ndA; omega)]; exact r3
          · rw [g2.2.2.1 _ _ (by unfold ndA; omega)]; exact (r6 h30).2.2 i j hj
        · by_cases zm : m = n + sz a + sz b
          · rw [zm, f2] at m3
            have h3 : t = 3 := (iEq (by have := tOk_lt (RT.n400 e2.1.1) f3; omega) (by omega)).mp (show Int32.ofNat t = Int32.ofNat 3 from m3)
            rw [f0, h3]
            exact ⟨List.mem_singleton.mpr rfl, fun _ => by omega⟩
          · rw [g2.2.2.1 _ _ (by unfold ndA; omega)] at m3
            rcases Nat.lt_or_ge m (n + sz a) with z | z
            · exact absurd (List.mem_append_left _ (v1 m m1 z m3).1) n3
            · exact absurd (List.mem_append_right _ (v2 m z (by omega) m3).1) n3
