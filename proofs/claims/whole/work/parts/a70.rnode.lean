/-! ===== THE REFERENCE'S TYPER: nodes ===== -/
/-- the reference, all checked so far -/
def RK (P : Pgm) (D : List Int32 → Prop) (num : List Int32 → Nat) (h : pH) : Prop := RT P D num h ∧ RPr P h ∧ RQ P D num h ∧ RM1 P h ∧ RLy P h
def rkA (a k : Nat) : Prop := rtA a ∨ a = 165 ∨ a = 166 ∨ a = 170 ∨ a = 172 ∨ a = 175 ∨ a = 176 ∨ a = 177 ∨ (a = 138 ∧ (k = 37 ∨ k = 44 ∨ k = 53))
theorem RK.chg {A : Nat → Nat → Prop} {P : Pgm} {D : List Int32 → Prop} {num : List Int32 → Nat} {h h' : pH} (q : RK P D num h) (g : Chg A h h') (hA : ∀ a k, rkA a k → ¬ A a k) : RK P D num h' := by
  obtain ⟨q1, q2, q3, q4, q5⟩ := q
  refine ⟨q1.chg g (fun a k z => hA a k (Or.inl z)) (hA _ _ (by unfold rkA; omega)) (hA _ _ (by unfold rkA; omega)), fun c hc => ?_, q3.chg g (hA _ _ (by unfold rkA; omega)) (fun k => hA _ _ (by unfold rkA; omega)) (fun k => hA _ _ (by unfold rkA; omega)), ⟨fun m b hb => ?_, fun i x hx => ?_⟩, fun c hc => ⟨?_, fun j j1 j2 j3 => ?_⟩⟩
  · rw [g.2.2.1 _ _ (hA _ _ (by unfold rkA; omega))]; exact q2 c hc
  · rw [g.2.2.1 _ _ (hA _ _ (by unfold rkA; omega))]; exact q4.1 m b hb
  · rw [g.2.2.1 _ _ (hA _ _ (by unfold rkA; omega))]; exact q4.2 i x hx
  · rw [g.2.2.1 _ _ (hA _ _ (by unfold rkA; omega))]; exact (q5 c hc).1
  · rw [g.2.2.1 _ _ (hA _ _ (by unfold rkA; omega))]; exact (q5 c hc).2 j j1 j2 j3
theorem RK.type {P : Pgm} {D : List Int32 → Prop} {num : List Int32 → Nat} {h : pH} (q : RK P D num h) {m : Nat} (hm : m < P.ms.length) : rd h 170 m = Int32.ofNat (P.mty m) ∧ P.tOk (P.mty m) := by
  have hb : P.ms[m]? = some (P.ms[m]'hm) := List.getElem?_eq_getElem hm
  have e : P.mty m = P.rt (P.ms[m]'hm).2.1 := by unfold Pgm.mty; rw [hb]
  rw [e]
  exact ⟨q.2.2.2.1.1 m _ hb, P.rt_ok⟩
/-- types told in E are no void -/
def EnvV.no3 (E : EnvV) : Prop := ∀ (i : Nat) (x : List Int32 × Nat), E.1[i]? = some x → x.2 ≠ 3
/-- the reference's typer stands in class c with E -/
def RS (P : Pgm) (D : List Int32 → Prop) (num : List Int32 → Nat) (c : Nat) (E : EnvV) (h : pH) : Prop := RK P D num h ∧ RSc P D num E h ∧ rd h 138 60 = Int32.ofNat c ∧ E.one ∧ E.no3
/-- what a node tells -/
def ofN (P : Pgm) (num : List Int32 → Nat) (k v w : Nat) : Int32 := if k = 1 ∨ k = 2 then Int32.ofNat v else if k = 6 ∨ k = 13 ∨ k = 9 ∨ k = 15 ∨ k = 16 ∨ k = 30 then Int32.ofNat (num (P.1 w)) else sgC k
def nmK2 (k : Nat) : Prop := k = 6 ∨ k = 13 ∨ k = 9 ∨ k = 15 ∨ k = 16 ∨ k = 30
/-- a node as it was read -/
def RNd (P : Pgm) (D : List Int32 → Prop) (num : List Int32 → Nat) (h : pH) (k v w : Nat) (a b : Tr) (n l : Nat) : Prop := k = 50 ∨ k = 70 ∨ (rd h 144 (n + sz a + sz b) = nK k a ∧ rd h 145 (n + sz a + sz b) = n1 k a n ∧ rd h 146 (n + sz a + sz b) = n2 k a b n l ∧ rd h 147 (n + sz a + sz b) = ofN P num k v w ∧ (nmK2 k → D (P.1 w)) ∧ (k = 30 → rd h 148 (n + sz a + sz b) = Int32.ofNat v ∧ (argR a n).length = v ∧ ∀ (i j : Nat), (argR a n)[i]? = some j → rd h 149 (l + ls a + i) = Int32.ofNat j))
def RN (P : Pgm) (D : List Int32 → Prop) (num : List Int32 → Nat) (h : pH) : Tr → Nat → Nat → Prop
  | .op (.op (.var k) (.op (.var v) (.var w))) (.op a b), n, l => RN P D num h a n l ∧ RN P D num h b (n + sz a) (l + ls a) ∧ RNd P D num h k v w a b n l
  | _, _, _ => True
theorem RN_nd (P : Pgm) (D : List Int32 → Prop) (num : List Int32 → Nat) (h : pH) (k v w : Nat) (a b : Tr) (n l : Nat) : RN P D num h (nd k v w a b) n l = (RN P D num h a n l ∧ RN P D num h b (n + sz a) (l + ls a) ∧ RNd P D num h k v w a b n l) := rfl
theorem RN_no {P : Pgm} {D : List Int32 → Prop} {num : List Int32 → Nat} {h : pH} {e : Tr} (he : ∀ k v w a b, e ≠ nd k v w a b) (n l : Nat) : RN P D num h e n l := by
  unfold RN
  split
  · exact absurd rfl (he _ _ _ _ _)
  · trivial
theorem NE.rn {T : Txt} {h : pH} (cs : List Cl) (hi : nmInj h) : ∀ (e : Tr) (n l : Nat), NE T h e n l → RN (tkW T, cs) (rD h) (rnum h) h e n l := by
  intro e
  induction e using Tr.rec2 with
  | h2 e he => intro n l _; exact RN_no he n l
  | h1 k v w a b iha ihb =>
    intro n l q
    rw [NE_nd] at q
    obtain ⟨q1, q2, q3⟩ := q
    rw [RN_nd]
    refine ⟨iha _ _ q1, ihb _ _ q2, ?_⟩
    rcases q3 with q3 | q3 | ⟨r1, r2, r3, r4, r5⟩
    · exact Or.inl q3
    · exact Or.inr (Or.inl q3)
    · have key : rd h 147 (n + sz a + sz b) = ofN (tkW T, cs) (rnum h) k v w ∧ (nmK2 k → rD h (tkW T w)) := by
        unfold ofOk at r4
        unfold ofN nmK2
        by_cases z1 : k = 1 ∨ k = 2
        · rw [if_pos z1] at r4
          rw [if_pos z1]
          exact ⟨r4, fun y => by omega⟩
        · rw [if_neg z1] at r4
          rw [if_neg z1]
          by_cases z2 : k = 6 ∨ k = 13 ∨ k = 9 ∨ k = 15 ∨ k = 16 ∨ k = 30
          · rw [if_pos z2] at r4
            rw [if_pos z2]
            obtain ⟨s1, s2⟩ := r4.num hi
            exact ⟨s2, fun _ => s1⟩
          · rw [if_neg z2] at r4
            rw [if_neg z2]
            exact ⟨r4, fun y => absurd y z2⟩
      exact Or.inr (Or.inr ⟨r1, r2, r3, key.1, key.2, r5⟩)
/-- what typing nodes from lo to hi changes -/
def ndA (lo hi a k : Nat) : Prop := (a = 144 ∨ a = 147 ∨ a = 148 ∨ a = 182) ∧ lo ≤ k ∧ k < hi
theorem ndA.rk {lo hi : Nat} (a k : Nat) (h : rkA a k) : ¬ ndA lo hi a k := by
  unfold rkA rtA at h
  unfold ndA
  omega
theorem ndA.mono {lo hi lo' hi' a k : Nat} (h : ndA lo' hi' a k) (h1 : lo ≤ lo') (h2 : hi' ≤ hi) : ndA lo hi a k := ⟨h.1, by have := h.2.1; omega, by have := h.2.2; omega⟩
theorem RS.chg {A : Nat → Nat → Prop} {P : Pgm} {D : List Int32 → Prop} {num : List Int32 → Nat} {c : Nat} {E : EnvV} {h h' : pH} (q : RS P D num c E h) (g : Chg A h h') (hA : ∀ a k, rkA a k → ¬ A a k) (hB : ∀ a k, (a = 178 ∨ a = 179 ∨ a = 180 ∨ (a = 138 ∧ (k = 62 ∨ k = 66 ∨ k = 60))) → ¬ A a k) : RS P D num c E h' := by
  obtain ⟨q1, q2, q3, q4, q5⟩ := q
  exact ⟨q1.chg g hA, q2.chg g (fun a k z => hB a k (by omega)), by rw [g.2.2.1 _ _ (hB _ _ (by omega))]; exact q3, q4, q5⟩
theorem RS.nd {lo hi : Nat} {P : Pgm} {D : List Int32 → Prop} {num : List Int32 → Nat} {c : Nat} {E : EnvV} {h h' : pH} (q : RS P D num c E h) (g : Chg (ndA lo hi) h h') : RS P D num c E h' := q.chg g ndA.rk (fun a k z => by unfold ndA; omega)
theorem RN.ag {P : Pgm} {D : List Int32 → Prop} {num : List Int32 → Nat} {h h' : pH} : ∀ (e : Tr) (n l : Nat), RN P D num h e n l → (∀ a m, 144 ≤ a → a ≤ 148 → n ≤ m → m < n + sz e → rd h' a m = rd h a m) → (∀ m, rd h' 149 m = rd h 149 m) → RN P D num h' e n l := by
  intro e
  induction e using Tr.rec2 with
  | h2 e he => intro n l _ _ _; exact RN_no he n l
  | h1 k v w a b iha ihb =>
    intro n l q g1 g2
    rw [sz_nd] at g1
    rw [RN_nd] at q ⊢
    obtain ⟨q1, q2, q3⟩ := q
    refine ⟨iha _ _ q1 (fun a m i1 i2 i3 i4 => g1 a m i1 i2 (by omega) (by omega)) g2, ihb _ _ q2 (fun a m i1 i2 i3 i4 => g1 a m i1 i2 (by omega) (by omega)) g2, ?_⟩
    by_cases z : k = 50 ∨ k = 70
    · rcases z with z | z
      · exact Or.inl z
      · exact Or.inr (Or.inl z)
    · rw [if_neg z] at g1
      obtain ⟨r1, r2, r3, r4, r5, r6⟩ := (q3.resolve_left (fun y => z (Or.inl y))).resolve_left (fun y => z (Or.inr y))
      refine Or.inr (Or.inr ⟨?_, ?_, ?_, ?_, r5, fun hk => ⟨?_, (r6 hk).2.1, fun i j hj => ?_⟩⟩)
      · rw [g1 _ _ (by omega) (by omega) (by omega) (by omega)]; exact r1
      · rw [g1 _ _ (by omega) (by omega) (by omega) (by omega)]; exact r2
      · rw [g1 _ _ (by omega) (by omega) (by omega) (by omega)]; exact r3
      · rw [g1 _ _ (by omega) (by omega) (by omega) (by omega)]; exact r4
      · rw [g1 _ _ (by omega) (by omega) (by omega) (by omega)]; exact (r6 hk).1
      · rw [g2]; exact (r6 hk).2.2 i j hj
theorem RN.nd {P : Pgm} {D : List Int32 → Prop} {num : List Int32 → Nat} {lo hi n l : Nat} {e : Tr} {h h' : pH} (q : RN P D num h e n l) (g : Chg (ndA lo hi) h h') (hd : hi ≤ n ∨ n + sz e ≤ lo) : RN P D num h' e n l := RN.ag e n l q (fun a m i1 i2 i3 i4 => g.2.2.1 _ _ (by unfold ndA; omega)) (fun m => g.2.2.1 _ _ (by unfold ndA; omega))
/-- the body of checkNode -/
def ckB (N : Nat) (v1 v2 t31 t33 t35 : Int32) (h : pH) : Option (Int32 × pH) :=
  if t35 = 0 then (
  fX12_checkNode_128 N 138 v2 h) else
  if t35 = 1 then (
  fX12_checkNode_417 N 138 v2 (4 : Int32) h) else
  if t35 = 2 then (
  (getI h 138 12 60).bind fun t58 =>
  fX12_checkNode_417 N 138 v2 ((10 : Int32) + t58) h) else
  if t35 = 3 then (
  fX12_checkNode_128 N 138 v2 h) else
  if t35 = 4 then (
  (fX12_named N 138 v1 v2 h).bind fun q59 =>
  fX12_checkNode_417 N 138 v2 q59.1 q59.2) else
  if t35 = 5 then (
  (fX12_meantClass N 138 v2 h).bind fun q60 =>
  fX12_checkNode_417 N 138 v2 q60.1 q60.2) else
  if t35 = 6 then (
  (fX12_field N 138 v2 t31 h).bind fun q61 =>
  fX12_checkNode_417 N 138 v2 q61.1 q61.2) else
  if t35 = 7 then (
  (getR h 138 12 20).bind fun t62 =>
  (ldI h t62 t31).bind fun t63 =>
  if t63 = (2 : Int32) then (
  (getR h 138 12 20).bind fun t65 =>
  (ldI h t65 t33).bind fun t66 =>
  if t66 = 0 then (
  fX12_checkNode_215 N 138 v2 (0 : Int32) h) else (
  fX12_checkNode_214 N 138 v2 h)) else (
  fX12_checkNode_214 N 138 v2 h)) else
  if t35 = 8 then (
  fX12_checkNode_220 N 138 v2 t31 h) else
  if t35 = 9 then (
  fX12_checkNode_220 N 138 v2 t31 h) else
  if t35 = 10 then (
  fX12_checkNode_231 N 138 v2 t31 h) else
  if t35 = 11 then (
  fX12_checkNode_231 N 138 v2 t31 h) else
  if t35 = 12 then (
  (getR h 138 12 20).bind fun t68 =>
  (ldI h t68 t31).bind fun t69 =>
  if t69 = 0 then (
  fX12_checkNode_317 N 138 v2 (2 : Int32) h) else (
  fX12_checkNode_317 N 138 v2 (5 : Int32) h)) else
  if t35 = 13 then (
  (getR h 138 12 20).bind fun t71 =>
  (ldI h t71 t31).bind fun t72 =>
  if t72 = 0 then (
  fX12_checkNode_336 N 138 v2 (0 : Int32) h) else (
  fX12_checkNode_336 N 138 v2 (5 : Int32) h)) else
  if t35 = 14 then (
  (getR h 138 12 20).bind fun t74 =>
  (ldI h t74 t31).bind fun t75 =>
  if t75 = (1 : Int32) then (
  fX12_checkNode_356 N 138 v2 (1 : Int32) h) else (
  fX12_checkNode_356 N 138 v2 (5 : Int32) h)) else
  if t35 = 15 then (
  fX12_checkNode_392 N 138 v2 t31 t33 h) else
  if t35 = 16 then (
  fX12_checkNode_361 N 138 v2 t31 t33 h) else
  if t35 = 17 then (
  fX12_checkNode_361 N 138 v2 t31 t33 h) else
  if t35 = 18 then (
  fX12_checkNode_392 N 138 v2 t31 t33 h) else
  if t35 = 19 then (
  fX12_checkNode_392 N 138 v2 t31 t33 h) else
  if t35 = 20 then (
  fX12_checkNode_392 N 138 v2 t31 t33 h) else
  if t35 = 21 then (
  fX12_checkNode_417 N 138 v2 (1 : Int32) h) else
  fX12_checkNode_392 N 138 v2 t31 t33 h
theorem ckB_of {N m : Nat} {s : Int32} {h : pH} (hs : Sg h) (hm : m < 3200) : fX12_checkNode N 138 s (Int32.ofNat m) h = ckB N s (Int32.ofNat m) (rd h 145 m) (rd h 146 m) (rd h 144 m) h := by
  unfold fX12_checkNode
  rw [if_pos (o_138 hs), R_138_17 hs, Option.bind_some, L_145 hs hm, Option.bind_some, R_138_18 hs, Option.bind_some, L_146 hs hm, Option.bind_some, R_138_16 hs, Option.bind_some, L_144 hs hm, Option.bind_some]
  rfl
/-- what comes of a node -/
def NdR (P : Pgm) (K V : Int32) (m : Nat) (o : Option (List Nat)) (x : Option (Int32 × pH)) (h : pH) : Prop := match o with
  | none => ∃ h', x = some (0, h') ∧ Chg (ndA m (m + 1)) h h'
  | some r => ∃ h' t, r = [t] ∧ x = some (1, h') ∧ rd h' 148 m = Int32.ofNat t ∧ P.tOk t ∧ rd h' 144 m = K ∧ rd h' 147 m = V ∧ Chg (ndA m (m + 1)) h h'
theorem tOk_lt {P : Pgm} {t : Nat} (hn : P.n ≤ 400) (h : P.tOk t) : t < 500 := by
  unfold Pgm.tOk at h
  omega
theorem ck417 {P : Pgm} {N m t : Nat} {K V : Int32} {h0 h : pH} (hn : P.n ≤ 400) (hs : Sg h) (hm : m < 3200) (ht : P.tOk t) (g : Chg (ndA m (m + 1)) h0 h) (hK : t ≠ 5 → rd h 144 m = K) (hV : t ≠ 5 → rd h 147 m = V) : NdR P K V m (tS t) (fX12_checkNode_417 N 138 (Int32.ofNat m) (Int32.ofNat t) h) h0 := by
  have hl := tOk_lt hn ht
  have gg : Chg (ndA m (m + 1)) h0 (wr h 148 m (Int32.ofNat t)) := g.trans (Chg.wr _ _ _ _ (by unfold ndA; omega))
  unfold fX12_checkNode_417 tS
  rw [R_138_20 hs, Option.bind_some, T_148 hs hm, Option.bind_some, show (5 : Int32) = Int32.ofNat 5 from rfl, ifEq (by omega) (by omega)]
  by_cases z : t = 5
  · rw [if_pos z, if_pos z]
    exact ⟨_, rfl, gg⟩
  · rw [if_neg z, if_neg z]
    exact ⟨_, t, rfl, rfl, W_148 hs _ _, ht, by rw [rd_wr_ne _ _ (by omega)]; exact hK z, by rw [rd_wr_ne _ _ (by omega)]; exact hV z, gg⟩
/-- the types that the parts of a tree have -/
def TyT (P : Pgm) (h : pH) (c : Nat) : Tr → Nat → List Nat → Prop
  | .op (.op (.var k) (.op (.var _) (.var _))) (.op a b), n, x => if k = 70 then ∃ xa xb, x = xa ++ xb ∧ TyT P h c a n xa ∧ TyT P h c b (n + sz a) xb else if k = 50 then x = [10 + c] else ∃ t, x = [t] ∧ rd h 148 (n + sz a + sz b) = Int32.ofNat t ∧ P.tOk t
  | _, _, x => x = []
theorem TyT_nd (P : Pgm) (h : pH) (c k v w : Nat) (a b : Tr) (n : Nat) (x : List Nat) : TyT P h c (nd k v w a b) n x = if k = 70 then ∃ xa xb, x = xa ++ xb ∧ TyT P h c a n xa ∧ TyT P h c b (n + sz a) xb else if k = 50 then x = [10 + c] else ∃ t, x = [t] ∧ rd h 148 (n + sz a + sz b) = Int32.ofNat t ∧ P.tOk t := rfl
theorem TyT.ag {P : Pgm} {h h' : pH} {c : Nat} : ∀ (e : Tr) (n : Nat) (x : List Nat), TyT P h c e n x → (∀ m, n ≤ m → m < n + sz e → rd h' 148 m = rd h 148 m) → TyT P h' c e n x := by
  intro e
  induction e using Tr.rec2 with
  | h2 e he =>
    intro n x q _
    unfold TyT at q ⊢
    split
    · exact absurd rfl (he _ _ _ _ _)
    · split at q
      · exact absurd rfl (he _ _ _ _ _)
      · exact q
  | h1 k v w a b iha ihb =>
    intro n x q g
    rw [sz_nd] at g
    rw [TyT_nd] at q ⊢
    by_cases z : k = 70
    · rw [if_pos z] at q ⊢
      obtain ⟨xa, xb, q1, q2, q3⟩ := q
      exact ⟨xa, xb, q1, iha _ _ q2 (fun m i1 i2 => g m i1 (by omega)), ihb _ _ q3 (fun m i1 i2 => g m (by omega) (by omega))⟩
    · rw [if_neg z] at q ⊢
      by_cases y : k = 50
      · rw [if_pos y] at q ⊢
        exact q
      · rw [if_neg y] at q ⊢
        obtain ⟨t, q1, q2, q3⟩ := q
        exact ⟨t, q1, by rw [g _ (by omega) (by rw [if_neg (by omega)]; omega)]; exact q2, q3⟩
/-- the root of an expression -/
theorem TyT.root {S : Tks} {P : Pgm} {h : pH} {c n t : Nat} {e : Tr} (ox : Ox S e) (q : TyT P h c e n [t]) : rd h 148 (n + sz e - 1) = Int32.ofNat t ∧ P.tOk t ∧ 1 ≤ sz e := by
  obtain ⟨k, v, w, a, b, rfl, h1, h2⟩ := ox.nd
  rw [TyT_nd, if_neg (by omega), if_neg (by omega)] at q
  obtain ⟨u, q1, q2, q3⟩ := q
  have hz : sz (nd k v w a b) = sz a + sz b + 1 := by rw [sz_nd, if_neg (by omega)]
  injection q1 with q1
  rw [hz, show n + (sz a + sz b + 1) - 1 = n + sz a + sz b by omega, q1]
  exact ⟨q2, q3, by omega⟩
theorem ckB_0 {N : Nat} {v1 v2 t31 t33 : Int32} {h : pH} : ckB N v1 v2 t31 t33 0 h = (
  fX12_checkNode_128 N 138 v2 h) := rfl
theorem ckB_1 {N : Nat} {v1 v2 t31 t33 : Int32} {h : pH} : ckB N v1 v2 t31 t33 1 h = (
  fX12_checkNode_417 N 138 v2 (4 : Int32) h) := rfl
theorem ckB_2 {N : Nat} {v1 v2 t31 t33 : Int32} {h : pH} : ckB N v1 v2 t31 t33 2 h = (
  (getI h 138 12 60).bind fun t58 =>
  fX12_checkNode_417 N 138 v2 ((10 : Int32) + t58) h) := rfl
theorem ckB_3 {N : Nat} {v1 v2 t31 t33 : Int32} {h : pH} : ckB N v1 v2 t31 t33 3 h = (
  fX12_checkNode_128 N 138 v2 h) := rfl
theorem ckB_4 {N : Nat} {v1 v2 t31 t33 : Int32} {h : pH} : ckB N v1 v2 t31 t33 4 h = (
  (fX12_named N 138 v1 v2 h).bind fun q59 =>
  fX12_checkNode_417 N 138 v2 q59.1 q59.2) := rfl
theorem ckB_5 {N : Nat} {v1 v2 t31 t33 : Int32} {h : pH} : ckB N v1 v2 t31 t33 5 h = (
  (fX12_meantClass N 138 v2 h).bind fun q60 =>
  fX12_checkNode_417 N 138 v2 q60.1 q60.2) := rfl
theorem ckB_6 {N : Nat} {v1 v2 t31 t33 : Int32} {h : pH} : ckB N v1 v2 t31 t33 6 h = (
  (fX12_field N 138 v2 t31 h).bind fun q61 =>
  fX12_checkNode_417 N 138 v2 q61.1 q61.2) := rfl
theorem ckB_7 {N : Nat} {v1 v2 t31 t33 : Int32} {h : pH} : ckB N v1 v2 t31 t33 7 h = (
  (getR h 138 12 20).bind fun t62 =>
  (ldI h t62 t31).bind fun t63 =>
  if t63 = (2 : Int32) then (
  (getR h 138 12 20).bind fun t65 =>
  (ldI h t65 t33).bind fun t66 =>
  if t66 = 0 then (
  fX12_checkNode_215 N 138 v2 (0 : Int32) h) else (
  fX12_checkNode_214 N 138 v2 h)) else (
  fX12_checkNode_214 N 138 v2 h)) := rfl
theorem ckB_8 {N : Nat} {v1 v2 t31 t33 : Int32} {h : pH} : ckB N v1 v2 t31 t33 8 h = (
  fX12_checkNode_220 N 138 v2 t31 h) := rfl
theorem ckB_9 {N : Nat} {v1 v2 t31 t33 : Int32} {h : pH} : ckB N v1 v2 t31 t33 9 h = (
  fX12_checkNode_220 N 138 v2 t31 h) := rfl
theorem ckB_10 {N : Nat} {v1 v2 t31 t33 : Int32} {h : pH} : ckB N v1 v2 t31 t33 10 h = (
  fX12_checkNode_231 N 138 v2 t31 h) := rfl
theorem ckB_11 {N : Nat} {v1 v2 t31 t33 : Int32} {h : pH} : ckB N v1 v2 t31 t33 11 h = (
  fX12_checkNode_231 N 138 v2 t31 h) := rfl
theorem ckB_12 {N : Nat} {v1 v2 t31 t33 : Int32} {h : pH} : ckB N v1 v2 t31 t33 12 h = (
  (getR h 138 12 20).bind fun t68 =>
  (ldI h t68 t31).bind fun t69 =>
  if t69 = 0 then (
  fX12_checkNode_317 N 138 v2 (2 : Int32) h) else (
  fX12_checkNode_317 N 138 v2 (5 : Int32) h)) := rfl
theorem ckB_13 {N : Nat} {v1 v2 t31 t33 : Int32} {h : pH} : ckB N v1 v2 t31 t33 13 h = (
  (getR h 138 12 20).bind fun t71 =>
  (ldI h t71 t31).bind fun t72 =>
  if t72 = 0 then (
  fX12_checkNode_336 N 138 v2 (0 : Int32) h) else (
  fX12_checkNode_336 N 138 v2 (5 : Int32) h)) := rfl
theorem ckB_14 {N : Nat} {v1 v2 t31 t33 : Int32} {h : pH} : ckB N v1 v2 t31 t33 14 h = (
  (getR h 138 12 20).bind fun t74 =>
  (ldI h t74 t31).bind fun t75 =>
  if t75 = (1 : Int32) then (
  fX12_checkNode_356 N 138 v2 (1 : Int32) h) else (
  fX12_checkNode_356 N 138 v2 (5 : Int32) h)) := rfl
theorem ckB_15 {N : Nat} {v1 v2 t31 t33 : Int32} {h : pH} : ckB N v1 v2 t31 t33 15 h = (
  fX12_checkNode_392 N 138 v2 t31 t33 h) := rfl
theorem ckB_16 {N : Nat} {v1 v2 t31 t33 : Int32} {h : pH} : ckB N v1 v2 t31 t33 16 h = (
  fX12_checkNode_361 N 138 v2 t31 t33 h) := rfl
theorem ckB_17 {N : Nat} {v1 v2 t31 t33 : Int32} {h : pH} : ckB N v1 v2 t31 t33 17 h = (
  fX12_checkNode_361 N 138 v2 t31 t33 h) := rfl
theorem ckB_18 {N : Nat} {v1 v2 t31 t33 : Int32} {h : pH} : ckB N v1 v2 t31 t33 18 h = (
  fX12_checkNode_392 N 138 v2 t31 t33 h) := rfl
theorem ckB_19 {N : Nat} {v1 v2 t31 t33 : Int32} {h : pH} : ckB N v1 v2 t31 t33 19 h = (
  fX12_checkNode_392 N 138 v2 t31 t33 h) := rfl
theorem ckB_20 {N : Nat} {v1 v2 t31 t33 : Int32} {h : pH} : ckB N v1 v2 t31 t33 20 h = (
  fX12_checkNode_392 N 138 v2 t31 t33 h) := rfl
theorem ckB_21 {N : Nat} {v1 v2 t31 t33 : Int32} {h : pH} : ckB N v1 v2 t31 t33 21 h = (
  fX12_checkNode_417 N 138 v2 (1 : Int32) h) := rfl
