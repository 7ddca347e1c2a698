/-! ===== THE REFERENCE'S TYPER: calls ===== -/
/-- what a spine's types are: of what the call is, then the arguments -/
def SpT (P : Pgm) (h : pH) (c : Nat) (s : Tr) (n m : Nat) (x : List Nat) : Prop := ∃ r l, x = r :: l ∧ l.length = m ∧ (if ownT s = true then r = 10 + c else ∃ j, hdR s n = Int32.ofNat j ∧ n ≤ j ∧ j < n + sz s ∧ rd h 148 j = Int32.ofNat r ∧ P.tOk r) ∧ (argR s n).length = m ∧ ∀ i j, (argR s n)[i]? = some j → n ≤ j ∧ j < n + sz s ∧ rd h 148 j = Int32.ofNat (lget l i) ∧ P.tOk (lget l i)
theorem SpT.of {S : Tks} {P : Pgm} {h : pH} {c : Nat} : ∀ (m : Nat) (s : Tr) (n : Nat) (x : List Nat), OkSp (Ox S) m s → TyT P h c s n x → SpT P h c s n m x
  | 0, s, n, x, hs, q => by
    rcases hs with rfl | ox
    · have q : x = [10 + c] := q
      exact ⟨10 + c, [], q, rfl, by rw [show ownT eSelf = true from rfl, if_pos rfl], rfl, fun i j hj => by cases hj⟩
    · obtain ⟨k, v, w, a, b, rfl, h1, h2⟩ := ox.nd
      have hz : sz (nd k v w a b) = sz a + sz b + 1 := by rw [sz_nd, if_neg (by omega)]
      rw [TyT_nd, if_neg (by omega), if_neg (by omega)] at q
      obtain ⟨t, q1, q2, q3⟩ := q
      have ho : ownT (nd k v w a b) = false := by
        rw [ownT_nd, if_neg (by omega)]
        exact beq_false_of_ne (by omega)
      have hh : hdR (nd k v w a b) n = Int32.ofNat (n + sz a + sz b) := by rw [hdR_nd, if_neg (by omega), if_neg (by omega)]
      have hg : argR (nd k v w a b) n = [] := by rw [argR_nd, if_neg (by omega)]
      refine ⟨t, [], q1, rfl, ?_, by rw [hg]; rfl, fun i j hj => by rw [hg] at hj; cases hj⟩
      rw [ho, if_neg Bool.false_ne_true]
      exact ⟨n + sz a + sz b, hh, by omega, by rw [hz]; omega, q2, q3⟩
  | m + 1, s, n, x, ⟨a, b, hs, ha, hb⟩, q => by
    subst hs
    have q : TyT P h c (nd 70 0 0 a b) n x := q
    rw [TyT_nd, if_pos rfl] at q
    obtain ⟨xa, xb, q1, q2, q3⟩ := q
    obtain ⟨r, l, e1, e2, e3, e4, e5⟩ := SpT.of m a n xa ha q2
    obtain ⟨k, v, w, a', b', rfl, h1, h2⟩ := hb.nd
    have hzb : sz (nd k v w a' b') = sz a' + sz b' + 1 := by rw [sz_nd, if_neg (by omega)]
    have hz : sz (eArg a (nd k v w a' b')) = sz a + sz (nd k v w a' b') := by
      show sz (nd 70 0 0 a (nd k v w a' b')) = _
      rw [sz_nd, if_pos (by omega)]
      omega
    rw [TyT_nd, if_neg (by omega), if_neg (by omega)] at q3
    obtain ⟨t, t1, t2, t3⟩ := q3
    have ho : ownT (eArg a (nd k v w a' b')) = ownT a := by
      show ownT (nd 70 0 0 a (nd k v w a' b')) = _
      rw [ownT_nd, if_pos rfl]
    have hh : hdR (eArg a (nd k v w a' b')) n = hdR a n := by
      show hdR (nd 70 0 0 a (nd k v w a' b')) n = _
      rw [hdR_nd, if_pos rfl]
    have hg : argR (eArg a (nd k v w a' b')) n = argR a n ++ [n + sz a + sz (nd k v w a' b') - 1] := by
      show argR (nd 70 0 0 a (nd k v w a' b')) n = _
      rw [argR_nd, if_pos rfl]
    refine ⟨r, l ++ [t], by rw [q1, e1, t1]; rfl, by rw [List.length_append, e2]; rfl, ?_, by rw [hg, List.length_append, e4]; rfl, fun i j hj => ?_⟩
    · rw [ho]
      split
      · rename_i z; rw [if_pos z] at e3; exact e3
      · rename_i z
        rw [if_neg z] at e3
        obtain ⟨j, j1, j2, j3, j4⟩ := e3
        exact ⟨j, by rw [hh]; exact j1, j2, by rw [hz]; omega, j4⟩
    · rw [hg] at hj
      by_cases hi : i < m
      · rw [List.getElem?_append_left (by omega)] at hj
        obtain ⟨g1, g2, g3, g4⟩ := e5 i j hj
        have : lget (l ++ [t]) i = lget l i := by
          unfold lget
          rw [List.getElem?_append_left (by omega)]
        rw [this]
        exact ⟨g1, by rw [hz]; omega, g3, g4⟩
      · rw [List.getElem?_append_right (by omega), e4] at hj
        have hi2 : i - m = 0 := by
          by_cases y : i - m = 0
          · exact y
          · rw [List.getElem?_eq_none (by show 1 ≤ i - m; omega)] at hj
            cases hj
        rw [hi2] at hj
        obtain rfl : n + sz a + sz (nd k v w a' b') - 1 = j := Option.some.inj hj
        have : lget (l ++ [t]) i = t := by
          unfold lget
          rw [List.getElem?_append_right (by omega), e2, hi2]
          rfl
        rw [this, hz]
        refine ⟨by omega, by omega, ?_, t3⟩
        rw [← t2, hzb]
        congr 1
        omega
theorem call_106 {P : Pgm} {D : List Int32 → Prop} {num : List Int32 → Nat} {c N m m' v n l0 : Nat} {E : EnvV} {b : Mb} {a : Tr} {l : List Nat} {h : pH} (hN : 1100 ≤ N) (ha : Acy P) (q : RS P D num c E h) (hm : m < 3200) (hb : P.ms[m']? = some b) (hv : v = mbP b) (hl0 : l0 + v ≤ 3200) (h146 : rd h 146 m = Int32.ofNat l0) (h149 : ∀ i, i < v → ∃ j, rd h 149 (l0 + i) = Int32.ofNat j ∧ j < 3200 ∧ rd h 148 j = Int32.ofNat (lget l i) ∧ P.tOk (lget l i)) : ∀ (d i k : Nat) (z : Bool), i + d = v → d < k → fX12_call_106 N k 138 (Int32.ofNat m) (Int32.ofNat m') (Int32.ofNat v) (kI z) (Int32.ofNat i) h = some (Int32.ofNat (if (z && (fstN (fun i => !P.sub (lget l i) (P.rt (px b i).1)) d i).isNone) = true then P.rt b.2.1 else 5), h)
  | 0, i, k + 1, z, hd, hk => by
    obtain ⟨⟨rt, rp, rq, rm, rl⟩, _⟩ := q
    have hs := rt.1
    have hml := rt.2.2.2.2.2.2.2.2.2.2.1
    have hm' := (List.getElem?_eq_some_iff.mp hb).1
    have hvl : v ≤ 3200 := by omega
    rw [fX12_call_106, ifLe (by omega) (by omega), if_pos (by omega), kI_if, R_138_47 hs, Option.bind_some, L_170 hs (by omega), Option.bind_some, rm.1 m' b hb]
    cases z <;> rfl
  | d + 1, i, k + 1, z, hd, hk => by
    have IH := fun z => call_106 (n := n) (a := a) hN ha q hm hb hv hl0 h146 h149 d (i + 1) k z (by omega) (by omega)
    obtain ⟨⟨rt, rp, rq, rm, rl⟩, _⟩ := id q
    have hs := rt.1
    have hml := rt.2.2.2.2.2.2.2.2.2.2.1
    have hm' := (List.getElem?_eq_some_iff.mp hb).1
    obtain ⟨j, j1, j2, j3, j4⟩ := h149 i (by omega)
    obtain ⟨p1, p2, p3, p4⟩ := rq.at rm hb (show i < mbP b by omega)
    have hpf := rq.2.2.1 m' (by omega)
    rw [fX12_call_106, ifLe (by omega) (by omega), if_neg (by omega), kI_if, fstN_succ]
    cases z with
    | false =>
      rw [if_neg Bool.false_ne_true]
      unfold fX12_call_163 fX12_call_164
      rw [i_add1]
      have := IH false
      rw [show kI false = (0 : Int32) from rfl] at this
      rw [this, Bool.false_and, Bool.false_and]
    | true =>
      rw [if_pos rfl, R_138_20 hs, Option.bind_some, R_138_22 hs, Option.bind_some, R_138_18 hs, Option.bind_some, L_146 hs hm, Option.bind_some, h146, ← Int32.ofNat_add, L_149 hs (by omega), Option.bind_some, j1, L_148 hs j2, Option.bind_some, j3, R_138_54 hs, Option.bind_some, R_138_49 hs, Option.bind_some, L_172 hs (by omega), Option.bind_some, hpf, ← Int32.ofNat_add, L_176 hs (by omega), Option.bind_some, p1, rt.isSub rp ha hN j4 P.rt_ok, Option.bind_some]
      dsimp only
      rw [kI_if]
      unfold fX12_call_163 fX12_call_164
      rw [i_add1]
      cases hsub : P.sub (lget l i) (P.rt (px b i).1) with
      | true =>
        have := IH true
        rw [show kI true = (1 : Int32) from rfl] at this
        rw [if_pos rfl, this, if_neg (show ¬ (!true) = true by decide)]
      | false =>
        have := IH false
        rw [show kI false = (0 : Int32) from rfl] at this
        rw [if_neg Bool.false_ne_true, this]
        rfl
theorem nd_call {S : Tks} {P : Pgm} {D : List Int32 → Prop} {num : List Int32 → Nat} {c N m v w n l0 : Nat} {E : EnvV} {a : Tr} {x : List Nat} {s : Int32} {h : pH} (hN : 1100 ≤ N) (ha : Acy P) (hc : c < P.n) (q : RS P D num c E h) (hm : m < 3200) (hmn : n + sz a = m) (hw : D (P.1 w)) (hl0 : l0 + v ≤ 3200) (h144 : rd h 144 m = nK 30 a) (h145 : rd h 145 m = hdR a n) (h146 : rd h 146 m = Int32.ofNat l0) (h147 : rd h 147 m = Int32.ofNat (num (P.1 w))) (h148 : rd h 148 m = Int32.ofNat v) (hal : (argR a n).length = v) (h149 : ∀ (i j : Nat), (argR a n)[i]? = some j → rd h 149 (l0 + i) = Int32.ofNat j) (sp : SpT P h c a n v x) : NdR P (nK 30 a) (Int32.ofNat (num (P.1 w))) m (P.callT (P.1 w) x) (fX12_checkNode N 138 s (Int32.ofNat m) h) h ∧ ∀ h' r, fX12_checkNode N 138 s (Int32.ofNat m) h = some (r, h') → rd h' 182 m = Int32.ofNat v := by
  obtain ⟨⟨rt, rp, rq, rm, rl⟩, rsc, h60, ho, h3⟩ := id q
  have hs := rt.1
  have hn := rt.n400
  have hml := rt.2.2.2.2.2.2.2.2.2.2.1
  obtain ⟨r, l, rfl, hl, hr, _, hargs⟩ := sp
  have hs1 := hs.wr 182 m (Int32.ofNat v)
  have g1 : Chg (ndA m (m + 1)) h (wr h 182 m (Int32.ofNat v)) := Chg.wr _ _ _ _ (by unfold ndA; omega)
  have q1 : RS P D num c E (wr h 182 m (Int32.ofNat v)) := q.nd g1
  have hro : P.tOk r := by
    split at hr
    · rw [hr]; exact Or.inr ⟨by omega, by omega⟩
    · obtain ⟨j, _, _, _, _, hj⟩ := hr; exact hj
  have hrl := tOk_lt hn hro
  have F : ∀ z, P.tOk z → NdR P (nK 30 a) (Int32.ofNat (num (P.1 w))) m (tS z) (fX12_checkNode_417 N 138 (Int32.ofNat m) (Int32.ofNat z) (wr h 182 m (Int32.ofNat v))) h := fun z hz => ck417 hn hs1 hm hz g1 (fun _ => by rw [rd_wr_ne _ _ (by omega)]; exact h144) (fun _ => by rw [rd_wr_ne _ _ (by omega)]; exact h147)
  have W82 : ∀ z h' y, fX12_checkNode_417 N 138 (Int32.ofNat m) (Int32.ofNat z) (wr h 182 m (Int32.ofNat v)) = some (y, h') → rd h' 182 m = Int32.ofNat v := by
    intro z h' y e
    unfold fX12_checkNode_417 at e
    rw [R_138_20 hs1, Option.bind_some, T_148 hs1 hm, Option.bind_some] at e
    have : h' = wr (wr h 182 m (Int32.ofNat v)) 148 m (Int32.ofNat z) := by
      split at e
      · injection e with e; injection e with _ e; exact e.symm
      · injection e with e; injection e with _ e; exact e.symm
    rw [this, rd_wr_ne _ _ (by omega)]
    exact W_182 hs _ _
  have key : ∃ z, P.tOk z ∧ P.callT (P.1 w) (r :: l) = tS z ∧ fX12_checkNode N 138 s (Int32.ofNat m) h = fX12_checkNode_417 N 138 (Int32.ofNat m) (Int32.ofNat z) (wr h 182 m (Int32.ofNat v)) := by
    have c53 : ∀ o : Option Nat, (∀ e, o = some e → ∃ b, P.ms[e]? = some b) → fX12_call_53 N 138 (Int32.ofNat m) (oI (-1) o) h = some (Int32.ofNat (match o with | none => 5 | some e => match P.ms[e]? with | none => 5 | some b => if P.argT b l = true then P.rt b.2.1 else 5), wr h 182 m (Int32.ofNat v)) := by
      intro o hob
      unfold fX12_call_53
      rw [R_138_20 hs, Option.bind_some, L_148 hs hm, Option.bind_some, h148, R_138_68 hs, Option.bind_some, T_182 hs hm, Option.bind_some, i_neg_oI (fun e he => by obtain ⟨b, hb⟩ := hob e he; have := (List.getElem?_eq_some_iff.mp hb).1; omega)]
      cases o with
      | none => rfl
      | some m' =>
        obtain ⟨b, hb⟩ := hob m' rfl
        have hm' := (List.getElem?_eq_some_iff.mp hb).1
        have p0 := rq.2.2.1 m' (by omega)
        have p1 := rq.2.2.1 (m' + 1) (by omega)
        have hpf : P.pf (m' + 1) = P.pf m' + mbP b := by
          unfold Pgm.pf
          rw [List.take_succ, hb, msP_app]
          show msP (P.ms.take m') + (mbP b + 0) = _
          omega
        have hpl : P.pf (m' + 1) ≤ 850 := by
          have h1 := rq.2.1
          have h2 : P.pf (m' + 1) ≤ P.ps.length := by
            unfold Pgm.pf Pgm.ps
            rw [flat_len]
            have := msP_app (P.ms.take (m' + 1)) (P.ms.drop (m' + 1))
            rw [List.take_append_drop] at this
            omega
          omega
        rw [if_neg (show ¬ (some m').isNone = true from Bool.false_ne_true), show oI (-1) (some m') = Int32.ofNat m' from rfl, R_138_49 hs1, Option.bind_some, i_add1, L_172 hs1 (by omega), Option.bind_some, rd_wr_ne _ _ (by omega), p1, Option.bind_some, L_172 hs1 (by omega), Option.bind_some, rd_wr_ne _ _ (by omega), p0, hpf, i_sub, ifEq (by omega) (by omega)]
        show _ = some (Int32.ofNat (match P.ms[m']? with | none => 5 | some b => if P.argT b l = true then P.rt b.2.1 else 5), _)
        rw [hb]
        show _ = some (Int32.ofNat (if P.argT b l = true then P.rt b.2.1 else 5), _)
        unfold Pgm.argT
        rw [hl]
        by_cases z : mbP b = v
        · have cl := call_106 (N := N) (n := n) (a := a) (l := l) (v := v) hN ha q1 hm hb z.symm hl0 (by rw [rd_wr_ne _ _ (by omega)]; exact h146) (fun i hi => by
            have hlt : i < (argR a n).length := by omega
            have hj : (argR a n)[i]? = some ((argR a n)[i]'hlt) := List.getElem?_eq_getElem hlt
            obtain ⟨k1, k2, k3, k4⟩ := hargs i _ hj
            exact ⟨_, by rw [rd_wr_ne _ _ (by omega)]; exact h149 i _ hj, by omega, by rw [rd_wr_ne _ _ (by omega)]; exact k3, k4⟩) v 0 N true (by omega) (by omega)
          rw [if_pos z, decide_eq_true z, Bool.true_and]
          rw [show kI true = (1 : Int32) from rfl, Bool.true_and] at cl
          rw [show (Int32.ofNat 0) = (0 : Int32) from rfl] at cl
          rw [cl, z]
        · rw [if_neg z, decide_eq_false z, Bool.false_and]
          rfl
    have c27 : fX12_call_27 N 138 (Int32.ofNat m) (Int32.ofNat r) h = some (Int32.ofNat (if r < 10 then 5 else match P.had true (P.1 w) (r - 10) with | none => 5 | some e => match P.ms[e]? with | none => 5 | some b => if P.argT b l = true then P.rt b.2.1 else 5), wr h 182 m (Int32.ofNat v)) := by
      unfold fX12_call_27
      rw [show (10 : Int32) = Int32.ofNat 10 from rfl, ifLe (by omega) (by omega)]
      by_cases z : 10 ≤ r
      · have hrc : r - 10 < P.n := by unfold Pgm.tOk at hro; omega
        have mo := rt.memberOf (kk := true) rp ha hN hw hrc
        rw [if_pos z, if_neg (show ¬ r < 10 by omega), R_138_19 hs, Option.bind_some, L_147 hs hm, Option.bind_some, h147, show Int32.ofNat r - Int32.ofNat 10 = Int32.ofNat (r - 10) from i_sub10 z, show (1 : Int32) = kI true from rfl, mo, Option.bind_some]
        exact c53 _ (fun e he => by have h1 := (Pgm.hadF_lt he).1; exact ⟨_, List.getElem?_eq_getElem h1⟩)
      · rw [if_neg z, if_pos (show r < 10 by omega)]
        exact c53 none (fun e he => by cases he)
    refine ⟨if r < 10 then 5 else match P.had true (P.1 w) (r - 10) with | none => 5 | some e => match P.ms[e]? with | none => 5 | some b => if P.argT b l = true then P.rt b.2.1 else 5, ?_, ?_, ?_⟩
    · split
      · exact Or.inl (by omega)
      · split
        · exact Or.inl (by omega)
        · split
          · exact Or.inl (by omega)
          · split
            · exact P.rt_ok
            · exact Or.inl (by omega)
    · show (if r < 10 then none else match P.had true (P.1 w) (r - 10) with | none => none | some m => match P.ms[m]? with | none => none | some b => if P.argT b l = true then tS (P.rt b.2.1) else none) = _
      split
      · rfl
      · cases P.had true (P.1 w) (r - 10) with
        | none => rfl
        | some e =>
          cases he : P.ms[e]? with
          | none => simp only [he]; rfl
          | some b =>
            simp only [he]
            cases P.argT b l <;> rfl
    · have cc : fX12_checkNode_220 N 138 (Int32.ofNat m) (hdR a n) h = fX12_checkNode_417 N 138 (Int32.ofNat m) (Int32.ofNat (if r < 10 then 5 else match P.had true (P.1 w) (r - 10) with | none => 5 | some e => match P.ms[e]? with | none => 5 | some b => if P.argT b l = true then P.rt b.2.1 else 5)) (wr h 182 m (Int32.ofNat v)) := by
        unfold fX12_checkNode_220 fX12_call
        rw [if_pos (o_138 hs), R_138_16 hs, Option.bind_some, L_144 hs hm, Option.bind_some, h144]
        by_cases z : ownT a = true
        · rw [if_pos z] at hr
          have : nK 30 a = 9 := by
            show (if ownT a then (9 : Int32) else 8) = 9
            rw [z]; rfl
          rw [this, if_pos rfl, g_138_60 hs, Option.bind_some, h60, show (10 : Int32) = Int32.ofNat 10 from rfl, ← Int32.ofNat_add, ← hr, c27, Option.bind_some]
        · rw [if_neg z] at hr
          obtain ⟨j, j1, j2, j3, j4, j5⟩ := hr
          have : nK 30 a = 8 := by
            show (if ownT a then (9 : Int32) else 8) = 8
            rw [Bool.eq_false_iff.mpr z]; rfl
          rw [this, if_neg (show ¬ (8 : Int32) = 9 by decide), R_138_20 hs, Option.bind_some, j1, L_148 hs (by omega), Option.bind_some, j4, c27, Option.bind_some]
      rw [ckB_of hs hm, h144, h145]
      by_cases z : ownT a = true
      · have : nK 30 a = 9 := by
          show (if ownT a then (9 : Int32) else 8) = 9
          rw [z]; rfl
        rw [this, ckB_9]
        exact cc
      · have : nK 30 a = 8 := by
          show (if ownT a then (9 : Int32) else 8) = 8
          rw [Bool.eq_false_iff.mpr z]; rfl
        rw [this, ckB_8]
        exact cc
  obtain ⟨z, z1, z2, z3⟩ := key
  rw [z2, z3]
  exact ⟨F z z1, fun h' y e => W82 z h' y e⟩
