/-! ===== THE REFERENCE'S CHECK OF MEMBERS ===== -/
theorem i_neg_oI {o : Option Nat} (ho : ∀ c, o = some c → c < 100000) {α : Type} (x y : α) : (if oI (-1) o < 0 then x else y) = if o.isNone = true then x else y := by
  cases o with
  | none => rfl
  | some c =>
    have := ho c rfl
    rw [if_neg (show ¬ oI (-1) (some c) < 0 from i_nneg (by omega)), if_neg (show ¬ (some c).isNone = true from Bool.false_ne_true)]
theorem i_nn_oI {o : Option Nat} (ho : ∀ c, o = some c → c < 100000) {α : Type} (x y : α) : (if 0 ≤ oI (-1) o then x else y) = if o.isNone = true then y else x := by
  cases o with
  | none => rfl
  | some c =>
    have := ho c rfl
    rw [if_pos (show 0 ≤ oI (-1) (some c) from i_nn0 (by omega)), if_neg (show ¬ (some c).isNone = true from Bool.false_ne_true)]
theorem RT.fld_7 {P : Pgm} {D : List Int32 → Prop} {num : List Int32 → Nat} {N c m : Nat} {b : Mb} {h : pH} (hN : 1100 ≤ N) (q : RT P D num h) (hp : RPr P h) (ha : Acy P) (hb : P.ms[m]? = some b) (hc : c < P.n) : ∀ (d i k : Nat), i + d = m → d < k → fX12_isField_7 N k 138 (Int32.ofNat c) (Int32.ofNat m) (Int32.ofNat i) h = some (kI (!((fstN (P.mIs false (P.1 b.2.2.1)) d i).isNone && (P.hadO false (P.1 b.2.2.1) (P.par c)).isNone)), h)
  | 0, i, k, hd, hk => by
    obtain ⟨k, rfl⟩ : ∃ k', k = k' + 1 := ⟨k - 1, by omega⟩
    obtain ⟨q1, q2, q3, q4, q5, q6, q7, q8, q9, q10, q11, q12⟩ := id q
    have hm := (List.getElem?_eq_some_iff.mp hb).1
    obtain ⟨z1, z2, z3, z4⟩ := q12 m b hb
    rw [fX12_isField_7, ifLe (by omega) (by omega), if_pos (by omega), R_138_41 q1, Option.bind_some, L_165 q1 (by omega), Option.bind_some, hp c hc, i_neg_oI (fun e he => by have := Pgm.par_lt he; omega)]
    rcases hpc : P.par c with _ | e
    · rfl
    · have he := Pgm.par_lt hpc
      have mo := q.memberOf (kk := false) hp ha hN z1 he
      rw [show kI false = 0 from rfl] at mo
      rw [if_neg (show ¬ (some e).isNone = true from Bool.false_ne_true), Option.bind_some, L_165 q1 (by omega), Option.bind_some, hp c hc, hpc, R_138_45 q1, Option.bind_some, L_168 q1 (by omega), Option.bind_some, z2, show oI (-1) (some e) = Int32.ofNat e from rfl, mo, Option.bind_some]
      dsimp only
      rw [i_neg_oI (fun e he => by have := (Pgm.hadF_lt he).1; omega)]
      show _ = some (kI (!(true && (P.had false (P.1 b.2.2.1) e).isNone)), h)
      cases (P.had false (P.1 b.2.2.1) e).isNone <;> rfl
  | d + 1, i, k, hd, hk => by
    obtain ⟨k, rfl⟩ : ∃ k', k = k' + 1 := ⟨k - 1, by omega⟩
    obtain ⟨q1, q2, q3, q4, q5, q6, q7, q8, q9, q10, q11, q12⟩ := id q
    have hm := (List.getElem?_eq_some_iff.mp hb).1
    obtain ⟨z1, z2, z3, z4⟩ := q12 m b hb
    have IH := RT.fld_7 hN q hp ha hb hc d (i + 1) k (by omega) (by omega)
    obtain ⟨x, hx⟩ : ∃ b, P.ms[i]? = some b := ⟨P.ms[i]'(by omega), List.getElem?_eq_getElem (by omega)⟩
    obtain ⟨y1, y2, y3, y4⟩ := q12 i x hx
    have hmm : P.mIs false (P.1 b.2.2.1) i = decide (x.1 = false ∧ P.1 x.2.2.1 = P.1 b.2.2.1) := by unfold Pgm.mIs; rw [hx]
    have n1 := q3 (P.1 x.2.2.1)
    have n2 := q3 (P.1 b.2.2.1)
    rw [fX12_isField_7, ifLe (by omega) (by omega), if_neg (by omega), R_138_48 q1, Option.bind_some, L_171 q1 (by omega), Option.bind_some, y3, kI_if, R_138_45 q1, Option.bind_some, L_168 q1 (by omega), Option.bind_some, Option.bind_some, L_168 q1 (by omega), Option.bind_some, y2, z2, ifEq (by omega) (by omega), fstN_succ, hmm]
    unfold fX12_isField_38
    rw [i_add1, IH]
    cases hx1 : x.1 with
    | true => rw [if_pos rfl, if_neg (fun z => Bool.noConfusion (of_decide_eq_true z).1)]
    | false =>
      rw [if_neg Bool.false_ne_true]
      by_cases h2 : P.1 x.2.2.1 = P.1 b.2.2.1
      · rw [if_pos (by rw [h2]), if_pos (decide_eq_true ⟨rfl, h2⟩)]
        rfl
      · rw [if_neg (fun z => h2 (q2 _ _ y1 z1 z)), if_neg (fun z => h2 (of_decide_eq_true z).2)]
theorem RT.isField {P : Pgm} {D : List Int32 → Prop} {num : List Int32 → Nat} {N c m : Nat} {b : Mb} {h : pH} (hN : 1100 ≤ N) (q : RT P D num h) (hp : RPr P h) (ha : Acy P) (hb : P.ms[m]? = some b) (hc : c < P.n) (hcm : P.mf c ≤ m) : fX12_isField N 138 (Int32.ofNat c) (Int32.ofNat m) h = some (kI (!((P.amg false (P.1 b.2.2.1) (P.mf c) m).isNone && (P.hadO false (P.1 b.2.2.1) (P.par c)).isNone)), h) := by
  obtain ⟨q1, q2, q3, q4, q5, q6, q7, q8, q9, q10, q11, q12⟩ := id q
  have hm := (List.getElem?_eq_some_iff.mp hb).1
  unfold fX12_isField
  rw [if_pos (o_138 q1), R_138_43 q1, Option.bind_some, L_167 q1 (by omega), Option.bind_some, q8 c (by omega), RT.fld_7 hN q hp ha hb hc (m - P.mf c) (P.mf c) N (by omega) (by omega)]
  rfl
theorem RQ.at {P : Pgm} {D : List Int32 → Prop} {num : List Int32 → Nat} {m i : Nat} {b : Mb} {h : pH} (r : RQ P D num h) (r1 : RM1 P h) (hb : P.ms[m]? = some b) (hi : i < mbP b) : rd h 176 (P.pf m + i) = Int32.ofNat (P.rt (px b i).1) ∧ D (P.1 (px b i).2) ∧ rd h 177 (P.pf m + i) = Int32.ofNat (num (P.1 (px b i).2)) ∧ P.pf m + i < 850 := by
  obtain ⟨e1, e2⟩ := Pgm.ps_get hb hi
  have := r.2.1
  exact ⟨r1.2 _ _ e1, (r.2.2.2 _ _ e1).1, (r.2.2.2 _ _ e1).2, by omega⟩
theorem Pgm.rt_lt {P : Pgm} (hn : P.n ≤ 400) {y : Nat} : P.rt y < 500 := by
  have := P.rt_ok (y := y)
  unfold Pgm.tOk at this
  omega
theorem RT.same_218 {P : Pgm} {D : List Int32 → Prop} {num : List Int32 → Nat} {N m m' : Nat} {b d : Mb} {h : pH} (q : RT P D num h) (r : RQ P D num h) (r1 : RM1 P h) (hb : P.ms[m]? = some b) (hd : P.ms[m']? = some d) (hl : mbP b = mbP d) : ∀ (e i k : Nat) (z : Bool), i + e = mbP b → e < k → fX12_isRightMethod_218 N k 138 (Int32.ofNat m) (Int32.ofNat m') (Int32.ofNat (mbP b)) (kI z) (Int32.ofNat i) h = some (kI (z && (fstN (fun i => decide (P.rt (px b i).1 ≠ P.rt (px d i).1)) e i).isNone), h)
  | 0, i, k, z, he, hk => by
    obtain ⟨k, rfl⟩ : ∃ k', k = k' + 1 := ⟨k - 1, by omega⟩
    have b1 := (Pgm.pf_succ hb).1
    have b2 := (Pgm.pf_succ hb).2
    have r2 := r.2.1
    rw [fX12_isRightMethod_218, ifLe (by omega) (by omega), if_pos (by omega)]
    cases z <;> rfl
  | e + 1, i, k, z, he, hk => by
    obtain ⟨k, rfl⟩ : ∃ k', k = k' + 1 := ⟨k - 1, by omega⟩
    have b1 := (Pgm.pf_succ hb).1
    have b2 := (Pgm.pf_succ hb).2
    have r2 := r.2.1
    have hm := (List.getElem?_eq_some_iff.mp hb).1
    have hm' := (List.getElem?_eq_some_iff.mp hd).1
    obtain ⟨q1, q2, q3, q4, q5, q6, q7, q8, q9, q10, q11, q12⟩ := id q
    obtain ⟨x1, x2, x3, x4⟩ := r.at r1 hb (show i < mbP b by omega)
    obtain ⟨y1, y2, y3, y4⟩ := r.at r1 hd (show i < mbP d by omega)
    have t1 := P.rt_lt (y := (px b i).1) (by omega)
    have t2 := P.rt_lt (y := (px d i).1) (by omega)
    rw [fX12_isRightMethod_218, ifLe (by omega) (by omega), if_neg (by omega)]
    cases z with
    | false => rfl
    | true =>
      rw [if_neg (show ¬ kI true = 0 by decide), R_138_54 q1, Option.bind_some, R_138_49 q1, Option.bind_some, L_172 q1 (by omega), Option.bind_some, r.2.2.1 m' (by omega), ← Int32.ofNat_add, L_176 q1 (by omega), Option.bind_some, Option.bind_some, Option.bind_some, L_172 q1 (by omega), Option.bind_some, r.2.2.1 m (by omega), ← Int32.ofNat_add, L_176 q1 (by omega), Option.bind_some, x1, y1, ifEq (by omega) (by omega)]
      unfold fX12_isRightMethod_266
      rw [i_add1, show (1 : Int32) = kI true from rfl, show (0 : Int32) = kI false from rfl, RT.same_218 q r r1 hb hd hl e (i + 1) k true (by omega) (by omega), RT.same_218 q r r1 hb hd hl e (i + 1) k false (by omega) (by omega), fstN_succ]
      by_cases z : P.rt (px d i).1 = P.rt (px b i).1
      · rw [if_pos z, if_neg (fun y => (of_decide_eq_true y) z.symm)]
      · rw [if_neg z, if_pos (decide_eq_true (show P.rt (px b i).1 ≠ P.rt (px d i).1 from fun y => z y.symm))]
        rfl
theorem RT.right_149 {P : Pgm} {D : List Int32 → Prop} {num : List Int32 → Nat} {N m : Nat} {b : Mb} {h : pH} (hN : 1100 ≤ N) (q : RT P D num h) (r : RQ P D num h) (r1 : RM1 P h) (hb : P.ms[m]? = some b) (o : Option Nat) (ho : ∀ e, o = some e → e < P.ms.length) : fX12_isRightMethod_149 N 138 (Int32.ofNat m) (oI (-1) o) h = some (kI (P.over b o), h) := by
  obtain ⟨q1, q2, q3, q4, q5, q6, q7, q8, q9, q10, q11, q12⟩ := id q
  have hm := (List.getElem?_eq_some_iff.mp hb).1
  have b1 := (Pgm.pf_succ hb).1
  have b2 := (Pgm.pf_succ hb).2
  have r2 := r.2.1
  unfold fX12_isRightMethod_149
  rw [i_nn_oI (fun e he => by have := ho e he; omega)]
  rcases o with _ | e
  · rfl
  · have he := ho e rfl
    obtain ⟨d, hd⟩ : ∃ b, P.ms[e]? = some b := ⟨P.ms[e]'(by omega), List.getElem?_eq_getElem (by omega)⟩
    have d1 := (Pgm.pf_succ hd).1
    have d2 := (Pgm.pf_succ hd).2
    have hov : P.over b (some e) = P.same b d := by unfold Pgm.over; dsimp only; rw [hd]
    have t1 := P.rt_lt (y := b.2.1) (by omega)
    have t2 := P.rt_lt (y := d.2.1) (by omega)
    rw [if_neg (show ¬ (some e).isNone = true from Bool.false_ne_true), show oI (-1) (some e) = Int32.ofNat e from rfl, hov, R_138_49 q1, Option.bind_some, i_add1, L_172 q1 (by omega), Option.bind_some, Option.bind_some, L_172 q1 (by omega), Option.bind_some, R_138_47 q1, Option.bind_some, L_170 q1 (by omega), Option.bind_some, Option.bind_some, L_170 q1 (by omega), Option.bind_some, Option.bind_some, i_add1, L_172 q1 (by omega), Option.bind_some, Option.bind_some, L_172 q1 (by omega), Option.bind_some, r1.1 e d hd, r1.1 m b hb, r.2.2.1 (e + 1) (by omega), r.2.2.1 e (by omega), r.2.2.1 (m + 1) (by omega), r.2.2.1 m (by omega), i_subk (by omega), i_subk (by omega), b1, d1, show P.pf m + mbP b - P.pf m = mbP b by omega, show P.pf e + mbP d - P.pf e = mbP d by omega, ifEq (by omega) (by omega), ifEq (by omega) (by omega)]
    have hz : fX12_isRightMethod_212 N 138 (Int32.ofNat m) (Int32.ofNat e) (Int32.ofNat (mbP b)) h = some (0, h) := by
      unfold fX12_isRightMethod_212 fX12_isRightMethod_213
      obtain ⟨N', rfl⟩ : ∃ N', N = N' + 1 := ⟨N - 1, by omega⟩
      rw [fX12_isRightMethod_218, show (0 : Int32) = Int32.ofNat 0 from rfl, ifLe (by omega) (by omega)]
      by_cases z : mbP b ≤ 0
      · rw [if_pos z]; rfl
      · rw [if_neg z]; rfl
    rw [hz]
    unfold Pgm.same
    by_cases h1 : P.rt d.2.1 = P.rt b.2.1
    · rw [if_pos h1, decide_eq_true h1.symm, Bool.true_and]
      by_cases h2 : mbP d = mbP b
      · rw [if_pos h2, decide_eq_true h2.symm, Bool.true_and]
        unfold fX12_isRightMethod_213
        rw [show (1 : Int32) = kI true from rfl, show (0 : Int32) = Int32.ofNat 0 from rfl, RT.same_218 q r r1 hb hd h2.symm (mbP b) 0 N true (by omega) (by omega)]
        rfl
      · rw [if_neg h2, decide_eq_false (fun z => h2 z.symm), Bool.false_and]
        rfl
    · rw [if_neg h1, decide_eq_false (fun z => h1 z.symm), Bool.false_and]
      rfl
