/-! ===== THE REFERENCE'S METHODS; ITS FIRST BAD MEMBER ===== -/
theorem RT.par_83 {P : Pgm} {D : List Int32 → Prop} {num : List Int32 → Nat} {N c m i : Nat} {b : Mb} {h : pH} {k51 : Nat → Int32 → Int32 → Int32 → pH → Option (Int32 × pH)} (q : RT P D num h) (r : RQ P D num h) (r1 : RM1 P h) (hb : P.ms[m]? = some b) (hi : i < mbP b) : ∀ (d j k : Nat), j + d = i → d < k → fX12_isRightMethod_83 N k51 k 138 (Int32.ofNat c) (Int32.ofNat m) (Int32.ofNat (P.pf m + i)) (Int32.ofNat (P.pf m + j)) h = if (fstN (fun j => decide (P.1 (px b i).2 = P.1 (px b j).2)) d j).isSome = true then some (0, h) else k51 138 (Int32.ofNat c) (Int32.ofNat m) (Int32.ofNat (P.pf m + (i + 1))) h
  | 0, j, k, hd, hk => by
    obtain ⟨k, rfl⟩ : ∃ k', k = k' + 1 := ⟨k - 1, by omega⟩
    obtain ⟨x1, x2, x3, x4⟩ := r.at r1 hb hi
    rw [fX12_isRightMethod_83, ifLe (by omega) (by omega), if_pos (by omega), i_add1]
    rfl
  | d + 1, j, k, hd, hk => by
    obtain ⟨k, rfl⟩ : ∃ k', k = k' + 1 := ⟨k - 1, by omega⟩
    obtain ⟨x1, x2, x3, x4⟩ := r.at r1 hb hi
    obtain ⟨y1, y2, y3, y4⟩ := r.at r1 hb (show j < mbP b by omega)
    have n1 := q.2.2.1 (P.1 (px b i).2)
    have n2 := q.2.2.1 (P.1 (px b j).2)
    have IH := RT.par_83 (N := N) (c := c) (k51 := k51) q r r1 hb hi d (j + 1) k (by omega) (by omega)
    rw [fX12_isRightMethod_83, ifLe (by omega) (by omega), if_neg (by omega), R_138_55 q.1, Option.bind_some, L_177 q.1 (by omega), Option.bind_some, Option.bind_some, L_177 q.1 (by omega), Option.bind_some, x3, y3, ifEq (by omega) (by omega), i_add1, show P.pf m + j + 1 = P.pf m + (j + 1) by omega, IH, fstN_succ]
    by_cases z : P.1 (px b i).2 = P.1 (px b j).2
    · rw [if_pos (by rw [z]), if_pos (decide_eq_true z)]
      rfl
    · rw [if_neg (fun y => z (q.2.1 _ _ x2 y2 y.symm)), if_neg (fun y => z (of_decide_eq_true y))]
theorem RT.par_51 {P : Pgm} {D : List Int32 → Prop} {num : List Int32 → Nat} {N c m : Nat} {b : Mb} {h : pH} (hN : 1100 ≤ N) (q : RT P D num h) (hp : RPr P h) (ha : Acy P) (r : RQ P D num h) (r1 : RM1 P h) (hb : P.ms[m]? = some b) (hc : c < P.n) : ∀ (d i k : Nat), i + d = mbP b → d < k → fX12_isRightMethod_51 N k 138 (Int32.ofNat c) (Int32.ofNat m) (Int32.ofNat (P.pf m + i)) h = some (kI ((fstN (P.pbad b) d i).isNone && P.over b (P.hadO true (P.1 b.2.2.1) (P.par c))), h)
  | 0, i, k, hd, hk => by
    obtain ⟨k, rfl⟩ : ∃ k', k = k' + 1 := ⟨k - 1, by omega⟩
    obtain ⟨q1, q2, q3, q4, q5, q6, q7, q8, q9, q10, q11, q12⟩ := id q
    have hm := (List.getElem?_eq_some_iff.mp hb).1
    have b1 := (Pgm.pf_succ hb).1
    have b2 := (Pgm.pf_succ hb).2
    have r2 := r.2.1
    obtain ⟨z1, z2, z3, z4⟩ := q12 m b hb
    rw [fX12_isRightMethod_51, R_138_49 q1, Option.bind_some, i_add1, L_172 q1 (by omega), Option.bind_some, r.2.2.1 (m + 1) (by omega), ifLe (by omega) (by omega), if_pos (by omega), R_138_41 q1, Option.bind_some, L_165 q1 (by omega), Option.bind_some, hp c hc, i_nn_oI (fun e he => by have := Pgm.par_lt he; omega)]
    rcases hpc : P.par c with _ | e
    · exact RT.right_149 hN q r r1 hb none (fun e he => by cases he)
    · have he := Pgm.par_lt hpc
      have mo := q.memberOf (kk := true) hp ha hN z1 he
      rw [show kI true = 1 from rfl] at mo
      rw [if_neg (show ¬ (some e).isNone = true from Bool.false_ne_true), Option.bind_some, L_165 q1 (by omega), Option.bind_some, hp c hc, hpc, R_138_45 q1, Option.bind_some, L_168 q1 (by omega), Option.bind_some, z2, show oI (-1) (some e) = Int32.ofNat e from rfl, mo, Option.bind_some]
      exact RT.right_149 hN q r r1 hb _ (fun f hf => (Pgm.hadF_lt hf).1)
  | d + 1, i, k, hd, hk => by
    obtain ⟨k, rfl⟩ : ∃ k', k = k' + 1 := ⟨k - 1, by omega⟩
    obtain ⟨q1, q2, q3, q4, q5, q6, q7, q8, q9, q10, q11, q12⟩ := id q
    have hm := (List.getElem?_eq_some_iff.mp hb).1
    have b1 := (Pgm.pf_succ hb).1
    have b2 := (Pgm.pf_succ hb).2
    have r2 := r.2.1
    obtain ⟨x1, x2, x3, x4⟩ := r.at r1 hb (show i < mbP b by omega)
    have t1 := P.rt_lt (y := (px b i).1) (by omega)
    have IH := RT.par_51 hN q hp ha r r1 hb hc d (i + 1) k (by omega) (by omega)
    have e83 := RT.par_83 (N := N) (c := c) (k51 := fX12_isRightMethod_51 N k) q r r1 hb (show i < mbP b by omega) i 0 N (by omega) (by omega)
    rw [IH, Nat.add_zero] at e83
    rw [fX12_isRightMethod_51, R_138_49 q1, Option.bind_some, i_add1, L_172 q1 (by omega), Option.bind_some, r.2.2.1 (m + 1) (by omega), ifLe (by omega) (by omega), if_neg (by omega), R_138_54 q1, Option.bind_some, L_176 q1 (by omega), Option.bind_some, x1, show (5 : Int32) = Int32.ofNat 5 from rfl, ifEq (by omega) (by omega), Option.bind_some, L_172 q1 (by omega), Option.bind_some, r.2.2.1 m (by omega), e83, fstN_succ]
    by_cases h5 : P.rt (px b i).1 = 5
    · have : P.pbad b i = true := by unfold Pgm.pbad; rw [decide_eq_true h5, Bool.true_or]
      rw [if_pos h5, if_pos this]
      rfl
    · rw [if_neg h5]
      have e : P.pbad b i = (fstN (fun j => decide (P.1 (px b i).2 = P.1 (px b j).2)) i 0).isSome := by unfold Pgm.pbad; rw [decide_eq_false h5, Bool.false_or]
      rw [e]
      by_cases h6 : (fstN (fun j => decide (P.1 (px b i).2 = P.1 (px b j).2)) i 0).isSome = true
      · rw [if_pos h6, if_pos h6]
        rfl
      · rw [if_neg h6, if_neg h6]
theorem RT.right_7 {P : Pgm} {D : List Int32 → Prop} {num : List Int32 → Nat} {N c m : Nat} {b : Mb} {h : pH} (hN : 1100 ≤ N) (q : RT P D num h) (hp : RPr P h) (ha : Acy P) (r : RQ P D num h) (r1 : RM1 P h) (hb : P.ms[m]? = some b) (hc : c < P.n) : ∀ (d i k : Nat), i + d = m → d < k → fX12_isRightMethod_7 N k 138 (Int32.ofNat c) (Int32.ofNat m) (Int32.ofNat i) h = some (kI ((fstN (P.mIs true (P.1 b.2.2.1)) d i).isNone && (P.pfine b && P.over b (P.hadO true (P.1 b.2.2.1) (P.par c)))), h)
  | 0, i, k, hd, hk => by
    obtain ⟨k, rfl⟩ : ∃ k', k = k' + 1 := ⟨k - 1, by omega⟩
    obtain ⟨q1, q2, q3, q4, q5, q6, q7, q8, q9, q10, q11, q12⟩ := id q
    have hm := (List.getElem?_eq_some_iff.mp hb).1
    have b1 := (Pgm.pf_succ hb).1
    have b2 := (Pgm.pf_succ hb).2
    have r2 := r.2.1
    have e51 := RT.par_51 hN q hp ha r r1 hb hc (mbP b) 0 N (by omega) (by omega)
    rw [Nat.add_zero] at e51
    rw [fX12_isRightMethod_7, ifLe (by omega) (by omega), if_pos (by omega), R_138_49 q1, Option.bind_some, L_172 q1 (by omega), Option.bind_some, r.2.2.1 m (by omega), e51]
    rfl
  | d + 1, i, k, hd, hk => by
    obtain ⟨k, rfl⟩ : ∃ k', k = k' + 1 := ⟨k - 1, by omega⟩
    obtain ⟨q1, q2, q3, q4, q5, q6, q7, q8, q9, q10, q11, q12⟩ := id q
    have hm := (List.getElem?_eq_some_iff.mp hb).1
    obtain ⟨z1, z2, z3, z4⟩ := q12 m b hb
    have IH := RT.right_7 hN q hp ha r r1 hb hc d (i + 1) k (by omega) (by omega)
    obtain ⟨x, hx⟩ : ∃ b, P.ms[i]? = some b := ⟨P.ms[i]'(by omega), List.getElem?_eq_getElem (by omega)⟩
    obtain ⟨y1, y2, y3, y4⟩ := q12 i x hx
    have hmm : P.mIs true (P.1 b.2.2.1) i = decide (x.1 = true ∧ P.1 x.2.2.1 = P.1 b.2.2.1) := by unfold Pgm.mIs; rw [hx]
    have n1 := q3 (P.1 x.2.2.1)
    have n2 := q3 (P.1 b.2.2.1)
    rw [fX12_isRightMethod_7, ifLe (by omega) (by omega), if_neg (by omega), R_138_48 q1, Option.bind_some, L_171 q1 (by omega), Option.bind_some, y3, kI_if, R_138_45 q1, Option.bind_some, L_168 q1 (by omega), Option.bind_some, Option.bind_some, L_168 q1 (by omega), Option.bind_some, y2, z2, ifEq (by omega) (by omega), fstN_succ, hmm]
    unfold fX12_isRightMethod_38
    rw [i_add1, IH]
    cases hx1 : x.1 with
    | false => rw [if_neg Bool.false_ne_true, if_neg (fun z => Bool.noConfusion (of_decide_eq_true z).1)]
    | true =>
      rw [if_pos rfl]
      by_cases h2 : P.1 x.2.2.1 = P.1 b.2.2.1
      · rw [if_pos (by rw [h2]), if_pos (decide_eq_true ⟨rfl, h2⟩)]
        rfl
      · rw [if_neg (fun z => h2 (q2 _ _ y1 z1 z)), if_neg (fun z => h2 (of_decide_eq_true z).2)]
theorem RT.isRight {P : Pgm} {D : List Int32 → Prop} {num : List Int32 → Nat} {N c m : Nat} {b : Mb} {h : pH} (hN : 1100 ≤ N) (q : RT P D num h) (hp : RPr P h) (ha : Acy P) (r : RQ P D num h) (r1 : RM1 P h) (hb : P.ms[m]? = some b) (hc : c < P.n) (hcm : P.mf c ≤ m) : fX12_isRightMethod N 138 (Int32.ofNat c) (Int32.ofNat m) h = some (kI ((P.amg true (P.1 b.2.2.1) (P.mf c) m).isNone && (P.pfine b && P.over b (P.hadO true (P.1 b.2.2.1) (P.par c)))), h) := by
  obtain ⟨q1, q2, q3, q4, q5, q6, q7, q8, q9, q10, q11, q12⟩ := id q
  have hm := (List.getElem?_eq_some_iff.mp hb).1
  unfold fX12_isRightMethod
  rw [if_pos (o_138 q1), R_138_43 q1, Option.bind_some, L_167 q1 (by omega), Option.bind_some, q8 c (by omega), RT.right_7 hN q hp ha r r1 hb hc (m - P.mf c) (P.mf c) N (by omega) (by omega)]
  rfl
