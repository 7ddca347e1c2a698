/-! ===== THE REFERENCE'S TABLES AS A PROGRAM ===== -/
/-- the reference's tables hold P -/
def RT (P : Pgm) (D : List Int32 → Prop) (num : List Int32 → Nat) (h : pH) : Prop := Sg h ∧ NmI D num ∧ (∀ w, num w < 4000) ∧ (∀ k, k < 8 → D (knW k) ∧ num (knW k) = k) ∧ rd h 138 37 = Int32.ofNat P.n ∧ P.n ≤ 340 ∧ (∀ c, c < P.n → D (P.cn c) ∧ rd h 162 c = Int32.ofNat (num (P.cn c))) ∧ (∀ c, c ≤ P.n → rd h 167 c = Int32.ofNat (P.mf c)) ∧ (∀ c, 5 ≤ c → c < P.n → rd h 163 c = Int32.ofNat (P.pl c) ∧ P.pl c ≤ 3000) ∧ rd h 138 44 = Int32.ofNat P.ms.length ∧ P.ms.length ≤ 750 ∧ (∀ m b, P.ms[m]? = some b → D (P.1 b.2.2.1) ∧ rd h 168 m = Int32.ofNat (num (P.1 b.2.2.1)) ∧ rd h 171 m = kI b.1 ∧ rd h 169 m = Int32.ofNat b.2.2.2.1)
def RPr (P : Pgm) (h : pH) : Prop := ∀ c, c < P.n → rd h 165 c = oI (-1) (P.par c)
def RPn (P : Pgm) (D : List Int32 → Prop) (num : List Int32 → Nat) (h : pH) : Prop := ∀ c, 5 ≤ c → c < P.n → (∀ w, P.pw c = some w → D (P.1 w) ∧ rd h 164 c = Int32.ofNat (num (P.1 w))) ∧ (P.pw c = none → rd h 164 c = -1)
def rtA (a : Nat) : Prop := a = 162 ∨ a = 163 ∨ a = 167 ∨ a = 168 ∨ a = 169 ∨ a = 171
theorem RT.chg {A : Nat → Nat → Prop} {P : Pgm} {D : List Int32 → Prop} {num : List Int32 → Nat} {h h' : pH} (q : RT P D num h) (g : Chg A h h') (hA : ∀ a k, rtA a → ¬ A a k) (h37 : ¬ A 138 37) (h44 : ¬ A 138 44) : RT P D num h' := by
  obtain ⟨q1, q2, q3, q4, q5, q6, q7, q8, q9, q10, q11, q12⟩ := q
  have r : ∀ a k, rtA a → rd h' a k = rd h a k := fun a k ha => g.2.2.1 _ _ (hA a k ha)
  unfold rtA at r
  refine ⟨g.sg q1, q2, q3, q4, by rw [g.2.2.1 _ _ h37]; exact q5, q6, fun c hc => ?_, fun c hc => ?_, fun c c1 hc => ?_, by rw [g.2.2.1 _ _ h44]; exact q10, q11, fun m b hb => ?_⟩
  · rw [r 162 c (by omega)]; exact q7 c hc
  · rw [r 167 c (by omega)]; exact q8 c hc
  · rw [r 163 c (by omega)]; exact q9 c c1 hc
  · rw [r 168 m (by omega), r 171 m (by omega), r 169 m (by omega)]; exact q12 m b hb
theorem classOf_2 {N n : Nat} {x : Int32} {h : pH} (hs : Sg h) (e : rd h 138 37 = Int32.ofNat n) (hn : n ≤ 350) : ∀ (d i k : Nat), i + d = n → d < k → fX12_classOf_2 N k 138 x (Int32.ofNat i) h = some (oI (-1) (fstN (fun c => decide (rd h 162 c = x)) d i), h)
  | 0, i, k, hd, hk => by
    obtain ⟨k, rfl⟩ : ∃ k', k = k' + 1 := ⟨k - 1, by omega⟩
    rw [fX12_classOf_2, g_138_37 hs, Option.bind_some, e, ifLe (by omega) (by omega), if_pos (by omega)]
    rfl
  | d + 1, i, k, hd, hk => by
    obtain ⟨k, rfl⟩ : ∃ k', k = k' + 1 := ⟨k - 1, by omega⟩
    rw [fX12_classOf_2, g_138_37 hs, Option.bind_some, e, ifLe (by omega) (by omega), if_neg (by omega), R_138_38 hs, Option.bind_some, L_162 hs (by omega), Option.bind_some]
    unfold fstN
    by_cases hx : rd h 162 i = x
    · rw [if_pos hx, if_pos (decide_eq_true hx)]
      rfl
    · rw [if_neg hx, if_neg (fun z => hx (of_decide_eq_true z)), i_add1]
      exact classOf_2 hs e hn d (i + 1) k (by omega) (by omega)
theorem RT.classOf {P : Pgm} {D : List Int32 → Prop} {num : List Int32 → Nat} {N : Nat} {w : List Int32} {h : pH} (q : RT P D num h) (hN : 1100 ≤ N) (hw : D w) : fX12_classOf N 138 (Int32.ofNat (num w)) h = some (oI (-1) (P.fnd w), h) := by
  obtain ⟨q1, q2, q3, q4, q5, q6, q7, q8, q9, q10, q11, q12⟩ := q
  unfold fX12_classOf
  rw [if_pos (o_138 q1), show (0 : Int32) = Int32.ofNat 0 from rfl, classOf_2 q1 q5 (by omega) P.n 0 N (by omega) (by omega)]
  congr 2
  unfold Pgm.fnd
  congr 1
  apply fstN_congr
  intro c _ hc
  obtain ⟨z1, z2⟩ := q7 c (by omega)
  rw [z2]
  have h1 := q3 (P.cn c)
  have h2 := q3 w
  apply decide_eq_decide.mpr
  rw [iEq (by omega) (by omega)]
  exact ⟨fun z => q2 _ _ z1 hw z, fun z => by rw [z]⟩
theorem RT.under_2 {P : Pgm} {D : List Int32 → Prop} {num : List Int32 → Nat} {N d : Nat} {h : pH} (q : RT P D num h) (hp : RPr P h) (hd : d < P.n) : ∀ (f k c : Nat), f < k → c < P.n → P.endF f c = true → fX12_isUnder_2 N k 138 (Int32.ofNat d) (Int32.ofNat c) h = some (kI (P.undF d f c), h)
  | 0, k, c, hk, hc, he => by cases he
  | f + 1, k, c, hk, hc, he => by
    obtain ⟨k, rfl⟩ : ∃ k', k = k' + 1 := ⟨k - 1, by omega⟩
    have hn := q.2.2.2.2.2.1
    rw [fX12_isUnder_2, if_neg (i_nneg (by omega)), ifEq (by omega) (by omega)]
    unfold Pgm.undF
    by_cases z : c = d
    · rw [if_pos z, if_pos z]
      unfold fX12_isUnder_21
      rw [if_pos (by rw [z])]
      rfl
    · rw [if_neg z, if_neg z, R_138_41 q.1, Option.bind_some, L_165 q.1 (by omega), Option.bind_some, hp c hc]
      unfold Pgm.endF at he
      rcases hpa : P.par c with _ | e
      · obtain ⟨k, rfl⟩ : ∃ k', k = k' + 1 := ⟨k - 1, by omega⟩
        rw [fX12_isUnder_2, if_pos (show oI (-1) none < 0 by decide)]
        unfold fX12_isUnder_21
        rw [if_neg (show ¬ oI (-1) none = Int32.ofNat d from fun y => i_ne_neg (by omega) (by decide) y.symm)]
        rfl
      · rw [hpa] at he
        exact RT.under_2 q hp hd f k e (by omega) (Pgm.par_lt hpa) he
theorem RT.isUnder {P : Pgm} {D : List Int32 → Prop} {num : List Int32 → Nat} {N c d : Nat} {h : pH} (q : RT P D num h) (hp : RPr P h) (ha : Acy P) (hN : 1100 ≤ N) (hc : c < P.n) (hd : d < P.n) : fX12_isUnder N 138 (Int32.ofNat c) (Int32.ofNat d) h = some (kI (P.und c d), h) := by
  have hn := q.2.2.2.2.2.1
  unfold fX12_isUnder
  rw [if_pos (o_138 q.1), RT.under_2 q hp hd P.n N c (by omega) hc (ha c hc)]
  rfl
theorem i_sub10 {t : Nat} (h : 10 ≤ t) : Int32.ofNat t - 10 = Int32.ofNat (t - 10) := i_subk (k := 10) h
theorem RT.isSub {P : Pgm} {D : List Int32 → Prop} {num : List Int32 → Nat} {N t u : Nat} {h : pH} (q : RT P D num h) (hp : RPr P h) (ha : Acy P) (hN : 1100 ≤ N) (ht : P.tOk t) (hu : P.tOk u) : fX12_isSub N 138 (Int32.ofNat t) (Int32.ofNat u) h = some (kI (P.sub t u), h) := by
  have hn := q.2.2.2.2.2.1
  have htl : t < 400 := by rcases ht with z | z <;> omega
  have hul : u < 400 := by rcases hu with z | z <;> omega
  have e37 : fX12_isSub_37 N 138 (Int32.ofNat t) (Int32.ofNat u) h = some (kI (decide (10 ≤ t ∧ 10 ≤ u) && P.und (t - 10) (u - 10)), h) := by
    unfold fX12_isSub_37
    rw [show (10 : Int32) = Int32.ofNat 10 from rfl, ifLt (by omega) (by decide), ifLt (by omega) (by decide)]
    by_cases h1 : t < 10
    · rw [if_pos h1, decide_eq_false (by omega), Bool.false_and]
      rfl
    · rw [if_neg h1]
      by_cases h2 : u < 10
      · rw [if_pos h2, decide_eq_false (by omega), Bool.false_and]
        rfl
      · have ht2 : t - 10 < P.n := by rcases ht with z | z <;> omega
        have hu2 : u - 10 < P.n := by rcases hu with z | z <;> omega
        rw [if_neg h2, i_subk (by omega), i_subk (by omega), q.isUnder hp ha hN ht2 hu2, Option.bind_some, decide_eq_true (by omega), Bool.true_and]
        dsimp only
        cases P.und (t - 10) (u - 10)
        · rfl
        · rfl
  unfold fX12_isSub Pgm.sub
  rw [if_pos (o_138 q.1), e37, show (4 : Int32) = Int32.ofNat 4 from rfl, ifEq (by omega) (by decide), show (10 : Int32) = Int32.ofNat 10 from rfl, ifLe (by decide) (by omega), show (2 : Int32) = Int32.ofNat 2 from rfl, ifEq (by omega) (by decide), ifEq (by omega) (by decide), ifEq (by omega) (by omega), show (5 : Int32) = Int32.ofNat 5 from rfl, ifEq (by omega) (by decide)]
  by_cases h4 : t = 4
  · rw [if_pos h4, if_pos h4]
    by_cases h1 : 10 ≤ u
    · rw [if_pos h1, decide_eq_true (by omega)]
      rfl
    · rw [if_neg h1]
      by_cases h2 : u = 2
      · rw [if_pos h2, decide_eq_true (by omega)]
        rfl
      · rw [if_neg h2]
        by_cases h3 : u = 4
        · rw [if_pos h3, decide_eq_true (by omega)]
          rfl
        · rw [if_neg h3, decide_eq_false (by omega)]
          rfl
  · rw [if_neg h4, if_neg h4]
    by_cases h1 : t = u
    · rw [if_pos h1]
      by_cases h5 : t = 5
      · rw [if_pos h5, decide_eq_false (fun z : t = u ∧ t ≠ 5 => z.2 h5), Bool.false_or]
      · rw [if_neg h5, decide_eq_true (show t = u ∧ t ≠ 5 from ⟨h1, h5⟩), Bool.true_or]
        rfl
    · rw [if_neg h1, decide_eq_false (fun z : t = u ∧ t ≠ 5 => h1 z.1), Bool.false_or]
theorem RT.mem_17 {P : Pgm} {D : List Int32 → Prop} {num : List Int32 → Nat} {N c : Nat} {w : List Int32} {kk : Bool} {h : pH} {k3 : Nat → Int32 → Int32 → Int32 → pH → Option (Int32 × pH)} (q : RT P D num h) (hp : RPr P h) (hw : D w) (hc : c < P.n) : ∀ (d i k : Nat), i + d = P.mf (c + 1) → d < k → fX12_memberOf_17 N k3 k 138 (Int32.ofNat (num w)) (kI kk) (Int32.ofNat c) (Int32.ofNat i) h = match fstN (P.mIs kk w) d i with
    | some m => some (Int32.ofNat m, h)
    | none => k3 138 (Int32.ofNat (num w)) (kI kk) (oI (-1) (P.par c)) h
  | 0, i, k, hd, hk => by
    obtain ⟨k, rfl⟩ : ∃ k', k = k' + 1 := ⟨k - 1, by omega⟩
    have hn := q.2.2.2.2.2.1
    have hml := P.ms_len
    have hmf := P.mf_le (c + 1)
    have h167 := q.2.2.2.2.2.2.2.1 (c + 1) (by omega)
    have hms := q.2.2.2.2.2.2.2.2.2.2.1
    rw [fX12_memberOf_17, R_138_43 q.1, Option.bind_some, i_add1, L_167 q.1 (by omega), Option.bind_some, h167, ifLe (by omega) (by omega), if_pos (by omega), R_138_41 q.1, Option.bind_some, L_165 q.1 (by omega), Option.bind_some, hp c hc]
    rfl
  | d + 1, i, k, hd, hk => by
    obtain ⟨k, rfl⟩ : ∃ k', k = k' + 1 := ⟨k - 1, by omega⟩
    obtain ⟨q1, q2, q3, q4, q5, q6, q7, q8, q9, q10, q11, q12⟩ := id q
    have hml := P.ms_len
    have hmf := P.mf_le (c + 1)
    have h167 := q8 (c + 1) (by omega)
    have IH := RT.mem_17 (N := N) (kk := kk) (k3 := k3) q hp hw hc d (i + 1) k (by omega) (by omega)
    obtain ⟨b, hb⟩ : ∃ b, P.ms[i]? = some b := ⟨P.ms[i]'(by omega), List.getElem?_eq_getElem (by omega)⟩
    obtain ⟨z1, z2, z3, z4⟩ := q12 i b hb
    have hm : P.mIs kk w i = decide (b.1 = kk ∧ P.1 b.2.2.1 = w) := by unfold Pgm.mIs; rw [hb]
    have n1 := q3 (P.1 b.2.2.1)
    have n2 := q3 w
    rw [fX12_memberOf_17, R_138_43 q1, Option.bind_some, i_add1, L_167 q1 (by omega), Option.bind_some, h167, ifLe (by omega) (by omega), if_neg (by omega), R_138_45 q1, Option.bind_some, L_168 q1 (by omega), Option.bind_some, z2, ifEq (by omega) (by omega), R_138_48 q1, Option.bind_some, L_171 q1 (by omega), Option.bind_some, z3]
    unfold fstN fX12_memberOf_56
    rw [hm, i_add1, IH]
    by_cases h2 : P.1 b.2.2.1 = w
    · rw [if_pos (by rw [h2])]
      by_cases h1 : b.1 = kk
      · rw [if_pos (kI_inj.mpr h1), if_pos (decide_eq_true ⟨h1, h2⟩)]
      · rw [if_neg (fun z => h1 (kI_inj.mp z)), if_neg (fun z => h1 (of_decide_eq_true z).1)]
    · rw [if_neg (fun z => h2 (q2 _ _ z1 hw z)), if_neg (fun z => h2 (of_decide_eq_true z).2)]
theorem RT.mem_3 {P : Pgm} {D : List Int32 → Prop} {num : List Int32 → Nat} {N : Nat} {w : List Int32} {kk : Bool} {h : pH} (q : RT P D num h) (hp : RPr P h) (hN : 1100 ≤ N) (hw : D w) : ∀ (f k c : Nat), f < k → c < P.n → P.endF f c = true → fX12_memberOf_3 N k 138 (Int32.ofNat (num w)) (kI kk) (Int32.ofNat c) h = some (oI (-1) (P.hadF kk w f c), h)
  | 0, k, c, hk, hc, he => by cases he
  | f + 1, k, c, hk, hc, he => by
    obtain ⟨k, rfl⟩ : ∃ k', k = k' + 1 := ⟨k - 1, by omega⟩
    have hn := q.2.2.2.2.2.1
    have h167 := q.2.2.2.2.2.2.2.1 c (by omega)
    have hml := P.ms_len
    have hmf := P.mf_le (c + 1)
    have hmo := Pgm.mf_mono (P := P) (c := c)
    have hms := q.2.2.2.2.2.2.2.2.2.2.1
    rw [fX12_memberOf_3, if_neg (i_nneg (by omega)), R_138_43 q.1, Option.bind_some, L_167 q.1 (by omega), Option.bind_some, h167, RT.mem_17 q hp hw hc (P.mf (c + 1) - P.mf c) (P.mf c) N (by omega) (by omega)]
    unfold Pgm.hadF Pgm.amg
    rcases hf : fstN (P.mIs kk w) (P.mf (c + 1) - P.mf c) (P.mf c) with _ | m
    · dsimp only
      unfold Pgm.endF at he
      rcases hpa : P.par c with _ | e
      · obtain ⟨k, rfl⟩ : ∃ k', k = k' + 1 := ⟨k - 1, by omega⟩
        rw [fX12_memberOf_3, if_pos (show oI (-1) none < 0 by decide)]
        rfl
      · rw [hpa] at he
        exact RT.mem_3 q hp hN hw f k e (by omega) (Pgm.par_lt hpa) he
    · rfl
theorem RT.memberOf {P : Pgm} {D : List Int32 → Prop} {num : List Int32 → Nat} {N c : Nat} {w : List Int32} {kk : Bool} {h : pH} (q : RT P D num h) (hp : RPr P h) (ha : Acy P) (hN : 1100 ≤ N) (hw : D w) (hc : c < P.n) : fX12_memberOf N 138 (Int32.ofNat c) (Int32.ofNat (num w)) (kI kk) h = some (oI (-1) (P.had kk w c), h) := by
  have hn := q.2.2.2.2.2.1
  unfold fX12_memberOf
  rw [if_pos (o_138 q.1), RT.mem_3 q hp hN hw P.n N c (by omega) hc (ha c hc)]
  rfl
