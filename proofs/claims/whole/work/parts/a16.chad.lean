/-! ===== THE CLASS: members that classes have, what is under what ===== -/
def kI (k : Bool) : Int32 := if k = true then 1 else 0
theorem kI_inj {a b : Bool} : (kI a = kI b) ↔ a = b := by cases a <;> cases b <;> decide
theorem oI_neg {o : Option Nat} {d : Int32} (hd : d < 0) (ho : ∀ c, o = some c → c < 100000) : (oI d o = d) ↔ o = none := by
  cases o with
  | none => exact ⟨fun _ => rfl, fun _ => rfl⟩
  | some c => exact ⟨fun z => absurd z (i_ne_neg (by have := ho c rfl; omega) hd), fun z => by cases z⟩
theorem Pgm.mIs_lt {P : Pgm} {k : Bool} {w : List Int32} {m : Nat} (h : P.mIs k w m = true) : m < P.ms.length := by
  unfold Pgm.mIs at h
  split at h
  · rename_i hb
    exact (List.getElem?_eq_some_iff.mp hb).1
  · cases h
theorem Pgm.amg_lt {P : Pgm} {k : Bool} {w : List Int32} {i j m : Nat} (h : P.amg k w i j = some m) : m < P.ms.length ∧ i ≤ m ∧ m < j ∧ P.mIs k w m = true := by
  obtain ⟨h1, h2, h3, h4⟩ := fstN_some h
  exact ⟨Pgm.mIs_lt h3, h1, by omega, h3⟩
theorem Pgm.hadF_lt {P : Pgm} {k : Bool} {w : List Int32} : ∀ {f c m : Nat}, P.hadF k w f c = some m → m < P.ms.length ∧ P.mIs k w m = true
  | 0, c, m, h => by cases h
  | f + 1, c, m, h => by
    unfold Pgm.hadF at h
    split at h
    · rename_i m' hm
      obtain rfl := Option.some.inj h
      exact ⟨(Pgm.amg_lt hm).1, (Pgm.amg_lt hm).2.2.2⟩
    · split at h
      · cases h
      · exact Pgm.hadF_lt h
theorem CT.among_3 {P : Pgm} {D : List Int32 → Prop} {num : List Int32 → Nat} {N : Nat} {w : List Int32} {kk : Bool} {h : pH} (q : CT P D num h) (hw : D w) {j : Nat} (hj : j ≤ P.ms.length) : ∀ (d i k : Nat), i + d = j → d < k → fX6_among_3 N k 25 (Int32.ofNat j) (kI kk) (Int32.ofNat (num w)) (Int32.ofNat i) h = some (oI (-1) (fstN (P.mIs kk w) d i), h)
  | 0, i, k, hd, hk => by
    obtain ⟨k, rfl⟩ : ∃ k', k = k' + 1 := ⟨k - 1, by omega⟩
    have := q.2.2.2.2.2.2.2.2.2.1
    rw [fX6_among_3, ifLe (by omega) (by omega), if_pos (by omega)]
    rfl
  | d + 1, i, k, hd, hk => by
    obtain ⟨k, rfl⟩ : ∃ k', k = k' + 1 := ⟨k - 1, by omega⟩
    obtain ⟨q1, q2, q3, q4, q5, q6, q7, q8, q9, q10, q11⟩ := id q
    have IH := CT.among_3 (N := N) (kk := kk) q hw hj d (i + 1) k (by omega) (by omega)
    obtain ⟨b, hb⟩ : ∃ b, P.ms[i]? = some b := ⟨P.ms[i]'(by omega), List.getElem?_eq_getElem (by omega)⟩
    obtain ⟨z1, z2, z3, z4⟩ := q11 i b hb
    have hz3 : rd h 29 i = kI b.1 := z3
    have hm : P.mIs kk w i = decide (b.1 = kk ∧ P.1 b.2.2.1 = w) := by unfold Pgm.mIs; rw [hb]
    have n1 := q3 (P.1 b.2.2.1)
    have n2 := q3 w
    rw [fX6_among_3, ifLe (by omega) (by omega), if_neg (by omega), R_25_4 q1, Option.bind_some, L_29 q1 (by omega), Option.bind_some, hz3]
    unfold fstN
    rw [hm]
    unfold fX6_among_35
    rw [i_add1, IH]
    by_cases h1 : b.1 = kk
    · rw [if_pos (kI_inj.mpr h1), R_25_1 q1, Option.bind_some, L_26 q1 (by omega), Option.bind_some, z2, ifEq (by omega) (by omega)]
      by_cases h2 : P.1 b.2.2.1 = w
      · rw [if_pos (by rw [h2]), if_pos (decide_eq_true ⟨h1, h2⟩)]
        rfl
      · rw [if_neg (fun z => h2 (q2 _ _ z1 hw z)), if_neg (fun z => h2 (of_decide_eq_true z).2)]
    · rw [if_neg (fun z => h1 (kI_inj.mp z)), if_neg (fun z => h1 (of_decide_eq_true z).1)]
theorem CT.among {P : Pgm} {D : List Int32 → Prop} {num : List Int32 → Nat} {N i j : Nat} {w : List Int32} {kk : Bool} {h : pH} (q : CT P D num h) (hN : 1100 ≤ N) (hw : D w) (hi : i ≤ j) (hj : j ≤ P.ms.length) : fX6_among N 25 (Int32.ofNat i) (Int32.ofNat j) (kI kk) (Int32.ofNat (num w)) h = some (oI (-1) (P.amg kk w i j), h) := by
  have := q.2.2.2.2.2.2.2.2.2.1
  unfold fX6_among
  rw [if_pos (o_25 q.1), CT.among_3 q hw hj (j - i) i N (by omega) (by omega)]
  rfl
theorem had_neg {N n k : Nat} {x v3 v4 v5 : Int32} {h : pH} (hs : Sg h) (hx : x < 0) (e : rd h 17 7 = Int32.ofNat n) (hn : 1 ≤ n ∧ n ≤ 400) : fX6_had N 25 x v3 v4 h = some (-1, h) ∨ N = 0 := by
  rcases Nat.eq_zero_or_pos N with z | z
  · exact Or.inr z
  · left
    obtain ⟨k, rfl⟩ : ∃ k', N = k' + 1 := ⟨N - 1, by omega⟩
    have h0 : ¬ Int32.ofNat n ≤ 0 := by rw [show (0 : Int32) = Int32.ofNat 0 from rfl, iLe (by omega) (by decide)]; omega
    unfold fX6_had
    rw [if_pos (o_25 hs), fX6_had_6]
    simp only [o_25, R_25_0, R_25_1, R_25_2, R_25_3, R_25_4, R_25_5, R_25_6, R_25_7, R_25_8, R_25_9, R_25_10, g_25_11, p_25_11, R_25_12, R_25_13, g_25_14, p_25_14, o_17, R_17_0, R_17_1, R_17_2, R_17_3, R_17_4, R_17_5, R_17_6, g_17_7, p_17_7, hs, e, h0, hx, Sg_wr, Sg_wrJ, rd_wr_ne, rd_wrJ, rdJ_wr, Option.bind_some, if_true, if_false, i_add1, i_sub1, false_and, and_false, not_false_eq_true, Nat.reduceEqDiff, ne_eq, reduceIte]
theorem CT.had_6 {P : Pgm} {D : List Int32 → Prop} {num : List Int32 → Nat} {N : Nat} {w : List Int32} {kk : Bool} {h : pH} (q : CT P D num h) (hp : CPr P h) (hN : 1100 ≤ N) (hw : D w) : ∀ (f g k c : Nat), g + f = P.n → f < k → c < P.n → fX6_had_6 N k 25 (kI kk) (Int32.ofNat (num w)) (Int32.ofNat c) (Int32.ofNat g) h = some (oI (-1) (P.hadF kk w f c), h)
  | 0, g, k, c, hg, hk, hc => by
    obtain ⟨k, rfl⟩ : ∃ k', k = k' + 1 := ⟨k - 1, by omega⟩
    have := q.2.2.2.2.2.1
    rw [fX6_had_6, R_25_0 q.1, Option.bind_some, g_17_7 q.1, Option.bind_some, q.2.2.2.2.1, ifLe (by omega) (by omega), if_pos (by omega)]
    rfl
  | f + 1, g, k, c, hg, hk, hc => by
    obtain ⟨k, rfl⟩ : ∃ k', k = k' + 1 := ⟨k - 1, by omega⟩
    obtain ⟨q1, q2, q3, q4, q5, q6, q7, q8, q9, q10, q11⟩ := id q
    obtain ⟨z1, z2, z3, z4⟩ := q7 c hc
    have hml := P.ms_len
    have am := q.among (N := N) (kk := kk) (w := w) (i := P.mf c) (j := P.mf (c + 1)) hN hw Pgm.mf_mono (by rw [hml]; exact P.mf_le _)
    have hmf := P.mf_le (c + 1)
    rw [fX6_had_6, R_25_0 q1, Option.bind_some, g_17_7 q1, Option.bind_some, q5, ifLe (by omega) (by omega), if_neg (by omega), if_neg (i_nneg (by omega)), Option.bind_some, g_17_7 q1, Option.bind_some, q5, ifLe (by omega) (by omega), if_neg (by omega), Option.bind_some, R_17_4 q1, Option.bind_some, L_22 q1 (by omega), Option.bind_some, Option.bind_some, R_17_5 q1, Option.bind_some, L_23 q1 (by omega), Option.bind_some, z3, z4, am, Option.bind_some]
    dsimp only
    unfold Pgm.hadF
    rcases hm : P.amg kk w (P.mf c) (P.mf (c + 1)) with _ | m
    · rw [if_pos (show oI (-1) none = -1 from rfl), R_25_0 q1, Option.bind_some, R_17_3 q1, Option.bind_some, L_21 q1 (by omega), Option.bind_some, hp c hc, i_add1]
      dsimp only
      rcases hpa : P.par c with _ | d
      · obtain ⟨k, rfl⟩ : ∃ k', k = k' + 1 := ⟨k - 1, by omega⟩
        rw [fX6_had_6, R_25_0 q1, Option.bind_some, g_17_7 q1, Option.bind_some, q5, ifLe (by omega) (by omega)]
        by_cases z : P.n ≤ g + 1
        · rw [if_pos z]
          rfl
        · rw [if_neg z, if_pos (show oI (-1) none < 0 by decide)]
          rfl
      · exact CT.had_6 q hp hN hw f (g + 1) k d (by omega) (by omega) (Pgm.par_lt hpa)
    · have := (Pgm.amg_lt hm).1
      rw [if_neg (show ¬ oI (-1) (some m) = -1 from i_ne_neg (by omega) (by decide))]
theorem CT.had {P : Pgm} {D : List Int32 → Prop} {num : List Int32 → Nat} {N c : Nat} {w : List Int32} {kk : Bool} {h : pH} (q : CT P D num h) (hp : CPr P h) (hN : 1100 ≤ N) (hw : D w) (hc : c < P.n) : fX6_had N 25 (Int32.ofNat c) (kI kk) (Int32.ofNat (num w)) h = some (oI (-1) (P.had kk w c), h) := by
  have := q.2.2.2.2.2.1
  unfold fX6_had
  rw [if_pos (o_25 q.1), show (0 : Int32) = Int32.ofNat 0 from rfl, CT.had_6 q hp hN hw P.n 0 N c (by omega) (by omega) hc]
  rfl
theorem CT.hadN {P : Pgm} {D : List Int32 → Prop} {num : List Int32 → Nat} {N : Nat} {x v3 v4 : Int32} {h : pH} (q : CT P D num h) (hN : 1100 ≤ N) (hx : x < 0) : fX6_had N 25 x v3 v4 h = some (-1, h) := by
  have h1 := q.2.2.2.2.2.1
  have h2 : 5 ≤ P.n := by unfold Pgm.n; omega
  rcases had_neg (N := N) (k := 0) (v3 := v3) (v4 := v4) (v5 := 0) q.1 hx q.2.2.2.2.1 ⟨by omega, by omega⟩ with z | z
  · exact z
  · omega
/-- the member that the class of o has -/
def Pgm.hadO (P : Pgm) (k : Bool) (w : List Int32) : Option Nat → Option Nat
  | some c => P.had k w c
  | none => none
theorem CT.hadO {P : Pgm} {D : List Int32 → Prop} {num : List Int32 → Nat} {N : Nat} {w : List Int32} {kk : Bool} {d : Int32} {o : Option Nat} {h : pH} (q : CT P D num h) (hp : CPr P h) (hN : 1100 ≤ N) (hw : D w) (hd : d < 0) (hc : ∀ c, o = some c → c < P.n) : fX6_had N 25 (oI d o) (kI kk) (Int32.ofNat (num w)) h = some (oI (-1) (P.hadO kk w o), h) := by
  cases o with
  | none => exact q.hadN hN hd
  | some c => exact q.had hp hN hw (hc c rfl)
/-- types, as the class tells them once they are meant -/
def ctI (t : Nat) : Int32 := if t < 10 then -1 - Int32.ofNat t else Int32.ofNat (t - 10)
def Pgm.tOk (P : Pgm) (t : Nat) : Prop := t ≤ 5 ∨ (10 ≤ t ∧ t < 10 + P.n)
theorem ctI_lt {t : Nat} (h : t ≤ 5) : ctI t = -1 - Int32.ofNat t ∧ ctI t < 0 := by
  have : ∀ t, t ≤ 5 → ctI t = -1 - Int32.ofNat t ∧ ctI t < 0 := by
    intro t h
    rcases t with _ | _ | _ | _ | _ | _ | t
    · decide
    · decide
    · decide
    · decide
    · decide
    · decide
    · omega
  exact this t h
theorem ctI_cls {t : Nat} (h : 10 ≤ t) : ctI t = Int32.ofNat (t - 10) := if_neg (by omega)
theorem ctI_eq {P : Pgm} (hn : P.n ≤ 400) {t u : Nat} (ht : P.tOk t) (hu : P.tOk u) : (ctI t = ctI u) ↔ t = u := by
  rcases ht with ht | ht <;> rcases hu with hu | hu
  · have : ∀ t, t ≤ 5 → ∀ u, u ≤ 5 → ((ctI t = ctI u) ↔ t = u) := by
      intro t ht u hu
      rcases t with _ | _ | _ | _ | _ | _ | t <;> rcases u with _ | _ | _ | _ | _ | _ | u
      all_goals first
        | omega
        | decide
    exact this t ht u hu
  · have h1 := (ctI_lt ht).2
    rw [ctI_cls hu.1]
    exact ⟨fun z => absurd z.symm (i_ne_neg (by omega) h1), fun z => by omega⟩
  · have h1 := (ctI_lt hu).2
    rw [ctI_cls ht.1]
    exact ⟨fun z => absurd z (i_ne_neg (by omega) h1), fun z => by omega⟩
  · rw [ctI_cls ht.1, ctI_cls hu.1, iEq (by omega) (by omega)]
    omega
theorem CT.sub_34 {P : Pgm} {D : List Int32 → Prop} {num : List Int32 → Nat} {N : Nat} {x : Int32} {d : Nat} {h : pH} (q : CT P D num h) (hp : CPr P h) (hx : x < 0 ∨ (x = Int32.ofNat d ∧ d < P.n)) : ∀ (f g k c : Nat), g + f = P.n → f < k → c < P.n → fX1_isSub_34 N k 17 x (Int32.ofNat c) (Int32.ofNat g) h = some (kI (decide (¬ x < 0) && P.undF d f c), h)
  | 0, g, k, c, hg, hk, hc => by
    obtain ⟨k, rfl⟩ : ∃ k', k = k' + 1 := ⟨k - 1, by omega⟩
    have := q.2.2.2.2.2.1
    rw [fX1_isSub_34, g_17_7 q.1, Option.bind_some, q.2.2.2.2.1, ifLe (by omega) (by omega), if_pos (by omega)]
    unfold Pgm.undF
    rw [Bool.and_false]
    rfl
  | f + 1, g, k, c, hg, hk, hc => by
    obtain ⟨k, rfl⟩ : ∃ k', k = k' + 1 := ⟨k - 1, by omega⟩
    have hn := q.2.2.2.2.2.1
    rw [fX1_isSub_34, g_17_7 q.1, Option.bind_some, q.2.2.2.2.1, ifLe (by omega) (by omega), if_neg (by omega), if_neg (i_nneg (by omega)), q.parentOf hp hc, Option.bind_some]
    dsimp only
    rw [i_add1]
    unfold Pgm.undF
    have tail : ∀ o, (∀ e, o = some e → e < P.n) → fX1_isSub_34 N k 17 x (oI (-1) o) (Int32.ofNat (g + 1)) h = some (kI (decide (¬ x < 0) && (match o with | none => false | some e => P.undF d f e)), h) := by
      intro o ho
      cases o with
      | none =>
        obtain ⟨k, rfl⟩ : ∃ k', k = k' + 1 := ⟨k - 1, by omega⟩
        rw [fX1_isSub_34, g_17_7 q.1, Option.bind_some, q.2.2.2.2.1, ifLe (by omega) (by omega)]
        by_cases z : P.n ≤ g + 1
        · rw [if_pos z, Bool.and_false]
          rfl
        · rw [if_neg z, if_pos (show oI (-1) none < 0 by decide), Bool.and_false]
          rfl
      | some e => exact CT.sub_34 q hp hx f (g + 1) k e (by omega) (by omega) (ho e rfl)
    rcases hx with hx | ⟨rfl, hd⟩
    · rw [if_neg (i_ne_neg (by omega) hx), tail _ (fun e he => Pgm.par_lt he)]
      rw [show decide (¬ x < 0) = false from decide_eq_false (fun z => z hx), Bool.false_and, Bool.false_and]
    · rw [show decide (¬ Int32.ofNat d < 0) = true from decide_eq_true (i_nneg (by omega))]
      rw [Bool.true_and]
      rw [ifEq (by omega) (by omega)]
      by_cases z : c = d
      · rw [if_pos z, if_pos z]
        rfl
      · rw [if_neg z, if_neg z, tail _ (fun e he => Pgm.par_lt he), show decide (¬ Int32.ofNat d < 0) = true from decide_eq_true (i_nneg (by omega)), Bool.true_and]
        rfl
theorem CT.isSub {P : Pgm} {D : List Int32 → Prop} {num : List Int32 → Nat} {N t u : Nat} {h : pH} (q : CT P D num h) (hp : CPr P h) (hN : 1100 ≤ N) (ht : P.tOk t) (hu : P.tOk u) (ht5 : t ≠ 5) (hu5 : u ≠ 5) : fX1_isSub N 17 (ctI t) (ctI u) h = some (kI (P.sub t u), h) := by
  have hn := q.2.2.2.2.2.1
  have e5 := ctI_eq (P := P) (by omega) ht (Or.inl (show 4 ≤ 5 by omega))
  have e55 : ctI 4 = -5 := by decide
  have e3 := ctI_eq (P := P) (by omega) hu (Or.inl (show 2 ≤ 5 by omega))
  have e33 : ctI 2 = -3 := by decide
  rw [e55] at e5
  rw [e33] at e3
  unfold fX1_isSub
  rw [if_pos (o_17 q.1)]
  by_cases h1 : t = u
  · rw [if_pos ((ctI_eq (by omega) ht hu).mpr h1)]
    have : P.sub t u = true := by
      unfold Pgm.sub
      by_cases h4 : t = 4
      · rw [if_pos h4]
        exact decide_eq_true (by omega)
      · rw [if_neg h4, decide_eq_true (show t = u ∧ t ≠ 5 from ⟨h1, ht5⟩), Bool.true_or]
    rw [this]
    rfl
  · rw [if_neg (fun z => h1 ((ctI_eq (by omega) ht hu).mp z))]
    by_cases h4 : t = 4
    · rw [if_pos (e5.mpr h4)]
      unfold Pgm.sub
      rw [if_pos h4]
      rcases hu with hu | hu
      · have hneg := (ctI_lt hu).2
        rw [if_neg (by intro z; exact absurd hneg (by rw [Int32.not_lt]; exact z))]
        by_cases h2 : u = 2
        · rw [if_pos (e3.mpr h2), decide_eq_true (show 10 ≤ u ∨ u = 2 ∨ u = 4 by omega)]
          rfl
        · rw [if_neg (fun z => h2 (e3.mp z)), decide_eq_false (show ¬ (10 ≤ u ∨ u = 2 ∨ u = 4) by omega)]
          rfl
      · rw [ctI_cls hu.1, if_pos, decide_eq_true (show 10 ≤ u ∨ u = 2 ∨ u = 4 by omega)]
        · rfl
        · rw [show (0 : Int32) = Int32.ofNat 0 from rfl, iLe (by decide) (by omega)]
          omega
    · rw [if_neg (fun z => h4 (e5.mp z))]
      unfold Pgm.sub
      rw [if_neg h4, decide_eq_false (fun z : t = u ∧ t ≠ 5 => h1 z.1), Bool.false_or]
      obtain ⟨k, hk⟩ : ∃ k, N = k + 1 := ⟨N - 1, by omega⟩
      rcases ht with ht | ht
      · have hneg := (ctI_lt ht).2
        have h5 : 5 ≤ P.n := by unfold Pgm.n; omega
        rw [show fX1_isSub_34 N N = fX1_isSub_34 N (k + 1) from congrArg _ hk, fX1_isSub_34, g_17_7 q.1, Option.bind_some, q.2.2.2.2.1, show (0 : Int32) = Int32.ofNat 0 from rfl, ifLe (by omega) (by decide), if_neg (by omega), if_pos (show ctI t < Int32.ofNat 0 from hneg), decide_eq_false (show ¬ (10 ≤ t ∧ 10 ≤ u) by omega), Bool.false_and]
        rfl
      · rw [ctI_cls ht.1]
        rcases hu with hu | hu
        · have hneg := (ctI_lt hu).2
          rw [show (0 : Int32) = Int32.ofNat 0 from rfl, CT.sub_34 (d := 0) q hp (Or.inl hneg) P.n 0 N (t - 10) (by omega) (by omega) (by omega), decide_eq_false (show ¬ (10 ≤ t ∧ 10 ≤ u) by omega), decide_eq_false (fun z : ¬ ctI u < 0 => z hneg)]
          rfl
        · rw [ctI_cls hu.1, show (0 : Int32) = Int32.ofNat 0 from rfl, CT.sub_34 (d := u - 10) q hp (Or.inr ⟨rfl, by omega⟩) P.n 0 N (t - 10) (by omega) (by omega) (by omega), decide_eq_true (show 10 ≤ t ∧ 10 ≤ u by omega), decide_eq_true (i_nneg (a := u - 10) (by omega))]
          rfl
