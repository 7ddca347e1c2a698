/-! ===== THE CLASS' CHECKER: classes ===== -/
def ctA (a : Nat) : Prop := a = 17 ∨ a = 18 ∨ a = 19 ∨ a = 22 ∨ a = 23 ∨ a = 25 ∨ a = 26 ∨ a = 27 ∨ a = 29
theorem CT.chg {A : Nat → Nat → Prop} {P : Pgm} {D : List Int32 → Prop} {num : List Int32 → Nat} {h h' : pH} (q : CT P D num h) (g : Chg A h h') (hA : ∀ a k, ctA a → ¬ A a k) : CT P D num h' := by
  obtain ⟨q1, q2, q3, q4, q5, q6, q7, q8, q9, q10, q11⟩ := q
  have r : ∀ a k, ctA a → rd h' a k = rd h a k := fun a k ha => g.2.2.1 _ _ (hA a k ha)
  unfold ctA at r
  refine ⟨g.sg q1, q2, q3, q4, by rw [r 17 7 (by omega)]; exact q5, q6, fun c hc => ?_, fun c c1 hc => ?_, by rw [r 25 11 (by omega)]; exact q9, q10, fun m b hb => ?_⟩
  · rw [r 18 c (by omega), r 22 c (by omega), r 23 c (by omega)]; exact q7 c hc
  · rw [r 19 c (by omega)]; exact q8 c c1 hc
  · rw [r 26 m (by omega), r 29 m (by omega), r 27 m (by omega)]; exact q11 m b hb
theorem CPr.chg {A : Nat → Nat → Prop} {P : Pgm} {h h' : pH} (q : CPr P h) (g : Chg A h h') (hA : ∀ k, ¬ A 21 k) : CPr P h' := fun c hc => by rw [g.2.2.1 _ _ (hA c)]; exact q c hc
theorem CT.bad_2 {P : Pgm} {D : List Int32 → Prop} {num : List Int32 → Nat} {N : Nat} {h : pH} (q : CT P D num h) (hN : 1100 ≤ N) : ∀ (d i k : Nat), i + d = P.n → 5 ≤ i → d < k → fX0_badClass_2 N k 50 (Int32.ofNat i) h = match fstN P.b1 d i with
    | some c => some (Int32.ofNat (P.pl c), h)
    | none => fX0_badClass_51 N N 50 5 h
  | 0, i, k, hd, hi, hk => by
    obtain ⟨k, rfl⟩ : ∃ k', k = k' + 1 := ⟨k - 1, by omega⟩
    have := q.2.2.2.2.2.1
    rw [fX0_badClass_2, R_50_0 q.1, Option.bind_some, g_17_7 q.1, Option.bind_some, q.2.2.2.2.1, ifLe (by omega) (by omega), if_pos (by omega)]
    rfl
  | d + 1, i, k, hd, hi, hk => by
    obtain ⟨k, rfl⟩ : ∃ k', k = k' + 1 := ⟨k - 1, by omega⟩
    have hn := q.2.2.2.2.2.1
    obtain ⟨z1, z2, z3, z4⟩ := q.2.2.2.2.2.2.1 i (by omega)
    have hpl := (q.2.2.2.2.2.2.2.1 i hi (by omega)).1
    have IH := CT.bad_2 q hN d (i + 1) k (by omega) (by omega) (by omega)
    have c0 : ¬ Int32.ofNat P.n ≤ Int32.ofNat i := by rw [iLe (by omega) (by omega)]; omega
    have l18 := L_18 q.1 (i := i) (by omega)
    have l19 := L_19 q.1 (i := i) (by omega)
    have fd := q.find (N := N) hN z1
    rw [z2] at l18
    rw [hpl] at l19
    rw [fX0_badClass_2]
    simp only [o_50, R_50_0, R_50_1, o_17, R_17_0, R_17_1, R_17_2, R_17_3, R_17_4, R_17_5, R_17_6, g_17_7, p_17_7, q.1, q.2.2.2.2.1, c0, l18, l19, fd, Sg_wr, Sg_wrJ, rd_wr_ne, rd_wrJ, rdJ_wr, Option.bind_some, if_true, if_false, i_add1, i_sub1, false_and, and_false, not_false_eq_true, Nat.reduceEqDiff, ne_eq, reduceIte]
    unfold fstN Pgm.b1
    rcases hf : P.fnd (P.cn i) with _ | e
    · rw [if_neg (show ¬ oI (-6) none = Int32.ofNat i from fun z => i_ne_neg (by omega) (by decide) z.symm), if_pos (decide_eq_true (by intro z; cases z))]
    · have he := (Pgm.fnd_lt hf).1
      show (if Int32.ofNat e = Int32.ofNat i then _ else _) = _
      rw [ifEq (by omega) (by omega)]
      by_cases z : e = i
      · rw [if_pos z, if_neg (fun y => (of_decide_eq_true y) (by rw [z]))]
        exact IH
      · rw [if_neg z, if_pos (decide_eq_true (show some e ≠ some i from fun y => z (Option.some.inj y)))]
theorem CT.bad_51 {P : Pgm} {D : List Int32 → Prop} {num : List Int32 → Nat} {N : Nat} (hN : 1100 ≤ N) : ∀ (d i k : Nat) (h : pH), i + d = P.n → 5 ≤ i → d < k → CT P D num h → CPn P D num h → (∀ c, c < P.n → rd h 21 c = if c < i then oI (-1) (P.par c) else -1) → match fstN P.b2 d i with
    | some c => ∃ h', fX0_badClass_51 N k 50 (Int32.ofNat i) h = some (Int32.ofNat (P.pl c), h') ∧ Chg (fun a _ => a = 21) h h'
    | none => ∃ h', fX0_badClass_51 N k 50 (Int32.ofNat i) h = fX0_badClass_126 N N 50 5 h' ∧ CPr P h' ∧ Chg (fun a _ => a = 21) h h'
  | 0, i, k, h, hd, hi, hk, q, qn, hp => by
    obtain ⟨k, rfl⟩ : ∃ k', k = k' + 1 := ⟨k - 1, by omega⟩
    have := q.2.2.2.2.2.1
    refine ⟨h, ?_, fun c hc => by rw [hp c hc, if_pos (by omega)], Chg.refl _ _⟩
    rw [fX0_badClass_51, R_50_0 q.1, Option.bind_some, g_17_7 q.1, Option.bind_some, q.2.2.2.2.1, ifLe (by omega) (by omega), if_pos (by omega)]
  | d + 1, i, k, h, hd, hi, hk, q, qn, hp => by
    obtain ⟨k, rfl⟩ : ∃ k', k = k' + 1 := ⟨k - 1, by omega⟩
    have hn := q.2.2.2.2.2.1
    have hpl := (q.2.2.2.2.2.2.2.1 i hi (by omega)).1
    obtain ⟨n1, n2⟩ := qn i (by omega)
    have c0 : ¬ Int32.ofNat P.n ≤ Int32.ofNat i := by rw [iLe (by omega) (by omega)]; omega
    have l20 := L_20 q.1 (i := i) (by omega)
    have l19 := L_19 q.1 (i := i) (by omega)
    rw [hpl] at l19
    rw [fX0_badClass_51]
    simp only [o_50, R_50_0, R_50_1, o_17, R_17_0, R_17_1, R_17_2, R_17_3, R_17_4, R_17_5, R_17_6, g_17_7, p_17_7, q.1, q.2.2.2.2.1, c0, l20, l19, Sg_wr, Sg_wrJ, rd_wr_ne, rd_wrJ, rdJ_wr, Option.bind_some, if_true, if_false, i_add1, i_sub1, false_and, and_false, not_false_eq_true, Nat.reduceEqDiff, ne_eq, reduceIte]
    unfold fstN fX0_badClass_118 Pgm.b2
    rcases hw : P.pw i with _ | w
    · have hpar : P.par i = none := by unfold Pgm.par; rw [hw]
      rw [if_pos (n2 hw), i_add1, if_neg (by rw [Option.isSome_none, Bool.false_and]; exact Bool.false_ne_true)]
      exact CT.bad_51 hN d (i + 1) k h (by omega) (by omega) (by omega) q qn (fun c hc => by
        rw [hp c hc]
        by_cases z : c = i
        · subst z; rw [if_neg (by omega), if_pos (by omega), hpar]; rfl
        · by_cases y : c < i
          · rw [if_pos y, if_pos (by omega)]
          · rw [if_neg y, if_neg (by omega)])
    · obtain ⟨dw, r20⟩ := n1 w hw
      have hlt := q.2.2.1 (P.1 w)
      have fd := q.find (N := N) hN dw
      have hpar : P.par i = P.fnd (P.1 w) := by unfold Pgm.par; rw [hw]
      rw [r20, if_neg (i_ne_neg (by omega) (by decide)), fd, Option.bind_some, hpar]
      dsimp only
      rcases hf : P.fnd (P.1 w) with _ | e
      · rw [if_pos (show oI (-6) none = -6 from rfl), if_pos (by rfl)]
        refine ⟨h, ?_, Chg.refl _ _⟩
        rw [R_50_0 q.1, Option.bind_some, R_17_1 q.1, Option.bind_some, l19, Option.bind_some]
      · have he := (Pgm.fnd_lt hf).1
        rw [if_neg (show ¬ oI (-6) (some e) = -6 from i_ne_neg (by omega) (by decide)), if_neg (by rw [Option.isNone_some, Bool.and_false]; exact Bool.false_ne_true), R_50_0 q.1, Option.bind_some, R_17_3 q.1, Option.bind_some, T_21 q.1 (by omega), Option.bind_some, i_add1]
        have g : Chg (fun a _ => a = 21) h (wr h 21 i (oI (-6) (some e))) := Chg.wr _ _ _ _ rfl
        have q' := q.chg g (fun a k ha => by unfold ctA at ha; omega)
        have qn' : CPn P D num (wr h 21 i (oI (-6) (some e))) := fun c hc => by rw [g.2.2.1 20 c (by omega)]; exact qn c hc
        have IH := CT.bad_51 hN d (i + 1) k (wr h 21 i (oI (-6) (some e))) (by omega) (by omega) (by omega) q' qn' (fun c hc => by
          by_cases z : c = i
          · subst z
            rw [W_21 q.1, if_pos (by omega), hpar, hf]
            rfl
          · rw [rd_wr_ne _ _ (by omega), hp c hc]
            by_cases y : c < i
            · rw [if_pos y, if_pos (by omega)]
            · rw [if_neg y, if_neg (by omega)])
        rcases hb : fstN P.b2 d (i + 1) with _ | c
        · have hb' : fstN (fun c => (P.pw c).isSome && (P.par c).isNone) d (i + 1) = none := hb
          rw [hb] at IH
          rw [hb']
          obtain ⟨h', e1, e2, e3⟩ := IH
          exact ⟨h', e1, e2, g.trans e3⟩
        · have hb' : fstN (fun c => (P.pw c).isSome && (P.par c).isNone) d (i + 1) = some c := hb
          rw [hb] at IH
          rw [hb']
          obtain ⟨h', e1, e3⟩ := IH
          exact ⟨h', e1, g.trans e3⟩
theorem CT.way_11 {P : Pgm} {D : List Int32 → Prop} {num : List Int32 → Nat} {N c : Nat} {h : pH} (q : CT P D num h) (hp : CPr P h) (hc : c < P.n) : ∀ (f g k : Nat) (o : Option Nat), g + f = P.n → f < k → (∀ d, o = some d → d < P.n) → fX0_isOnOwnWay_11 N k 50 (Int32.ofNat c) (oI (-1) o) (Int32.ofNat g) h = some (kI (P.b3F c f o), h)
  | 0, g, k, o, hg, hk, ho => by
    obtain ⟨k, rfl⟩ : ∃ k', k = k' + 1 := ⟨k - 1, by omega⟩
    have := q.2.2.2.2.2.1
    rw [fX0_isOnOwnWay_11, R_50_0 q.1, Option.bind_some, g_17_7 q.1, Option.bind_some, q.2.2.2.2.1, ifLe (by omega) (by omega), if_pos (by omega)]
    unfold Pgm.b3F
    rfl
  | f + 1, g, k, none, hg, hk, ho => by
    obtain ⟨k, rfl⟩ : ∃ k', k = k' + 1 := ⟨k - 1, by omega⟩
    have := q.2.2.2.2.2.1
    rw [fX0_isOnOwnWay_11, R_50_0 q.1, Option.bind_some, g_17_7 q.1, Option.bind_some, q.2.2.2.2.1, ifLe (by omega) (by omega), if_neg (by omega), if_pos (show oI (-1) none = -1 from rfl)]
    unfold Pgm.b3F
    rfl
  | f + 1, g, k, some d, hg, hk, ho => by
    obtain ⟨k, rfl⟩ : ∃ k', k = k' + 1 := ⟨k - 1, by omega⟩
    have hn := q.2.2.2.2.2.1
    have hd := ho d rfl
    rw [fX0_isOnOwnWay_11, R_50_0 q.1, Option.bind_some, g_17_7 q.1, Option.bind_some, q.2.2.2.2.1, ifLe (by omega) (by omega), if_neg (by omega), if_neg (show ¬ oI (-1) (some d) = -1 from i_ne_neg (by omega) (by decide))]
    unfold Pgm.b3F
    show (if Int32.ofNat d = Int32.ofNat c then _ else _) = _
    rw [ifEq (by omega) (by omega)]
    by_cases z : d = c
    · rw [if_pos z, if_pos z]
      rfl
    · rw [if_neg z, if_neg z, Option.bind_some]
      show ((fX1_parentOf N 17 (Int32.ofNat d) h).bind fun q7 => _) = _
      rw [q.parentOf hp hd, Option.bind_some]
      dsimp only
      rw [i_add1]
      exact CT.way_11 q hp hc f (g + 1) k (P.par d) (by omega) (by omega) (fun e he => Pgm.par_lt he)
theorem CT.way {P : Pgm} {D : List Int32 → Prop} {num : List Int32 → Nat} {N c : Nat} {h : pH} (q : CT P D num h) (hp : CPr P h) (hN : 1100 ≤ N) (hc : c < P.n) : fX0_isOnOwnWay N 50 (Int32.ofNat c) h = some (kI (P.b3 c), h) := by
  have hn := q.2.2.2.2.2.1
  unfold fX0_isOnOwnWay
  rw [if_pos (o_50 q.1), R_50_0 q.1, Option.bind_some, q.parentOf hp hc, Option.bind_some]
  dsimp only
  rw [show (0 : Int32) = Int32.ofNat 0 from rfl, CT.way_11 q hp hc P.n 0 N (P.par c) (by omega) (by omega) (fun d hd => Pgm.par_lt hd)]
  rfl
theorem CT.bad_126 {P : Pgm} {D : List Int32 → Prop} {num : List Int32 → Nat} {N : Nat} {h : pH} (q : CT P D num h) (hp : CPr P h) (hN : 1100 ≤ N) : ∀ (d i k : Nat), i + d = P.n → 5 ≤ i → d < k → fX0_badClass_126 N k 50 (Int32.ofNat i) h = match fstN P.b3 d i with
    | some c => some (Int32.ofNat (P.pl c), h)
    | none => some (-1, h)
  | 0, i, k, hd, hi, hk => by
    obtain ⟨k, rfl⟩ : ∃ k', k = k' + 1 := ⟨k - 1, by omega⟩
    have := q.2.2.2.2.2.1
    rw [fX0_badClass_126, R_50_0 q.1, Option.bind_some, g_17_7 q.1, Option.bind_some, q.2.2.2.2.1, ifLe (by omega) (by omega), if_pos (by omega)]
    rfl
  | d + 1, i, k, hd, hi, hk => by
    obtain ⟨k, rfl⟩ : ∃ k', k = k' + 1 := ⟨k - 1, by omega⟩
    have hn := q.2.2.2.2.2.1
    have hpl := (q.2.2.2.2.2.2.2.1 i hi (by omega)).1
    have IH := CT.bad_126 q hp hN d (i + 1) k (by omega) (by omega) (by omega)
    rw [fX0_badClass_126, R_50_0 q.1, Option.bind_some, g_17_7 q.1, Option.bind_some, q.2.2.2.2.1, ifLe (by omega) (by omega), if_neg (by omega), q.way hp hN (by omega), Option.bind_some]
    dsimp only
    unfold fstN
    by_cases hb : P.b3 i = true
    · rw [hb, if_neg (by decide), if_pos rfl, R_50_0 q.1, Option.bind_some, R_17_1 q.1, Option.bind_some, L_19 q.1 (by omega), Option.bind_some, hpl]
    · rw [Bool.eq_false_iff.mpr hb, if_pos (by decide), if_neg Bool.false_ne_true, i_add1]
      exact IH
/-- what badClass answers -/
theorem CT.badClass {P : Pgm} {D : List Int32 → Prop} {num : List Int32 → Nat} {N : Nat} {h : pH} (hN : 1100 ≤ N) (q : CT P D num h) (qn : CPn P D num h) (h21 : ∀ c, c < P.n → rd h 21 c = -1) : ∃ h', fX0_badClass N 50 h = some (oI (-1) P.badA, h') ∧ (P.badA = none → CPr P h') ∧ Chg (fun a _ => a = 21) h h' := by
  have hn := q.2.2.2.2.2.1
  have hnn : P.n = 5 + P.2.length := rfl
  have e2 := q.bad_2 hN P.2.length 5 N (by omega) (by omega) (by omega)
  have e0 : fX0_badClass N 50 h = fX0_badClass_2 N N 50 (Int32.ofNat 5) h := by
    unfold fX0_badClass
    rw [if_pos (o_50 q.1)]
    rfl
  rw [e0, e2]
  unfold Pgm.badA
  rcases h1 : fstN P.b1 P.2.length 5 with _ | c
  · dsimp only
    have e51 := CT.bad_51 (P := P) (D := D) (num := num) hN P.2.length 5 N h (by omega) (by omega) (by omega) q qn (fun c hc => by
      rw [h21 c hc]
      by_cases z : c < 5
      · have : P.par c = none := by unfold Pgm.par Pgm.pw; rw [if_pos z]
        rw [if_pos z, this]
        rfl
      · rw [if_neg z])
    rcases h2 : fstN P.b2 P.2.length 5 with _ | c
    · rw [h2] at e51
      obtain ⟨h', e3, p3, g3⟩ := e51
      have q' := q.chg g3 (fun a k ha => by unfold ctA at ha; omega)
      have e126 := q'.bad_126 p3 hN P.2.length 5 N (by omega) (by omega) (by omega)
      dsimp only
      refine ⟨h', ?_, fun _ => p3, g3⟩
      show fX0_badClass_51 N N 50 (Int32.ofNat 5) h = _
      rw [e3]
      show fX0_badClass_126 N N 50 (Int32.ofNat 5) h' = _
      rw [e126]
      rcases h3 : fstN P.b3 P.2.length 5 with _ | c
      · rfl
      · rfl
    · rw [h2] at e51
      obtain ⟨h', e3, g3⟩ := e51
      exact ⟨h', e3, fun z => (by cases z), g3⟩
  · exact ⟨h, rfl, fun z => (by cases z), Chg.refl _ _⟩
