/-! ===== WHAT IS BAD OF MEMBERS; THE CLASS' CHECK OF THEM ===== -/
/-- parameter i of a member -/
def px (b : Mb) (i : Nat) : Nat × Nat := match b.2.2.2.2.1[i]? with
  | some x => x
  | none => (0, 0)
theorem px_get {b : Mb} {i : Nat} (h : i < mbP b) : b.2.2.2.2.1[i]? = some (px b i) := by
  have e : b.2.2.2.2.1[i]? = some (b.2.2.2.2.1[i]'h) := List.getElem?_eq_getElem h
  unfold px
  rw [e]
def Pgm.pbad (P : Pgm) (b : Mb) (i : Nat) : Bool := decide (P.rt (px b i).1 = 5) || (fstN (fun j => decide (P.1 (px b i).2 = P.1 (px b j).2)) i 0).isSome
def Pgm.pfine (P : Pgm) (b : Mb) : Bool := (fstN (P.pbad b) (mbP b) 0).isNone
def Pgm.same (P : Pgm) (b d : Mb) : Bool := decide (P.rt b.2.1 = P.rt d.2.1) && (decide (mbP b = mbP d) && (fstN (fun i => decide (P.rt (px b i).1 ≠ P.rt (px d i).1)) (mbP b) 0).isNone)
/-- the method above, if there is one, has the same types -/
def Pgm.over (P : Pgm) (b : Mb) (o : Option Nat) : Bool := match o with
  | none => true
  | some m => match P.ms[m]? with
    | none => true
    | some d => P.same b d
def Pgm.ffine (P : Pgm) (c m : Nat) (b : Mb) : Bool := decide (P.rt b.2.1 ≠ 5) && ((P.amg false (P.1 b.2.2.1) (P.mf c) m).isNone && (P.hadO false (P.1 b.2.2.1) (P.par c)).isNone)
def Pgm.mfine (P : Pgm) (c m : Nat) (b : Mb) : Bool := decide (P.rt b.2.1 ≠ 5) && (P.pfine b && ((P.amg true (P.1 b.2.2.1) (P.mf c) m).isNone && P.over b (P.hadO true (P.1 b.2.2.1) (P.par c))))
def Pgm.mbad (P : Pgm) (c m : Nat) : Bool := match P.ms[m]? with
  | none => false
  | some b => !(if b.1 = true then P.mfine c m b else P.ffine c m b)
def Pgm.mpl (P : Pgm) (m : Nat) : Nat := match P.ms[m]? with
  | none => 0
  | some b => b.2.2.2.1
def Pgm.badBF (P : Pgm) : Nat → Nat → Option Nat
  | 0, _ => none
  | d + 1, c => match fstN (P.mbad c) (P.mf (c + 1) - P.mf c) (P.mf c) with
    | some m => some (P.mpl m)
    | none => Pgm.badBF P d (c + 1)
def Pgm.badB (P : Pgm) : Option Nat := P.badBF P.2.length 5
theorem fstN_succ {p : Nat → Bool} {d i : Nat} : fstN p (d + 1) i = if p i = true then some i else fstN p d (i + 1) := rfl
theorem Pgm.ps_get {P : Pgm} {m i : Nat} {b : Mb} (h : P.ms[m]? = some b) (hi : i < mbP b) : P.ps[P.pf m + i]? = some (px b i) ∧ P.pf m + i < P.ps.length := by
  have e := flat_get h hi
  rw [px_get hi] at e
  exact ⟨e, (List.getElem?_eq_some_iff.mp e).1⟩
theorem CM1.pname {P : Pgm} {D : List Int32 → Prop} {num : List Int32 → Nat} {N m i : Nat} {b : Mb} {h : pH} (q : CT P D num h) (c : CM1 P D num h) (hb : P.ms[m]? = some b) (hi : i < mbP b) : fX6_parameterNameOf N 25 (Int32.ofNat m) (Int32.ofNat i) h = some (Int32.ofNat (num (P.1 (px b i).2)), h) := by
  obtain ⟨c1, c2, c3, c4⟩ := c
  have hm := (List.getElem?_eq_some_iff.mp hb).1
  have hl := q.2.2.2.2.2.2.2.2.2.1
  obtain ⟨e1, e2⟩ := Pgm.ps_get hb hi
  have ha : Int32.ofNat (P.pf m) + Int32.ofNat i = Int32.ofNat (P.pf m + i) := (Int32.ofNat_add _ _).symm
  unfold fX6_parameterNameOf
  rw [if_pos (o_25 q.1), R_25_6 q.1, Option.bind_some, L_31 q.1 (by omega), Option.bind_some, (c3 m b hb).2.1, g_25_14 q.1, Option.bind_some, c1, ha, ifLe (by omega) (by omega), if_neg (by omega), R_25_12 q.1, Option.bind_some, L_36 q.1 (by omega), Option.bind_some, (c4 _ _ e1).2.2]
theorem CM1.ptype {P : Pgm} {D : List Int32 → Prop} {num : List Int32 → Nat} {N m i : Nat} {b : Mb} {h : pH} (q : CT P D num h) (c : CM1 P D num h) (hb : P.ms[m]? = some b) (hi : i < mbP b) : fX6_parameterTypeOf N 25 (Int32.ofNat m) (Int32.ofNat i) h = some (ctI (P.rt (px b i).1), h) := by
  obtain ⟨c1, c2, c3, c4⟩ := c
  have hm := (List.getElem?_eq_some_iff.mp hb).1
  have hl := q.2.2.2.2.2.2.2.2.2.1
  obtain ⟨e1, e2⟩ := Pgm.ps_get hb hi
  have ha : Int32.ofNat (P.pf m) + Int32.ofNat i = Int32.ofNat (P.pf m + i) := (Int32.ofNat_add _ _).symm
  unfold fX6_parameterTypeOf
  rw [if_pos (o_25 q.1), R_25_6 q.1, Option.bind_some, L_31 q.1 (by omega), Option.bind_some, (c3 m b hb).2.1, g_25_14 q.1, Option.bind_some, c1, ha, ifLe (by omega) (by omega), if_neg (by omega), R_25_13 q.1, Option.bind_some, L_37 q.1 (by omega), Option.bind_some, (c4 _ _ e1).2.1]
theorem ctI_5 {P : Pgm} (hn : P.n ≤ 400) {t : Nat} (ht : P.tOk t) : (ctI t = -6) ↔ t = 5 := by
  have := ctI_eq (P := P) hn ht (Or.inl (Nat.le_refl 5))
  rwa [show ctI 5 = -6 by decide] at this
theorem CM1.apf_33 {P : Pgm} {D : List Int32 → Prop} {num : List Int32 → Nat} {N m i : Nat} {b : Mb} {h : pH} {k2 : Nat → Int32 → Int32 → pH → Option (Int32 × pH)} (q : CT P D num h) (c : CM1 P D num h) (hb : P.ms[m]? = some b) (hi : i < mbP b) : ∀ (d j k : Nat), j + d = i → d < k → fX0_areParametersFine_33 N k2 k 50 (Int32.ofNat m) (Int32.ofNat i) (Int32.ofNat j) h = if (fstN (fun j => decide (P.1 (px b i).2 = P.1 (px b j).2)) d j).isSome = true then some (0, h) else k2 50 (Int32.ofNat m) (Int32.ofNat (i + 1)) h
  | 0, j, k, hd, hk => by
    obtain ⟨k, rfl⟩ : ∃ k', k = k' + 1 := ⟨k - 1, by omega⟩
    have e2 := (Pgm.ps_get hb hi).2
    have c2 := c.2.1
    rw [fX0_areParametersFine_33, ifLe (by omega) (by omega), if_pos (by omega), i_add1]
    rfl
  | d + 1, j, k, hd, hk => by
    obtain ⟨k, rfl⟩ : ∃ k', k = k' + 1 := ⟨k - 1, by omega⟩
    have e2 := (Pgm.ps_get hb hi).2
    have c2 := c.2.1
    have d1 := (c.2.2.2 _ _ (Pgm.ps_get hb hi).1).1
    have d2 := (c.2.2.2 _ _ (Pgm.ps_get hb (show j < mbP b by omega)).1).1
    have n1 := q.2.2.1 (P.1 (px b i).2)
    have n2 := q.2.2.1 (P.1 (px b j).2)
    rw [fX0_areParametersFine_33, ifLe (by omega) (by omega), if_neg (by omega), R_50_1 q.1, Option.bind_some, CM1.pname q c hb hi, Option.bind_some]
    dsimp only
    rw [R_50_1 q.1, Option.bind_some, CM1.pname q c hb (by omega), Option.bind_some]
    dsimp only
    rw [ifEq (by omega) (by omega), i_add1]
    rw [fstN_succ]
    by_cases z : P.1 (px b i).2 = P.1 (px b j).2
    · rw [if_pos (by rw [z]), if_pos (decide_eq_true z)]
      rfl
    · rw [if_neg (fun y => z (q.2.1 _ _ d1 d2 y)), if_neg (fun y => z (of_decide_eq_true y))]
      exact CM1.apf_33 q c hb hi d (j + 1) k (by omega) (by omega)
theorem CM1.apf_2 {P : Pgm} {D : List Int32 → Prop} {num : List Int32 → Nat} {N m : Nat} {b : Mb} {h : pH} (hN : 1100 ≤ N) (q : CT P D num h) (c : CM1 P D num h) (hb : P.ms[m]? = some b) : ∀ (d i k : Nat), i + d = mbP b → d < k → fX0_areParametersFine_2 N k 50 (Int32.ofNat m) (Int32.ofNat i) h = some (kI (fstN (P.pbad b) d i).isNone, h)
  | 0, i, k, hd, hk => by
    obtain ⟨k, rfl⟩ : ∃ k', k = k' + 1 := ⟨k - 1, by omega⟩
    have hm := (List.getElem?_eq_some_iff.mp hb).1
    have hl := q.2.2.2.2.2.2.2.2.2.1
    have hle := (Pgm.pf_succ hb).1
    have hle2 := (Pgm.pf_succ hb).2
    have c2 := c.2.1
    rw [fX0_areParametersFine_2, R_50_1 q.1, Option.bind_some, R_25_7 q.1, Option.bind_some, L_32 q.1 (by omega), Option.bind_some, (c.2.2.1 m b hb).2.2, ifLe (by omega) (by omega), if_pos (by omega)]
    rfl
  | d + 1, i, k, hd, hk => by
    obtain ⟨k, rfl⟩ : ∃ k', k = k' + 1 := ⟨k - 1, by omega⟩
    have hm := (List.getElem?_eq_some_iff.mp hb).1
    have hl := q.2.2.2.2.2.2.2.2.2.1
    have hn := q.2.2.2.2.2.1
    have hle := (Pgm.pf_succ hb).1
    have hle2 := (Pgm.pf_succ hb).2
    have c2 := c.2.1
    have IH := CM1.apf_2 hN q c hb d (i + 1) k (by omega) (by omega)
    rw [fX0_areParametersFine_2, R_50_1 q.1, Option.bind_some, R_25_7 q.1, Option.bind_some, L_32 q.1 (by omega), Option.bind_some, (c.2.2.1 m b hb).2.2, ifLe (by omega) (by omega), if_neg (by omega), Option.bind_some, CM1.ptype q c hb (by omega), Option.bind_some]
    dsimp only
    rw [show (0 : Int32) = Int32.ofNat 0 from rfl, CM1.apf_33 q c hb (by omega) i 0 N (by omega) (by omega), IH]
    rw [fstN_succ]
    by_cases h5 : P.rt (px b i).1 = 5
    · have : P.pbad b i = true := by unfold Pgm.pbad; rw [decide_eq_true h5, Bool.true_or]
      rw [if_pos ((ctI_5 (by omega) P.rt_ok).mpr h5), if_pos this]
      rfl
    · rw [if_neg (fun z => h5 ((ctI_5 (by omega) P.rt_ok).mp z))]
      have e : P.pbad b i = (fstN (fun j => decide (P.1 (px b i).2 = P.1 (px b j).2)) i 0).isSome := by unfold Pgm.pbad; rw [decide_eq_false h5, Bool.false_or]
      rw [e]
      by_cases h6 : (fstN (fun j => decide (P.1 (px b i).2 = P.1 (px b j).2)) i 0).isSome = true
      · rw [if_pos h6, if_pos h6]
        rfl
      · rw [if_neg h6, if_neg h6]
theorem CM1.pfine {P : Pgm} {D : List Int32 → Prop} {num : List Int32 → Nat} {N m : Nat} {b : Mb} {h : pH} (hN : 1100 ≤ N) (q : CT P D num h) (c : CM1 P D num h) (hb : P.ms[m]? = some b) : fX0_areParametersFine N 50 (Int32.ofNat m) h = some (kI (P.pfine b), h) := by
  have hle := (Pgm.pf_succ hb).1
  have hle2 := (Pgm.pf_succ hb).2
  have c2 := c.2.1
  unfold fX0_areParametersFine
  rw [if_pos (o_50 q.1), show (0 : Int32) = Int32.ofNat 0 from rfl, CM1.apf_2 hN q c hb (mbP b) 0 N (by omega) (by omega)]
  rfl
theorem isNone_kI {o : Option Nat} (ho : ∀ c, o = some c → c < 100000) {α : Type} (x y : α) : (if oI (-1) o = -1 then x else y) = if o.isNone = true then x else y := by
  cases o with
  | none => rfl
  | some c =>
    have := ho c rfl
    rw [if_neg (show ¬ oI (-1) (some c) = -1 from i_ne_neg (by omega) (by decide)), if_neg (show ¬ (some c).isNone = true from Bool.false_ne_true)]
theorem Pgm.hadO_lt {P : Pgm} {k : Bool} {w : List Int32} {o : Option Nat} {m : Nat} (h : P.hadO k w o = some m) : m < P.ms.length := by
  cases o with
  | none => cases h
  | some c => exact (Pgm.hadF_lt h).1
theorem CM1.ffine {P : Pgm} {D : List Int32 → Prop} {num : List Int32 → Nat} {N c m : Nat} {b : Mb} {h : pH} (hN : 1100 ≤ N) (q : CT P D num h) (hp : CPr P h) (cm : CM1 P D num h) (hb : P.ms[m]? = some b) (hc : c < P.n) (hcm : P.mf c ≤ m) : fX0_isFieldFine N 50 (Int32.ofNat c) (Int32.ofNat m) h = some (kI (P.ffine c m b), h) := by
  have hm := (List.getElem?_eq_some_iff.mp hb).1
  have hl := q.2.2.2.2.2.2.2.2.2.1
  have hn := q.2.2.2.2.2.1
  obtain ⟨z1, z2, z3, z4⟩ := q.2.2.2.2.2.2.2.2.2.2 m b hb
  obtain ⟨y1, y2, y3, y4⟩ := q.2.2.2.2.2.2.1 c hc
  have am := q.among (N := N) (kk := false) (i := P.mf c) (j := m) hN z1 hcm (by omega)
  have hd := q.hadO (N := N) (kk := false) (d := -1) (o := P.par c) hp hN z1 (by decide) (fun e he => Pgm.par_lt he)
  unfold fX0_isFieldFine Pgm.ffine
  rw [if_pos (o_50 q.1), R_50_1 q.1, Option.bind_some, R_25_1 q.1, Option.bind_some, L_26 q.1 (by omega), Option.bind_some, Option.bind_some, R_25_3 q.1, Option.bind_some, L_28 q.1 (by omega), Option.bind_some, (cm.2.2.1 m b hb).1, z2]
  by_cases h5 : P.rt b.2.1 = 5
  · rw [if_pos ((ctI_5 (by omega) P.rt_ok).mpr h5), decide_eq_false (fun z => z h5), Bool.false_and]
    rfl
  · rw [if_neg (fun z => h5 ((ctI_5 (by omega) P.rt_ok).mp z)), decide_eq_true h5, Bool.true_and, Option.bind_some, R_50_0 q.1, Option.bind_some, R_17_4 q.1, Option.bind_some, L_22 q.1 (by omega), Option.bind_some, y3]
    rw [show (0 : Int32) = kI false from rfl, am, Option.bind_some]
    dsimp only
    rw [isNone_kI (fun e he => by have := (Pgm.amg_lt he).1; omega), R_50_1 q.1, Option.bind_some, R_50_0 q.1, Option.bind_some, R_17_3 q.1, Option.bind_some, L_21 q.1 (by omega), Option.bind_some, hp c hc, hd, Option.bind_some]
    dsimp only
    rw [isNone_kI (fun e he => by have := Pgm.hadO_lt he; omega)]
    cases (P.amg false (P.1 b.2.2.1) (P.mf c) m).isNone <;> cases (P.hadO false (P.1 b.2.2.1) (P.par c)).isNone <;> rfl
theorem CM1.same_46 {P : Pgm} {D : List Int32 → Prop} {num : List Int32 → Nat} {N m m' : Nat} {b d : Mb} {h : pH} (q : CT P D num h) (c : CM1 P D num h) (hb : P.ms[m]? = some b) (hd : P.ms[m']? = some d) (hl : mbP b = mbP d) : ∀ (e i k : Nat), i + e = mbP b → e < k → fX0_haveSameTypes_46 N k 50 (Int32.ofNat m) (Int32.ofNat m') (Int32.ofNat i) h = some (kI (fstN (fun i => decide (P.rt (px b i).1 ≠ P.rt (px d i).1)) e i).isNone, h)
  | 0, i, k, he, hk => by
    obtain ⟨k, rfl⟩ : ∃ k', k = k' + 1 := ⟨k - 1, by omega⟩
    have hm := (List.getElem?_eq_some_iff.mp hb).1
    have hms := q.2.2.2.2.2.2.2.2.2.1
    have hle := (Pgm.pf_succ hb).1
    have hle2 := (Pgm.pf_succ hb).2
    have c2 := c.2.1
    rw [fX0_haveSameTypes_46, R_50_1 q.1, Option.bind_some, R_25_7 q.1, Option.bind_some, L_32 q.1 (by omega), Option.bind_some, (c.2.2.1 m b hb).2.2, ifLe (by omega) (by omega), if_pos (by omega)]
    rfl
  | e + 1, i, k, he, hk => by
    obtain ⟨k, rfl⟩ : ∃ k', k = k' + 1 := ⟨k - 1, by omega⟩
    have hm := (List.getElem?_eq_some_iff.mp hb).1
    have hms := q.2.2.2.2.2.2.2.2.2.1
    have hn := q.2.2.2.2.2.1
    have hle := (Pgm.pf_succ hb).1
    have hle2 := (Pgm.pf_succ hb).2
    have c2 := c.2.1
    have IH := CM1.same_46 (N := N) q c hb hd hl e (i + 1) k (by omega) (by omega)
    rw [fX0_haveSameTypes_46, R_50_1 q.1, Option.bind_some, R_25_7 q.1, Option.bind_some, L_32 q.1 (by omega), Option.bind_some, (c.2.2.1 m b hb).2.2, ifLe (by omega) (by omega), if_neg (by omega), Option.bind_some, CM1.ptype q c hb (by omega), Option.bind_some]
    dsimp only
    rw [R_50_1 q.1, Option.bind_some, CM1.ptype q c hd (by omega), Option.bind_some]
    dsimp only
    rw [i_add1, IH]
    rw [fstN_succ]
    by_cases z : P.rt (px b i).1 = P.rt (px d i).1
    · rw [if_pos (by rw [z]), if_neg (fun y => (of_decide_eq_true y) z)]
    · rw [if_neg (fun y => z ((ctI_eq (by omega) P.rt_ok P.rt_ok).mp y)), if_pos (decide_eq_true z)]
      rfl
theorem CM1.same {P : Pgm} {D : List Int32 → Prop} {num : List Int32 → Nat} {N m m' : Nat} {b d : Mb} {h : pH} (hN : 1100 ≤ N) (q : CT P D num h) (c : CM1 P D num h) (hb : P.ms[m]? = some b) (hd : P.ms[m']? = some d) : fX0_haveSameTypes N 50 (Int32.ofNat m) (Int32.ofNat m') h = some (kI (P.same b d), h) := by
  have hm := (List.getElem?_eq_some_iff.mp hb).1
  have hm' := (List.getElem?_eq_some_iff.mp hd).1
  have hms := q.2.2.2.2.2.2.2.2.2.1
  have hn := q.2.2.2.2.2.1
  have b1 := (Pgm.pf_succ hb).1
  have b2 := (Pgm.pf_succ hb).2
  have d1 := (Pgm.pf_succ hd).1
  have d2 := (Pgm.pf_succ hd).2
  have c2 := c.2.1
  obtain ⟨x1, x2, x3⟩ := c.2.2.1 m b hb
  obtain ⟨y1, y2, y3⟩ := c.2.2.1 m' d hd
  unfold fX0_haveSameTypes Pgm.same
  rw [if_pos (o_50 q.1), R_50_1 q.1, Option.bind_some, R_25_3 q.1, Option.bind_some, L_28 q.1 (by omega), Option.bind_some, Option.bind_some, R_25_3 q.1, Option.bind_some, L_28 q.1 (by omega), Option.bind_some, x1, y1]
  by_cases h1 : P.rt b.2.1 = P.rt d.2.1
  · rw [if_pos (by rw [h1]), decide_eq_true h1, Bool.true_and, Option.bind_some, R_25_7 q.1, Option.bind_some, L_32 q.1 (by omega), Option.bind_some, Option.bind_some, R_25_7 q.1, Option.bind_some, L_32 q.1 (by omega), Option.bind_some, x3, y3, ifEq (by omega) (by omega)]
    by_cases h2 : mbP b = mbP d
    · rw [if_pos h2, decide_eq_true h2, Bool.true_and, show (0 : Int32) = Int32.ofNat 0 from rfl, CM1.same_46 q c hb hd h2 (mbP b) 0 N (by omega) (by omega)]
    · rw [if_neg h2, decide_eq_false h2, Bool.false_and]
      rfl
  · rw [if_neg (fun y => h1 ((ctI_eq (by omega) P.rt_ok P.rt_ok).mp y)), decide_eq_false h1, Bool.false_and]
    rfl
