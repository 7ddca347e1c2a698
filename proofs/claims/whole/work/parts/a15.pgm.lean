/-! ===== WHAT A PROGRAM MEANS: classes and members ===== -/
/-- the first of i, i + 1 .. (d of them) of which p holds -/
def fstN (p : Nat → Bool) : Nat → Nat → Option Nat
  | 0, _ => none
  | d + 1, i => if p i = true then some i else fstN p d (i + 1)
theorem fstN_congr {p q : Nat → Bool} : ∀ (d i : Nat), (∀ j, i ≤ j → j < i + d → p j = q j) → fstN p d i = fstN q d i
  | 0, i, _ => rfl
  | d + 1, i, h => by
    unfold fstN
    rw [h i (by omega) (by omega), fstN_congr d (i + 1) (fun j j1 j2 => h j (by omega) (by omega))]
theorem fstN_some {p : Nat → Bool} : ∀ {d i c : Nat}, fstN p d i = some c → i ≤ c ∧ c < i + d ∧ p c = true ∧ ∀ j, i ≤ j → j < c → p j = false
  | 0, i, c, h => by cases h
  | d + 1, i, c, h => by
    unfold fstN at h
    split at h
    · rename_i hp
      obtain rfl := Option.some.inj h
      exact ⟨Nat.le_refl _, by omega, hp, fun j j1 j2 => by omega⟩
    · rename_i hp
      obtain ⟨h1, h2, h3, h4⟩ := fstN_some h
      refine ⟨by omega, by omega, h3, fun j j1 j2 => ?_⟩
      by_cases z : j = i
      · subst z; exact Bool.eq_false_iff.mpr hp
      · exact h4 j (by omega) j2
theorem fstN_none {p : Nat → Bool} : ∀ {d i : Nat}, fstN p d i = none → ∀ j, i ≤ j → j < i + d → p j = false
  | 0, i, _, j, j1, j2 => by omega
  | d + 1, i, h, j, j1, j2 => by
    unfold fstN at h
    split at h
    · cases h
    · rename_i hp
      by_cases z : j = i
      · subst z; exact Bool.eq_false_iff.mpr hp
      · exact fstN_none h j (by omega) (by omega)
/-- an index, or a number that stands for none -/
def oI (d : Int32) : Option Nat → Int32
  | some c => Int32.ofNat c
  | none => d
/-- a program: the letters of words, the classes told -/
abbrev Pgm : Type := (Nat → List Int32) × List Cl
def Pgm.n (P : Pgm) : Nat := 5 + P.2.length
/-- a class' name -/
def Pgm.cn (P : Pgm) (c : Nat) : List Int32 := if c < 5 then knW c else match P.2[c - 5]? with
  | some x => P.1 x.1
  | none => []
/-- the class of a name -/
def Pgm.fnd (P : Pgm) (w : List Int32) : Option Nat := fstN (fun c => decide (P.cn c = w)) P.n 0
/-- the word that tells a class' parent -/
def Pgm.pw (P : Pgm) (c : Nat) : Option Nat := if c < 5 then none else match P.2[c - 5]? with
  | some x => x.2.2.1
  | none => none
def Pgm.par (P : Pgm) (c : Nat) : Option Nat := match P.pw c with
  | some w => P.fnd (P.1 w)
  | none => none
/-- where a class' name stands -/
def Pgm.pl (P : Pgm) (c : Nat) : Nat := match P.2[c - 5]? with
  | some x => x.2.1
  | none => 0
/-- a class' first member -/
def Pgm.mf (P : Pgm) (c : Nat) : Nat := csM (P.2.take (c - 5))
def Pgm.ms (P : Pgm) : List Mb := P.2.flatMap (fun x => x.2.2.2)
def Pgm.mIs (P : Pgm) (k : Bool) (w : List Int32) (m : Nat) : Bool := match P.ms[m]? with
  | some b => decide (b.1 = k ∧ P.1 b.2.2.1 = w)
  | none => false
/-- the first member of this kind and name of i .. j - 1 -/
def Pgm.amg (P : Pgm) (k : Bool) (w : List Int32) (i j : Nat) : Option Nat := fstN (P.mIs k w) (j - i) i
/-- the member that a class has: f classes up the way -/
def Pgm.hadF (P : Pgm) (k : Bool) (w : List Int32) : Nat → Nat → Option Nat
  | 0, _ => none
  | f + 1, c => match P.amg k w (P.mf c) (P.mf (c + 1)) with
    | some m => some m
    | none => match P.par c with
      | none => none
      | some d => Pgm.hadF P k w f d
def Pgm.had (P : Pgm) (k : Bool) (w : List Int32) (c : Nat) : Option Nat := P.hadF k w P.n c
def Pgm.undF (P : Pgm) (d : Nat) : Nat → Nat → Bool
  | 0, _ => false
  | f + 1, c => if c = d then true else match P.par c with
    | none => false
    | some e => Pgm.undF P d f e
/-- c is d or below it -/
def Pgm.und (P : Pgm) (c d : Nat) : Bool := P.undF d P.n c
/-- types: 0 int, 1 bool, 2 ints, 3 void, 4 null, 5 none, 10 + c a class -/
def Pgm.rt (P : Pgm) (y : Nat) : Nat := if y < 4 then y else match P.fnd (P.1 (y - 4)) with
  | some c => 10 + c
  | none => 5
def Pgm.sub (P : Pgm) (t u : Nat) : Bool := if t = 4 then decide (10 ≤ u ∨ u = 2 ∨ u = 4) else decide (t = u ∧ t ≠ 5) || (decide (10 ≤ t ∧ 10 ≤ u) && P.und (t - 10) (u - 10))
theorem Pgm.fnd_lt {P : Pgm} {w : List Int32} {c : Nat} (h : P.fnd w = some c) : c < P.n ∧ P.cn c = w := by
  obtain ⟨h1, h2, h3, h4⟩ := fstN_some h
  exact ⟨by omega, of_decide_eq_true h3⟩
theorem Pgm.par_lt {P : Pgm} {c d : Nat} (h : P.par c = some d) : d < P.n := by
  unfold Pgm.par at h
  split at h
  · exact (Pgm.fnd_lt h).1
  · cases h
theorem csM_append (a b : List Cl) : csM (a ++ b) = csM a + csM b := by
  induction a with
  | nil => show csM b = 0 + csM b; omega
  | cons x a ih => show x.2.2.2.length + csM (a ++ b) = x.2.2.2.length + csM a + csM b; omega
theorem Pgm.mf_succ {P : Pgm} {i : Nat} {x : Cl} (h : P.2[i]? = some x) : P.mf (5 + i + 1) = P.mf (5 + i) + x.2.2.2.length := by
  unfold Pgm.mf
  rw [show 5 + i + 1 - 5 = i + 1 by omega, show 5 + i - 5 = i by omega, List.take_succ, h, csM_append]
  show _ = csM (List.take i P.snd) + (x.2.2.2.length + 0)
  rfl
theorem Pgm.mf_5 {P : Pgm} {c : Nat} (h : c ≤ 5) : P.mf c = 0 := by
  unfold Pgm.mf
  rw [show c - 5 = 0 by omega]
  rfl
theorem Pgm.ms_len (P : Pgm) : P.ms.length = csM P.2 := by
  obtain ⟨ν, cs⟩ := P
  show (cs.flatMap (fun x => x.2.2.2)).length = csM cs
  induction cs with
  | nil => rfl
  | cons x cs ih => rw [List.flatMap_cons, List.length_append, ih]; rfl
theorem csM_take_le (cs : List Cl) (i : Nat) : csM (cs.take i) ≤ csM cs := by
  have := csM_append (cs.take i) (cs.drop i)
  rw [List.take_append_drop] at this
  omega
theorem Pgm.mf_le (P : Pgm) (c : Nat) : P.mf c ≤ csM P.2 := csM_take_le P.2 _
theorem Pgm.mf_mono {P : Pgm} {c : Nat} : P.mf c ≤ P.mf (c + 1) := by
  unfold Pgm.mf
  rcases Nat.lt_or_ge c 5 with z | z
  · rw [show c - 5 = 0 by omega]
    exact Nat.zero_le _
  · rw [show c + 1 - 5 = (c - 5) + 1 by omega, List.take_succ, csM_append]
    omega
/-! ===== THE CLASS' TABLES AS A PROGRAM ===== -/
/-- names have numbers: one each -/
def NmI (D : List Int32 → Prop) (num : List Int32 → Nat) : Prop := ∀ a b, D a → D b → num a = num b → a = b
/-- the class' tables hold P -/
def CT (P : Pgm) (D : List Int32 → Prop) (num : List Int32 → Nat) (h : pH) : Prop := Sg h ∧ NmI D num ∧ (∀ w, num w < 4000) ∧ (∀ k, k < 8 → D (knW k) ∧ num (knW k) = 21 + k) ∧ rd h 17 7 = Int32.ofNat P.n ∧ P.n ≤ 380 ∧ (∀ c, c < P.n → D (P.cn c) ∧ rd h 18 c = Int32.ofNat (num (P.cn c)) ∧ rd h 22 c = Int32.ofNat (P.mf c) ∧ rd h 23 c = Int32.ofNat (P.mf (c + 1))) ∧ (∀ c, 5 ≤ c → c < P.n → rd h 19 c = Int32.ofNat (P.pl c) ∧ P.pl c ≤ 3000) ∧ rd h 25 11 = Int32.ofNat P.ms.length ∧ P.ms.length ≤ 1000 ∧ (∀ m b, P.ms[m]? = some b → D (P.1 b.2.2.1) ∧ rd h 26 m = Int32.ofNat (num (P.1 b.2.2.1)) ∧ rd h 29 m = (if b.1 = true then 1 else 0) ∧ rd h 27 m = Int32.ofNat b.2.2.2.1)
/-- the parents are set -/
def CPr (P : Pgm) (h : pH) : Prop := ∀ c, c < P.n → rd h 21 c = oI (-1) (P.par c)
theorem i_ne {a b : Nat} (ha : a < 2 ^ 31) (hb : b < 2 ^ 31) (h : a ≠ b) : Int32.ofNat a ≠ Int32.ofNat b := fun z => h ((iEq ha hb).mp z)
theorem i_nneg {a : Nat} (ha : a < 2 ^ 31) : ¬ Int32.ofNat a < 0 := by
  rw [show (0 : Int32) = Int32.ofNat 0 from rfl, iLt ha (by decide)]
  omega
theorem i_ne_neg {a : Nat} {x : Int32} (ha : a < 2 ^ 31) (hx : x < 0) : Int32.ofNat a ≠ x := fun z => i_nneg ha (z ▸ hx)
theorem find_2 {N n : Nat} {x : Int32} {h : pH} (hs : Sg h) (e : rd h 17 7 = Int32.ofNat n) (hn : n ≤ 400) : ∀ (d i k : Nat), i + d = n → d < k → fX1_find_2 N k 17 x (Int32.ofNat i) h = some (oI (-6) (fstN (fun c => decide (rd h 18 c = x)) d i), h)
  | 0, i, k, hd, hk => by
    obtain ⟨k, rfl⟩ : ∃ k', k = k' + 1 := ⟨k - 1, by omega⟩
    rw [fX1_find_2, g_17_7 hs, Option.bind_some, e, ifLe (by omega) (by omega), if_pos (by omega)]
    rfl
  | d + 1, i, k, hd, hk => by
    obtain ⟨k, rfl⟩ : ∃ k', k = k' + 1 := ⟨k - 1, by omega⟩
    rw [fX1_find_2, g_17_7 hs, Option.bind_some, e, ifLe (by omega) (by omega), if_neg (by omega), R_17_0 hs, Option.bind_some, L_18 hs (by omega), Option.bind_some]
    unfold fstN
    by_cases hx : rd h 18 i = x
    · rw [if_pos hx, if_pos (decide_eq_true hx)]
      rfl
    · rw [if_neg hx, if_neg (fun z => hx (of_decide_eq_true z)), i_add1]
      exact find_2 hs e hn d (i + 1) k (by omega) (by omega)
theorem CT.find {P : Pgm} {D : List Int32 → Prop} {num : List Int32 → Nat} {N : Nat} {w : List Int32} {h : pH} (q : CT P D num h) (hN : 1100 ≤ N) (hw : D w) : fX1_find N 17 (Int32.ofNat (num w)) h = some (oI (-6) (P.fnd w), h) := by
  obtain ⟨q1, q2, q3, q4, q5, q6, q7, q8, q9, q10, q11⟩ := q
  unfold fX1_find
  rw [if_pos (o_17 q1), show (0 : Int32) = Int32.ofNat 0 from rfl, find_2 q1 q5 (by omega) P.n 0 N (by omega) (by omega)]
  congr 2
  unfold Pgm.fnd
  congr 1
  apply fstN_congr
  intro c _ hc
  obtain ⟨z1, z2, z3⟩ := q7 c (by omega)
  rw [z2]
  have h1 := q3 (P.cn c)
  have h2 := q3 w
  apply decide_eq_decide.mpr
  rw [iEq (by omega) (by omega)]
  exact ⟨fun z => q2 _ _ z1 hw z, fun z => by rw [z]⟩
theorem CT.parentOf {P : Pgm} {D : List Int32 → Prop} {num : List Int32 → Nat} {N c : Nat} {h : pH} (q : CT P D num h) (hp : CPr P h) (hc : c < P.n) : fX1_parentOf N 17 (Int32.ofNat c) h = some (oI (-1) (P.par c), h) := by
  obtain ⟨q1, q2, q3, q4, q5, q6, q7, q8, q9, q10, q11⟩ := q
  have h0 := i_nneg (a := c) (by omega)
  have h1 : ¬ Int32.ofNat P.n ≤ Int32.ofNat c := by rw [iLe (by omega) (by omega)]; omega
  have hl := L_21 q1 (i := c) (by omega)
  unfold fX1_parentOf
  simp only [o_17, R_17_0, R_17_1, R_17_2, R_17_3, R_17_4, R_17_5, R_17_6, g_17_7, p_17_7, q1, q5, h0, h1, hl, hp c hc, Sg_wr, Sg_wrJ, rd_wr_ne, rd_wrJ, rdJ_wr, Option.bind_some, if_true, if_false, i_add1, i_sub1, false_and, and_false, not_false_eq_true, Nat.reduceEqDiff, ne_eq, reduceIte]
