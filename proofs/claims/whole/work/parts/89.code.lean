/-! ===== A TREE IN THE CLASS' CODE ===== -/
/-- how many pieces it takes -/
def cl : Tr → Nat
  | .op (.op (.var k) (.op (.var _) (.var _))) (.op a b) => cl a + cl b + (if k = 28 ∨ k = 29 then 2 else if k = 70 then 0 else 1)
  | _ => 0
theorem cl_nd (k v w : Nat) (a b : Tr) : cl (nd k v w a b) = cl a + cl b + (if k = 28 ∨ k = 29 then 2 else if k = 70 then 0 else 1) := rfl
theorem cl_nl : cl nl = 0 := rfl
theorem cl_no {e : Tr} (he : ∀ k v w a b, e ≠ nd k v w a b) : cl e = 0 := by
  unfold cl
  split
  · exact absurd rfl (he _ _ _ _ _)
  · rfl
theorem wt_no {e : Tr} (he : ∀ k v w a b, e ≠ nd k v w a b) : wt e = 0 := by
  unfold wt
  split
  · exact absurd rfl (he _ _ _ _ _)
  · rfl
theorem cl_le_wt (e : Tr) : cl e ≤ wt e := by
  induction e using Tr.rec2 with
  | h2 e he => rw [cl_no he]; exact Nat.zero_le _
  | h1 k v w a b iha ihb =>
    rw [cl_nd, wt_nd]
    by_cases hk : k = 28 ∨ k = 29
    · rw [if_pos hk, if_pos hk]; omega
    · rw [if_neg hk, if_neg hk]
      split <;> omega
/-- the pieces of the tree from c on: Q tells what each is -/
def CE (Q : Nat → Nat → Nat → Nat → Nat → Prop) : Tr → Nat → Prop
  | .op (.op (.var k) (.op (.var v) (.var w))) (.op a b), c => if k = 28 ∨ k = 29 then CE Q a c ∧ Q (c + cl a) k 0 0 (c + cl a + 1 + cl b) ∧ CE Q b (c + cl a + 1) ∧ Q (c + cl a + 1 + cl b) 51 0 0 0 else if k = 70 then CE Q a c ∧ CE Q b (c + cl a) else CE Q a c ∧ CE Q b (c + cl a) ∧ Q (c + cl a + cl b) k v w 0
  | _, _ => True
theorem CE_nd (Q : Nat → Nat → Nat → Nat → Nat → Prop) (k v w : Nat) (a b : Tr) (c : Nat) : CE Q (nd k v w a b) c = if k = 28 ∨ k = 29 then CE Q a c ∧ Q (c + cl a) k 0 0 (c + cl a + 1 + cl b) ∧ CE Q b (c + cl a + 1) ∧ Q (c + cl a + 1 + cl b) 51 0 0 0 else if k = 70 then CE Q a c ∧ CE Q b (c + cl a) else CE Q a c ∧ CE Q b (c + cl a) ∧ Q (c + cl a + cl b) k v w 0 := rfl
theorem CE_no {Q : Nat → Nat → Nat → Nat → Nat → Prop} {e : Tr} (he : ∀ k v w a b, e ≠ nd k v w a b) (c : Nat) : CE Q e c := by
  unfold CE
  split
  · exact absurd rfl (he _ _ _ _ _)
  · trivial
theorem CE_nl (Q : Nat → Nat → Nat → Nat → Nat → Prop) (c : Nat) : CE Q nl c := trivial
theorem CE.mono {Q Q' : Nat → Nat → Nat → Nat → Nat → Prop} : ∀ (e : Tr) (c : Nat), (∀ i k v w g, c ≤ i → i < c + cl e → Q i k v w g → Q' i k v w g) → CE Q e c → CE Q' e c := by
  intro e
  induction e using Tr.rec2 with
  | h2 e he => intro c _ _; exact CE_no he c
  | h1 k v w a b iha ihb =>
    intro c hq h
    rw [cl_nd] at hq
    rw [CE_nd] at h ⊢
    by_cases hk : k = 28 ∨ k = 29
    · rw [if_pos hk] at h hq ⊢
      obtain ⟨h1, h2, h3, h4⟩ := h
      exact ⟨iha c (fun i k v w g i1 i2 => hq i k v w g (by omega) (by omega)) h1, hq _ _ _ _ _ (by omega) (by omega) h2, ihb _ (fun i k v w g i1 i2 => hq i k v w g (by omega) (by omega)) h3, hq _ _ _ _ _ (by omega) (by omega) h4⟩
    · rw [if_neg hk] at h hq ⊢
      by_cases hk2 : k = 70
      · rw [if_pos hk2] at h hq ⊢
        obtain ⟨h1, h2⟩ := h
        exact ⟨iha c (fun i k v w g i1 i2 => hq i k v w g (by omega) (by omega)) h1, ihb _ (fun i k v w g i1 i2 => hq i k v w g (by omega) (by omega)) h2⟩
      · rw [if_neg hk2] at h hq ⊢
        obtain ⟨h1, h2, h3⟩ := h
        exact ⟨iha c (fun i k v w g i1 i2 => hq i k v w g (by omega) (by omega)) h1, ihb _ (fun i k v w g i1 i2 => hq i k v w g (by omega) (by omega)) h2, hq _ _ _ _ _ (by omega) (by omega) h3⟩
/-- a type, as the class tells it ahead of the check -/
def tyc (C : Cx) (y : Nat) : Int32 := if y = 0 then -1 else if y = 1 then -2 else if y = 2 then -3 else if y = 3 then -4 else C.2.1 (y - 4)
def pa (C : Cx) (k v w : Nat) : Int32 := if k = 6 ∨ k = 9 ∨ k = 13 ∨ k = 15 ∨ k = 16 ∨ k = 30 ∨ k = 37 ∨ k = 53 ∨ k = 31 ∨ k = 34 then C.2.1 w else if k = 1 ∨ k = 2 ∨ k = 58 then Int32.ofNat v else if k = 59 then C.2.1 v else 0
def pb (C : Cx) (k v w : Nat) : Int32 := if k = 30 then Int32.ofNat v else if k = 37 ∨ k = 53 then tyc C v else if k = 59 then C.2.1 w else 0
/-- what piece i is -/
def QC (C : Cx) (p o : Int32) (h : pH) (i k v w g : Nat) : Prop := PcAt h i (Int32.ofNat k) (pa C k v w) (pb C k v w) (Int32.ofNat g) p o
theorem CE.chg {A : Nat → Nat → Prop} {C : Cx} {p o : Int32} {h h' : pH} {e : Tr} {c : Nat} (q : CE (QC C p o h) e c) (g : Chg A h h') (hA : ∀ x i, 39 ≤ x → x ≤ 45 → c ≤ i → i < c + cl e → ¬ A x i) : CE (QC C p o h') e c := CE.mono e c (fun i k v w t i1 i2 z => PcAt.chg z g (fun x x1 x2 => hA x i x1 x2 i1 i2)) q
/-- a sign that waits: its piece, its level, its name's word, what stands to its left -/
abbrev En : Type := Nat × Nat × Nat × Tr
def act (e : En) (x : Tr) : Tr := if e.1 = 16 ∨ e.1 = 17 ∨ e.1 = 18 then nd e.1 0 e.2.2.1 x nl else nd e.1 0 0 e.2.2.2 x
/-- the pieces ahead of what is read now -/
def LW : List En → Nat
  | [] => 0
  | e :: es => LW es + cl e.2.2.2 + (if e.1 = 28 ∨ e.1 = 29 then 1 else 0)
def WTl : List En → Nat
  | [] => 0
  | e :: es => WTl es + wt e.2.2.2 + (if e.1 = 28 ∨ e.1 = 29 then 2 else 1)
theorem LW_le (es : List En) : LW es ≤ WTl es := by
  induction es with
  | nil => exact Nat.le_refl _
  | cons e es ih =>
    have := cl_le_wt e.2.2.2
    unfold LW WTl
    split <;> omega
def enM (C : Cx) (c : Nat) (e : En) (es : List En) : Int32 := if e.1 = 28 ∨ e.1 = 29 then Int32.ofNat (c + LW es + cl e.2.2.2) else if e.1 = 16 then C.2.1 e.2.2.1 else 0
/-- fit: which signs wait how -/
def enF (e : En) : Prop := e.1 < 62 ∧ e.2.1 ≤ 7 ∧ ((e.1 = 16 ∨ e.1 = 17 ∨ e.1 = 18) → e.2.2.2 = nl ∧ (e.1 ≠ 16 → e.2.2.1 = 0)) ∧ (e.1 = 28 ∨ e.1 = 29 ∨ (19 ≤ e.1 ∧ e.1 ≤ 27) ∨ (16 ≤ e.1 ∧ e.1 ≤ 18))
/-- the signs es wait above W, their parts stand from c on -/
def WRep (C : Cx) (p o : Int32) (h : pH) (W c : Nat) : List En → Prop
  | [] => True
  | e :: es => enF e ∧ rd h 47 (W + es.length) = Int32.ofNat e.1 ∧ rd h 48 (W + es.length) = Int32.ofNat e.2.1 ∧ rd h 49 (W + es.length) = enM C c e es ∧ CE (QC C p o h) e.2.2.2 (c + LW es) ∧ ((e.1 = 28 ∨ e.1 = 29) → PcAt h (c + LW es + cl e.2.2.2) (Int32.ofNat e.1) 0 0 0 p o) ∧ WRep C p o h W c es
theorem WRep.chg {A : Nat → Nat → Prop} {C : Cx} {p o : Int32} {h h' : pH} {W c : Nat} : ∀ {es : List En}, WRep C p o h W c es → Chg A h h' → (∀ x i, 39 ≤ x → x ≤ 45 → c ≤ i → i < c + LW es → ¬ A x i) → (∀ x i, 47 ≤ x → x ≤ 49 → W ≤ i → i < W + es.length → ¬ A x i) → WRep C p o h' W c es
  | [], _, _, _, _ => trivial
  | e :: es, ⟨q0, q1, q2, q3, q4, q5, q6⟩, g, h1, h2 => by
    have hl : LW (e :: es) = LW es + cl e.2.2.2 + (if e.1 = 28 ∨ e.1 = 29 then 1 else 0) := rfl
    rw [hl] at h1
    have hl2 : (e :: es).length = es.length + 1 := rfl
    rw [hl2] at h2
    refine ⟨q0, ?_, ?_, ?_, q4.chg g (fun x i x1 x2 i1 i2 => h1 x i x1 x2 (by omega) (by omega)), fun z => (q5 z).chg g (fun x x1 x2 => h1 x _ x1 x2 (by omega) (by rw [if_pos z]; omega)), q6.chg g (fun x i x1 x2 i1 i2 => h1 x i x1 x2 i1 (by omega)) (fun x i x1 x2 i1 i2 => h2 x i x1 x2 i1 (by omega))⟩
    · rw [g.2.2.1 _ _ (h2 47 _ (by omega) (by omega) (by omega) (by omega))]; exact q1
    · rw [g.2.2.1 _ _ (h2 48 _ (by omega) (by omega) (by omega) (by omega))]; exact q2
    · rw [g.2.2.1 _ _ (h2 49 _ (by omega) (by omega) (by omega) (by omega))]; exact q3
def relL (ls : Nat) : List En → Tr → List En × Tr
  | [], x => ([], x)
  | e :: es, x => if ls ≤ e.2.1 then relL ls es (act e x) else (e :: es, x)
theorem act_wt (e : En) (x : Tr) (he : enF e) : wt (act e x) = wt e.2.2.2 + wt x + (if e.1 = 28 ∨ e.1 = 29 then 2 else 1) := by
  unfold act
  by_cases hk : e.1 = 16 ∨ e.1 = 17 ∨ e.1 = 18
  · rw [if_pos hk, wt_nd, (he.2.2.1 hk).1, wt_nl]
    omega
  · rw [if_neg hk, wt_nd]
theorem act_cl (e : En) (x : Tr) (he : enF e) : cl (act e x) = cl e.2.2.2 + cl x + (if e.1 = 28 ∨ e.1 = 29 then 2 else 1) := by
  unfold act
  by_cases hk : e.1 = 16 ∨ e.1 = 17 ∨ e.1 = 18
  · rw [if_pos hk, cl_nd, (he.2.2.1 hk).1, cl_nl, if_neg (show ¬ e.1 = 70 by omega)]
    omega
  · rw [if_neg hk, cl_nd, if_neg (show ¬ e.1 = 70 by have := he.1; omega)]
/-- the last sign popped: the waiting goes down by one -/
theorem At7.pop {r t W c : Nat} {p o : Int32} {C : Cx} {h : pH} (q : At7 C r t (W + 1) c p o h) : At7 C r t W c p o (wr h 46 7 (Int32.ofNat W)) := by
  obtain ⟨q1, q2, q3, q4, q5, q6, q7, q8, q9, q10, q11, q12, q13, q14⟩ := q
  have g : Chg (fun a k => a = 46 ∧ k = 7) h (wr h 46 7 (Int32.ofNat W)) := Chg.wr _ _ _ _ ⟨rfl, rfl⟩
  refine ⟨q1.chg g (fun a k ha => by omega), q2, q3, by omega, q5, w_46_7 q1.1 _, ?_, ?_, ?_, ?_, ?_, ?_, ?_, fun i hi => (q14 i (by omega)).chg g (fun a a1 a2 => by omega)⟩
  · rw [g.2.2.1 _ _ (by omega)]; exact q7
  · rw [g.2.2.1 _ _ (by omega)]; exact q8
  · rw [g.2.2.1 _ _ (by omega)]; exact q9
  · rw [g.2.2.1 _ _ (by omega)]; exact q10
  · rw [g.2.2.1 _ _ (by omega)]; exact q11
  · rw [g.2.2.1 _ _ (by omega)]; exact q12
  · rw [g.2.2.1 _ _ (by omega)]; exact q13
theorem Er7.pop {w W : Nat} {C : Cx} {h : pH} (q : Er7 C w (W + 1) h) : Er7 C w W (wr h 46 7 (Int32.ofNat W)) := by
  obtain ⟨q1, q2, ⟨t, q3, q3'⟩, q4, q5, q6, q7, ⟨c, q8, q8'⟩, q9⟩ := q
  have g : Chg (fun a k => a = 46 ∧ k = 7) h (wr h 46 7 (Int32.ofNat W)) := Chg.wr _ _ _ _ ⟨rfl, rfl⟩
  refine ⟨q1.chg g (fun a k ha => by omega), by omega, ⟨t, q3, ?_⟩, ?_, ?_, q6, w_46_7 q1.1 _, ⟨c, q8, ?_⟩, fun i hi => (q9 i (by omega)).chg g (fun a a1 a2 => by omega)⟩
  · rw [g.2.2.1 _ _ (by omega)]; exact q3'
  · rw [g.2.2.1 _ _ (by omega)]; exact q4
  · rw [g.2.2.1 _ _ (by omega)]; exact q5
  · rw [g.2.2.1 _ _ (by omega)]; exact q8'
