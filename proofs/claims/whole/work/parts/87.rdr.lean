/-! ===== THE CLASS' READER: its states, its small steps ===== -/
/-- the words, the numbers of names, the word at which all ends -/
abbrev Cx : Type := Tks × (Nat → Int32) × Nat
def WTb (C : Cx) (h : pH) : Prop := Sg h ∧ C.2.2 ≤ 3000 ∧ (∀ i, C.1.P i ≤ 3000) ∧ (∀ i, i < C.2.2 → C.1.K i ≠ 0 ∧ C.1.K i ≠ 24) ∧ (C.1.K C.2.2 = 0 ∨ C.1.K C.2.2 = 24) ∧ (∀ i, i ≤ C.2.2 → rd h 9 i = C.1.K i ∧ rd h 11 i = Int32.ofNat (C.1.P i) ∧ (C.1.K i = 22 → rd h 10 i = C.2.1 i) ∧ (C.1.K i = 23 → rd h 10 i = Int32.ofNat (C.1.V i))) ∧ ∃ z, rd h 8 3 = Int32.ofNat z ∧ C.2.2 < z ∧ z ≤ 3100 ∧ (C.1.K C.2.2 = 0 → z = C.2.2 + 1)
theorem WTb.chg {A : Nat → Nat → Prop} {C : Cx} {h h' : pH} (q : WTb C h) (c : Chg A h h') (hA : ∀ a k, a < 17 → ¬ A a k) : WTb C h' := by
  obtain ⟨q1, q2, q3, q4, q5, q6, z, q7, q8⟩ := q
  refine ⟨c.sg q1, q2, q3, q4, q5, fun i hi => ?_, z, by rw [c.2.2.1 _ _ (hA 8 3 (by omega))]; exact q7, q8⟩
  obtain ⟨a1, a2, a3, a4⟩ := q6 i hi
  rw [c.2.2.1 _ _ (hA 9 i (by omega)), c.2.2.1 _ _ (hA 10 i (by omega)), c.2.2.1 _ _ (hA 11 i (by omega))]
  exact ⟨a1, a2, a3, a4⟩
theorem WTb.lt {C : Cx} {h : pH} (q : WTb C h) {t : Nat} (ht : t ≤ C.2.2) (h0 : C.1.K t ≠ 0) (h1 : C.1.K t ≠ 24) : t < C.2.2 := by
  rcases Nat.lt_or_ge t C.2.2 with z | z
  · exact z
  · have e : t = C.2.2 := by omega
    rw [e] at h0 h1
    exact absurd q.2.2.2.2.1 (fun z => z.elim h0 h1)
/-- a sign that waits is fit to be released -/
def WE (h : pH) (i : Nat) : Prop := ∃ l, l ≤ 7 ∧ rd h 48 i = Int32.ofNat l ∧ ((rd h 47 i = 28 ∨ rd h 47 i = 29) → ∃ m, m < 3100 ∧ rd h 49 i = Int32.ofNat m)
theorem WE.chg {A : Nat → Nat → Prop} {h h' : pH} {i : Nat} (q : WE h i) (c : Chg A h h') (hA : ∀ a, 47 ≤ a → a ≤ 49 → ¬ A a i) : WE h' i := by
  obtain ⟨l, q1, q2, q3⟩ := q
  refine ⟨l, q1, by rw [c.2.2.1 _ _ (hA 48 (by omega) (by omega))]; exact q2, fun z => ?_⟩
  rw [c.2.2.1 _ _ (hA 47 (by omega) (by omega))] at z
  rw [c.2.2.1 _ _ (hA 49 (by omega) (by omega))]
  exact q3 z
/-- the reader stands at word t, with r more levels, W signs waiting, c pieces of code -/
def At7 (C : Cx) (r t W c : Nat) (p o : Int32) (h : pH) : Prop := WTb C h ∧ t ≤ C.2.2 ∧ r ≤ 30 ∧ W ≤ 300 ∧ c ≤ C.1.P t ∧ rd h 46 7 = Int32.ofNat W ∧ rd h 46 8 = Int32.ofNat t ∧ rd h 46 9 = C.1.K t ∧ rd h 46 10 = Int32.ofNat (30 - r) ∧ rd h 46 11 = -1 ∧ rd h 38 7 = Int32.ofNat c ∧ rd h 38 8 = p ∧ rd h 38 9 = o ∧ ∀ i, i < W → WE h i
/-- the reader has gone wrong at place w -/
def Er7 (C : Cx) (w W : Nat) (h : pH) : Prop := WTb C h ∧ W ≤ 400 ∧ (∃ t, t ≤ C.2.2 ∧ rd h 46 8 = Int32.ofNat t) ∧ rd h 46 9 = 24 ∧ rd h 46 11 = Int32.ofNat w ∧ w ≤ 3000 ∧ rd h 46 7 = Int32.ofNat W ∧ (∃ c, c ≤ 3100 ∧ rd h 38 7 = Int32.ofNat c) ∧ ∀ i, i < W → WE h i
/-- the reader's own fields -/
def m7 : Nat → Nat → Prop := fun a k => a = 46 ∧ 8 ≤ k
theorem Er7.ne {C : Cx} {w W : Nat} {h : pH} (q : Er7 C w W h) : ¬ rd h 46 11 = -1 := by
  rw [q.2.2.2.2.1]
  intro z
  have := congrArg Int32.toInt z
  rw [Int32.toInt_ofNat_of_lt (by have := q.2.2.2.2.2.1; omega)] at this
  have e : (-1 : Int32).toInt = -1 := by decide
  omega
theorem e7_advance {N r t W c : Nat} {p o : Int32} {C : Cx} {h : pH} (q : At7 C r t W c p o h) (ht : t < C.2.2) : ∃ h', fX7_advance N 46 h = some h' ∧ At7 C r (t + 1) W c p o h' ∧ Chg m7 h h' := by
  obtain ⟨q1, q2, q3, q4, q5, q6, q7, q8, q9, q10, q11, q12, q13, q14⟩ := q
  have hs := q1.1
  obtain ⟨z, z1, z2, z3, z4⟩ := q1.2.2.2.2.2.2
  have hn := q1.2.1
  have s1 := hs.wr 46 8 (Int32.ofNat (t + 1))
  have e9 : rd (wr h 46 8 (Int32.ofNat (t + 1))) 9 (t + 1) = C.1.K (t + 1) := by rw [rd_wr_ne _ _ (by omega)]; exact (q1.2.2.2.2.2.1 (t + 1) ht).1
  have c1 : Chg m7 h (wr (wr h 46 8 (Int32.ofNat (t + 1))) 46 9 (C.1.K (t + 1))) := (Chg.wr _ _ _ _ ⟨rfl, by omega⟩).trans (Chg.wr _ _ _ _ ⟨rfl, by omega⟩)
  have hmono := C.1.mono t (q1.2.2.2.1 t ht).1
  refine ⟨_, ?_, ⟨q1.chg c1 (fun a k ha => by unfold m7; omega), ht, q3, q4, by omega, ?_, ?_, w_46_9 s1 _, ?_, ?_, ?_, ?_, ?_, fun i hi => (q14 i hi).chg c1 (fun a a1 a2 => by unfold m7; omega)⟩, c1⟩
  · unfold fX7_advance
    rw [if_pos (o_46 hs), g_46_11 hs, Option.bind_some, if_pos q10, g_46_8 hs, Option.bind_some, R_46_0 hs, Option.bind_some, g_8_3 hs, Option.bind_some, q7, z1, i_add1, ifLe (by omega) (by omega), if_neg (by omega), Option.bind_some, i_add1, p_46_8 hs, Option.bind_some, R_46_0 s1, Option.bind_some, R_8_0 s1, Option.bind_some, g_46_8 s1, Option.bind_some, w_46_8 hs, L_9 s1 (by omega), Option.bind_some, e9, p_46_9 s1, Option.bind_some]
  · rw [rd_wr_ne _ _ (by omega), rd_wr_ne _ _ (by omega)]; exact q6
  · rw [rd_wr_ne _ _ (by omega), w_46_8 hs]
  · rw [rd_wr_ne _ _ (by omega), rd_wr_ne _ _ (by omega)]; exact q9
  · rw [rd_wr_ne _ _ (by omega), rd_wr_ne _ _ (by omega)]; exact q10
  · rw [rd_wr_ne _ _ (by omega), rd_wr_ne _ _ (by omega)]; exact q11
  · rw [rd_wr_ne _ _ (by omega), rd_wr_ne _ _ (by omega)]; exact q12
  · rw [rd_wr_ne _ _ (by omega), rd_wr_ne _ _ (by omega)]; exact q13
theorem Er7.advance {N w W : Nat} {C : Cx} {h : pH} (q : Er7 C w W h) : fX7_advance N 46 h = some h := by
  have hs := q.1.1
  unfold fX7_advance
  rw [if_pos (o_46 hs), g_46_11 hs, Option.bind_some, if_neg q.ne]
theorem Er7.fail {N w W : Nat} {C : Cx} {h : pH} (q : Er7 C w W h) : fX7_fail N 46 h = some h := by
  have hs := q.1.1
  unfold fX7_fail
  rw [if_pos (o_46 hs), g_46_11 hs, Option.bind_some, if_neg q.ne]
theorem e7_fail {N r t W c : Nat} {p o : Int32} {C : Cx} {h : pH} (q : At7 C r t W c p o h) : ∃ h', fX7_fail N 46 h = some h' ∧ Er7 C (C.1.P t) W h' ∧ Chg m7 h h' := by
  obtain ⟨q1, q2, q3, q4, q5, q6, q7, q8, q9, q10, q11, q12, q13, q14⟩ := q
  have hs := q1.1
  have hn := q1.2.1
  have hP := q1.2.2.1 t
  have s1 := hs.wr 46 11 (Int32.ofNat (C.1.P t))
  have c1 : Chg m7 h (wr (wr h 46 11 (Int32.ofNat (C.1.P t))) 46 9 24) := (Chg.wr _ _ _ _ ⟨rfl, by omega⟩).trans (Chg.wr _ _ _ _ ⟨rfl, by omega⟩)
  refine ⟨_, ?_, ⟨q1.chg c1 (fun a k ha => by unfold m7; omega), by omega, ⟨t, q2, ?_⟩, w_46_9 s1 _, ?_, hP, ?_, ⟨c, by omega, ?_⟩, fun i hi => (q14 i hi).chg c1 (fun a a1 a2 => by unfold m7; omega)⟩, c1⟩
  · unfold fX7_fail
    rw [if_pos (o_46 hs), g_46_11 hs, Option.bind_some, if_pos q10, R_46_0 hs, Option.bind_some, R_8_2 hs, Option.bind_some, g_46_8 hs, Option.bind_some, q7, L_11 hs (by omega), Option.bind_some, (q1.2.2.2.2.2.1 t q2).2.1, p_46_11 hs, Option.bind_some, p_46_9 s1, Option.bind_some]
  · rw [rd_wr_ne _ _ (by omega), rd_wr_ne _ _ (by omega)]; exact q7
  · rw [rd_wr_ne _ _ (by omega), w_46_11 hs]
  · rw [rd_wr_ne _ _ (by omega), rd_wr_ne _ _ (by omega)]; exact q6
  · rw [rd_wr_ne _ _ (by omega), rd_wr_ne _ _ (by omega)]; exact q11
theorem At7.lt {r t W c : Nat} {p o : Int32} {C : Cx} {h : pH} (q : At7 C r t W c p o h) {k : Int32} (hk : C.1.K t = k) (h0 : k ≠ 0) (h1 : k ≠ 24) : t < C.2.2 := q.1.lt q.2.1 (by rw [hk]; exact h0) (by rw [hk]; exact h1)
theorem At7.sg {r t W c : Nat} {p o : Int32} {C : Cx} {h : pH} (q : At7 C r t W c p o h) : Sg h := q.1.1
theorem Er7.sg {w W : Nat} {C : Cx} {h : pH} (q : Er7 C w W h) : Sg h := q.1.1
theorem At7.kind {r t W c : Nat} {p o : Int32} {C : Cx} {h : pH} (q : At7 C r t W c p o h) : rd h 46 9 = C.1.K t := q.2.2.2.2.2.2.2.1
theorem Er7.kind {w W : Nat} {C : Cx} {h : pH} (q : Er7 C w W h) : rd h 46 9 = 24 := q.2.2.2.1
/-- another nesting, the rest as it was -/
theorem At7.nest {r t W c r' : Nat} {p o : Int32} {C : Cx} {h : pH} (q : At7 C r t W c p o h) (hr : r' ≤ 30) : At7 C r' t W c p o (wr h 46 10 (Int32.ofNat (30 - r'))) := by
  obtain ⟨q1, q2, q3, q4, q5, q6, q7, q8, q9, q10, q11, q12, q13, q14⟩ := q
  have c1 : Chg m7 h (wr h 46 10 (Int32.ofNat (30 - r'))) := Chg.wr _ _ _ _ ⟨rfl, by omega⟩
  refine ⟨q1.chg c1 (fun a k ha => by unfold m7; omega), q2, hr, q4, q5, ?_, ?_, ?_, w_46_10 q1.1 _, ?_, ?_, ?_, ?_, fun i hi => (q14 i hi).chg c1 (fun a a1 a2 => by unfold m7; omega)⟩
  · rw [rd_wr_ne _ _ (by omega)]; exact q6
  · rw [rd_wr_ne _ _ (by omega)]; exact q7
  · rw [rd_wr_ne _ _ (by omega)]; exact q8
  · rw [rd_wr_ne _ _ (by omega)]; exact q10
  · rw [rd_wr_ne _ _ (by omega)]; exact q11
  · rw [rd_wr_ne _ _ (by omega)]; exact q12
  · rw [rd_wr_ne _ _ (by omega)]; exact q13
theorem Er7.nest {w W : Nat} {x : Int32} {C : Cx} {h : pH} (q : Er7 C w W h) : Er7 C w W (wr h 46 10 x) := by
  obtain ⟨q1, q2, ⟨t, q3, q3'⟩, q4, q5, q6, q7, ⟨c, q8, q8'⟩, q9⟩ := q
  have c1 : Chg m7 h (wr h 46 10 x) := Chg.wr _ _ _ _ ⟨rfl, by omega⟩
  refine ⟨q1.chg c1 (fun a k ha => by unfold m7; omega), q2, ⟨t, q3, ?_⟩, ?_, ?_, q6, ?_, ⟨c, q8, ?_⟩, fun i hi => (q9 i hi).chg c1 (fun a a1 a2 => by unfold m7; omega)⟩
  · rw [rd_wr_ne _ _ (by omega)]; exact q3'
  · rw [rd_wr_ne _ _ (by omega)]; exact q4
  · rw [rd_wr_ne _ _ (by omega)]; exact q5
  · rw [rd_wr_ne _ _ (by omega)]; exact q7
  · rw [rd_wr_ne _ _ (by omega)]; exact q8'
theorem e7_take {N r t W c : Nat} {p o k : Int32} {C : Cx} {h : pH} (q : At7 C r t W c p o h) (hk : C.1.K t = k) (h0 : k ≠ 0) (h1 : k ≠ 24) : ∃ h', fX7_take N 46 k h = some h' ∧ At7 C r (t + 1) W c p o h' ∧ Chg m7 h h' := by
  obtain ⟨h', e1, e2, e3⟩ := e7_advance (N := N) q (q.lt hk h0 h1)
  refine ⟨h', ?_, e2, e3⟩
  unfold fX7_take
  rw [if_pos (o_46 q.sg), g_46_9 q.sg, Option.bind_some, q.kind, if_pos hk, e1, Option.bind_some]
theorem e7_take_no {N r t W c : Nat} {p o k : Int32} {C : Cx} {h : pH} (q : At7 C r t W c p o h) (hk : C.1.K t ≠ k) : ∃ h', fX7_take N 46 k h = some h' ∧ Er7 C (C.1.P t) W h' ∧ Chg m7 h h' := by
  obtain ⟨h', e1, e2, e3⟩ := e7_fail (N := N) q
  refine ⟨h', ?_, e2, e3⟩
  unfold fX7_take
  rw [if_pos (o_46 q.sg), g_46_9 q.sg, Option.bind_some, q.kind, if_neg hk, e1, Option.bind_some]
theorem Er7.take {N w W : Nat} {k : Int32} {C : Cx} {h : pH} (q : Er7 C w W h) (hk : k ≠ 24) : fX7_take N 46 k h = some h := by
  unfold fX7_take
  rw [if_pos (o_46 q.sg), g_46_9 q.sg, Option.bind_some, q.kind, if_neg (fun z => hk z.symm), q.fail, Option.bind_some]
theorem i_subr {r : Nat} (hr : 1 ≤ r) (h : r ≤ 30) : Int32.ofNat (30 - r) + 1 = Int32.ofNat (30 - (r - 1)) := by
  rw [i_add1, show 30 - r + 1 = 30 - (r - 1) by omega]
theorem i_subr2 {r : Nat} (h : r + 1 ≤ 30) : Int32.ofNat (30 - r) - 1 = Int32.ofNat (30 - (r + 1)) := by
  rw [show 30 - r = (30 - (r + 1)) + 1 by omega, ← i_add1, Int32.add_sub_cancel]
theorem At7.nestv {r t W c : Nat} {p o : Int32} {C : Cx} {h : pH} (q : At7 C r t W c p o h) : rd h 46 10 = Int32.ofNat (30 - r) := q.2.2.2.2.2.2.2.2.1
theorem e7_open {N r t W c : Nat} {p o k : Int32} {C : Cx} {h : pH} (q : At7 C (r + 1) t W c p o h) (hk : C.1.K t = k) (h0 : k ≠ 0) (h1 : k ≠ 24) : ∃ h', fX7_open N 46 k h = some h' ∧ At7 C r (t + 1) W c p o h' ∧ Chg m7 h h' := by
  obtain ⟨h', e1, e2, e3⟩ := e7_advance (N := N) q (q.lt hk h0 h1)
  have hr := q.2.2.1
  refine ⟨_, ?_, e2.nest (r' := r) (by omega), e3.trans (Chg.wr _ _ _ _ ⟨rfl, by omega⟩)⟩
  unfold fX7_open
  rw [if_pos (o_46 q.sg), g_46_9 q.sg, Option.bind_some, q.kind, if_pos hk, g_46_10 q.sg, Option.bind_some, q.nestv, show (30 : Int32) = Int32.ofNat 30 from rfl, ifLe (by decide) (by omega), if_neg (by omega), e1, Option.bind_some]
  unfold fX7_open_28
  rw [g_46_10 e2.sg, Option.bind_some, e2.nestv, i_subr (by omega) hr, p_46_10 e2.sg, Option.bind_some]
  rfl
theorem open_24 {N w W : Nat} {C : Cx} {h h1 : pH} (e : fX7_fail N 46 h = some h1) (q : Er7 C w W h1) (c : Chg m7 h h1) : ∃ h', fX7_open_24 N 46 h = some h' ∧ Er7 C w W h' ∧ Chg m7 h h' := by
  refine ⟨_, ?_, q.nest (x := rd h1 46 10 + 1), c.trans (Chg.wr _ _ _ _ ⟨rfl, by omega⟩)⟩
  unfold fX7_open_24
  rw [e, Option.bind_some]
  unfold fX7_open_28
  rw [g_46_10 q.sg, Option.bind_some, p_46_10 q.sg, Option.bind_some]
theorem e7_open_no {N r t W c : Nat} {p o k : Int32} {C : Cx} {h : pH} (q : At7 C r t W c p o h) (hk : C.1.K t ≠ k ∨ r = 0) : ∃ h', fX7_open N 46 k h = some h' ∧ Er7 C (C.1.P t) W h' ∧ Chg m7 h h' := by
  obtain ⟨h1, e1, e2, e3⟩ := e7_fail (N := N) q
  obtain ⟨h', f1, f2, f3⟩ := open_24 e1 e2 e3
  refine ⟨h', ?_, f2, f3⟩
  unfold fX7_open
  rw [if_pos (o_46 q.sg), g_46_9 q.sg, Option.bind_some, q.kind]
  by_cases z : C.1.K t = k
  · rw [if_pos z, g_46_10 q.sg, Option.bind_some, q.nestv, show (30 : Int32) = Int32.ofNat 30 from rfl, ifLe (by decide) (by omega), if_pos (by have := hk.resolve_left (fun y => y z); omega)]
    exact f1
  · rw [if_neg z]
    exact f1
theorem Er7.opn {N w W : Nat} {k : Int32} {C : Cx} {h : pH} (q : Er7 C w W h) (hk : k ≠ 24) : ∃ h', fX7_open N 46 k h = some h' ∧ Er7 C w W h' ∧ Chg m7 h h' := by
  obtain ⟨h', f1, f2, f3⟩ := open_24 (N := N) q.fail q (Chg.refl _ _)
  refine ⟨h', ?_, f2, f3⟩
  unfold fX7_open
  rw [if_pos (o_46 q.sg), g_46_9 q.sg, Option.bind_some, q.kind, if_neg (fun z => hk z.symm)]
  exact f1
theorem e7_close {N r t W c : Nat} {p o k : Int32} {C : Cx} {h : pH} (q : At7 C r t W c p o h) (hr : r + 1 ≤ 30) (hk : C.1.K t = k) (h0 : k ≠ 0) (h1 : k ≠ 24) : ∃ h', fX7_close N 46 k h = some h' ∧ At7 C (r + 1) (t + 1) W c p o h' ∧ Chg m7 h h' := by
  obtain ⟨h', e1, e2, e3⟩ := e7_advance (N := N) q (q.lt hk h0 h1)
  refine ⟨_, ?_, e2.nest (r' := r + 1) hr, e3.trans (Chg.wr _ _ _ _ ⟨rfl, by omega⟩)⟩
  unfold fX7_close
  rw [if_pos (o_46 q.sg), g_46_9 q.sg, Option.bind_some, q.kind, if_pos hk, e1, Option.bind_some]
  unfold fX7_close_19
  rw [g_46_10 e2.sg, Option.bind_some, e2.nestv, i_subr2 hr, p_46_10 e2.sg, Option.bind_some]
theorem close_19 {N w W : Nat} {C : Cx} {h : pH} (q : Er7 C w W h) : ∃ h', fX7_close_19 N 46 h = some h' ∧ Er7 C w W h' ∧ Chg m7 h h' := by
  refine ⟨_, ?_, q.nest (x := rd h 46 10 - 1), Chg.wr _ _ _ _ ⟨rfl, by omega⟩⟩
  unfold fX7_close_19
  rw [g_46_10 q.sg, Option.bind_some, p_46_10 q.sg, Option.bind_some]
theorem e7_close_no {N r t W c : Nat} {p o k : Int32} {C : Cx} {h : pH} (q : At7 C r t W c p o h) (hk : C.1.K t ≠ k) : ∃ h', fX7_close N 46 k h = some h' ∧ Er7 C (C.1.P t) W h' ∧ Chg m7 h h' := by
  obtain ⟨h1, e1, e2, e3⟩ := e7_fail (N := N) q
  obtain ⟨h', f1, f2, f3⟩ := close_19 (N := N) e2
  refine ⟨h', ?_, f2, e3.trans f3⟩
  unfold fX7_close
  rw [if_pos (o_46 q.sg), g_46_9 q.sg, Option.bind_some, q.kind, if_neg hk, e1, Option.bind_some]
  exact f1
theorem Er7.close {N w W : Nat} {k : Int32} {C : Cx} {h : pH} (q : Er7 C w W h) (hk : k ≠ 24) : ∃ h', fX7_close N 46 k h = some h' ∧ Er7 C w W h' ∧ Chg m7 h h' := by
  obtain ⟨h', f1, f2, f3⟩ := close_19 (N := N) q
  refine ⟨h', ?_, f2, f3⟩
  unfold fX7_close
  rw [if_pos (o_46 q.sg), g_46_9 q.sg, Option.bind_some, q.kind, if_neg (fun z => hk z.symm), q.fail, Option.bind_some]
  exact f1
theorem e7_takeName {N r t W c : Nat} {p o : Int32} {C : Cx} {h : pH} (q : At7 C r t W c p o h) (hk : C.1.K t = 22) : ∃ h', fX7_takeName N 46 h = some (C.2.1 t, h') ∧ At7 C r (t + 1) W c p o h' ∧ Chg m7 h h' := by
  obtain ⟨h', e1, e2, e3⟩ := e7_advance (N := N) q (q.lt hk (by decide) (by decide))
  refine ⟨h', ?_, e2, e3⟩
  have hn := q.1.2.1
  have ht := q.2.1
  unfold fX7_takeName
  rw [if_pos (o_46 q.sg), R_46_0 q.sg, Option.bind_some, R_8_1 q.sg, Option.bind_some, g_46_8 q.sg, Option.bind_some, q.2.2.2.2.2.2.1, L_10 q.sg (by omega), Option.bind_some, g_46_9 q.sg, Option.bind_some, q.kind, if_pos hk, e1, Option.bind_some, (q.1.2.2.2.2.2.1 t ht).2.2.1 hk]
theorem e7_takeName_no {N r t W c : Nat} {p o : Int32} {C : Cx} {h : pH} (q : At7 C r t W c p o h) (hk : C.1.K t ≠ 22) : ∃ x h', fX7_takeName N 46 h = some (x, h') ∧ Er7 C (C.1.P t) W h' ∧ Chg m7 h h' := by
  obtain ⟨h', e1, e2, e3⟩ := e7_fail (N := N) q
  refine ⟨rd h 10 t, h', ?_, e2, e3⟩
  have hn := q.1.2.1
  have ht := q.2.1
  unfold fX7_takeName
  rw [if_pos (o_46 q.sg), R_46_0 q.sg, Option.bind_some, R_8_1 q.sg, Option.bind_some, g_46_8 q.sg, Option.bind_some, q.2.2.2.2.2.2.1, L_10 q.sg (by omega), Option.bind_some, g_46_9 q.sg, Option.bind_some, q.kind, if_neg hk, e1, Option.bind_some]
theorem Er7.takeName {N w W : Nat} {C : Cx} {h : pH} (q : Er7 C w W h) : ∃ x, fX7_takeName N 46 h = some (x, h) := by
  obtain ⟨t, t1, t2⟩ := q.2.2.1
  have hn := q.1.2.1
  refine ⟨rd h 10 t, ?_⟩
  unfold fX7_takeName
  rw [if_pos (o_46 q.sg), R_46_0 q.sg, Option.bind_some, R_8_1 q.sg, Option.bind_some, g_46_8 q.sg, Option.bind_some, t2, L_10 q.sg (by omega), Option.bind_some, g_46_9 q.sg, Option.bind_some, q.kind, if_neg (by decide), q.fail, Option.bind_some]
