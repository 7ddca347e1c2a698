/-! ===== THE REFERENCE'S SMALL STEPS ===== -/
/-- what the frames and what is to be done lie in -/
def fmA (a k : Nat) : Prop := (a = 138 ∧ (k = 70 ∨ k = 77 ∨ k = 93 ∨ k = 100 ∨ k = 103 ∨ k = 106)) ∨ (193 ≤ a ∧ a ≤ 204)
theorem StV.chg {A : Nat → Nat → Prop} {g h h' : pH} (q : StV g h) (c : Chg A h h') (hA : ∀ a k, (144 ≤ a ∧ a ≤ 182) ∨ (a = 138 ∧ 15 ≤ k ∧ k ≤ 68) → ¬ A a k) : StV g h' := ⟨c.sg q.1, fun a k h1 h2 => (c.2.2.1 _ _ (hA a k (by omega))).trans (q.2.1 a k h1 h2), fun k h1 h2 => (c.2.2.1 _ _ (hA 138 k (by omega))).trans (q.2.2 k h1 h2)⟩
theorem CnR.chg {A : Nat → Nat → Prop} {G : Gs} {h h' : pH} (q : CnR G h) (c : Chg A h h') (hA : ∀ a k, a = 183 ∨ a = 184 ∨ (a = 138 ∧ (k = 74 ∨ k = 75 ∨ k = 76 ∨ k = 78 ∨ k = 80)) → ¬ A a k) : CnR G h' := by
  obtain ⟨b1, b2, b3, b4, b5, b6, b7, b8⟩ := q
  have e : ∀ a k, a = 183 ∨ a = 184 ∨ (a = 138 ∧ (k = 74 ∨ k = 75 ∨ k = 76 ∨ k = 78 ∨ k = 80)) → rd h' a k = rd h a k := fun a k z => c.2.2.1 _ _ (hA a k z)
  exact ⟨(e _ _ (by omega)).trans b1, (e _ _ (by omega)).trans b2, (e _ _ (by omega)).trans b3, (e _ _ (by omega)).trans b4, fun j x h1 h2 => (e _ _ (by omega)).trans (b5 j x h1 h2), (e _ _ (by omega)).trans b6, b7, fun j x h1 => (e _ _ (by omega)).trans (b8 j x h1)⟩
theorem ObR.of {hp : List Ob} {B O : Nat → Nat} {L : List Nat} {h h' : pH} {i : Nat} (q : ObR hp B O L h i) (e : ∀ a k, (185 ≤ a ∧ a ≤ 187) ∨ a = 191 ∨ a = 192 → rd h' a k = rd h a k) : ObR hp B O L h' i := fun ob hob => by
  obtain ⟨c1, c2, c3, c4⟩ := q ob hob
  exact ⟨(e _ _ (by omega)).trans c1, (e _ _ (by omega)).trans c2, (e _ _ (by omega)).trans c3, fun j v hj => by rw [e _ _ (by omega), e _ _ (by omega)]; exact c4 j v hj⟩
theorem HpR.chg {A : Nat → Nat → Prop} {hp : List Ob} {H : Nat} {B O : Nat → Nat} {L : List Nat} {h h' : pH} (q : HpR hp H B O L h) (c : Chg A h h') (hA : ∀ a k, (185 ≤ a ∧ a ≤ 187) ∨ a = 191 ∨ a = 192 ∨ (a = 138 ∧ (k = 72 ∨ k = 73 ∨ k = 82 ∨ k = 90)) → ¬ A a k) : HpR hp H B O L h' := by
  obtain ⟨b1, b2, b3, b4, b5, b6, b7, b8, b9⟩ := q
  have e : ∀ a k, (185 ≤ a ∧ a ≤ 187) ∨ a = 191 ∨ a = 192 ∨ (a = 138 ∧ (k = 72 ∨ k = 73 ∨ k = 82 ∨ k = 90)) → rd h' a k = rd h a k := fun a k z => c.2.2.1 _ _ (hA a k z)
  exact ⟨fun i hi => ⟨(b1 i hi).1, (b1 i hi).2.1, (b1 i hi).2.2.of (fun a k z => e a k (by omega))⟩, b2, (e _ _ (by omega)).trans b3, (e _ _ (by omega)).trans b4, (e _ _ (by omega)).trans b5, b6, b7, (e _ _ (by omega)).trans b8, fun i hi => (b9 i hi).of (fun a k z => e a k (by omega))⟩
theorem RBs.chg {g h h' : pH} {G : Gs} {B O : Nat → Nat} {L : List Nat} {A : Nat → Nat → Prop} (q : RBs g G B O L h) (c : Chg A h h') (hA : ∀ a k, A a k → fmA a k) : RBs g G B O L h' := by
  have n : ∀ a k, ¬ fmA a k → ¬ A a k := fun a k z y => z (hA a k y)
  refine ⟨q.1.chg c (fun a k z => n a k (by unfold fmA; omega)), q.2.1.chg c (fun a k z => n a k (by unfold fmA; omega)), (c.2.2.1 _ _ (n _ _ (by unfold fmA; omega))).trans q.2.2.1, q.2.2.2.chg c (fun a k z => n a k (by unfold fmA; omega))⟩
theorem FrR.chg {A : Nat → Nat → Prop} {B : Nat → Nat} {L : List Nat} {h h' : pH} {n : Nat} {f : Fm} {lb pb : Nat} (q : FrR B L h n f lb pb) (c : Chg A h h') (h1 : ∀ a, 193 ≤ a → a ≤ 196 → ¬ A a n) (h2 : ∀ a k, a = 197 ∨ a = 198 → lb ≤ k → k < lb + f.2.1.length → ¬ A a k) (h3 : ∀ a k, a = 199 ∨ a = 200 → pb ≤ k → k < pb + (um f.2.2.1).length → ¬ A a k) : FrR B L h' n f lb pb := by
  obtain ⟨q1, q2, q3, q4, q5, q6, q7, q8, q9, q10, q11, q12, q13, q14⟩ := q
  refine ⟨(c.2.2.1 _ _ (h1 _ (by omega) (by omega))).trans q1, q2, (c.2.2.1 _ _ (h1 _ (by omega) (by omega))).trans q3, (c.2.2.1 _ _ (h1 _ (by omega) (by omega))).trans q4, (c.2.2.1 _ _ (h1 _ (by omega) (by omega))).trans q5, q6, q7, q8, q9, q10, q11, fun j v hj => ?_, fun j v hj => ?_, q14⟩
  · have := (List.getElem?_eq_some_iff.mp hj).1
    rw [c.2.2.1 _ _ (h2 _ _ (by omega) (by omega) (by omega)), c.2.2.1 _ _ (h2 _ _ (by omega) (by omega) (by omega))]
    exact q12 j v hj
  · have := (List.getElem?_eq_some_iff.mp hj).1
    rw [c.2.2.1 _ _ (h3 _ _ (by omega) (by omega) (by omega)), c.2.2.1 _ _ (h3 _ _ (by omega) (by omega) (by omega))]
    exact q13 j v hj
theorem LwR.chg {A : Nat → Nat → Prop} {B : Nat → Nat} {L : List Nat} {h h' : pH} (c : Chg A h h') : ∀ {fs : List Fm} {lt pt : Nat} {trs : List (Nat × Nat)}, LwR B L h fs lt pt trs → (∀ a n, 193 ≤ a → a ≤ 196 → n < fs.length → ¬ A a n) → (∀ a k, a = 197 ∨ a = 198 → k < lt → ¬ A a k) → (∀ a k, a = 199 ∨ a = 200 → k < pt → ¬ A a k) → LwR B L h' fs lt pt trs
  | [], lt, pt, trs, q, _, _, _ => q
  | f :: fs, lt, pt, trs, q, h1, h2, h3 => by
    obtain ⟨lb, pb, tr', q1, q2, q3, q4, q5⟩ := q
    rw [List.length_cons] at h1
    exact ⟨lb, pb, tr', q1.chg c (fun a a1 a2 => h1 a _ a1 a2 (by omega)) (fun a k a1 k1 k2 => h2 a k a1 (by omega)) (fun a k a1 k1 k2 => h3 a k a1 (by omega)), q2, q3, q4, LwR.chg c q5 (fun a n a1 a2 hn => h1 a n a1 a2 (by omega)) (fun a k a1 hk => h2 a k a1 (by omega)) (fun a k a1 hk => h3 a k a1 (by omega))⟩
theorem FrR.mono {B B' : Nat → Nat} {L L' : List Nat} {h : pH} {n : Nat} {f : Fm} {lb pb : Nat} (hL : ∀ i, i ∈ L ∨ i < 5 → (i ∈ L' ∨ i < 5) ∧ B' i = B i) (q : FrR B L h n f lb pb) : FrR B' L' h n f lb pb := by
  obtain ⟨q1, q2, q3, q4, q5, q6, q7, q8, q9, q10, q11, q12, q13, q14⟩ := q
  exact ⟨by rw [(hL _ q2).2]; exact q1, (hL _ q2).1, q3, q4, q5, q6, q7, q8, q9, q10, q11, fun j v hj => (q12 j v hj).mono hL, fun j v hj => (q13 j v hj).mono hL, q14⟩
theorem LwR.mono {B B' : Nat → Nat} {L L' : List Nat} {h : pH} (hL : ∀ i, i ∈ L ∨ i < 5 → (i ∈ L' ∨ i < 5) ∧ B' i = B i) : ∀ {fs : List Fm} {lt pt : Nat} {trs : List (Nat × Nat)}, LwR B L h fs lt pt trs → LwR B' L' h fs lt pt trs
  | [], lt, pt, trs, q => q
  | f :: fs, lt, pt, trs, q => by
    obtain ⟨lb, pb, tr', q1, q2, q3, q4, q5⟩ := q
    exact ⟨lb, pb, tr', q1.mono hL, q2, q3, q4, LwR.mono hL q5⟩
/-- heights stay in bounds -/
theorem LwR.bd {B : Nat → Nat} {L : List Nat} {h : pH} : ∀ {fs : List Fm} {lt pt : Nat} {trs : List (Nat × Nat)}, LwR B L h fs lt pt trs → lt ≤ 899 * fs.length ∧ pt ≤ 1999 * fs.length ∧ trs.length ≤ 51 * fs.length
  | [], lt, pt, trs, q => by obtain ⟨rfl, rfl, rfl⟩ := q; exact ⟨Nat.le_refl _, Nat.le_refl _, Nat.le_refl _⟩
  | f :: fs, lt, pt, trs, q => by
    obtain ⟨lb, pb, tr', q1, q2, q3, q4, q5⟩ := q
    obtain ⟨b1, b2, b3⟩ := q5.bd
    have := um_le f.2.2.1
    have h8 := q1.2.2.2.2.2.2.2.1
    have h9 := q1.2.2.2.2.2.2.2.2.1
    have h11 := q1.2.2.2.2.2.2.2.2.2.2.1
    rw [q4, List.length_append, tyE_len, List.length_cons]
    omega
def tdA (n a k : Nat) : Prop := ((a = 201 ∨ a = 202) ∧ k = n) ∨ (a = 138 ∧ k = 103)
theorem r_todo {h : pH} {t : List It} {N k : Nat} {y : Int32} (hs : Sg h) (ht : TdH t h) (hl : t.length < 400000) : ∃ h', fX12_todo N 138 (Int32.ofNat k) y h = some h' ∧ TdH ((k, y) :: t) h' ∧ Chg (tdA t.length) h h' := by
  have s1 := hs.wr 201 t.length (Int32.ofNat k)
  have s2 := s1.wr 202 t.length y
  have c : Chg (tdA t.length) h (wr (wr (wr h 201 t.length (Int32.ofNat k)) 202 t.length y) 138 103 (Int32.ofNat (t.length + 1))) := (Chg.wr h 201 t.length (Int32.ofNat k) (by unfold tdA; omega)).trans ((Chg.wr _ 202 t.length y (by unfold tdA; omega)).trans (Chg.wr _ 138 103 _ (by unfold tdA; omega)))
  refine ⟨_, ?_, ⟨?_, fun j it hj => ?_⟩, c⟩
  · unfold fX12_todo
    rw [if_pos (o_138 hs), R_138_104 hs, Option.bind_some, g_138_103 hs, Option.bind_some, ht.1, T_201 hs hl, Option.bind_some, R_138_105 s1, Option.bind_some, g_138_103 s1, Option.bind_some, rd_wr_ne _ _ (by omega), ht.1, T_202 s1 hl, Option.bind_some, g_138_103 s2, Option.bind_some, rd_wr_ne _ _ (by omega), rd_wr_ne _ _ (by omega), ht.1, i_add1, p_138_103 s2, Option.bind_some]
  · rw [w_138_103 s2]; rfl
  · match j, hj with
    | 0, hj =>
      obtain rfl : (k, y) = it := Option.some.inj hj
      rw [List.length_cons, show t.length + 1 - 1 - 0 = t.length by omega]
      refine ⟨?_, ?_⟩
      · rw [rd_wr_ne _ _ (by omega), rd_wr_ne _ _ (by omega), W_201 hs]
      · rw [rd_wr_ne _ _ (by omega), W_202 s1]
    | j + 1, hj =>
      have hj : t[j]? = some it := hj
      have hjl := (List.getElem?_eq_some_iff.mp hj).1
      rw [List.length_cons, show t.length + 1 - 1 - (j + 1) = t.length - 1 - j by omega, c.2.2.1 _ _ (by unfold tdA; omega), c.2.2.1 _ _ (by unfold tdA; omega)]
      exact ht.2 j it hj
theorem TdH.chg {A : Nat → Nat → Prop} {t : List It} {h h' : pH} (q : TdH t h) (c : Chg A h h') (h1 : ¬ A 138 103) (h2 : ∀ a k, a = 201 ∨ a = 202 → k < t.length → ¬ A a k) : TdH t h' := ⟨(c.2.2.1 _ _ h1).trans q.1, fun j it hj => by
  have := (List.getElem?_eq_some_iff.mp hj).1
  rw [c.2.2.1 _ _ (h2 _ _ (by omega) (by omega)), c.2.2.1 _ _ (h2 _ _ (by omega) (by omega))]
  exact q.2 j it hj⟩
theorem TrH.chg {A : Nat → Nat → Prop} {t : List (Nat × Nat)} {h h' : pH} (q : TrH t h) (c : Chg A h h') (h1 : ¬ A 138 106) (h2 : ∀ a k, a = 203 ∨ a = 204 → k < t.length → ¬ A a k) : TrH t h' := ⟨(c.2.2.1 _ _ h1).trans q.1, fun j it hj => by
  have := (List.getElem?_eq_some_iff.mp hj).1
  rw [c.2.2.1 _ _ (h2 _ _ (by omega) (by omega)), c.2.2.1 _ _ (h2 _ _ (by omega) (by omega))]
  exact q.2 j it hj⟩
/-- the thing on top is taken -/
theorem TdH.pop {h : pH} {t : List It} {it : It} (hs : Sg h) (ht : TdH (it :: t) h) : TdH t (wr h 138 103 (Int32.ofNat t.length)) ∧ rd h 201 t.length = Int32.ofNat it.1 ∧ rd h 202 t.length = it.2 ∧ rd h 138 103 = Int32.ofNat (t.length + 1) := by
  have e0 := ht.2 0 it rfl
  rw [List.length_cons, show t.length + 1 - 1 - 0 = t.length by omega] at e0
  refine ⟨⟨w_138_103 hs _, fun j x hj => ?_⟩, e0.1, e0.2, ht.1⟩
  have hjl := (List.getElem?_eq_some_iff.mp hj).1
  have e1 := ht.2 (j + 1) x hj
  rw [List.length_cons, show t.length + 1 - 1 - (j + 1) = t.length - 1 - j by omega] at e1
  rw [rd_wr_ne _ _ (by omega), rd_wr_ne _ _ (by omega)]
  exact e1
def puA (t a k : Nat) : Prop := ((a = 199 ∨ a = 200) ∧ k = t) ∨ (a = 138 ∧ k = 100)
theorem r_push {h : pH} {N t : Nat} {x f : Int32} (hs : Sg h) (ht : rd h 138 100 = Int32.ofNat t) (hl : t < 200000) (hf : f = 0 ∨ f = 1) : ∃ h', fX12_push N 138 x f h = some h' ∧ Chg (puA t) h h' ∧ rd h' 138 100 = Int32.ofNat (t + 1) ∧ rd h' 199 t = x ∧ rd h' 200 t = f := by
  have s1 := hs.wr 199 t x
  have s2 := s1.wr 200 t f
  refine ⟨wr (wr (wr h 199 t x) 200 t f) 138 100 (Int32.ofNat (t + 1)), ?_, (Chg.wr h 199 t x (by unfold puA; omega)).trans ((Chg.wr _ 200 t f (by unfold puA; omega)).trans (Chg.wr _ 138 100 _ (by unfold puA; omega))), w_138_100 s2 _, ?_, ?_⟩
  · unfold fX12_push
    rw [if_pos (o_138 hs), R_138_101 hs, Option.bind_some, g_138_100 hs, Option.bind_some, ht, T_199 hs hl, Option.bind_some, R_138_102 s1, Option.bind_some, g_138_100 s1, Option.bind_some, rd_wr_ne _ _ (by omega), ht, T_200 s1 hl hf, Option.bind_some, g_138_100 s2, Option.bind_some, rd_wr_ne _ _ (by omega), rd_wr_ne _ _ (by omega), ht, i_add1, p_138_100 s2, Option.bind_some]
  · rw [rd_wr_ne _ _ (by omega), rd_wr_ne _ _ (by omega), W_199 hs]
  · rw [rd_wr_ne _ _ (by omega), W_200 s1]
def slA (k' a k : Nat) : Prop := (a = 197 ∨ a = 198) ∧ k = k'
theorem r_setL {h : pH} {N n lb j : Nat} {x f : Int32} (hs : Sg h) (hn : n < 101) (hb : rd h 194 n = Int32.ofNat lb) (hl : lb + j < 90000) (hf : f = 0 ∨ f = 1) : ∃ h', fX12_setLocal N 138 (Int32.ofNat n) (Int32.ofNat j) x f h = some h' ∧ Chg (slA (lb + j)) h h' ∧ rd h' 197 (lb + j) = x ∧ rd h' 198 (lb + j) = f := by
  have s1 := hs.wr 197 (lb + j) x
  refine ⟨wr (wr h 197 (lb + j) x) 198 (lb + j) f, ?_, (Chg.wr h 197 (lb + j) x (by unfold slA; omega)).trans (Chg.wr _ 198 (lb + j) f (by unfold slA; omega)), ?_, W_198 s1 _ _⟩
  · unfold fX12_setLocal
    rw [if_pos (o_138 hs), R_138_98 hs, Option.bind_some, R_138_95 hs, Option.bind_some, L_194 hs hn, Option.bind_some, hb, ← Int32.ofNat_add, T_197 hs hl, Option.bind_some, R_138_99 s1, Option.bind_some, R_138_95 s1, Option.bind_some, L_194 s1 hn, Option.bind_some, rd_wr_ne _ _ (by omega), hb, ← Int32.ofNat_add, T_198 s1 hl hf, Option.bind_some]
  · rw [rd_wr_ne _ _ (by omega), W_197 hs]
