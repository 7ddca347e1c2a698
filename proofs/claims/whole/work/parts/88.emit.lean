/-! ===== THE CLASS' CODE: pieces, signs that wait ===== -/
def xA (W c : Nat) : Nat → Nat → Prop := fun a k => (a = 46 ∧ 7 ≤ k) ∨ (47 ≤ a ∧ a ≤ 49 ∧ W ≤ k) ∨ (a = 38 ∧ k = 7) ∨ (39 ≤ a ∧ a ≤ 45 ∧ c ≤ k)
def eA (W : Nat) : Nat → Nat → Prop := fun a k => (a = 46 ∧ 7 ≤ k) ∨ (47 ≤ a ∧ a ≤ 49 ∧ W ≤ k) ∨ (38 ≤ a ∧ a ≤ 45)
theorem Chg.x {A : Nat → Nat → Prop} {h h' : pH} {W c : Nat} (q : Chg A h h') (hA : ∀ a k, A a k → xA W c a k) : Chg (xA W c) h h' := q.mono hA
theorem m7_x {W c a k : Nat} (z : m7 a k) : xA W c a k := by unfold m7 at z; unfold xA; omega
theorem m7_e {W a k : Nat} (z : m7 a k) : eA W a k := by unfold m7 at z; unfold eA; omega
theorem xA_e {W c a k : Nat} (z : xA W c a k) : eA W a k := by unfold xA at z; unfold eA; omega
theorem xA_le {W c W' c' a k : Nat} (hW : W ≤ W') (hc : c ≤ c') (z : xA W' c' a k) : xA W c a k := by unfold xA at z ⊢; omega
theorem eA_le {W W' a k : Nat} (hW : W ≤ W') (z : eA W' a k) : eA W a k := by unfold eA at z ⊢; omega
theorem At7.of {A : Nat → Nat → Prop} {r t W c : Nat} {p o : Int32} {C : Cx} {h h' : pH} (q : At7 C r t W c p o h) (g : Chg A h h') (h1 : ∀ a k, a < 17 → ¬ A a k) (h2 : ∀ k, 7 ≤ k → ¬ A 46 k) (h3 : ∀ k, 7 ≤ k → ¬ A 38 k) (h4 : ∀ a i, 47 ≤ a → a ≤ 49 → i < W → ¬ A a i) : At7 C r t W c p o h' := by
  obtain ⟨q1, q2, q3, q4, q5, q6, q7, q8, q9, q10, q11, q12, q13, q14⟩ := q
  refine ⟨q1.chg g h1, q2, q3, q4, q5, ?_, ?_, ?_, ?_, ?_, ?_, ?_, ?_, fun i hi => (q14 i hi).chg g (fun a a1 a2 => h4 a i a1 a2 hi)⟩
  · rw [g.2.2.1 _ _ (h2 7 (by omega))]; exact q6
  · rw [g.2.2.1 _ _ (h2 8 (by omega))]; exact q7
  · rw [g.2.2.1 _ _ (h2 9 (by omega))]; exact q8
  · rw [g.2.2.1 _ _ (h2 10 (by omega))]; exact q9
  · rw [g.2.2.1 _ _ (h2 11 (by omega))]; exact q10
  · rw [g.2.2.1 _ _ (h3 7 (by omega))]; exact q11
  · rw [g.2.2.1 _ _ (h3 8 (by omega))]; exact q12
  · rw [g.2.2.1 _ _ (h3 9 (by omega))]; exact q13
theorem Er7.of {A : Nat → Nat → Prop} {w W : Nat} {C : Cx} {h h' : pH} (q : Er7 C w W h) (g : Chg A h h') (h1 : ∀ a k, a < 17 → ¬ A a k) (h2 : ∀ k, 7 ≤ k → ¬ A 46 k) (h3 : ¬ A 38 7) (h4 : ∀ a i, 47 ≤ a → a ≤ 49 → i < W → ¬ A a i) : Er7 C w W h' := by
  obtain ⟨q1, q2, ⟨t, q3, q3'⟩, q4, q5, q6, q7, ⟨c, q8, q8'⟩, q9⟩ := q
  refine ⟨q1.chg g h1, q2, ⟨t, q3, ?_⟩, ?_, ?_, q6, ?_, ⟨c, q8, ?_⟩, fun i hi => (q9 i hi).chg g (fun a a1 a2 => h4 a i a1 a2 hi)⟩
  · rw [g.2.2.1 _ _ (h2 8 (by omega))]; exact q3'
  · rw [g.2.2.1 _ _ (h2 9 (by omega))]; exact q4
  · rw [g.2.2.1 _ _ (h2 11 (by omega))]; exact q5
  · rw [g.2.2.1 _ _ (h2 7 (by omega))]; exact q7
  · rw [g.2.2.1 _ _ h3]; exact q8'
/-- the heap behind a new piece -/
def emH (h : pH) (c : Nat) (k a b : Int32) : pH := wr (wr (wr (wr (wr (wr (wr (wr h 39 c k) 40 c a) 41 c b) 42 c 0) 43 c (rd h 38 8)) 44 c 0) 45 c (rd h 38 9)) 38 7 (Int32.ofNat (c + 1))
def emA (c : Nat) : Nat → Nat → Prop := fun a k => (39 ≤ a ∧ a ≤ 45 ∧ k = c) ∨ (a = 38 ∧ k = 7)
theorem emH_chg (h : pH) (c : Nat) (k a b : Int32) : Chg (emA c) h (emH h c k a b) := by
  unfold emH
  refine (((((((Chg.wr _ _ _ _ ?_).trans (Chg.wr _ _ _ _ ?_)).trans (Chg.wr _ _ _ _ ?_)).trans (Chg.wr _ _ _ _ ?_)).trans (Chg.wr _ _ _ _ ?_)).trans (Chg.wr _ _ _ _ ?_)).trans (Chg.wr _ _ _ _ ?_)).trans (Chg.wr _ _ _ _ ?_) <;> unfold emA <;> omega
/-- piece i -/
def PcAt (h : pH) (i : Nat) (k a b tg p o : Int32) : Prop := rd h 39 i = k ∧ rd h 40 i = a ∧ rd h 41 i = b ∧ rd h 42 i = tg ∧ rd h 43 i = p ∧ rd h 45 i = o
theorem PcAt.chg {A : Nat → Nat → Prop} {h h' : pH} {i : Nat} {k a b tg p o : Int32} (q : PcAt h i k a b tg p o) (g : Chg A h h') (hA : ∀ x, 39 ≤ x → x ≤ 45 → ¬ A x i) : PcAt h' i k a b tg p o := by
  obtain ⟨q1, q2, q3, q4, q5, q6⟩ := q
  refine ⟨?_, ?_, ?_, ?_, ?_, ?_⟩
  · rw [g.2.2.1 _ _ (hA 39 (by omega) (by omega))]; exact q1
  · rw [g.2.2.1 _ _ (hA 40 (by omega) (by omega))]; exact q2
  · rw [g.2.2.1 _ _ (hA 41 (by omega) (by omega))]; exact q3
  · rw [g.2.2.1 _ _ (hA 42 (by omega) (by omega))]; exact q4
  · rw [g.2.2.1 _ _ (hA 43 (by omega) (by omega))]; exact q5
  · rw [g.2.2.1 _ _ (hA 45 (by omega) (by omega))]; exact q6
theorem emH_pc {h : pH} (hs : Sg h) (c : Nat) (k a b : Int32) : PcAt (emH h c k a b) c k a b 0 (rd h 38 8) (rd h 38 9) ∧ rd (emH h c k a b) 38 7 = Int32.ofNat (c + 1) := by
  have s1 := hs.wr 39 c k
  have s2 := s1.wr 40 c a
  have s3 := s2.wr 41 c b
  have s4 := s3.wr 42 c 0
  have s5 := s4.wr 43 c (rd h 38 8)
  have s6 := s5.wr 44 c 0
  have s7 := s6.wr 45 c (rd h 38 9)
  unfold emH
  refine ⟨⟨?_, ?_, ?_, ?_, ?_, ?_⟩, w_38_7 s7 _⟩
  · rw [rd_wr_ne _ _ (by omega), rd_wr_ne _ _ (by omega), rd_wr_ne _ _ (by omega), rd_wr_ne _ _ (by omega), rd_wr_ne _ _ (by omega), rd_wr_ne _ _ (by omega), rd_wr_ne _ _ (by omega), W_39 hs]
  · rw [rd_wr_ne _ _ (by omega), rd_wr_ne _ _ (by omega), rd_wr_ne _ _ (by omega), rd_wr_ne _ _ (by omega), rd_wr_ne _ _ (by omega), rd_wr_ne _ _ (by omega), W_40 s1]
  · rw [rd_wr_ne _ _ (by omega), rd_wr_ne _ _ (by omega), rd_wr_ne _ _ (by omega), rd_wr_ne _ _ (by omega), rd_wr_ne _ _ (by omega), W_41 s2]
  · rw [rd_wr_ne _ _ (by omega), rd_wr_ne _ _ (by omega), rd_wr_ne _ _ (by omega), rd_wr_ne _ _ (by omega), W_42 s3]
  · rw [rd_wr_ne _ _ (by omega), rd_wr_ne _ _ (by omega), rd_wr_ne _ _ (by omega), W_43 s4]
  · rw [rd_wr_ne _ _ (by omega), W_45 s6]
theorem e2_emit {N c : Nat} {h : pH} (k a b : Int32) (hs : Sg h) (e7 : rd h 38 7 = Int32.ofNat c) (hc : c < 3100) : fX2_emit N 38 k a b h = some (Int32.ofNat c, emH h c k a b) := by
  have s1 := hs.wr 39 c k
  have s2 := s1.wr 40 c a
  have s3 := s2.wr 41 c b
  have s4 := s3.wr 42 c 0
  have s5 := s4.wr 43 c (rd h 38 8)
  have s6 := s5.wr 44 c 0
  have s7 := s6.wr 45 c (rd h 38 9)
  have key : ∀ k, rd (wr h 39 c k) 38 7 = Int32.ofNat c := fun k => by rw [rd_wr_ne _ _ (by omega)]; exact e7
  have e1 := key k
  have e2 : rd (wr (wr h 39 c k) 40 c a) 38 7 = Int32.ofNat c := by rw [rd_wr_ne _ _ (by omega)]; exact e1
  have e3 : rd (wr (wr (wr h 39 c k) 40 c a) 41 c b) 38 7 = Int32.ofNat c := by rw [rd_wr_ne _ _ (by omega)]; exact e2
  have e4 : rd (wr (wr (wr (wr h 39 c k) 40 c a) 41 c b) 42 c 0) 38 7 = Int32.ofNat c := by rw [rd_wr_ne _ _ (by omega)]; exact e3
  have f4 : rd (wr (wr (wr (wr h 39 c k) 40 c a) 41 c b) 42 c 0) 38 8 = rd h 38 8 := by rw [rd_wr_ne _ _ (by omega), rd_wr_ne _ _ (by omega), rd_wr_ne _ _ (by omega), rd_wr_ne _ _ (by omega)]
  have e5 : rd (wr (wr (wr (wr (wr h 39 c k) 40 c a) 41 c b) 42 c 0) 43 c (rd h 38 8)) 38 7 = Int32.ofNat c := by rw [rd_wr_ne _ _ (by omega)]; exact e4
  have e6 : rd (wr (wr (wr (wr (wr (wr h 39 c k) 40 c a) 41 c b) 42 c 0) 43 c (rd h 38 8)) 44 c 0) 38 7 = Int32.ofNat c := by rw [rd_wr_ne _ _ (by omega)]; exact e5
  have f6 : rd (wr (wr (wr (wr (wr (wr h 39 c k) 40 c a) 41 c b) 42 c 0) 43 c (rd h 38 8)) 44 c 0) 38 9 = rd h 38 9 := by rw [rd_wr_ne _ _ (by omega), rd_wr_ne _ _ (by omega), rd_wr_ne _ _ (by omega), rd_wr_ne _ _ (by omega), rd_wr_ne _ _ (by omega), rd_wr_ne _ _ (by omega)]
  have e8 : rd (wr (wr (wr (wr (wr (wr (wr h 39 c k) 40 c a) 41 c b) 42 c 0) 43 c (rd h 38 8)) 44 c 0) 45 c (rd h 38 9)) 38 7 = Int32.ofNat c := by rw [rd_wr_ne _ _ (by omega)]; exact e6
  unfold fX2_emit
  rw [if_pos (o_38 hs), g_38_7 hs, Option.bind_some, e7, show (3100 : Int32) = Int32.ofNat 3100 from rfl, ifLt (by omega) (by decide), if_pos hc, R_38_0 hs, Option.bind_some, Option.bind_some, T_39 hs hc, Option.bind_some,
    R_38_1 s1, Option.bind_some, g_38_7 s1, Option.bind_some, e1, T_40 s1 hc, Option.bind_some,
    R_38_2 s2, Option.bind_some, g_38_7 s2, Option.bind_some, e2, T_41 s2 hc, Option.bind_some,
    R_38_3 s3, Option.bind_some, g_38_7 s3, Option.bind_some, e3, T_42 s3 hc, Option.bind_some,
    R_38_4 s4, Option.bind_some, g_38_7 s4, Option.bind_some, g_38_8 s4, Option.bind_some, e4, f4, T_43 s4 hc, Option.bind_some,
    R_38_5 s5, Option.bind_some, g_38_7 s5, Option.bind_some, e5, T_44 s5 hc, Option.bind_some,
    R_38_6 s6, Option.bind_some, g_38_7 s6, Option.bind_some, g_38_9 s6, Option.bind_some, e6, f6, T_45 s6 hc, Option.bind_some,
    g_38_7 s7, Option.bind_some, e8, i_add1, p_38_7 s7, Option.bind_some, g_38_7 (s7.wr _ _ _), Option.bind_some, w_38_7 s7, ← i_add1, Int32.add_sub_cancel, i_add1]
  rfl
theorem e2_emit_full {N : Nat} {h : pH} (k a b : Int32) (hs : Sg h) (e7 : rd h 38 7 = Int32.ofNat 3100) : fX2_emit N 38 k a b h = some (Int32.ofNat 3099, h) := by
  unfold fX2_emit
  rw [if_pos (o_38 hs), g_38_7 hs, Option.bind_some, e7, show (3100 : Int32) = Int32.ofNat 3100 from rfl, ifLt (by decide) (by decide), if_neg (by decide)]
  rfl
theorem At7.emit {N r t W c : Nat} {p o : Int32} {C : Cx} {h : pH} (q : At7 C r t W c p o h) (k a b : Int32) (hc : c + 1 ≤ C.1.P t) : fX2_emit N 38 k a b h = some (Int32.ofNat c, emH h c k a b) ∧ At7 C r t W (c + 1) p o (emH h c k a b) ∧ PcAt (emH h c k a b) c k a b 0 p o := by
  obtain ⟨q1, q2, q3, q4, q5, q6, q7, q8, q9, q10, q11, q12, q13, q14⟩ := q
  have hP := q1.2.2.1 t
  have g := emH_chg h c k a b
  obtain ⟨g1, g2⟩ := emH_pc q1.1 c k a b
  rw [q12, q13] at g1
  refine ⟨e2_emit k a b q1.1 q11 (by omega), ⟨q1.chg g (fun a k ha => by unfold emA; omega), q2, q3, q4, hc, ?_, ?_, ?_, ?_, ?_, g2, ?_, ?_, fun i hi => (q14 i hi).chg g (fun a a1 a2 => by unfold emA; omega)⟩, g1⟩
  · rw [g.2.2.1 _ _ (by unfold emA; omega)]; exact q6
  · rw [g.2.2.1 _ _ (by unfold emA; omega)]; exact q7
  · rw [g.2.2.1 _ _ (by unfold emA; omega)]; exact q8
  · rw [g.2.2.1 _ _ (by unfold emA; omega)]; exact q9
  · rw [g.2.2.1 _ _ (by unfold emA; omega)]; exact q10
  · rw [g.2.2.1 _ _ (by unfold emA; omega)]; exact q12
  · rw [g.2.2.1 _ _ (by unfold emA; omega)]; exact q13
theorem Er7.emit {N w W : Nat} {C : Cx} {h : pH} (q : Er7 C w W h) (k a b : Int32) : ∃ m h', m < 3100 ∧ fX2_emit N 38 k a b h = some (Int32.ofNat m, h') ∧ Er7 C w W h' ∧ Chg (eA W) h h' ∧ Chg (fun a k => (a = 38 ∧ k = 7) ∨ (39 ≤ a ∧ a ≤ 45)) h h' := by
  obtain ⟨q1, q2, ⟨t, q3, q3'⟩, q4, q5, q6, q7, ⟨c, q8, q8'⟩, q9⟩ := id q
  rcases Nat.lt_or_ge c 3100 with z | z
  · have g := emH_chg h c k a b
    obtain ⟨g1, g2⟩ := emH_pc q1.1 c k a b
    refine ⟨c, emH h c k a b, z, e2_emit k a b q1.1 q8' z, ⟨q1.chg g (fun a k ha => by unfold emA; omega), q2, ⟨t, q3, ?_⟩, ?_, ?_, q6, ?_, ⟨c + 1, by omega, g2⟩, fun i hi => (q9 i hi).chg g (fun a a1 a2 => by unfold emA; omega)⟩, g.mono (fun a k y => by unfold emA at y; unfold eA; omega), g.mono (fun a k y => by unfold emA at y; omega)⟩
    · rw [g.2.2.1 _ _ (by unfold emA; omega)]; exact q3'
    · rw [g.2.2.1 _ _ (by unfold emA; omega)]; exact q4
    · rw [g.2.2.1 _ _ (by unfold emA; omega)]; exact q5
    · rw [g.2.2.1 _ _ (by unfold emA; omega)]; exact q7
  · obtain rfl : c = 3100 := by omega
    exact ⟨3099, h, by decide, e2_emit_full k a b q1.1 q8', q, Chg.refl _ _, Chg.refl _ _⟩
/-- a further sign that waits -/
def wtH (h : pH) (W : Nat) (k l m : Int32) : pH := wr (wr (wr (wr h 47 W k) 48 W l) 49 W m) 46 7 (Int32.ofNat (W + 1))
def wtA (W : Nat) : Nat → Nat → Prop := fun a k => (47 ≤ a ∧ a ≤ 49 ∧ k = W) ∨ (a = 46 ∧ k = 7)
theorem wtH_chg (h : pH) (W : Nat) (k l m : Int32) : Chg (wtA W) h (wtH h W k l m) := by
  unfold wtH
  refine (((Chg.wr _ _ _ _ ?_).trans (Chg.wr _ _ _ _ ?_)).trans (Chg.wr _ _ _ _ ?_)).trans (Chg.wr _ _ _ _ ?_) <;> unfold wtA <;> omega
theorem wtH_rd {h : pH} (hs : Sg h) (W : Nat) (k l m : Int32) : rd (wtH h W k l m) 47 W = k ∧ rd (wtH h W k l m) 48 W = l ∧ rd (wtH h W k l m) 49 W = m ∧ rd (wtH h W k l m) 46 7 = Int32.ofNat (W + 1) := by
  have s1 := hs.wr 47 W k
  have s2 := s1.wr 48 W l
  have s3 := s2.wr 49 W m
  unfold wtH
  refine ⟨?_, ?_, ?_, w_46_7 s3 _⟩
  · rw [rd_wr_ne _ _ (by omega), rd_wr_ne _ _ (by omega), rd_wr_ne _ _ (by omega), W_47 hs]
  · rw [rd_wr_ne _ _ (by omega), rd_wr_ne _ _ (by omega), W_48 s1]
  · rw [rd_wr_ne _ _ (by omega), W_49 s2]
theorem e7_await {N W : Nat} {h : pH} (k l m : Int32) (hs : Sg h) (e7 : rd h 46 7 = Int32.ofNat W) (hW : W < 400) : fX7_await N 46 k l m h = some (wtH h W k l m) := by
  have s1 := hs.wr 47 W k
  have s2 := s1.wr 48 W l
  have s3 := s2.wr 49 W m
  have e1 : rd (wr h 47 W k) 46 7 = Int32.ofNat W := by rw [rd_wr_ne _ _ (by omega)]; exact e7
  have e2 : rd (wr (wr h 47 W k) 48 W l) 46 7 = Int32.ofNat W := by rw [rd_wr_ne _ _ (by omega)]; exact e1
  have e3 : rd (wr (wr (wr h 47 W k) 48 W l) 49 W m) 46 7 = Int32.ofNat W := by rw [rd_wr_ne _ _ (by omega)]; exact e2
  unfold fX7_await
  rw [if_pos (o_46 hs), g_46_7 hs, Option.bind_some, e7, show (400 : Int32) = Int32.ofNat 400 from rfl, ifLe (by decide) (by omega), if_neg (by omega), R_46_4 hs, Option.bind_some, Option.bind_some, T_47 hs hW, Option.bind_some, R_46_5 s1, Option.bind_some, g_46_7 s1, Option.bind_some, e1, T_48 s1 hW, Option.bind_some, R_46_6 s2, Option.bind_some, g_46_7 s2, Option.bind_some, e2, T_49 s2 hW, Option.bind_some, g_46_7 s3, Option.bind_some, e3, i_add1, p_46_7 s3, Option.bind_some]
  rfl
theorem wtH_we {h : pH} (hs : Sg h) {W l : Nat} (k m : Int32) (hl : l ≤ 7) (hm : (k = 28 ∨ k = 29) → ∃ x, x < 3100 ∧ m = Int32.ofNat x) (hw : ∀ i, i < W → WE h i) : ∀ i, i < W + 1 → WE (wtH h W k (Int32.ofNat l) m) i := by
  intro i hi
  obtain ⟨g1, g2, g3, g4⟩ := wtH_rd hs W k (Int32.ofNat l) m
  by_cases z : i = W
  · subst z
    refine ⟨l, hl, g2, fun y => ?_⟩
    rw [g1] at y
    rw [g3]
    exact hm y
  · exact (hw i (by omega)).chg (wtH_chg h W k (Int32.ofNat l) m) (fun a a1 a2 => by unfold wtA; omega)
theorem At7.await {N r t W c l : Nat} {p o : Int32} {C : Cx} {h : pH} (q : At7 C r t W c p o h) (k m : Int32) (hW : W < 300) (hl : l ≤ 7) (hm : (k = 28 ∨ k = 29) → ∃ x, x < 3100 ∧ m = Int32.ofNat x) : fX7_await N 46 k (Int32.ofNat l) m h = some (wtH h W k (Int32.ofNat l) m) ∧ At7 C r t (W + 1) c p o (wtH h W k (Int32.ofNat l) m) := by
  obtain ⟨q1, q2, q3, q4, q5, q6, q7, q8, q9, q10, q11, q12, q13, q14⟩ := q
  have g := wtH_chg h W k (Int32.ofNat l) m
  obtain ⟨g1, g2, g3, g4⟩ := wtH_rd q1.1 W k (Int32.ofNat l) m
  refine ⟨e7_await k _ m q1.1 q6 (by omega), q1.chg g (fun a k ha => by unfold wtA; omega), q2, q3, by omega, q5, g4, ?_, ?_, ?_, ?_, ?_, ?_, ?_, wtH_we q1.1 k m hl hm q14⟩
  · rw [g.2.2.1 _ _ (by unfold wtA; omega)]; exact q7
  · rw [g.2.2.1 _ _ (by unfold wtA; omega)]; exact q8
  · rw [g.2.2.1 _ _ (by unfold wtA; omega)]; exact q9
  · rw [g.2.2.1 _ _ (by unfold wtA; omega)]; exact q10
  · rw [g.2.2.1 _ _ (by unfold wtA; omega)]; exact q11
  · rw [g.2.2.1 _ _ (by unfold wtA; omega)]; exact q12
  · rw [g.2.2.1 _ _ (by unfold wtA; omega)]; exact q13
theorem Er7.await {N w W l : Nat} {C : Cx} {h : pH} (q : Er7 C w W h) (k m : Int32) (hW : W < 400) (hl : l ≤ 7) (hm : (k = 28 ∨ k = 29) → ∃ x, x < 3100 ∧ m = Int32.ofNat x) : fX7_await N 46 k (Int32.ofNat l) m h = some (wtH h W k (Int32.ofNat l) m) ∧ Er7 C w (W + 1) (wtH h W k (Int32.ofNat l) m) := by
  obtain ⟨q1, q2, ⟨t, q3, q3'⟩, q4, q5, q6, q7, ⟨c, q8, q8'⟩, q9⟩ := id q
  have g := wtH_chg h W k (Int32.ofNat l) m
  obtain ⟨g1, g2, g3, g4⟩ := wtH_rd q1.1 W k (Int32.ofNat l) m
  refine ⟨e7_await k _ m q1.1 q7 hW, q1.chg g (fun a k ha => by unfold wtA; omega), by omega, ⟨t, q3, ?_⟩, ?_, ?_, q6, g4, ⟨c, q8, ?_⟩, wtH_we q1.1 k m hl hm q9⟩
  · rw [g.2.2.1 _ _ (by unfold wtA; omega)]; exact q3'
  · rw [g.2.2.1 _ _ (by unfold wtA; omega)]; exact q4
  · rw [g.2.2.1 _ _ (by unfold wtA; omega)]; exact q5
  · rw [g.2.2.1 _ _ (by unfold wtA; omega)]; exact q8'
