/-! ===== THE SMALL STEPS OF READING STATEMENTS ===== -/
def At2 (T : Txt) (t r s n l q : Nat) (h : pH) : Prop := At T t r n l q h ∧ rd h 138 25 = Int32.ofNat s ∧ 2 * s ≤ tkP T t
theorem At.chg {A : Nat → Nat → Prop} {T : Txt} {t r n l q : Nat} {h h' : pH} (a : At T t r n l q h) (c : Chg A h h') (hA : rpOut A) (hB : ∀ k, k ∈ [10, 15, 21, 23] → ¬ A 138 k) : At T t r n l q h' := by
  obtain ⟨h1, h2, h3, h4, h5, h6, b⟩ := a
  have f : ∀ k, k ∈ [10, 15, 21, 23] → rd h' 138 k = rd h 138 k := fun k hk => c.2.2.1 _ _ (hB k hk)
  exact ⟨h1.chg c hA, h2, by rw [f 10 (by decide)]; exact h3, by rw [f 15 (by decide)]; exact h4, by rw [f 21 (by decide)]; exact h5, by rw [f 23 (by decide)]; exact h6, b⟩
theorem Er.chg {A : Nat → Nat → Prop} {w n l q : Nat} {h h' : pH} (a : Er w n l q h) (c : Chg A h h') (hB : ∀ k, k ∈ [5, 9, 15, 21, 23] → ¬ A 138 k) : Er w n l q h' := by
  obtain ⟨⟨hs, hw, e9, e5⟩, h4, h5, h6⟩ := a
  have f : ∀ k, k ∈ [5, 9, 15, 21, 23] → rd h' 138 k = rd h 138 k := fun k hk => c.2.2.1 _ _ (hB k hk)
  exact ⟨⟨c.sg hs, hw, by rw [f 9 (by decide)]; exact e9, by rw [f 5 (by decide)]; exact e5⟩, by rw [f 15 (by decide)]; exact h4, by rw [f 21 (by decide)]; exact h5, by rw [f 23 (by decide)]; exact h6⟩
/-- from a on, places of the statements' rows alone -/
def stA (s : Nat) : Nat → Nat → Prop := fun a k => (a = 138 ∧ (k = 25 ∨ k = 57)) ∨ ((151 ≤ a ∧ a ≤ 161) ∧ s ≤ k)
theorem stA_out (s : Nat) : rpOut (stA s) := by
  refine ⟨fun k hk z => ?_, fun k => ⟨fun z => ?_, fun z => ?_, fun z => ?_⟩⟩
  · rcases z with ⟨h1, h2⟩ | ⟨h1, h2⟩
    · rcases h2 with h2 | h2 <;> rw [h2] at hk <;> exact absurd hk (by decide)
    · omega
  · rcases z with ⟨h1, h2⟩ | ⟨h1, h2⟩ <;> omega
  · rcases z with ⟨h1, h2⟩ | ⟨h1, h2⟩ <;> omega
  · rcases z with ⟨h1, h2⟩ | ⟨h1, h2⟩ <;> omega
theorem stA_no {s k : Nat} (hk : k ≠ 25 ∧ k ≠ 57) : ¬ stA s 138 k := fun z => by rcases z with ⟨h1, h2⟩ | ⟨h1, h2⟩ <;> omega
theorem stA_wr {s : Nat} (h : pH) (a k : Nat) (x : Int32) (ha : 151 ≤ a ∧ a ≤ 161) (hk : s ≤ k) : Chg (stA s) h (wr h a k x) := Chg.wr h a k x (Or.inr ⟨ha, hk⟩)
theorem At.sta {T : Txt} {t r n l q s : Nat} {h h' : pH} (a : At T t r n l q h) (c : Chg (stA s) h h') : At T t r n l q h' := a.chg c (stA_out s) (fun k hk => stA_no (by simp only [List.mem_cons, List.not_mem_nil, or_false] at hk; omega))
theorem Er.sta {w n l q s : Nat} {h h' : pH} (a : Er w n l q h) (c : Chg (stA s) h h') : Er w n l q h' := a.chg c (fun k hk => stA_no (by simp only [List.mem_cons, List.not_mem_nil, or_false] at hk; omega))
theorem stA_fr {s n l q : Nat} {h h' : pH} (c : Chg (stA s) h h') : FrS s n l q h h' := ⟨c.mono (fun a k z => Or.inr z), NmLe_of c (stA_no (by decide)) (stA_out s).2⟩
theorem stA_rd {s : Nat} {h h' : pH} (c : Chg (stA s) h h') {a k : Nat} (ha : a < 138 ∨ (138 < a ∧ a < 151) ∨ 161 < a ∨ k < s) (hb : a ≠ 138) : rd h' a k = rd h a k := c.2.2.1 _ _ (fun z => by rcases z with ⟨h1, h2⟩ | ⟨h1, h2⟩ <;> omega)

/-- the heap behind begun() -/
def bgH (h : pH) (s : Nat) (k p n : Int32) : pH := wr (wr (wr (wr (wr (wr (wr (wr (wr (wr h 151 s k) 152 s p) 153 s n) 154 s (-1)) 155 s (-1)) 157 s (-1)) 159 s (-1)) 160 s (-1)) 161 s (-1)) 138 25 (Int32.ofNat (s + 1))
theorem bgH_chg (h : pH) (s : Nat) (k p n : Int32) : Chg (stA s) h (bgH h s k p n) := by
  unfold bgH
  refine Chg.trans ?_ (Chg.wr _ _ _ _ (Or.inl ⟨rfl, Or.inl rfl⟩))
  refine Chg.trans ?_ (stA_wr _ _ _ _ (by omega) (Nat.le_refl _))
  refine Chg.trans ?_ (stA_wr _ _ _ _ (by omega) (Nat.le_refl _))
  refine Chg.trans ?_ (stA_wr _ _ _ _ (by omega) (Nat.le_refl _))
  refine Chg.trans ?_ (stA_wr _ _ _ _ (by omega) (Nat.le_refl _))
  refine Chg.trans ?_ (stA_wr _ _ _ _ (by omega) (Nat.le_refl _))
  refine Chg.trans ?_ (stA_wr _ _ _ _ (by omega) (Nat.le_refl _))
  refine Chg.trans ?_ (stA_wr _ _ _ _ (by omega) (Nat.le_refl _))
  refine Chg.trans ?_ (stA_wr _ _ _ _ (by omega) (Nat.le_refl _))
  exact stA_wr _ _ _ _ (by omega) (Nat.le_refl _)
theorem bgH_rd {h : pH} (hs : Sg h) (s : Nat) (k p n : Int32) : rd (bgH h s k p n) 138 25 = Int32.ofNat (s + 1) ∧ rd (bgH h s k p n) 151 s = k ∧ rd (bgH h s k p n) 152 s = p ∧ rd (bgH h s k p n) 153 s = n ∧ rd (bgH h s k p n) 154 s = (-1) ∧ rd (bgH h s k p n) 155 s = (-1) ∧ rd (bgH h s k p n) 157 s = (-1) ∧ rd (bgH h s k p n) 159 s = (-1) ∧ rd (bgH h s k p n) 160 s = (-1) ∧ rd (bgH h s k p n) 161 s = (-1) := by
  have s1 := hs.wr 151 s k
  have s2 := s1.wr 152 s p
  have s3 := s2.wr 153 s n
  have s4 := s3.wr 154 s (-1)
  have s5 := s4.wr 155 s (-1)
  have s6 := s5.wr 157 s (-1)
  have s7 := s6.wr 159 s (-1)
  have s8 := s7.wr 160 s (-1)
  have s9 := s8.wr 161 s (-1)
  unfold bgH
  refine ⟨w_138_25 s9 _, ?_, ?_, ?_, ?_, ?_, ?_, ?_, ?_, ?_⟩
  · rw [rd_wr_ne _ _ (by omega), rd_wr_ne _ _ (by omega), rd_wr_ne _ _ (by omega), rd_wr_ne _ _ (by omega), rd_wr_ne _ _ (by omega), rd_wr_ne _ _ (by omega), rd_wr_ne _ _ (by omega), rd_wr_ne _ _ (by omega), rd_wr_ne _ _ (by omega), W_151 hs]
  · rw [rd_wr_ne _ _ (by omega), rd_wr_ne _ _ (by omega), rd_wr_ne _ _ (by omega), rd_wr_ne _ _ (by omega), rd_wr_ne _ _ (by omega), rd_wr_ne _ _ (by omega), rd_wr_ne _ _ (by omega), rd_wr_ne _ _ (by omega), W_152 s1]
  · rw [rd_wr_ne _ _ (by omega), rd_wr_ne _ _ (by omega), rd_wr_ne _ _ (by omega), rd_wr_ne _ _ (by omega), rd_wr_ne _ _ (by omega), rd_wr_ne _ _ (by omega), rd_wr_ne _ _ (by omega), W_153 s2]
  · rw [rd_wr_ne _ _ (by omega), rd_wr_ne _ _ (by omega), rd_wr_ne _ _ (by omega), rd_wr_ne _ _ (by omega), rd_wr_ne _ _ (by omega), rd_wr_ne _ _ (by omega), W_154 s3]
  · rw [rd_wr_ne _ _ (by omega), rd_wr_ne _ _ (by omega), rd_wr_ne _ _ (by omega), rd_wr_ne _ _ (by omega), rd_wr_ne _ _ (by omega), W_155 s4]
  · rw [rd_wr_ne _ _ (by omega), rd_wr_ne _ _ (by omega), rd_wr_ne _ _ (by omega), rd_wr_ne _ _ (by omega), W_157 s5]
  · rw [rd_wr_ne _ _ (by omega), rd_wr_ne _ _ (by omega), rd_wr_ne _ _ (by omega), W_159 s6]
  · rw [rd_wr_ne _ _ (by omega), rd_wr_ne _ _ (by omega), W_160 s7]
  · rw [rd_wr_ne _ _ (by omega), W_161 s8]
theorem e12_begun {N s : Nat} {h : pH} (hs : Sg h) (e25 : rd h 138 25 = Int32.ofNat s) (hb : s < 1600) (k : Int32) : fX12_begun N 138 k h = some (Int32.ofNat s, bgH h s k (rd h 138 6) (rd h 138 15)) := by
  have s1 := hs.wr 151 s k
  have s2 := s1.wr 152 s (rd h 138 6)
  have s3 := s2.wr 153 s (rd h 138 15)
  have s4 := s3.wr 154 s (-1)
  have s5 := s4.wr 155 s (-1)
  have s6 := s5.wr 157 s (-1)
  have s7 := s6.wr 159 s (-1)
  have s8 := s7.wr 160 s (-1)
  have s9 := s8.wr 161 s (-1)
  have e6 : rd (wr h 151 s k) 138 6 = rd h 138 6 := by rw [rd_wr_ne _ _ (by omega)]
  have e15 : rd (wr (wr h 151 s k) 152 s (rd h 138 6)) 138 15 = rd h 138 15 := by rw [rd_wr_ne _ _ (by omega), rd_wr_ne _ _ (by omega)]
  have e25' : rd (wr (wr (wr (wr (wr (wr (wr (wr (wr h 151 s k) 152 s (rd h 138 6)) 153 s (rd h 138 15)) 154 s (-1)) 155 s (-1)) 157 s (-1)) 159 s (-1)) 160 s (-1)) 161 s (-1)) 138 25 = Int32.ofNat s := by rw [rd_wr_ne _ _ (by omega), rd_wr_ne _ _ (by omega), rd_wr_ne _ _ (by omega), rd_wr_ne _ _ (by omega), rd_wr_ne _ _ (by omega), rd_wr_ne _ _ (by omega), rd_wr_ne _ _ (by omega), rd_wr_ne _ _ (by omega), rd_wr_ne _ _ (by omega), e25]
  unfold fX12_begun bgH
  rw [if_pos (o_138 hs), g_138_25 hs, Option.bind_some, e25, R_138_26 hs, Option.bind_some, T_151 hs hb, Option.bind_some, R_138_27 s1, Option.bind_some, g_138_6 s1, Option.bind_some, e6, T_152 s1 hb, Option.bind_some, R_138_28 s2, Option.bind_some, g_138_15 s2, Option.bind_some, e15, T_153 s2 hb, Option.bind_some, R_138_29 s3, Option.bind_some, T_154 s3 hb, Option.bind_some, R_138_30 s4, Option.bind_some, T_155 s4 hb, Option.bind_some, R_138_32 s5, Option.bind_some, T_157 s5 hb, Option.bind_some, R_138_34 s6, Option.bind_some, T_159 s6 hb, Option.bind_some, R_138_35 s7, Option.bind_some, T_160 s7 hb, Option.bind_some, R_138_36 s8, Option.bind_some, T_161 s8 hb, Option.bind_some, g_138_25 s9, Option.bind_some, e25', i_add1, p_138_25 s9, Option.bind_some]
theorem At.begun {N t r n l q s : Nat} {T : Txt} {h : pH} (a : At T t r n l q h) (e25 : rd h 138 25 = Int32.ofNat s) (hb : s < 1600) (k : Int32) : ∃ h', fX12_begun N 138 k h = some (Int32.ofNat s, h') ∧ At T t r n l q h' ∧ rd h' 138 25 = Int32.ofNat (s + 1) ∧ FrS s n l q h h' ∧ rd h' 151 s = k ∧ rd h' 152 s = Int32.ofNat (tkP T t) ∧ rd h' 153 s = Int32.ofNat n ∧ rd h' 154 s = -1 ∧ rd h' 155 s = -1 ∧ rd h' 157 s = -1 ∧ rd h' 159 s = -1 ∧ rd h' 160 s = -1 ∧ rd h' 161 s = -1 := by
  have e6 := a.1.2.2.2.2.2.2.2.2.1
  have e15 := a.2.2.2.1
  have c := bgH_chg h s k (rd h 138 6) (rd h 138 15)
  obtain ⟨r0, r1, r2, r3, r4⟩ := bgH_rd a.sg s k (rd h 138 6) (rd h 138 15)
  exact ⟨_, e12_begun a.sg e25 hb k, a.sta c, r0, stA_fr c, r1, r2.trans e6, r3.trans e15, r4⟩
theorem e_type {N w n l q : Nat} {h : pH} (he : Er w n l q h) : ∃ h' v, fX12_type N 138 h = some (v, h') ∧ Er w n l q h' ∧ Fr n l q h h' := by
  obtain ⟨h1, r1, a1, f1⟩ := he.passes (N := N) 0
  refine ⟨h1, 10 + rd h 138 8, ?_, a1, f1⟩
  unfold fX12_type fX12_type_43 fX12_type_65 fX12_isType
  rw [if_pos (o_138 he.sg), e_isKey _ he.1, Option.bind_some]
  dsimp only
  rw [if_pos rfl, e_isKey _ he.1, Option.bind_some]
  dsimp only
  rw [if_pos rfl, e_isKey _ he.1, Option.bind_some]
  dsimp only
  rw [if_pos rfl, g_138_8 he.sg, Option.bind_some, if_pos (o_138 he.sg), e_isKey _ he.1, Option.bind_some]
  dsimp only
  rw [if_pos rfl, e_isKey _ he.1, Option.bind_some]
  dsimp only
  rw [if_pos rfl, e_isKey _ he.1, Option.bind_some]
  dsimp only
  rw [if_pos rfl, Option.bind_some]
  dsimp only
  rw [if_pos rfl, g_138_5 he.sg, Option.bind_some, he.1.2.2.2, if_neg (show ¬ (0 : Int32) = 2 by decide), r1, Option.bind_some]
theorem r_isType {N t : Nat} {T : Txt} {h : pH} (hr : RP T t h) : fX12_isType N 138 h = some (if tkK T t = 2 ∨ tkK T t = 3 ∨ tkK T t = 4 then 1 else 0, h) := by
  unfold fX12_isType
  rw [if_pos (o_138 hr.1.1), show (2 : Int32) = Int32.ofNat 2 from rfl, r_isKey hr (by decide) (by decide), Option.bind_some]
  dsimp only
  by_cases k2 : tkK T t = Int32.ofNat 2
  · rw [if_pos k2, if_neg (show ¬ (1 : Int32) = 0 by decide), if_pos (Or.inl k2)]
  rw [if_neg k2, if_pos rfl, show (3 : Int32) = Int32.ofNat 3 from rfl, r_isKey hr (by decide) (by decide), Option.bind_some]
  dsimp only
  by_cases k3 : tkK T t = Int32.ofNat 3
  · rw [if_pos k3, if_neg (show ¬ (1 : Int32) = 0 by decide), if_pos (Or.inr (Or.inl k3))]
  rw [if_neg k3, if_pos rfl, show (4 : Int32) = Int32.ofNat 4 from rfl, r_isKey hr (by decide) (by decide), Option.bind_some]
  dsimp only
  by_cases k4 : tkK T t = Int32.ofNat 4
  · rw [if_pos k4, if_neg (show ¬ (1 : Int32) = 0 by decide), if_pos (Or.inr (Or.inr k4))]
  · rw [if_neg k4, if_pos rfl, if_neg (fun z => z.elim k2 (fun z => z.elim k3 k4))]
theorem ty_eq (T : Txt) (t : Nat) : (tkS T).ty t = if tkK T t = 2 then some 0 else if tkK T t = 3 then some 1 else if tkK T t = 4 then some 2 else if tkK T t = 22 then some (4 + t) else none := rfl
/-- a type -/
theorem At.type {N t r n l q : Nat} {T : Txt} {h : pH} (a : At T t r n l q h) (hN : 3200 ≤ N) : match (tkS T).ty t with
    | some y => ∃ h' v, fX12_type N 138 h = some (v, h') ∧ tyR T h y v ∧ At T (t + 1) r n l q h' ∧ Fr n l q h h' ∧ tkK T t ≠ 0
    | none => ∃ h' v, fX12_type N 138 h = some (v, h') ∧ Er (tkP T t) n l q h' ∧ Fr n l q h h' := by
  have hs := a.sg
  obtain ⟨id, hw, hwn⟩ := a.1.2.2.2.2.2.2.1
  have good : ∀ v y, (tkK T t ≠ 0 ∧ tkK T t ≠ 24) → tyR T h y v → (tkK T t = 2 ∨ tkK T t = 3 ∨ tkK T t = 4 ∨ tkK T t = 22) → ∃ h' v', fX12_type_43 N 138 v h = some (v', h') ∧ tyR T h y v' ∧ At T (t + 1) r n l q h' ∧ Fr n l q h h' ∧ tkK T t ≠ 0 := by
    intro v y hne ht hk
    obtain ⟨h1, r1, a1, f1⟩ := a.passes1 (N := N) (g := 1) (by decide) hN hne.1 hne.2
    refine ⟨h1, v, ?_, ht, a1, f1, hne.1⟩
    unfold fX12_type_43 fX12_type_60 fX12_type_65
    rw [r_isType a.1, Option.bind_some]
    dsimp only
    by_cases k : tkK T t = 2 ∨ tkK T t = 3 ∨ tkK T t = 4
    · rw [if_pos k, if_neg (show ¬ (1 : Int32) = 0 by decide), r1, Option.bind_some]
    · have k22 : tkK T t = 22 := by
        rcases hk with z | z | z | z
        · exact absurd (Or.inl z) k
        · exact absurd (Or.inr (Or.inl z)) k
        · exact absurd (Or.inr (Or.inr z)) k
        · exact z
      rw [if_neg k, if_pos rfl, g_138_5 hs, Option.bind_some, hw.code, k22, if_pos (show wcode 22 = 2 by decide), r1, Option.bind_some]
  rw [ty_eq]
  unfold fX12_type
  rw [if_pos (o_138 hs), show (2 : Int32) = Int32.ofNat 2 from rfl, r_isKey a.1 (by decide) (by decide), Option.bind_some]
  dsimp only
  by_cases k2 : tkK T t = Int32.ofNat 2
  · rw [if_pos (show tkK T t = Int32.ofNat 2 from k2), if_pos k2, if_neg (show ¬ (1 : Int32) = 0 by decide)]
    exact good 0 0 ⟨by rw [k2]; decide, by rw [k2]; decide⟩ rfl (Or.inl k2)
  rw [if_neg k2, if_neg k2, if_pos rfl, show (3 : Int32) = Int32.ofNat 3 from rfl, r_isKey a.1 (by decide) (by decide), Option.bind_some]
  dsimp only
  by_cases k3 : tkK T t = Int32.ofNat 3
  · rw [if_pos k3, if_pos k3, if_neg (show ¬ (1 : Int32) = 0 by decide)]
    exact good 1 1 ⟨by rw [k3]; decide, by rw [k3]; decide⟩ rfl (Or.inr (Or.inl k3))
  rw [if_neg k3, if_neg k3, if_pos rfl, show (4 : Int32) = Int32.ofNat 4 from rfl, r_isKey a.1 (by decide) (by decide), Option.bind_some]
  dsimp only
  by_cases k4 : tkK T t = Int32.ofNat 4
  · rw [if_pos k4, if_pos k4, if_neg (show ¬ (1 : Int32) = 0 by decide)]
    exact good 2 2 ⟨by rw [k4]; decide, by rw [k4]; decide⟩ rfl (Or.inr (Or.inr (Or.inl k4)))
  rw [if_neg k4, if_neg k4, if_pos rfl, g_138_8 hs, Option.bind_some]
  by_cases k22 : tkK T t = 22
  · rw [if_pos k22, hw.name k22]
    refine good _ (4 + t) ⟨by rw [k22]; decide, by rw [k22]; decide⟩ ?_ (Or.inr (Or.inr (Or.inr k22)))
    unfold tyR
    rw [if_neg (by omega)]
    exact ⟨Int32.ofNat id, ⟨id, rfl, by rw [show 4 + t - 4 = t by omega]; exact hwn k22⟩, rfl⟩
  · rw [if_neg k22]
    obtain ⟨h1, r1, a1, f1⟩ := a.passes0 (N := N)
    refine ⟨h1, 10 + rd h 138 8, ?_, a1, f1⟩
    unfold fX12_type_43 fX12_type_60 fX12_type_65
    rw [r_isType a.1, if_neg (fun z => z.elim k2 (fun z => z.elim k3 k4)), Option.bind_some]
    dsimp only
    rw [if_pos rfl, g_138_5 hs, Option.bind_some, hw.code, if_neg (fun z => k22 (wcode_2 z)), r1, Option.bind_some]
/-- ( EXPRESSION ) -/
theorem At.paren {N t r n l q : Nat} {T : Txt} {h : pH} (a : At T t r n l q h) (hN : 3200 ≤ N) : PostE T ((tkS T).brk r ((tkS T).expr (r - 1)) 40 41 t) t r n l q h (fX12_inParentheses N 138 h) := by
  show PostE T (if tkK T t ≠ 40 ∨ r = 0 then no (tkP T t) else Pr.bind ((tkS T).expr (r - 1) (t + 1)) fun x t' => if tkK T t' = 41 then ok x (t' + 1) else no (tkP T t')) t r n l q h _
  unfold fX12_inParentheses fX12_inParentheses_21
  rw [if_pos (o_138 a.sg), r_isSign a.1 (k := 40) (by unfold isSK isSgn; simp) (by decide), Option.bind_some]
  dsimp only
  by_cases hc : tkK T t ≠ 40 ∨ r = 0
  · rw [if_pos hc]
    obtain ⟨h1, e1, a1, f1⟩ := a.opens0 (N := N) (if tkK T t = 40 then 1 else 0) (hc.imp (fun z => if_neg z) (fun z => z))
    obtain ⟨h2, e2, a2, f2⟩ := a1.closes (N := N) 41
    rw [e1, Option.bind_some]
    dsimp only
    rw [if_pos rfl, e2, Option.bind_some]
    exact fail_post a2 (f1.trans f2) (Nat.le_refl _)
  · rw [if_neg hc]
    have hK : tkK T t = 40 := Decidable.not_not.mp (fun z => hc (Or.inl z))
    obtain ⟨r', rfl⟩ : ∃ r', r = r' + 1 := ⟨r - 1, by have : r ≠ 0 := fun z => hc (Or.inr z); omega⟩
    have hr := a.2.1
    rw [if_pos hK]
    obtain ⟨h1, e1, a1, f1⟩ := a.opens1 (N := N) (g := 1) (by decide) hN (by rw [hK]; decide) (by rw [hK]; decide)
    have hm := tk_mono T t (by rw [hK]; decide)
    rw [e1, Option.bind_some]
    dsimp only
    rw [if_neg (show ¬ (1 : Int32) = 0 by decide), a1.isO, Option.bind_some, show r' + 1 - 1 = r' by omega]
    exact PostE_back (PostE_from (close_post (N := N) (k := 41) (c := 41) (e12_expression hN a1) hr (by unfold isSK isSgn; simp) (by decide) hN) (by omega)) f1
theorem Er.paren {N w n l q : Nat} {h : pH} (he : Er w n l q h) : ∃ h', fX12_inParentheses N 138 h = some (-1, h') ∧ Er w n l q h' ∧ Fr n l q h h' := by
  obtain ⟨h1, e1, a1, f1⟩ := he.opens (N := N) 0
  obtain ⟨h2, e2, a2, f2⟩ := a1.closes (N := N) 41
  refine ⟨h2, ?_, a2, f1.trans f2⟩
  unfold fX12_inParentheses fX12_inParentheses_21
  rw [if_pos (o_138 he.sg), e_isSign _ he.1, Option.bind_some]
  dsimp only
  rw [e1, Option.bind_some]
  dsimp only
  rw [if_pos rfl, e2, Option.bind_some]
/-- a look at the next word, and back -/
theorem At.ahead {N t r n l q : Nat} {T : Txt} {h : pH} (a : At T t r n l q h) (hN : 3200 ≤ N) (hK : tkK T t = 22) : ∃ h', fX12_isNameAhead N 138 h = some (if tkK T (t + 1) = 22 then 1 else 0, h') ∧ At T t r n l q h' ∧ Fr n l q h h' := by
  have hs := a.sg
  obtain ⟨h1, r1, p1, c1, m1⟩ := e12_nextRP a.1 hN (by rw [hK]; decide) (by rw [hK]; decide)
  have s1 : Sg h1 := c1.sg hs
  have s2 := s1.wr 138 4 (rd h 138 4)
  have s3 := s2.wr 138 5 (rd h 138 5)
  have s4 := s3.wr 138 6 (rd h 138 6)
  have s5 := s4.wr 138 7 (rd h 138 7)
  have s6 := s5.wr 138 8 (rd h 138 8)
  have cc : ∀ (g : pH) (k : Nat) (x : Int32), k ∈ [4, 5, 6, 7, 8, 11] → Chg NxB g (wr g 138 k x) := fun g k x hk => Chg.wr g 138 k x (Or.inl ⟨rfl, hk⟩)
  generalize hh : wr (wr (wr (wr (wr (wr h1 138 4 (rd h 138 4)) 138 5 (rd h 138 5)) 138 6 (rd h 138 6)) 138 7 (rd h 138 7)) 138 8 (rd h 138 8)) 138 11 (rd h 138 11) = h'
  have c' : Chg NxB h h' := by
    rw [← hh]
    exact (((((c1.trans (cc _ 4 _ (by decide))).trans (cc _ 5 _ (by decide))).trans (cc _ 6 _ (by decide))).trans (cc _ 7 _ (by decide))).trans (cc _ 8 _ (by decide))).trans (cc _ 11 _ (by decide))
  have back : ∀ k, rd h' 138 k = rd h 138 k := by
    intro k
    by_cases hk : k ∈ [4, 5, 6, 7, 8, 11]
    · rw [← hh]
      simp only [List.mem_cons, List.not_mem_nil, or_false] at hk
      rcases hk with z | z | z | z | z | z <;> subst z
      · rw [rd_wr_ne _ _ (by omega), rd_wr_ne _ _ (by omega), rd_wr_ne _ _ (by omega), rd_wr_ne _ _ (by omega), rd_wr_ne _ _ (by omega), w_138_4 s1]
      · rw [rd_wr_ne _ _ (by omega), rd_wr_ne _ _ (by omega), rd_wr_ne _ _ (by omega), rd_wr_ne _ _ (by omega), w_138_5 s2]
      · rw [rd_wr_ne _ _ (by omega), rd_wr_ne _ _ (by omega), rd_wr_ne _ _ (by omega), w_138_6 s3]
      · rw [rd_wr_ne _ _ (by omega), rd_wr_ne _ _ (by omega), w_138_7 s4]
      · rw [rd_wr_ne _ _ (by omega), w_138_8 s5]
      · rw [w_138_11 s6]
    · exact c'.2.2.1 _ _ (NxB_ne (Or.inr hk) (by decide) (by decide))
  have same : ∀ b i, b ≠ 138 → rd h' b i = rd h1 b i := by
    intro b i hb
    rw [← hh, rd_wr_ne _ _ (by omega), rd_wr_ne _ _ (by omega), rd_wr_ne _ _ (by omega), rd_wr_ne _ _ (by omega), rd_wr_ne _ _ (by omega), rd_wr_ne _ _ (by omega)]
  have tx1 : ∀ i, tx h' i = tx h1 i := fun i => same 140 i (by decide)
  have mm : nmM h' = nmM h := by unfold nmM; rw [back 11]
  have nr : ∀ k, nmR h' k = nmR h1 k := by
    intro k
    unfold nmR nmF nmN
    rw [same 141 k (by decide), same 142 k (by decide), show tx h' = tx h1 from funext tx1]
  have fr : Fr n l q h h' := ⟨c'.mono (fun _ _ z => NxB_PB z), Nat.le_of_eq mm.symm, fun k hk => (nr k).trans (m1.2 k hk)⟩
  obtain ⟨⟨ht, hx, hl, hn, hi, hb, ⟨id, hw, hwn⟩, e4, e6, e7, e9⟩, rest⟩ := a
  obtain ⟨ht1, hx1, hl1, hn1, hi1, hb1, ⟨id1, hw1, hwn1⟩, e41⟩ := p1
  have hs' : Sg h' := c'.sg hs
  have hns : nmsOk h' (nmM h') := by
    rw [mm]
    refine ⟨hs', by rw [back 11]; exact hn.2.1, hn.2.2.1, fun k hk => ?_⟩
    have := hn1.2.2.2 k (Nat.lt_of_lt_of_le hk m1.1)
    unfold nmF nmN at this ⊢
    rw [same 141 k (by decide), same 142 k (by decide)]
    exact this
  refine ⟨h', ?_, ⟨⟨⟨hs', by unfold tl; rw [back 3]; exact ht.2.1, by unfold tl; rw [back 3]; exact ht.2.2⟩, ?_, ?_, hns, ?_, by rw [mm]; exact hb, ⟨id, ?_, fun z => ?_⟩, by rw [back 4]; exact e4, by rw [back 6]; exact e6, by rw [back 7]; exact e7, by rw [back 9]; exact e9⟩, ?_⟩, fr⟩
  · unfold fX12_isNameAhead fX12_isNameAhead_50
    have key : ∀ b : Int32, ((putI h1 138 12 4 (rd h 138 4)).bind fun h1 => (putI h1 138 12 5 (rd h 138 5)).bind fun h2 => (putI h2 138 12 6 (rd h 138 6)).bind fun h3 => (putI h3 138 12 7 (rd h 138 7)).bind fun h4 => (putI h4 138 12 8 (rd h 138 8)).bind fun h5 => (putI h5 138 12 11 (rd h 138 11)).bind fun h6 => if pRet .boolean b = true then some (b, h6) else none) = if pRet .boolean b = true then some (b, h') else none := by
      intro b
      rw [p_138_4 s1, Option.bind_some, p_138_5 s2, Option.bind_some, p_138_6 s3, Option.bind_some, p_138_7 s4, Option.bind_some, p_138_8 s5, Option.bind_some, p_138_11 s6, Option.bind_some, hh]
    rw [if_pos (o_138 hs), g_138_4 hs, Option.bind_some, g_138_5 hs, Option.bind_some, g_138_6 hs, Option.bind_some, g_138_7 hs, Option.bind_some, g_138_8 hs, Option.bind_some, g_138_11 hs, Option.bind_some, r1, Option.bind_some, g_138_5 s1, Option.bind_some, hw1.code]
    by_cases k22 : tkK T (t + 1) = 22
    · rw [if_pos k22, if_pos (by rw [k22]; decide), key 1, if_pos (by decide)]
    · rw [if_neg k22, if_neg (fun z => k22 (wcode_2 z)), key 0, if_pos (by decide)]
  · rw [← hx1]; exact funext tx1
  · unfold tl; rw [back 3]; exact hl
  · intro i j i1 j1 e
    rw [mm] at i1 j1
    rw [nr, nr, m1.2 i i1, m1.2 j j1] at e
    exact hi i j i1 j1 e
  · unfold WordIs
    rw [back 5, back 8]
    exact hw
  · rw [mm, nr]
    exact ⟨(hwn z).1, (m1.2 id (hwn z).1).trans (hwn z).2⟩
  · obtain ⟨h2, h3, h4, h5, h6, b⟩ := rest
    exact ⟨h2, by rw [back 10]; exact h3, by rw [back 15]; exact h4, by rw [back 21]; exact h5, by rw [back 23]; exact h6, b⟩
