/-! ===== THE CLASS' TYPER: pieces that open, turn, leave and merge ===== -/
/-- what statements from s to t at level d change -/
def svA (s t d a k : Nat) : Prop := exA s t a k ∨ (a = 41 ∧ s ≤ k ∧ k < t) ∨ a = 53 ∨ a = 54 ∨ a = 55 ∨ (a = 52 ∧ (k = 2 ∨ k = 3 ∨ k = 5 ∨ k = 11)) ∨ (57 + d ≤ a ∧ a ≤ 88) ∨ (90 + d ≤ a ∧ a ≤ 121) ∨ ((a = 122 ∨ a = 123 ∨ a = 124) ∧ d ≤ k)
theorem svA.mono {s t d s' t' d' a k : Nat} (h : svA s' t' d' a k) (h1 : s ≤ s') (h2 : t' ≤ t) (h3 : d ≤ d') : svA s t d a k := by
  rcases h with h | h | h | h | h | h | h | h | h
  · exact Or.inl (h.mono h1 h2)
  · exact Or.inr (Or.inl ⟨h.1, by omega, by omega⟩)
  · exact Or.inr (Or.inr (Or.inl h))
  · exact Or.inr (Or.inr (Or.inr (Or.inl h)))
  · exact Or.inr (Or.inr (Or.inr (Or.inr (Or.inl h))))
  · exact Or.inr (Or.inr (Or.inr (Or.inr (Or.inr (Or.inl h)))))
  · exact Or.inr (Or.inr (Or.inr (Or.inr (Or.inr (Or.inr (Or.inl ⟨by omega, h.2⟩))))))
  · exact Or.inr (Or.inr (Or.inr (Or.inr (Or.inr (Or.inr (Or.inr (Or.inl ⟨by omega, h.2⟩)))))))
  · exact Or.inr (Or.inr (Or.inr (Or.inr (Or.inr (Or.inr (Or.inr (Or.inr ⟨h.1, by omega⟩)))))))
theorem svA.ck {s t d : Nat} (a k : Nat) (h : ckA a) : ¬ svA s t d a k := by
  unfold ckA ctA at h
  unfold svA exA pyA
  omega
theorem tlA.st {i d a k : Nat} (h : tlA i a k) : svA i (i + 1) d a k := by
  rcases h with h | ⟨h1, h2⟩ | h | h | h | h
  · exact Or.inl (Or.inl h)
  · rcases h1 with h1 | h1 | h1
    · exact Or.inl (Or.inr ⟨Or.inl h1, by omega, by omega⟩)
    · exact Or.inl (Or.inr ⟨Or.inr (Or.inl h1), by omega, by omega⟩)
    · exact Or.inr (Or.inl ⟨h1, by omega, by omega⟩)
  · exact Or.inr (Or.inr (Or.inl h))
  · exact Or.inr (Or.inr (Or.inr (Or.inl h)))
  · exact Or.inr (Or.inr (Or.inr (Or.inr (Or.inl h))))
  · exact Or.inr (Or.inr (Or.inr (Or.inr (Or.inr (Or.inl ⟨h.1, by omega⟩)))))
theorem exA.st {s t d a k : Nat} (h : exA s t a k) : svA s t d a k := Or.inl h
theorem lvA.st {s t d a k : Nat} (hd : d < 32) (h : lvA d a k) : svA s t d a k := by
  rcases h with h | h | h | h | h
  · exact Or.inr (Or.inr (Or.inr (Or.inr (Or.inr (Or.inr (Or.inl ⟨by omega, by omega⟩))))))
  · exact Or.inr (Or.inr (Or.inr (Or.inr (Or.inr (Or.inr (Or.inr (Or.inl ⟨by omega, by omega⟩)))))))
  · exact Or.inr (Or.inr (Or.inr (Or.inr (Or.inl h))))
  · exact Or.inr (Or.inr (Or.inr (Or.inr (Or.inr (Or.inr (Or.inr (Or.inr ⟨h.1, by omega⟩)))))))
  · exact Or.inr (Or.inr (Or.inr (Or.inr (Or.inr (Or.inl ⟨h.1, by omega⟩)))))
theorem pyA.st {s t d a k : Nat} (h : pyA a k) : svA s t d a k := Or.inl (Or.inl h)
/-- what the piece i changes when it is told fine or not -/
def fnA (i d a k : Nat) : Prop := svA i (i + 1) d a k ∧ a ≠ 44
theorem fnA.ck {i d : Nat} (a k : Nat) (h : ckA a) : ¬ fnA i d a k := fun z => svA.ck a k h z.1
theorem tlA.fn {i d a k : Nat} (h : tlA i a k) : fnA i d a k := ⟨h.st, by unfold tlA pyA at h; omega⟩
theorem lvA.fn {i d a k : Nat} (hd : d < 32) (h : lvA d a k) : fnA i d a k := ⟨h.st hd, by unfold lvA at h; omega⟩
theorem pyA.fn {i d a k : Nat} (h : pyA a k) : fnA i d a k := ⟨pyA.st h, by unfold pyA at h; omega⟩
/-- what comes of a piece that is told fine or not: level d may be changed, dr is the level then -/
def FnL (P : Pgm) (D : List Int32 → Prop) (num : List Int32 → Nat) (M X d dr i : Nat) (Z : pH → Prop) (o : Option EnvV) (x : Option (Int32 × pH)) (h : pH) : Prop := match o with
  | none => ∃ h', x = some (0, h') ∧ Chg (fnA i d) h h'
  | some E' => ∃ h' M', x = some (1, h') ∧ CSc P D num E' M' h' ∧ CSt P [] X h' ∧ rd h' 52 11 = Int32.ofNat dr ∧ M ≤ M' ∧ Z h' ∧ Chg (fnA i d) h h'
theorem FnS.toL {P : Pgm} {D : List Int32 → Prop} {num : List Int32 → Nat} {M X i d : Nat} {Z : pH → Prop} {o : Option EnvV} {x : Option (Int32 × pH)} {h : pH} (q : FnS P D num M X i Z o x h) (h11 : rd h 52 11 = Int32.ofNat d) : FnL P D num M X d d i Z o x h := by
  cases o with
  | none =>
    obtain ⟨h', e, g⟩ := q
    exact ⟨h', e, g.mono (fun a k z => z.fn)⟩
  | some l =>
    obtain ⟨h', M', e, r1, r2, r3, r4, r5⟩ := q
    exact ⟨h', M', e, r1, r2, by rw [r5.2.2.1 _ _ (by unfold tlA pyA; omega)]; exact h11, r3, r4, r5.mono (fun a k z => z.fn)⟩
theorem FnL.wrap {P : Pgm} {D : List Int32 → Prop} {num : List Int32 → Nat} {M X d dr i : Nat} {Z : pH → Prop} {o : Option EnvV} {x : Option (Int32 × pH)} {h : pH} (q : FnL P D num M X d dr i Z o x h) : FnL P D num M X d dr i Z o (x.bind fun q => if pRet .boolean q.1 = true then some (q.1, q.2) else none) h := by
  cases o with
  | none =>
    obtain ⟨h', e, g⟩ := q
    exact ⟨h', by rw [e, Option.bind_some]; exact if_pos (pRet_01 (Or.inl rfl)), g⟩
  | some l =>
    obtain ⟨h', M', e, r⟩ := q
    exact ⟨h', M', by rw [e, Option.bind_some]; exact if_pos (pRet_01 (Or.inr rfl)), r⟩
theorem fine_38 {P : Pgm} {D : List Int32 → Prop} {num : List Int32 → Nat} {E : EnvV} {M X N i d t k : Nat} {h : pH} (hk : k = 38 ∨ k = 39) (q : CK P D num h) (qe : CSc P D num E M h) (qs : CSt P ([] ++ [t]) X h) (h11 : rd h 52 11 = Int32.ofNat d) (hd : d < 32) : FnL P D num M X d (d + 1) i (fun h' => rd h' 39 i = rd h 39 i ∧ rd h' 40 i = rd h 40 i ∧ KSc E d h') (if t = 1 then some E else none) (fX9_isFine N 51 (Int32.ofNat i) (Int32.ofNat k) h) h := by
  have hs := q.1.1
  have hn : P.n ≤ 400 := by have := q.1.2.2.2.2.2.1; omega
  obtain ⟨h1, e1, e2, e3, e4, g1⟩ := CSc.open_ (N := N) hs qe h11 hd
  have hs1 : Sg h1 := hs.of g1.1
  obtain ⟨h2, f1, f2, t1, t2, g2, s2⟩ := CSt.pop1 (N := N) hs1 (qs.chg g1 (fun a k z => by unfold lvA; omega))
  have gg : Chg (fnA i d) h h2 := (g1.mono (fun a k z => z.fn hd)).trans (g2.mono (fun a k z => pyA.fn z))
  have W : FnL P D num M X d (d + 1) i (fun h' => rd h' 39 i = rd h 39 i ∧ rd h' 40 i = rd h 40 i ∧ KSc E d h') (if t = 1 then some E else none) (fX9_isWorkFine_36 N 51 h) h := by
    unfold fX9_isWorkFine_36
    rw [R_51_3 hs, Option.bind_some, e1, Option.bind_some, f1, Option.bind_some]
    dsimp only
    rw [ctI_e1 hn t1]
    by_cases z : t = 1
    · rw [if_pos z, if_pos z]
      exact ⟨h2, M, rfl, e2.chg g2 (fun a k z => by unfold pyA; omega), f2, by rw [g2.2.2.1 _ _ (by unfold pyA; omega)]; exact e4, Nat.le_refl _, ⟨by rw [g2.2.2.1 _ _ (by unfold pyA; omega), g1.2.2.1 _ _ (by unfold lvA; omega)], by rw [g2.2.2.1 _ _ (by unfold pyA; omega), g1.2.2.1 _ _ (by unfold lvA; omega)], e3.chg g2 (by unfold pyA; omega) (by unfold pyA; omega) (by unfold pyA; omega)⟩, gg⟩
    · rw [if_neg z, if_neg z]
      exact ⟨h2, rfl, gg⟩
  unfold fX9_isFine
  rw [if_pos (o_51 hs)]
  rcases hk with rfl | rfl
  · refine FnL.wrap ?_
    unfold fX9_isWorkFine
    rw [if_pos (o_51 hs)]
    exact W
  · refine FnL.wrap ?_
    unfold fX9_isWorkFine
    rw [if_pos (o_51 hs)]
    exact W
theorem fine_54 {P : Pgm} {D : List Int32 → Prop} {num : List Int32 → Nat} {E E0 : EnvV} {M X N i d : Nat} {h : pH} (q : CK P D num h) (qe : CSc P D num E M h) (qs : CSt P [] X h) (h11 : rd h 52 11 = Int32.ofNat (d + 1)) (hd : d < 32) (kk : KSc E0 d h) (p : Pfx E0 E) : FnL P D num M X d (d + 1) i (fun h' => rd h' 39 i = rd h 39 i ∧ KSc E0 d h' ∧ TSc E E0.1.length d h') (some E0) (fX9_isFine N 51 (Int32.ofNat i) (Int32.ofNat 54) h) h := by
  have hs := q.1.1
  obtain ⟨h1, e1, e2, e3, e4, e5, g1⟩ := CSc.turn (N := N) hs qe kk p h11 hd
  unfold fX9_isFine
  rw [if_pos (o_51 hs)]
  refine FnL.wrap ?_
  unfold fX9_isSilentFine
  rw [if_pos (o_51 hs)]
  show FnL P D num M X d (d + 1) i _ (some E0) ((getR h 51 9 3).bind fun t26 => (fX8_turn N t26 h).bind fun h27 => some ((1 : Int32), h27)) h
  rw [R_51_3 hs, Option.bind_some, e1, Option.bind_some]
  exact ⟨h1, M, rfl, e2, qs.chg g1 (fun a k z => by unfold lvA; omega), e5, Nat.le_refl _, ⟨g1.2.2.1 _ _ (by unfold lvA; omega), e3, e4⟩, g1.mono (fun a k z => z.fn hd)⟩
theorem fine_55 {P : Pgm} {D : List Int32 → Prop} {num : List Int32 → Nat} {E E0 : EnvV} {M X N i d k : Nat} {h : pH} (hk : k = 55 ∨ k = 57) (q : CK P D num h) (qe : CSc P D num E M h) (qs : CSt P [] X h) (h11 : rd h 52 11 = Int32.ofNat (d + 1)) (hd : d < 32) (kk : KSc E0 d h) (p : Pfx E0 E) : FnL P D num M X d d i (fun h' => rd h' 39 i = rd h 39 i) (some E0) (fX9_isFine N 51 (Int32.ofNat i) (Int32.ofNat k) h) h := by
  have hs := q.1.1
  obtain ⟨h1, e1, e2, e3, g1⟩ := CSc.leave (N := N) hs qe kk p h11 hd
  have W : FnL P D num M X d d i (fun h' => rd h' 39 i = rd h 39 i) (some E0) (fX9_isSilentFine_116 N 51 h) h := by
    unfold fX9_isSilentFine_116
    rw [R_51_3 hs, Option.bind_some, e1, Option.bind_some]
    exact ⟨h1, M, rfl, e2, qs.chg g1 (fun a k z => by unfold lvA; omega), e3, Nat.le_refl _, g1.2.2.1 _ _ (by unfold lvA; omega), g1.mono (fun a k z => z.fn hd)⟩
  unfold fX9_isFine
  rw [if_pos (o_51 hs)]
  rcases hk with rfl | rfl
  · refine FnL.wrap ?_
    unfold fX9_isSilentFine
    rw [if_pos (o_51 hs)]
    exact W
  · refine FnL.wrap ?_
    unfold fX9_isSilentFine
    rw [if_pos (o_51 hs)]
    exact W
theorem fine_56 {P : Pgm} {D : List Int32 → Prop} {num : List Int32 → Nat} {E0 E1 E2 : EnvV} {M X N i d k : Nat} {h : pH} (hN : 1100 ≤ N) (hk : k = 56 ∨ k = 60) (q : CK P D num h) (qe : CSc P D num E2 M h) (qs : CSt P [] X h) (h11 : rd h 52 11 = Int32.ofNat (d + 1)) (hd : d < 32) (kk : KSc E0 d h) (tt : TSc E1 E0.1.length d h) (p : Pfx E0 E2) : FnL P D num M X d d i (fun h' => rd h' 39 i = rd h 39 i) (some (E0.join E1 E2)) (fX9_isFine N 51 (Int32.ofNat i) (Int32.ofNat k) h) h := by
  have hs := q.1.1
  obtain ⟨h1, e1, e2, e3, g1⟩ := CSc.merge (N := N) hN hs qe kk tt p h11 hd
  have W : FnL P D num M X d d i (fun h' => rd h' 39 i = rd h 39 i) (some (E0.join E1 E2)) (fX9_isSilentFine_125 N 51 h) h := by
    unfold fX9_isSilentFine_125
    rw [R_51_3 hs, Option.bind_some, e1, Option.bind_some]
    exact ⟨h1, M, rfl, e2, qs.chg g1 (fun a k z => by unfold lvA; omega), e3, Nat.le_refl _, g1.2.2.1 _ _ (by unfold lvA; omega), g1.mono (fun a k z => z.fn hd)⟩
  unfold fX9_isFine
  rw [if_pos (o_51 hs)]
  rcases hk with rfl | rfl
  · refine FnL.wrap ?_
    unfold fX9_isSilentFine
    rw [if_pos (o_51 hs)]
    exact W
  · refine FnL.wrap ?_
    unfold fX9_isSilentFine
    rw [if_pos (o_51 hs)]
    exact W
theorem fine_58 {P : Pgm} {D : List Int32 → Prop} {num : List Int32 → Nat} {E : EnvV} {M X N i d : Nat} {h : pH} (q : CK P D num h) (qe : CSc P D num E M h) (qs : CSt P [] X h) (h11 : rd h 52 11 = Int32.ofNat d) (hd : d < 32) : FnL P D num M X d (d + 1) i (fun h' => rd h' 39 i = rd h 39 i ∧ rd h' 40 i = rd h 40 i ∧ KSc E d h') (some E) (fX9_isFine N 51 (Int32.ofNat i) (Int32.ofNat 58) h) h := by
  have hs := q.1.1
  obtain ⟨h1, e1, e2, e3, e4, g1⟩ := CSc.open_ (N := N) hs qe h11 hd
  unfold fX9_isFine
  rw [if_pos (o_51 hs)]
  refine FnL.wrap ?_
  unfold fX9_isSilentFine
  rw [if_pos (o_51 hs)]
  show FnL P D num M X d (d + 1) i _ (some E) ((getR h 51 9 3).bind fun t28 => (fX8_open N t28 h).bind fun h29 => some ((1 : Int32), h29)) h
  rw [R_51_3 hs, Option.bind_some, e1, Option.bind_some]
  exact ⟨h1, M, rfl, e2, qs.chg g1 (fun a k z => by unfold lvA; omega), e4, Nat.le_refl _, ⟨g1.2.2.1 _ _ (by unfold lvA; omega), g1.2.2.1 _ _ (by unfold lvA; omega), e3⟩, g1.mono (fun a k z => z.fn hd)⟩
theorem fine_59 {P : Pgm} {D : List Int32 → Prop} {num : List Int32 → Nat} {E0 E1 : EnvV} {M X N i d cw w : Nat} {h : pH} (hN : 1100 ≤ N) (q : CK P D num h) (qe : CSc P D num E1 M h) (qs : CSt P [] X h) (h11 : rd h 52 11 = Int32.ofNat (d + 1)) (hd : d < 32) (kk : KSc E0 d h) (p : Pfx E0 E1) (hi : i < 3100) (hcw : D (P.1 cw)) (hw : D (P.1 w)) (h40 : rd h 40 i = Int32.ofNat (num (P.1 cw))) (h41 : rd h 41 i = Int32.ofNat (num (P.1 w))) (hlen : E0.1.length < 999) : FnL P D num M X d (d + 1) i (fun h' => rd h' 39 i = rd h 39 i ∧ rd h' 40 i = oI (-6) (P.fnd (P.1 cw)) ∧ rd h' 41 i = Int32.ofNat E0.1.length ∧ KSc E0 d h' ∧ TSc E1 E0.1.length d h') (P.ctE E0 cw w) (fX9_isFine N 51 (Int32.ofNat i) (Int32.ofNat 59) h) h := by
  have hs := q.1.1
  have hn := q.1.2.2.2.2.2.1
  obtain ⟨h1, e1, e2, e3, e4, e5, g1⟩ := CSc.turn (N := N) hs qe kk p h11 hd
  have hs1 : Sg h1 := hs.of g1.1
  have gs1 : Chg (fnA i d) h h1 := g1.mono (fun a k z => z.fn hd)
  have q1 := q.chg gs1 fnA.ck
  have r40 : rd h1 40 i = Int32.ofNat (num (P.1 cw)) := by rw [g1.2.2.1 _ _ (by unfold lvA; omega)]; exact h40
  have cn := CK.classNamed (N := N) hN q1 hcw hi r40
  have g2 : Chg (fun a k => a = 40 ∧ k = i) h1 (wr h1 40 i (oI (-6) (P.fnd (P.1 cw)))) := Chg.wr _ _ _ _ ⟨rfl, rfl⟩
  have hs2 := hs1.wr 40 i (oI (-6) (P.fnd (P.1 cw)))
  have gs2 := gs1.trans (g2.mono (fun a k z => show fnA i d a k by unfold fnA svA exA; omega))
  have r41 : rd (wr h1 40 i (oI (-6) (P.fnd (P.1 cw)))) 41 i = Int32.ofNat (num (P.1 w)) := by rw [rd_wr_ne _ _ (by omega), g1.2.2.1 _ _ (by unfold lvA; omega)]; exact h41
  have w40 : rd (wr h1 40 i (oI (-6) (P.fnd (P.1 cw)))) 40 i = oI (-6) (P.fnd (P.1 cw)) := W_40 hs1 _ _
  have qe2 := e2.chg g2 (fun a k z => by omega)
  have q2 := q.chg gs2 fnA.ck
  have r39 : rd (wr h1 40 i (oI (-6) (P.fnd (P.1 cw)))) 39 i = rd h 39 i := by rw [rd_wr_ne _ _ (by omega), g1.2.2.1 _ _ (by unfold lvA; omega)]
  have kk2 := e3.chg g2 (by omega) (by omega) (by omega)
  have tt2 := e4.chg g2 (by omega) (by omega)
  have l2 : rd (wr h1 40 i (oI (-6) (P.fnd (P.1 cw)))) 52 11 = Int32.ofNat (d + 1) := by rw [rd_wr_ne _ _ (by omega)]; exact e5
  have qs2 := (qs.chg g1 (fun a k z => by unfold lvA; omega)).chg g2 (fun a k z => by omega)
  generalize wr h1 40 i (oI (-6) (P.fnd (P.1 cw))) = h2 at *
  have fd := qe2.find hN hs2 q2.1.2.1 q2.1.2.2.1 hw
  have W : FnL P D num M X d (d + 1) i (fun h' => rd h' 39 i = rd h 39 i ∧ rd h' 40 i = oI (-6) (P.fnd (P.1 cw)) ∧ rd h' 41 i = Int32.ofNat E0.1.length ∧ KSc E0 d h' ∧ TSc E1 E0.1.length d h') (P.ctE E0 cw w) (fX9_isCatchFine N 51 (Int32.ofNat i) h) h := by
    unfold fX9_isCatchFine Pgm.ctE
    rw [if_pos (o_51 hs), R_51_3 hs, Option.bind_some, e1, Option.bind_some, cn, Option.bind_some]
    dsimp only
    rcases hf : P.fnd (P.1 cw) with _ | c
    · rw [if_pos (show oI (-6) none < 0 by decide)]
      exact ⟨h2, rfl, gs2⟩
    · have hcl := (Pgm.fnd_lt hf).1
      rw [hf] at w40
      have w40 : rd h2 40 i = Int32.ofNat c := w40
      rw [if_neg (show ¬ oI (-6) (some c) < 0 from i_nneg (by omega)), R_51_3 hs2, Option.bind_some, R_51_2 hs2, Option.bind_some, Option.bind_some, R_38_2 hs2, Option.bind_some, L_41 hs2 hi, Option.bind_some, r41, fd, Option.bind_some]
      dsimp only
      rw [isNone_kI (fun e he => by have := (EnvV.fnd_lt he).1; omega)]
      rcases hw2 : E0.fnd (P.1 w) with _ | j
      · obtain ⟨h3, f1, f2, g3⟩ := CSc.add (N := N) (s := true) (t := 10 + c) hs2 qe2 hw (Or.inr ⟨by omega, by omega⟩) (by omega) hlen
        rw [ctI_cls (by omega), show 10 + c - 10 = c by omega] at f1
        have hs3 : Sg h3 := hs2.of g3.1
        have g4 : Chg (fun a k => a = 41 ∧ k = i) h3 (wr h3 41 i (Int32.ofNat E0.1.length)) := Chg.wr _ _ _ _ ⟨rfl, rfl⟩
        rw [if_pos (show (none : Option Nat).isNone = true from rfl), if_pos rfl, R_51_2 hs2, Option.bind_some, R_38_2 hs2, Option.bind_some, R_51_3 hs2, Option.bind_some, Option.bind_some, R_38_2 hs2, Option.bind_some, L_41 hs2 hi, Option.bind_some, Option.bind_some, R_38_1 hs2, Option.bind_some, L_40 hs2 hi, Option.bind_some, r41, w40, show (1 : Int32) = kI true from rfl, f1, Option.bind_some]
        dsimp only
        rw [T_41 hs3 hi, Option.bind_some]
        refine ⟨_, _, rfl, f2.chg g4 (fun a k z => by omega), (qs2.chg g3 (fun a k z => by omega)).chg g4 (fun a k z => by omega), ?_, mxM_le _ _, ⟨?_, ?_, W_41 hs3 _ _, ?_, ?_⟩, (gs2.trans (g3.mono (fun a k z => show fnA i d a k by unfold fnA svA; omega))).trans (g4.mono (fun a k z => show fnA i d a k by unfold fnA svA; omega))⟩
        · rw [rd_wr_ne _ _ (by omega), g3.2.2.1 _ _ (by omega)]; exact l2
        · rw [rd_wr_ne _ _ (by omega), g3.2.2.1 _ _ (by omega)]; exact r39
        · rw [rd_wr_ne _ _ (by omega), g3.2.2.1 _ _ (by omega)]; exact w40
        · exact (kk2.chg g3 (by omega) (by omega) (by omega)).chg g4 (by omega) (by omega) (by omega)
        · exact (tt2.chg g3 (by omega) (by omega)).chg g4 (by omega) (by omega)
      · rw [if_neg (show ¬ (some j).isNone = true from Bool.false_ne_true), if_neg (fun u => by cases u)]
        exact ⟨h2, rfl, gs2⟩
  unfold fX9_isFine
  rw [if_pos (o_51 hs)]
  refine FnL.wrap ?_
  unfold fX9_isSilentFine
  rw [if_pos (o_51 hs)]
  exact FnL.wrap W
