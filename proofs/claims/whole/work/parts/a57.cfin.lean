/-! ===== THE CLASS' TYPER: the last piece of a statement ===== -/
/-- what the last piece of a statement changes -/
def tlA (i a k : Nat) : Prop := pyA a k ∨ ((a = 39 ∨ a = 40 ∨ a = 41) ∧ k = i) ∨ a = 53 ∨ a = 54 ∨ a = 55 ∨ (a = 52 ∧ (k = 2 ∨ k = 3 ∨ k = 5))
def FnS (P : Pgm) (D : List Int32 → Prop) (num : List Int32 → Nat) (M X i : Nat) (Z : pH → Prop) (o : Option EnvV) (x : Option (Int32 × pH)) (h : pH) : Prop := match o with
  | none => ∃ h', x = some (0, h') ∧ Chg (tlA i) h h'
  | some E' => ∃ h' M', x = some (1, h') ∧ CSc P D num E' M' h' ∧ CSt P [] X h' ∧ M ≤ M' ∧ Z h' ∧ Chg (tlA i) h h'
theorem FnS.wrap {P : Pgm} {D : List Int32 → Prop} {num : List Int32 → Nat} {M X i : Nat} {Z : pH → Prop} {o : Option EnvV} {x : Option (Int32 × pH)} {h : pH} (q : FnS P D num M X i Z o x h) : FnS P D num M X i Z o (x.bind fun q => if pRet .boolean q.1 = true then some (q.1, q.2) else none) h := by
  cases o with
  | none =>
    obtain ⟨h', e, g⟩ := q
    exact ⟨h', by rw [e, Option.bind_some]; exact if_pos (pRet_01 (Or.inl rfl)), g⟩
  | some l =>
    obtain ⟨h', M', e, r⟩ := q
    exact ⟨h', M', by rw [e, Option.bind_some]; exact if_pos (pRet_01 (Or.inr rfl)), r⟩
theorem FnS.wrap2 {P : Pgm} {D : List Int32 → Prop} {num : List Int32 → Nat} {M X i : Nat} {Z : pH → Prop} {o : Option EnvV} {x : Option (Int32 × pH)} {h : pH} (q : FnS P D num M X i Z o x h) : FnS P D num M X i Z o (x.bind fun q => if q.1 = 0 then some ((0 : Int32), q.2) else some ((1 : Int32), q.2)) h := by
  cases o with
  | none =>
    obtain ⟨h', e, g⟩ := q
    exact ⟨h', by rw [e, Option.bind_some]; exact if_pos rfl, g⟩
  | some l =>
    obtain ⟨h', M', e, r⟩ := q
    exact ⟨h', M', by rw [e, Option.bind_some]; exact if_neg (show ¬ (1 : Int32) = 0 by decide), r⟩
/-- from further on -/
theorem FnS.low {P : Pgm} {D : List Int32 → Prop} {num : List Int32 → Nat} {M X i : Nat} {Z Z' : pH → Prop} {o : Option EnvV} {x : Option (Int32 × pH)} {h0 h : pH} (q : FnS P D num M X i Z o x h) (g : Chg (tlA i) h0 h) (hz : ∀ h', Z h' → Z' h') : FnS P D num M X i Z' o x h0 := by
  cases o with
  | none =>
    obtain ⟨h', e, g'⟩ := q
    exact ⟨h', e, g.trans g'⟩
  | some l =>
    obtain ⟨h', M', e, r1, r2, r3, r4, r5⟩ := q
    exact ⟨h', M', e, r1, r2, r3, hz h' r4, g.trans r5⟩
theorem tlA.ck {i : Nat} (a k : Nat) (h : ckA a) : ¬ tlA i a k := by
  unfold ckA ctA at h
  unfold tlA pyA
  omega
theorem CK.varType {P : Pgm} {D : List Int32 → Prop} {num : List Int32 → Nat} {N i y : Nat} {h : pH} (hN : 1100 ≤ N) (q : CK P D num h) (hi : i < 3100) (hy : tyD D P y) (h41 : rd h 41 i = tyN num P y) : fX9_variableType N 51 (Int32.ofNat i) h = some (ctI (P.rt y), h) := by
  have hs := q.1.1
  have hn := q.1.2.2.2.2.2.1
  unfold fX9_variableType
  rw [if_pos (o_51 hs), R_51_2 hs, Option.bind_some, R_38_2 hs, Option.bind_some, L_41 hs hi, Option.bind_some, h41]
  unfold tyN Pgm.rt
  by_cases h4 : y < 4
  · rw [if_pos h4, if_pos h4]
    obtain ⟨e1, e2⟩ := ctI_lt (show y ≤ 5 by omega)
    rw [← e1, if_pos e2]
  · rw [if_neg h4, if_neg h4]
    have hw := hy.resolve_left h4
    have hl := q.1.2.2.1 (P.1 (y - 4))
    rw [if_neg (i_nneg (by omega)), R_51_0 hs, Option.bind_some, q.1.find hN hw, Option.bind_some]
    rcases hf : P.fnd (P.1 (y - 4)) with _ | c
    · rfl
    · show some (Int32.ofNat c, h) = some (ctI (10 + c), h)
      rw [ctI_cls (by omega), show 10 + c - 10 = c by omega]
theorem CK.tell {P : Pgm} {D : List Int32 → Prop} {num : List Int32 → Nat} {E : EnvV} {M X N i y w : Nat} {s : Bool} {h : pH} (hN : 1100 ≤ N) (q : CK P D num h) (qe : CSc P D num E M h) (qs : CSt P [] X h) (hi : i < 3100) (hw : D (P.1 w)) (hy : tyD D P y) (h40 : rd h 40 i = Int32.ofNat (num (P.1 w))) (h41 : rd h 41 i = tyN num P y) (hlen : E.1.length < 999) : FnS P D num M X i (fun h' => rd h' 39 i = rd h 39 i ∧ rd h' 40 i = Int32.ofNat E.1.length) (P.tlX E y w s) (fX9_tell N 51 (Int32.ofNat i) (kI s) h) h := by
  have hs := q.1.1
  have hn : P.n ≤ 400 := by have := q.1.2.2.2.2.2.1; omega
  have fd := qe.find hN hs q.1.2.1 q.1.2.2.1 hw
  unfold fX9_tell Pgm.tlX
  rw [if_pos (o_51 hs), q.varType hN hi hy h41, Option.bind_some]
  dsimp only
  by_cases z : P.rt y = 5
  · rw [if_pos ((ctI_5 hn P.rt_ok).mpr z), if_neg (fun u => u.1 z)]
    exact ⟨h, rfl, Chg.refl _ _⟩
  rw [if_neg (fun u => z ((ctI_5 hn P.rt_ok).mp u)), R_51_3 hs, Option.bind_some, R_51_2 hs, Option.bind_some, R_38_1 hs, Option.bind_some, L_40 hs hi, Option.bind_some, h40, fd, Option.bind_some]
  dsimp only
  rw [isNone_kI (fun e he => by have := (EnvV.fnd_lt he).1; omega)]
  rcases hf : E.fnd (P.1 w) with _ | j
  · obtain ⟨h1, e1, e2, g1⟩ := CSc.add (N := N) (s := s) hs qe hw (P.rt_ok (y := y)) z hlen
    have hs1 : Sg h1 := hs.of g1.1
    have g2 : Chg (fun a k => a = 40 ∧ k = i) h1 (wr h1 40 i (Int32.ofNat E.1.length)) := Chg.wr _ _ _ _ ⟨rfl, rfl⟩
    have ho : (if P.rt y ≠ 5 ∧ (none : Option Nat) = none then some (E.add (P.1 w) (P.rt y) s) else none) = some (E.add (P.1 w) (P.rt y) s) := if_pos ⟨z, rfl⟩
    rw [ho, if_pos (show (none : Option Nat).isNone = true from rfl), R_51_2 hs, Option.bind_some, R_38_1 hs, Option.bind_some, R_51_3 hs, Option.bind_some, Option.bind_some, R_38_1 hs, Option.bind_some, L_40 hs hi, Option.bind_some, h40, e1, Option.bind_some]
    dsimp only
    rw [T_40 hs1 hi, Option.bind_some]
    refine ⟨_, _, rfl, e2.chg g2 (fun a k z => by omega), (qs.chg g1 (fun a k z => by omega)).chg g2 (fun a k z => by omega), mxM_le _ _, ⟨?_, W_40 hs1 _ _⟩, (g1.mono (fun a k z => by unfold tlA; omega)).trans (g2.mono (fun a k z => by unfold tlA; omega))⟩
    rw [rd_wr_ne _ _ (by omega), g1.2.2.1 _ _ (by omega)]
  · rw [if_neg (show ¬ (some j).isNone = true from Bool.false_ne_true), if_neg (fun u => by cases u.2)]
    exact ⟨h, rfl, Chg.refl _ _⟩
theorem fine_53 {P : Pgm} {D : List Int32 → Prop} {num : List Int32 → Nat} {E : EnvV} {M X N i y w : Nat} {h : pH} (hN : 1100 ≤ N) (q : CK P D num h) (qe : CSc P D num E M h) (qs : CSt P [] X h) (hi : i < 3100) (hw : D (P.1 w)) (hy : tyD D P y) (h40 : rd h 40 i = Int32.ofNat (num (P.1 w))) (h41 : rd h 41 i = tyN num P y) (hlen : E.1.length < 999) : FnS P D num M X i (fun h' => rd h' 39 i = rd h 39 i ∧ rd h' 40 i = Int32.ofNat E.1.length) (P.tlX E y w false) (fX9_isFine N 51 (Int32.ofNat i) (Int32.ofNat 53) h) h := by
  have hs := q.1.1
  have T := CK.tell (N := N) (s := false) hN q qe qs hi hw hy h40 h41 hlen
  unfold fX9_isFine
  rw [if_pos (o_51 hs)]
  refine FnS.wrap ?_
  unfold fX9_isSilentFine
  rw [if_pos (o_51 hs)]
  exact FnS.wrap T
theorem fine_37 {P : Pgm} {D : List Int32 → Prop} {num : List Int32 → Nat} {E : EnvV} {M X N i y w t : Nat} {h : pH} (hN : 1100 ≤ N) (q : CK P D num h) (qe : CSc P D num E M h) (qs : CSt P ([] ++ [t]) X h) (hi : i < 3100) (hw : D (P.1 w)) (hy : tyD D P y) (h40 : rd h 40 i = Int32.ofNat (num (P.1 w))) (h41 : rd h 41 i = tyN num P y) (hlen : E.1.length < 999) : FnS P D num M X i (fun h' => rd h' 39 i = rd h 39 i ∧ rd h' 40 i = Int32.ofNat E.1.length) (if P.sub t (P.rt y) = true then P.tlX E y w true else none) (fX9_isFine N 51 (Int32.ofNat i) (Int32.ofNat 37) h) h := by
  have hs := q.1.1
  obtain ⟨h1, e1, e2, t1, t2, g, s1⟩ := CSt.pop1 (N := N) hs qs
  have gt : Chg (tlA i) h h1 := g.mono (fun a k z => Or.inl z)
  have q1 := q.chg gt tlA.ck
  have T := CK.tell (N := N) (s := true) hN q1 (qe.chg g (fun a k z => by unfold pyA; omega)) e2 hi hw hy (by rw [g.2.2.1 _ _ (by unfold pyA; omega)]; exact h40) (by rw [g.2.2.1 _ _ (by unfold pyA; omega)]; exact h41) hlen
  have V := q1.varType hN hi hy (by rw [g.2.2.1 _ _ (by unfold pyA; omega)]; exact h41)
  unfold fX9_isFine
  rw [if_pos (o_51 hs)]
  refine FnS.wrap ?_
  unfold fX9_isGiftFine
  rw [if_pos (o_51 hs)]
  show FnS P D num M X i _ _ ((fX9_pop N 51 h).bind fun q2 => (fX9_variableType N 51 (Int32.ofNat i) q2.2).bind fun q17 => (fX9_fits N 51 q2.1 q17.1 q17.2).bind fun q18 => if q18.1 = 0 then some ((0 : Int32), q18.2) else (fX9_tell N 51 (Int32.ofNat i) (1 : Int32) q18.2).bind fun q20 => if q20.1 = 0 then some ((0 : Int32), q20.2) else some ((1 : Int32), q20.2)) h
  rw [e1, Option.bind_some]
  dsimp only
  rw [V, Option.bind_some]
  dsimp only
  rw [q1.fits hN t1 P.rt_ok t2, Option.bind_some]
  dsimp only
  rw [kI_if]
  by_cases z : P.sub t (P.rt y) = true
  · rw [if_pos z, if_pos z]
    exact (FnS.wrap2 T).low gt (fun h' z => ⟨by rw [z.1, g.2.2.1 _ _ (by unfold pyA; omega)], z.2⟩)
  · rw [if_neg z, if_neg z]
    exact ⟨h1, rfl, gt⟩
