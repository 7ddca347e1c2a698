/-! ===== THE CLASS' TYPER: && and ||, arguments, all expressions ===== -/
theorem TS.step {P : Pgm} {D : List Int32 → Prop} {num : List Int32 → Nat} {c M X N n i e : Nat} {E : EnvV} {σ ρ : List Nat} {p v1 v2 kk k' a' : Int32} {o : Option (List Nat)} {k2 : Nat → Int32 → pH → Option (Int32 × pH)} {k23 : Nat → Int32 → Int32 → pH → Option (Int32 × pH)} {h : pH} (q : TS P D num c E M ρ X h) (hi : i ≤ e) (he : e < 3100) (h39 : rd h 39 i = kk) (h43 : rd h 43 i = p) (pc : TyN P σ X i k' a' o (fX9_isFine N 51 (Int32.ofNat i) kk (wr h 44 i (rd h 52 2))) (wr h 44 i (rd h 52 2))) : TyS P D num c E M σ X p i (i + 1) (fun _ h' => rd h' 39 i = k' ∧ rd h' 40 i = a' ∧ rd h' 44 i = Int32.ofNat E.1.length) o (fX9_check_79 N k2 k23 (n + 1) 51 v1 v2 (Int32.ofNat e) (Int32.ofNat i) h) (fX9_check_79 N k2 k23 n 51 v1 v2 (Int32.ofNat e) (Int32.ofNat (i + 1))) h := by
  have hs := q.1.1.1
  have gx : Chg (exA i (i + 1)) h (wr h 44 i (rd h 52 2)) := Chg.wr _ _ _ _ (by unfold exA; omega)
  rw [chk_step hs hi he, h39]
  cases o with
  | none =>
    obtain ⟨h', e1, e2⟩ := pc
    have hs' : Sg h' := (hs.wr 44 i (rd h 52 2)).of e2.1
    refine ⟨h', ?_, (gx.mono exA.ty).trans (e2.mono pcA.ty)⟩
    have r43 : rd h' 43 i = p := by rw [e2.2.2.1 _ _ (by unfold pcA pyA; omega), rd_wr_ne _ _ (by omega)]; exact h43
    rw [e1, Option.bind_some, if_pos rfl, R_51_2 hs', Option.bind_some, R_38_4 hs', Option.bind_some, L_43 hs' (by omega), Option.bind_some, r43]
  | some r =>
    obtain ⟨h', X', e1, e2, e3, e4, e5, e6⟩ := pc
    have gg : Chg (exA i (i + 1)) h h' := gx.trans (e6.mono (fun a k z => by
      rcases z with z | z
      · exact Or.inl z
      · exact Or.inr (by omega)))
    refine ⟨h', X', ?_, q.of gg e2, e3, ⟨e4, e5, by rw [e6.2.2.1 _ _ (by unfold pcA pyA; omega), W_44 hs, q.2.1.1]⟩, gg⟩
    rw [e1, Option.bind_some]
    exact if_neg (show ¬ (1 : Int32) = 0 by decide)
theorem fine_and {P : Pgm} {σ : List Nat} {X N i k t : Nat} {h : pH} (hn : P.n ≤ 400) (hs : Sg h) (hk : k = 28 ∨ k = 29) (q : CSt P (σ ++ [t]) X h) : TyN P σ X i (rd h 39 i) (rd h 40 i) (if t = 1 then some [] else none) (fX9_isFine N 51 (Int32.ofNat i) (Int32.ofNat k) h) h := by
  obtain ⟨h1, e1, e2, t1, t2, g, s1⟩ := CSt.pop1 (N := N) hs q
  have e114 : TyN P σ X i (rd h 39 i) (rd h 40 i) (if t = 1 then some [] else none) (fX9_isSignFine_114 N 51 h) h := by
    unfold fX9_isSignFine_114
    rw [e1, Option.bind_some]
    dsimp only
    rw [ctI_e1 hn t1]
    by_cases z : t = 1
    · rw [if_pos z, if_pos z]
      exact ⟨h1, X, rfl, by rw [List.append_nil]; exact e2, Nat.le_refl _, g.2.2.1 _ _ (by unfold pyA; omega), g.2.2.1 _ _ (by unfold pyA; omega), g.mono (fun a k z => Or.inl z)⟩
    · rw [if_neg z, if_neg z]
      exact ⟨h1, rfl, g.mono (fun a k z => Or.inl z)⟩
  unfold fX9_isFine
  rw [if_pos (o_51 hs)]
  rcases hk with rfl | rfl
  · refine TyN.wrap ?_
    unfold fX9_isSignFine
    rw [if_pos (o_51 hs)]
    exact e114
  · refine TyN.wrap ?_
    unfold fX9_isSignFine
    rw [if_pos (o_51 hs)]
    exact e114
theorem fine_51 {P : Pgm} {σ : List Nat} {X N i t : Nat} {h : pH} (hn : P.n ≤ 400) (hs : Sg h) (q : CSt P (σ ++ [t]) X h) : TyN P σ X i (rd h 39 i) (rd h 40 i) (eqT [t] [1] 1) (fX9_isFine N 51 (Int32.ofNat i) (Int32.ofNat 51) h) h := by
  obtain ⟨h1, e1, e2, t1, t2, g, s1⟩ := CSt.pop1 (N := N) hs q
  have hsl := q.cons_len (fun z => by cases z)
  have e51 : TyN P σ X i (rd h 39 i) (rd h 40 i) (eqT [t] [1] 1) ((fX9_pop N 51 h).bind fun q19 => if q19.1 = (-2 : Int32) then (fX9_push N 51 (-2 : Int32) q19.2).bind fun q21 => if q21.1 = 0 then some ((0 : Int32), q21.2) else some ((1 : Int32), q21.2) else some ((0 : Int32), q19.2)) h := by
    rw [e1, Option.bind_some]
    dsimp only
    rw [ctI_e1 hn t1]
    by_cases z : t = 1
    · rw [if_pos z, z, show eqT [1] [1] 1 = tS 1 from rfl, ← ct1]
      exact CSt.pushN (N := N) hn s1 e2 (Or.inl (by omega)) hsl (g.mono (fun a k z => Or.inl z)) (g.2.2.1 _ _ (by unfold pyA; omega)) (g.2.2.1 _ _ (by unfold pyA; omega)) wrap2_push
    · rw [if_neg z, show eqT [t] [1] 1 = none from if_neg (fun v => z (by injection v))]
      exact ⟨h1, rfl, g.mono (fun a k z => Or.inl z)⟩
  unfold fX9_isFine
  rw [if_pos (o_51 hs)]
  refine TyN.wrap ?_
  unfold fX9_isSilentFine
  rw [if_pos (o_51 hs)]
  exact e51
