/-! ===== THE CLASS' TYPER: a statement's pieces ===== -/
theorem svA.ty {s t d : Nat} (a k : Nat) (h : svA s t d a k) : tyC a k := by
  unfold svA exA pyA at h
  unfold tyC
  omega
/-- the typer's state between statements -/
def TB (P : Pgm) (D : List Int32 → Prop) (num : List Int32 → Nat) (c mt : Nat) (E : EnvV) (M X d : Nat) (h : pH) : Prop := TS P D num c E M [] X h ∧ rd h 51 8 = ctI mt ∧ rd h 52 11 = Int32.ofNat d
def BlS (P : Pgm) (D : List Int32 → Prop) (num : List Int32 → Nat) (c mt M X d dr s t : Nat) (Z : Nat → Nat → pH → Prop) (o : CkR) (x : Option (Int32 × pH)) (y : pH → Option (Int32 × pH)) (h : pH) : Prop := match o with
  | .inl p => ∃ h', x = some (Int32.ofNat p, h') ∧ Chg tyC h h'
  | .inr E' => ∃ h' M' X', x = y h' ∧ TB P D num c mt E' M' X' dr h' ∧ M ≤ M' ∧ X ≤ X' ∧ Z M' X' h' ∧ Chg (svA s t d) h h'
theorem BlS.bind {P : Pgm} {D : List Int32 → Prop} {num : List Int32 → Nat} {c mt M X d dr dq s t u : Nat} {Z1 Z2 : Nat → Nat → pH → Prop} {o : CkR} {f : EnvV → CkR} {x : Option (Int32 × pH)} {y1 y2 : pH → Option (Int32 × pH)} {h : pH} (htu : t ≤ u) (q : BlS P D num c mt M X d dr s t Z1 o x y1 h) (hf : ∀ E' h' M' X', o = .inr E' → TB P D num c mt E' M' X' dr h' → M ≤ M' → X ≤ X' → Z1 M' X' h' → Chg (svA s t d) h h' → BlS P D num c mt M' X' d dq s u Z2 (f E') (y1 h') y2 h') : BlS P D num c mt M X d dq s u Z2 (sB o f) x y2 h := by
  cases o with
  | inl p => exact q
  | inr E' =>
    obtain ⟨h', M', X', e1, e2, e3, e4, e5, e6⟩ := q
    have k := hf E' h' M' X' rfl e2 e3 e4 e5 e6
    show BlS P D num c mt M X d dq s u Z2 (f E') x y2 h
    rw [e1]
    cases hr : f E' with
    | inl p =>
      rw [hr] at k
      obtain ⟨h2, f1, f2⟩ := k
      exact ⟨h2, f1, (e6.mono svA.ty).trans f2⟩
    | inr E2 =>
      rw [hr] at k
      obtain ⟨h2, M2, X2, f1, f2, f3, f4, f5, f6⟩ := k
      exact ⟨h2, M2, X2, f1, f2, by omega, by omega, f5, (e6.mono (fun a k z => z.mono (Nat.le_refl _) htu (Nat.le_refl _))).trans f6⟩
theorem BlS.low {P : Pgm} {D : List Int32 → Prop} {num : List Int32 → Nat} {c mt M X d d' dr s s' t t' : Nat} {Z Z' : Nat → Nat → pH → Prop} {o : CkR} {x : Option (Int32 × pH)} {y : pH → Option (Int32 × pH)} {h : pH} (q : BlS P D num c mt M X d dr s t Z o x y h) (hs : s' ≤ s) (ht : t ≤ t') (hd : d' ≤ d) (hz : ∀ E' M' X' h', o = .inr E' → M ≤ M' → X ≤ X' → TB P D num c mt E' M' X' dr h' → Z M' X' h' → Chg (svA s t d) h h' → Z' M' X' h') : BlS P D num c mt M X d' dr s' t' Z' o x y h := by
  cases o with
  | inl p => exact q
  | inr E' =>
    obtain ⟨h', M', X', e1, e2, e3, e4, e5, e6⟩ := q
    exact ⟨h', M', X', e1, e2, e3, e4, hz E' M' X' h' rfl e3 e4 e2 e5 e6, e6.mono (fun a k z => z.mono hs ht hd)⟩
/-- the last piece of a statement, or one that stands alone -/
theorem TS.last {P : Pgm} {D : List Int32 → Prop} {num : List Int32 → Nat} {c mt M X N n i e k p d dr : Nat} {E : EnvV} {ρ : List Nat} {v1 v2 : Int32} {o : Option EnvV} {Z : pH → Prop} {k2 : Nat → Int32 → pH → Option (Int32 × pH)} {k23 : Nat → Int32 → Int32 → pH → Option (Int32 × pH)} {h : pH} (q : TS P D num c E M ρ X h) (h8 : rd h 51 8 = ctI mt) (hi : i ≤ e) (he : e < 3100) (h39 : rd h 39 i = Int32.ofNat k) (h43 : o = none → rd h 43 i = Int32.ofNat p) (F : FnL P D num M X d dr i Z o (fX9_isFine N 51 (Int32.ofNat i) (Int32.ofNat k) (wr h 44 i (rd h 52 2))) (wr h 44 i (rd h 52 2))) : BlS P D num c mt M X d dr i (i + 1) (fun _ _ h' => Z h' ∧ rd h' 44 i = Int32.ofNat E.1.length) (oS p o) (fX9_check_79 N k2 k23 (n + 1) 51 v1 v2 (Int32.ofNat e) (Int32.ofNat i) h) (fX9_check_79 N k2 k23 n 51 v1 v2 (Int32.ofNat e) (Int32.ofNat (i + 1))) h := by
  obtain ⟨q1, q2, q3, q4⟩ := id q
  have hs := q1.1.1
  rw [chk_step hs hi he, h39]
  cases o with
  | none =>
    obtain ⟨h', e1, e2⟩ := F
    have hs' : Sg h' := (hs.wr 44 i (rd h 52 2)).of e2.1
    have gx : Chg (svA i (i + 1) d) h (wr h 44 i (rd h 52 2)) := Chg.wr _ _ _ _ (by unfold svA exA; omega)
    refine ⟨h', ?_, (gx.mono svA.ty).trans (e2.mono (fun a k z => svA.ty a k z.1))⟩
    have r43 : rd h' 43 i = Int32.ofNat p := by rw [e2.2.2.1 _ _ (by unfold fnA svA exA pyA; omega), rd_wr_ne _ _ (by omega)]; exact h43 rfl
    rw [e1, Option.bind_some, if_pos rfl, R_51_2 hs', Option.bind_some, R_38_4 hs', Option.bind_some, L_43 hs' (by omega), Option.bind_some, r43]
  | some E' =>
    obtain ⟨h', M', e1, e2, e3, e4, e5, e6, e7⟩ := F
    have gx : Chg (svA i (i + 1) d) h (wr h 44 i (rd h 52 2)) := Chg.wr _ _ _ _ (by unfold svA exA; omega)
    have gg := gx.trans (e7.mono (fun a k z => z.1))
    refine ⟨h', M', X, ?_, ⟨⟨q1.chg gg svA.ck, e2, e3, ?_⟩, ?_, e4⟩, e5, Nat.le_refl _, ⟨e6, ?_⟩, gg⟩
    · rw [e1, Option.bind_some]
      exact if_neg (show ¬ (1 : Int32) = 0 by decide)
    · rw [gg.2.2.1 _ _ (by unfold svA exA pyA; omega)]; exact q4
    · rw [gg.2.2.1 _ _ (by unfold svA exA pyA; omega)]; exact h8
    · rw [e7.2.2.1 _ _ (fun z => z.2 rfl), W_44 hs, q2.1]
