/-! ===== THE CLASS' TYPER: a step over a piece of an expression ===== -/
/-- the typer's state -/
def TS (P : Pgm) (D : List Int32 → Prop) (num : List Int32 → Nat) (c : Nat) (E : EnvV) (M : Nat) (σ : List Nat) (X : Nat) (h : pH) : Prop := CK P D num h ∧ CSc P D num E M h ∧ CSt P σ X h ∧ rd h 51 7 = Int32.ofNat c
/-- what typing the pieces from s to t changes -/
def exA (s t a k : Nat) : Prop := pyA a k ∨ ((a = 39 ∨ a = 40 ∨ a = 44) ∧ s ≤ k ∧ k < t)
theorem exA.mono {s t s' t' a k : Nat} (h : exA s' t' a k) (h1 : s ≤ s') (h2 : t' ≤ t) : exA s t a k := by
  rcases h with h | h
  · exact Or.inl h
  · exact Or.inr ⟨h.1, by omega, by omega⟩
theorem exA.ck {s t : Nat} (a k : Nat) (h : ckA a) : ¬ exA s t a k := by
  unfold ckA ctA at h
  unfold exA pyA
  omega
theorem exA.sc {s t : Nat} (a k : Nat) (h : a = 53 ∨ a = 54 ∨ a = 55 ∨ (a = 52 ∧ (k = 2 ∨ k = 3 ∨ k = 5))) : ¬ exA s t a k := by
  unfold exA pyA
  omega
/-- what typing changes, by the cells alone -/
def tyC (a _k : Nat) : Prop := a = 34 ∨ a = 35 ∨ a = 39 ∨ a = 40 ∨ a = 41 ∨ a = 44 ∨ (51 ≤ a ∧ a ≤ 125)
theorem exA.ty {s t : Nat} (a k : Nat) (h : exA s t a k) : tyC a k := by
  unfold exA pyA at h
  unfold tyC
  omega
theorem pcA.ty {i : Nat} (a k : Nat) (h : pcA i a k) : tyC a k := by
  unfold pcA pyA at h
  unfold tyC
  omega
theorem TS.of {P : Pgm} {D : List Int32 → Prop} {num : List Int32 → Nat} {c M X X' s t : Nat} {E : EnvV} {σ τ : List Nat} {h h' : pH} (q : TS P D num c E M σ X h) (g : Chg (exA s t) h h') (qs : CSt P τ X' h') : TS P D num c E M τ X' h' := by
  obtain ⟨q1, q2, q3, q4⟩ := q
  exact ⟨q1.chg g exA.ck, q2.chg g exA.sc, qs, by rw [g.2.2.1 _ _ (by unfold exA pyA; omega)]; exact q4⟩
/-- what comes of the pieces from s to t: stop at place p, or on at t with the types r on the pile -/
def TyS (P : Pgm) (D : List Int32 → Prop) (num : List Int32 → Nat) (c : Nat) (E : EnvV) (M : Nat) (σ : List Nat) (X : Nat) (p : Int32) (s t : Nat) (Z : Nat → pH → Prop) (o : Option (List Nat)) (x : Option (Int32 × pH)) (y : pH → Option (Int32 × pH)) (h : pH) : Prop := match o with
  | none => ∃ h', x = some (p, h') ∧ Chg tyC h h'
  | some r => ∃ h' X', x = y h' ∧ TS P D num c E M (σ ++ r) X' h' ∧ X ≤ X' ∧ Z X' h' ∧ Chg (exA s t) h h'
theorem TS.piece {P : Pgm} {D : List Int32 → Prop} {num : List Int32 → Nat} {c M X N n i e k v w : Nat} {E : EnvV} {σ l : List Nat} {p v1 v2 : Int32} {k2 : Nat → Int32 → pH → Option (Int32 × pH)} {k23 : Nat → Int32 → Int32 → pH → Option (Int32 × pH)} {h : pH} (hN : 1100 ≤ N) (h5 : P.P5) (hc : c < P.n) (q : TS P D num c E M (σ ++ l) X h) (hi : i ≤ e) (he : e < 3100) (hsl : σ.length ≤ 3000) (hk : (1 ≤ k ∧ k ≤ 6) ∨ k = 9 ∨ (12 ≤ k ∧ k ≤ 27) ∨ k = 30 ∨ k = 50) (hl : l.length = arK k v) (hv : k = 30 → v ≤ 4000) (h39 : rd h 39 i = Int32.ofNat k) (h43 : rd h 43 i = p) (hw : k = 6 ∨ k = 9 ∨ k = 13 ∨ k = 15 ∨ k = 16 ∨ k = 30 → D (P.1 w) ∧ rd h 40 i = Int32.ofNat (num (P.1 w))) (h41 : k = 30 → rd h 41 i = Int32.ofNat v) : TyS P D num c E M σ X p i (i + 1) (fun _ h' => rd h' 39 i = (P.pcK c E k w l (rd h 40 i)).1 ∧ rd h' 40 i = (P.pcK c E k w l (rd h 40 i)).2 ∧ rd h' 44 i = Int32.ofNat E.1.length) (P.opT c E k w l) (fX9_check_79 N k2 k23 (n + 1) 51 v1 v2 (Int32.ofNat e) (Int32.ofNat i) h) (fX9_check_79 N k2 k23 n 51 v1 v2 (Int32.ofNat e) (Int32.ofNat (i + 1))) h := by
  obtain ⟨q1, q2, q3, q4⟩ := id q
  have hs := q1.1.1
  have g0 : Chg (fun a k => a = 44 ∧ k = i) h (wr h 44 i (rd h 52 2)) := Chg.wr _ _ _ _ ⟨rfl, rfl⟩
  have gx : Chg (exA i (i + 1)) h (wr h 44 i (rd h 52 2)) := g0.mono (fun a k z => by unfold exA; omega)
  have pc := CK.piece (N := N) (i := i) (c := c) (k := k) (v := v) (w := w) (l := l) hN (q1.chg gx exA.ck) h5 (q2.chg gx exA.sc) (q3.chg g0 (fun a k z => by omega)) hsl (by rw [rd_wr_ne _ _ (by omega)]; exact q4) hc (by omega) hk hl hv (by rw [rd_wr_ne _ _ (by omega)]; exact h39) (fun z => by rw [rd_wr_ne _ _ (by omega)]; exact hw z) (fun z => by rw [rd_wr_ne _ _ (by omega)]; exact h41 z)
  rw [rd_wr_ne h (a := 44) (k := i) (b := 40) (j := i) _ (by omega)] at pc
  rw [chk_step hs hi he, h39]
  generalize P.opT c E k w l = o at pc
  cases o with
  | none =>
    obtain ⟨h', e1, e2⟩ := pc
    have hs' : Sg h' := (hs.wr 44 i (rd h 52 2)).of e2.1
    refine ⟨h', ?_, (gx.mono exA.ty).trans (e2.mono pcA.ty)⟩
    have r43 : rd h' 43 i = p := by rw [e2.2.2.1 _ _ (by unfold pcA pyA; omega), rd_wr_ne _ _ (by omega)]; exact h43
    rw [e1, Option.bind_some, if_pos rfl, R_51_2 hs', Option.bind_some, R_38_4 hs', Option.bind_some, L_43 hs' (by omega), Option.bind_some, r43]
  | some r =>
    obtain ⟨h', X', e1, e2, e3, e4, e5, e6⟩ := pc
    have gg : Chg (exA i (i + 1)) h h' := gx.trans (e6.mono (fun a k z => by
      rcases z with z | z
      · exact Or.inl z
      · exact Or.inr (by omega)))
    refine ⟨h', X', ?_, q.of gg e2, e3, ⟨e4, e5, by rw [e6.2.2.1 _ _ (by unfold pcA pyA; omega), W_44 hs, q2.1]⟩, gg⟩
    rw [e1, Option.bind_some]
    exact if_neg (show ¬ (1 : Int32) = 0 by decide)
