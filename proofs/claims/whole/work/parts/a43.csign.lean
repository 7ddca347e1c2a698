/-! ===== THE CLASS' TYPER: signs ===== -/
/-- l joined to the pile, or told as bad -/
def TyR (P : Pgm) (σ : List Nat) (X : Nat) (A : Nat → Nat → Prop) (o : Option (List Nat)) (x : Option (Int32 × pH)) (h : pH) : Prop := match o with
  | some l => ∃ h' X', x = some (1, h') ∧ CSt P (σ ++ l) X' h' ∧ X ≤ X' ∧ Chg A h h'
  | none => ∃ h', x = some (0, h') ∧ Chg A h h'
theorem mxM_le (X n : Nat) : X ≤ mxM X n := by unfold mxM; split <;> omega
theorem CSt.len {P : Pgm} {σ : List Nat} {X : Nat} {h : pH} (q : CSt P σ X h) : σ.length ≤ 3001 := by
  have := q.2.2.1
  have := q.2.2.2.1
  omega
/-- push and tell -/
theorem CSt.push1 {P : Pgm} {σ : List Nat} {X N t : Nat} {A : Nat → Nat → Prop} {h h0 : pH} (hn : P.n ≤ 400) (hs : Sg h) (q : CSt P σ X h) (ht : P.tOk t) (h5 : t ≠ 5) (hl : σ.length ≤ 3000) (hA : ∀ a k, pyA a k → A a k) (g : Chg A h0 h) {x : Option (Int32 × pH)} (hx : ∀ h', fX9_push N 51 (ctI t) h = some (1, h') → x = some (1, h')) : TyR P σ X A (some [t]) x h0 := by
  obtain ⟨h', e1, e2, e3⟩ := CSt.push (N := N) hn hs q ht h5 hl
  exact ⟨h', _, hx h' e1, e2, mxM_le _ _, g.trans (e3.mono hA)⟩
/-- one pop -/
theorem CSt.pop1 {P : Pgm} {σ : List Nat} {X N t : Nat} {h : pH} (hs : Sg h) (q : CSt P (σ ++ [t]) X h) : ∃ h', fX9_pop N 51 h = some (ctI t, h') ∧ CSt P σ X h' ∧ P.tOk t ∧ t ≠ 5 ∧ Chg pyA h h' ∧ Sg h' := by
  obtain ⟨h', e1, e2, e3, e4, e5⟩ := CSt.pop (N := N) hs q
  exact ⟨h', e1, e2, e3, e4, e5, hs.of e5.1⟩
theorem CSt.pop2 {P : Pgm} {σ : List Nat} {X N t u : Nat} {h : pH} (hs : Sg h) (q : CSt P (σ ++ [t, u]) X h) : ∃ h1 h', fX9_pop N 51 h = some (ctI u, h1) ∧ fX9_pop N 51 h1 = some (ctI t, h') ∧ CSt P σ X h' ∧ P.tOk t ∧ t ≠ 5 ∧ P.tOk u ∧ u ≠ 5 ∧ Chg pyA h h' ∧ Sg h1 ∧ Sg h' ∧ Chg pyA h h1 := by
  have q' : CSt P ((σ ++ [t]) ++ [u]) X h := by rw [List.append_assoc]; exact q
  obtain ⟨h1, e1, e2, e3, e4, e5, e6⟩ := CSt.pop1 (N := N) hs q'
  obtain ⟨h2, f1, f2, f3, f4, f5, f6⟩ := CSt.pop1 (N := N) e6 e2
  exact ⟨h1, h2, e1, f1, f2, f3, f4, e3, e4, e5.trans f5, e6, f6, e5⟩
theorem ct0 : ctI 0 = -1 := by decide
theorem ct1 : ctI 1 = -2 := by decide
theorem ct2 : ctI 2 = -3 := by decide
theorem ct3 : ctI 3 = -4 := by decide
theorem ct4 : ctI 4 = -5 := by decide
theorem ct5 : ctI 5 = -6 := by decide
theorem ctI_e0 {P : Pgm} (hn : P.n ≤ 400) {t : Nat} (ht : P.tOk t) {α : Type} (x y : α) : (if ctI t = -1 then x else y) = if t = 0 then x else y := by rw [← ct0]; exact ctI_is hn ht (by omega) x y
theorem ctI_e1 {P : Pgm} (hn : P.n ≤ 400) {t : Nat} (ht : P.tOk t) {α : Type} (x y : α) : (if ctI t = -2 then x else y) = if t = 1 then x else y := by rw [← ct1]; exact ctI_is hn ht (by omega) x y
theorem ctI_e2 {P : Pgm} (hn : P.n ≤ 400) {t : Nat} (ht : P.tOk t) {α : Type} (x y : α) : (if ctI t = -3 then x else y) = if t = 2 then x else y := by rw [← ct2]; exact ctI_is hn ht (by omega) x y
theorem ctI_e4 {P : Pgm} (hn : P.n ≤ 400) {t : Nat} (ht : P.tOk t) {α : Type} (x y : α) : (if ctI t = -5 then x else y) = if t = 4 then x else y := by rw [← ct4]; exact ctI_is hn ht (by omega) x y
theorem e9_numbers {P : Pgm} (hn : P.n ≤ 400) {t u N : Nat} {h : pH} (ht : P.tOk t) (hu : P.tOk u) : fX9_areNumbers N (ctI u) (ctI t) h = some (kI (decide (t = 0) && decide (u = 0)), h) := by
  unfold fX9_areNumbers
  rw [ctI_e0 hn ht, ctI_e0 hn hu]
  by_cases z : t = 0
  · rw [if_pos z, decide_eq_true z, Bool.true_and]
    by_cases y : u = 0
    · rw [if_pos y, decide_eq_true y]; rfl
    · rw [if_neg y, decide_eq_false y]; rfl
  · rw [if_neg z, decide_eq_false z, Bool.false_and]; rfl
theorem e9_isObject {P : Pgm} (hn : P.n ≤ 400) {t N : Nat} {h : pH} (ht : P.tOk t) : fX9_isObject N (ctI t) h = some (kI (obT t), h) := by
  unfold fX9_isObject obT
  rw [ctI_nn hn ht, ctI_e4 hn ht]
  by_cases z : t < 10
  · rw [if_pos z]
    by_cases y : t = 4
    · rw [if_pos y, decide_eq_true (Or.inl y)]; rfl
    · rw [if_neg y, decide_eq_false (by omega)]; rfl
  · rw [if_neg z, decide_eq_true (Or.inr (by omega))]; rfl
theorem e9_isRef {P : Pgm} (hn : P.n ≤ 400) {t N : Nat} {h : pH} (ht : P.tOk t) : fX9_isReference N (ctI t) h = some (kI (rfT t), h) := by
  unfold fX9_isReference
  rw [e9_isObject hn ht, Option.bind_some]
  dsimp only
  rw [kI_if, ctI_e2 hn ht]
  unfold obT rfT
  by_cases z : t = 4 ∨ 10 ≤ t
  · rw [decide_eq_true z, if_pos rfl, decide_eq_true (by omega)]; rfl
  · rw [decide_eq_false z, if_neg Bool.false_ne_true]
    by_cases y : t = 2
    · rw [if_pos y, decide_eq_true (Or.inl y)]; rfl
    · rw [if_neg y, decide_eq_false (by omega)]; rfl
theorem e9_comparable {P : Pgm} {D : List Int32 → Prop} {num : List Int32 → Nat} {t u N : Nat} {h : pH} (hN : 1100 ≤ N) (q : CT P D num h) (hp : CPr P h) (ht : P.tOk t) (hu : P.tOk u) (ht5 : t ≠ 5) (hu5 : u ≠ 5) : fX9_areComparable N 51 (ctI u) (ctI t) h = some (kI (P.cmpT t u), h) := by
  have hn : P.n ≤ 400 := by have := q.2.2.2.2.2.1; omega
  have e11 : fX9_areComparable_11 N (ctI u) (ctI t) h = some (kI (decide (t = u)), h) := by
    unfold fX9_areComparable_11
    by_cases z : t = u
    · rw [if_pos (by rw [z]), decide_eq_true z]; rfl
    · rw [if_neg (fun w => z ((ctI_eq hn ht hu).mp w)), decide_eq_false z]; rfl
  unfold fX9_areComparable Pgm.cmpT
  rw [if_pos (o_51 q.1), ctI_e0 hn ht, ctI_e1 hn ht, e11]
  by_cases z0 : t = 0
  · rw [if_pos z0, if_pos (Or.inl z0)]
  · rw [if_neg z0]
    by_cases z1 : t = 1
    · rw [if_pos z1, if_pos (Or.inr z1)]
    · rw [if_neg z1, if_neg (by omega), e9_isRef hn ht, Option.bind_some]
      dsimp only
      rw [kI_if, e9_isRef hn hu, Option.bind_some]
      dsimp only
      rw [kI_if, R_51_0 q.1, Option.bind_some, q.isSub hp hN ht hu ht5 hu5, Option.bind_some]
      dsimp only
      rw [kI_if, R_51_0 q.1, Option.bind_some, q.isSub hp hN hu ht hu5 ht5, Option.bind_some]
      dsimp only
      rw [kI_if]
      cases rfT t <;> cases rfT u <;> cases P.sub t u <;> cases P.sub u t <;> rfl
/-- the typer stands in class c with E; a pile of types -/
theorem CSt.cons_len {P : Pgm} {σ l : List Nat} {X : Nat} {h : pH} (q : CSt P (σ ++ l) X h) (hl : l ≠ []) : σ.length ≤ 3000 := by
  have h1 := q.len
  rw [List.length_append] at h1
  have : l.length ≠ 0 := fun z => hl (List.length_eq_zero_iff.mp z)
  omega
theorem push_bool {N : Nat} {t : Nat} {h h' : pH} (e : fX9_push N 51 (ctI t) h = some (1, h')) : ((fX9_push N 51 (ctI t) h).bind fun q5 => if q5.1 = 0 then some ((0 : Int32), q5.2) else some ((1 : Int32), q5.2)) = some (1, h') := by
  rw [e]
  rfl
theorem sign_188 {P : Pgm} {σ : List Nat} {X N t u : Nat} {h : pH} (hn : P.n ≤ 400) (hs : Sg h) (q : CSt P (σ ++ [t, u]) X h) : TyR P σ X pyA (eqT [t, u] [0, 0] 0) (fX9_isSignFine_188 N 51 h) h := by
  obtain ⟨h1, h2, e1, e2, e3, t1, t2, u1, u2, g, s1, s2, g1⟩ := CSt.pop2 (N := N) hs q
  unfold fX9_isSignFine_188
  rw [e1, Option.bind_some]
  dsimp only
  rw [e2, Option.bind_some]
  dsimp only
  rw [e9_numbers hn t1 u1, Option.bind_some]
  dsimp only
  rw [kI_if]
  by_cases z : t = 0 ∧ u = 0
  · obtain ⟨rfl, rfl⟩ := z
    rw [if_pos (by decide), show eqT [0, 0] [0, 0] 0 = some [0] from rfl]
    exact CSt.push1 (N := N) hn s2 e3 (Or.inl (by omega)) (by omega) (q.cons_len (fun z => by cases z)) (fun a k z => z) g (fun h' e => push_bool (t := 0) e)
  · have hz : (decide (t = 0) && decide (u = 0)) = false := by
      by_cases y : t = 0
      · rw [decide_eq_true y, decide_eq_false (show ¬ u = 0 from fun w => z ⟨y, w⟩)]; rfl
      · rw [decide_eq_false y]; rfl
    have he : eqT [t, u] [0, 0] 0 = none := if_neg (fun w => z ⟨by injection w, by injection w with _ w; injection w⟩)
    rw [hz, if_neg Bool.false_ne_true, he]
    exact ⟨h2, rfl, g⟩
theorem sign_159 {P : Pgm} {σ : List Nat} {X N t u : Nat} {h : pH} (hn : P.n ≤ 400) (hs : Sg h) (q : CSt P (σ ++ [t, u]) X h) : TyR P σ X pyA (eqT [t, u] [0, 0] 1) (fX9_isSignFine_159 N 51 h) h := by
  obtain ⟨h1, h2, e1, e2, e3, t1, t2, u1, u2, g, s1, s2, g1⟩ := CSt.pop2 (N := N) hs q
  unfold fX9_isSignFine_159
  rw [e1, Option.bind_some]
  dsimp only
  rw [e2, Option.bind_some]
  dsimp only
  rw [e9_numbers hn t1 u1, Option.bind_some]
  dsimp only
  rw [kI_if]
  by_cases z : t = 0 ∧ u = 0
  · obtain ⟨rfl, rfl⟩ := z
    rw [if_pos (by decide), show eqT [0, 0] [0, 0] 1 = some [1] from rfl]
    exact CSt.push1 (N := N) hn s2 e3 (Or.inl (by omega)) (by omega) (q.cons_len (fun z => by cases z)) (fun a k z => z) g (fun h' e => push_bool (t := 1) e)
  · have hz : (decide (t = 0) && decide (u = 0)) = false := by
      by_cases y : t = 0
      · rw [decide_eq_true y, decide_eq_false (show ¬ u = 0 from fun w => z ⟨y, w⟩)]; rfl
      · rw [decide_eq_false y]; rfl
    have he : eqT [t, u] [0, 0] 1 = none := if_neg (fun w => z ⟨by injection w, by injection w with _ w; injection w⟩)
    rw [hz, if_neg Bool.false_ne_true, he]
    exact ⟨h2, rfl, g⟩
theorem sign_129 {P : Pgm} {D : List Int32 → Prop} {num : List Int32 → Nat} {σ : List Nat} {X N t u : Nat} {h : pH} (hN : 1100 ≤ N) (c : CT P D num h) (hp : CPr P h) (q : CSt P (σ ++ [t, u]) X h) : TyR P σ X pyA (if P.cmpT t u = true then some [1] else none) (fX9_isSignFine_129 N 51 h) h := by
  have hn : P.n ≤ 400 := by have := c.2.2.2.2.2.1; omega
  obtain ⟨h1, h2, e1, e2, e3, t1, t2, u1, u2, g, s1, s2, g1⟩ := CSt.pop2 (N := N) c.1 q
  have c2 := c.chg g (fun a k ha => by unfold ctA at ha; unfold pyA; omega)
  have hp2 := hp.chg g (fun k => by unfold pyA; omega)
  unfold fX9_isSignFine_129
  rw [e1, Option.bind_some]
  dsimp only
  rw [e2, Option.bind_some]
  dsimp only
  rw [e9_comparable hN c2 hp2 t1 u1 t2 u2, Option.bind_some]
  dsimp only
  rw [kI_if]
  cases P.cmpT t u with
  | true =>
    rw [if_pos rfl, if_pos rfl]
    exact CSt.push1 (N := N) hn s2 e3 (Or.inl (by omega)) (by omega) (q.cons_len (fun z => by cases z)) (fun a k z => z) g (fun h' e => push_bool (t := 1) e)
  | false =>
    rw [if_neg Bool.false_ne_true, if_neg Bool.false_ne_true]
    exact ⟨h2, rfl, g⟩
/-- the signs, by their numbers -/
theorem CT.sign {P : Pgm} {D : List Int32 → Prop} {num : List Int32 → Nat} {σ : List Nat} {E : EnvV} {X N c k w : Nat} {l : List Nat} {h : pH} (hN : 1100 ≤ N) (ct : CT P D num h) (hp : CPr P h) (hk : 17 ≤ k ∧ k ≤ 27) (hl : l.length = if k ≤ 18 then 1 else 2) (q : CSt P (σ ++ l) X h) : TyR P σ X pyA (P.opT c E k w l) (fX9_isSignFine N 51 (Int32.ofNat k) h) h := by
  have hn : P.n ≤ 400 := by have := ct.2.2.2.2.2.1; omega
  have one : ∀ {v : Nat}, v = 0 ∨ v = 1 → ∀ {t : Nat}, l = [t] → TyR P σ X pyA (eqT [t] [v] v) ((fX9_pop N 51 h).bind fun q34 => if q34.1 = ctI v then (fX9_push N 51 (ctI v) q34.2).bind fun q36 => if q36.1 = 0 then some ((0 : Int32), q36.2) else some ((1 : Int32), q36.2) else some ((0 : Int32), q34.2)) h := by
    intro v hv t ht
    rw [ht] at q
    obtain ⟨h1, e1, e2, t1, t2, g, s1⟩ := CSt.pop1 (N := N) ct.1 q
    rw [e1, Option.bind_some]
    dsimp only
    rw [ctI_is hn t1 (by omega)]
    by_cases z : t = v
    · subst z
      rw [if_pos rfl, show eqT [t] [t] t = some [t] from if_pos rfl]
      exact CSt.push1 (N := N) hn s1 e2 t1 t2 (q.cons_len (fun z => by cases z)) (fun a k z => z) g (fun h' e => push_bool e)
    · rw [if_neg z, show eqT [t] [v] v = none from if_neg (fun w => z (by injection w))]
      exact ⟨h1, rfl, g⟩
  have two : ∀ {t u : Nat}, l = [t, u] → 19 ≤ k → TyR P σ X pyA (P.opT c E k w l) (fX9_isSignFine N 51 (Int32.ofNat k) h) h := by
    intro t u ht hk2
    subst ht
    unfold fX9_isSignFine
    rw [if_pos (o_51 ct.1)]
    have h188 := sign_188 (N := N) hn ct.1 q
    have h159 := sign_159 (N := N) hn ct.1 q
    have h129 := sign_129 (N := N) hN ct hp q
    obtain rfl | rfl | rfl | rfl | rfl | rfl | rfl | rfl | rfl : k = 19 ∨ k = 20 ∨ k = 21 ∨ k = 22 ∨ k = 23 ∨ k = 24 ∨ k = 25 ∨ k = 26 ∨ k = 27 := by omega
    · exact h188
    · exact h188
    · exact h188
    · exact h188
    · exact h188
    · exact h159
    · exact h159
    · exact h129
    · exact h129
  rcases l with _ | ⟨t, _ | ⟨u, _ | ⟨v, l⟩⟩⟩
  · exfalso
    have : ([] : List Nat).length = 0 := rfl
    split at hl <;> omega
  · have : k = 17 ∨ k = 18 := by
      have : ([t] : List Nat).length = 1 := rfl
      split at hl <;> omega
    rcases this with rfl | rfl
    · have z := one (v := 0) (Or.inl rfl) (t := t) rfl
      unfold fX9_isSignFine
      rw [if_pos (o_51 ct.1)]
      exact z
    · have z := one (v := 1) (Or.inr rfl) (t := t) rfl
      unfold fX9_isSignFine
      rw [if_pos (o_51 ct.1)]
      exact z
  · exact two rfl (by
      have : ([t, u] : List Nat).length = 2 := rfl
      split at hl <;> omega)
  · exfalso
    have : (t :: u :: v :: l).length = l.length + 3 := rfl
    split at hl <;> omega
