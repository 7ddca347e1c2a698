/-! ===== THE CLASS' PILE OF TYPES ===== -/
def CSt (P : Pgm) (σ : List Nat) (X : Nat) (h : pH) : Prop := rd h 51 5 = Int32.ofNat σ.length ∧ rd h 51 6 = Int32.ofNat X ∧ σ.length ≤ X ∧ X ≤ 3001 ∧ ∀ i t, σ[i]? = some t → rd h 125 i = ctI t ∧ P.tOk t ∧ t ≠ 5
theorem CSt.chg {A : Nat → Nat → Prop} {P : Pgm} {σ : List Nat} {X : Nat} {h h' : pH} (q : CSt P σ X h) (g : Chg A h h') (hA : ∀ a k, (a = 125 ∨ (a = 51 ∧ (k = 5 ∨ k = 6))) → ¬ A a k) : CSt P σ X h' := by
  obtain ⟨q1, q2, q3, q4, q5⟩ := q
  exact ⟨by rw [g.2.2.1 _ _ (hA 51 5 (by omega))]; exact q1, by rw [g.2.2.1 _ _ (hA 51 6 (by omega))]; exact q2, q3, q4, fun i t ht => ⟨by rw [g.2.2.1 _ _ (hA 125 _ (by omega))]; exact (q5 i t ht).1, (q5 i t ht).2⟩⟩
def pyA (a k : Nat) : Prop := a = 125 ∨ (a = 51 ∧ (k = 5 ∨ k = 6))
theorem CSt.push {P : Pgm} {σ : List Nat} {X N t : Nat} {h : pH} (hn : P.n ≤ 400) (hs : Sg h) (q : CSt P σ X h) (ht : P.tOk t) (h5 : t ≠ 5) (hl : σ.length ≤ 3000) : ∃ h', fX9_push N 51 (ctI t) h = some (1, h') ∧ CSt P (σ ++ [t]) (mxM X (σ.length + 1)) h' ∧ Chg pyA h h' := by
  obtain ⟨q1, q2, q3, q4, q5⟩ := q
  have hs1 := hs.wr 125 σ.length (ctI t)
  have hs2 := hs1.wr 51 5 (Int32.ofNat (σ.length + 1))
  have b1 : rd (wr h 125 σ.length (ctI t)) 51 5 = Int32.ofNat σ.length := by rw [rd_wr_ne _ _ (by omega)]; exact q1
  have b2 : rd (wr (wr h 125 σ.length (ctI t)) 51 5 (Int32.ofNat (σ.length + 1))) 51 6 = Int32.ofNat X := by rw [rd_wr_ne _ _ (by omega), rd_wr_ne _ _ (by omega)]; exact q2
  have e4 : (if Int32.ofNat X < Int32.ofNat (σ.length + 1) then Int32.ofNat (σ.length + 1) else Int32.ofNat X) = Int32.ofNat (mxM X (σ.length + 1)) := by
    rw [ifLt (by omega) (by omega)]
    unfold mxM
    split <;> rfl
  have hmx : σ.length + 1 ≤ mxM X (σ.length + 1) ∧ mxM X (σ.length + 1) ≤ 3001 := by unfold mxM; split <;> omega
  have hll : (σ ++ [t]).length = σ.length + 1 := by rw [List.length_append]; rfl
  have g : Chg pyA h (wr (wr (wr h 125 σ.length (ctI t)) 51 5 (Int32.ofNat (σ.length + 1))) 51 6 (Int32.ofNat (mxM X (σ.length + 1)))) := (Chg.wr _ _ _ _ (by unfold pyA; omega)).trans ((Chg.wr _ _ _ _ (by unfold pyA; omega)).trans (Chg.wr _ _ _ _ (by unfold pyA; omega)))
  refine ⟨_, ?_, ⟨?_, w_51_6 hs2 _, by rw [hll]; exact hmx.1, hmx.2, fun i u hu => ?_⟩, g⟩
  · unfold fX9_push
    rw [if_pos (o_51 hs), if_neg (fun z => h5 ((ctI_5 hn ht).mp z)), g_51_5 hs, Option.bind_some, R_51_4 hs, Option.bind_some, n_125 hs, Option.bind_some, q1, ifLt (by omega) (by omega), if_pos (by omega), Option.bind_some, Option.bind_some, T_125 hs (by omega), Option.bind_some, g_51_5 hs1, Option.bind_some, b1, i_add1, p_51_5 hs1, Option.bind_some, g_51_6 hs2, Option.bind_some, b2, g_51_5 hs2, Option.bind_some, w_51_5 hs1, e4, p_51_6 hs2, Option.bind_some]
  · rw [rd_wr_ne _ _ (by omega), w_51_5 hs1, hll]
  · rw [rd_wr_ne _ _ (by omega), rd_wr_ne _ _ (by omega)]
    by_cases z : i < σ.length
    · rw [List.getElem?_append_left z] at hu
      rw [rd_wr_ne _ _ (by omega)]
      exact q5 i u hu
    · rw [List.getElem?_append_right (by omega)] at hu
      have hi0 := (List.getElem?_eq_some_iff.mp hu).1
      have hi1 : i = σ.length := by
        have : ([t] : List Nat).length = 1 := rfl
        omega
      subst hi1
      rw [Nat.sub_self] at hu
      obtain rfl := Option.some.inj hu
      exact ⟨W_125 hs _ _, ht, h5⟩
theorem push5 {N : Nat} {h : pH} (hs : Sg h) : fX9_push N 51 (-6) h = some (0, h) := by
  unfold fX9_push
  rw [if_pos (o_51 hs), if_pos rfl]
theorem CSt.pop {P : Pgm} {σ : List Nat} {X N t : Nat} {h : pH} (hs : Sg h) (q : CSt P (σ ++ [t]) X h) : ∃ h', fX9_pop N 51 h = some (ctI t, h') ∧ CSt P σ X h' ∧ P.tOk t ∧ t ≠ 5 ∧ Chg pyA h h' := by
  obtain ⟨q1, q2, q3, q4, q5⟩ := q
  have hll : (σ ++ [t]).length = σ.length + 1 := by rw [List.length_append]; rfl
  rw [hll] at q1 q3
  have hs1 := hs.wr 51 5 (Int32.ofNat σ.length)
  have ht := q5 σ.length t (by rw [List.getElem?_append_right (Nat.le_refl _), Nat.sub_self]; rfl)
  refine ⟨wr h 51 5 (Int32.ofNat σ.length), ?_, ⟨w_51_5 hs _, ?_, by omega, q4, fun i u hu => ?_⟩, ht.2.1, ht.2.2, Chg.wr _ _ _ _ (by unfold pyA; omega)⟩
  · unfold fX9_pop
    rw [if_pos (o_51 hs), g_51_5 hs, Option.bind_some, q1, if_neg (show ¬ Int32.ofNat (σ.length + 1) = 0 from i_ne (b := 0) (by omega) (by omega) (by omega)), Option.bind_some, i_sub1, p_51_5 hs, Option.bind_some, R_51_4 hs1, Option.bind_some, g_51_5 hs1, Option.bind_some, w_51_5 hs, L_125 hs1 (by omega), Option.bind_some, rd_wr_ne _ _ (by omega), ht.1]
  · rw [rd_wr_ne _ _ (by omega)]; exact q2
  · have hi := (List.getElem?_eq_some_iff.mp hu).1
    rw [rd_wr_ne _ _ (by omega)]
    exact q5 i u (by rw [List.getElem?_append_left hi]; exact hu)
theorem ctI_is {P : Pgm} (hn : P.n ≤ 400) {t u : Nat} (ht : P.tOk t) (hu : u ≤ 5) {α : Type} (x y : α) : (if ctI t = ctI u then x else y) = if t = u then x else y := by
  by_cases z : t = u
  · rw [if_pos (by rw [z]), if_pos z]
  · rw [if_neg (fun w => z ((ctI_eq hn ht (Or.inl hu)).mp w)), if_neg z]
theorem ctI_neg {P : Pgm} {t : Nat} (hn : P.n ≤ 400) (ht : P.tOk t) {α : Type} (x y : α) : (if ctI t < 0 then x else y) = if t < 10 then x else y := by
  rcases ht with h | ⟨h1, h2⟩
  · rw [if_pos (ctI_lt h).2, if_pos (by omega)]
  · rw [ctI_cls h1, if_neg (i_nneg (by omega)), if_neg (by omega)]
theorem ctI_nn {P : Pgm} {t : Nat} (hn : P.n ≤ 400) (ht : P.tOk t) {α : Type} (x y : α) : (if 0 ≤ ctI t then x else y) = if t < 10 then y else x := by
  rcases ht with h | ⟨h1, h2⟩
  · rw [if_neg (Int32.not_le.mpr (ctI_lt h).2), if_pos (by omega)]
  · rw [ctI_cls h1, if_pos (i_nn0 (by omega)), if_neg (by omega)]
