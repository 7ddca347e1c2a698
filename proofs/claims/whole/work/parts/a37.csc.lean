/-! ===== THE CLASS' SCOPE ===== -/
/-- the class' scope holds E; M at most variables so far -/
def CSc (P : Pgm) (D : List Int32 → Prop) (num : List Int32 → Nat) (E : EnvV) (M : Nat) (h : pH) : Prop := rd h 52 2 = Int32.ofNat E.1.length ∧ rd h 52 3 = Int32.ofNat M ∧ E.1.length ≤ M ∧ M < 1000 ∧ (∀ i x, E.1[i]? = some x → D x.1 ∧ rd h 53 i = Int32.ofNat (num x.1) ∧ rd h 54 i = ctI x.2 ∧ P.tOk x.2 ∧ x.2 ≠ 5) ∧ rd h 52 5 = kI E.2.1 ∧ (E.2.1 = false → ∀ i, i < E.1.length → bt (rd h 55 (i / 32)) (i % 32) = E.2.2 i)
theorem CSc.chg {A : Nat → Nat → Prop} {P : Pgm} {D : List Int32 → Prop} {num : List Int32 → Nat} {E : EnvV} {M : Nat} {h h' : pH} (q : CSc P D num E M h) (g : Chg A h h') (hA : ∀ a k, (a = 53 ∨ a = 54 ∨ a = 55 ∨ (a = 52 ∧ (k = 2 ∨ k = 3 ∨ k = 5))) → ¬ A a k) : CSc P D num E M h' := by
  obtain ⟨q1, q2, q3, q4, q5, q6, q7⟩ := q
  refine ⟨by rw [g.2.2.1 _ _ (hA 52 2 (by omega))]; exact q1, by rw [g.2.2.1 _ _ (hA 52 3 (by omega))]; exact q2, q3, q4, fun i x hx => ?_, by rw [g.2.2.1 _ _ (hA 52 5 (by omega))]; exact q6, fun hd i hi => by rw [g.2.2.1 _ _ (hA 55 _ (by omega))]; exact q7 hd i hi⟩
  obtain ⟨a1, a2, a3, a4, a5⟩ := q5 i x hx
  exact ⟨a1, by rw [g.2.2.1 _ _ (hA 53 _ (by omega))]; exact a2, by rw [g.2.2.1 _ _ (hA 54 _ (by omega))]; exact a3, a4, a5⟩
theorem EnvV.nm_get {E : EnvV} {i : Nat} {x : List Int32 × Nat} (h : E.1[i]? = some x) : E.nm i = x.1 ∧ E.tyv i = x.2 := by
  unfold EnvV.nm EnvV.tyv
  rw [h]
  exact ⟨rfl, rfl⟩
theorem CSc.find_2 {P : Pgm} {D : List Int32 → Prop} {num : List Int32 → Nat} {E : EnvV} {M N : Nat} {w : List Int32} {h : pH} (hs : Sg h) (hi : NmI D num) (hl : ∀ w, num w < 4000) (q : CSc P D num E M h) (hw : D w) : ∀ (d i k : Nat), i + d = E.1.length → d < k → fX8_find_2 N k 52 (Int32.ofNat (num w)) (Int32.ofNat i) h = some (oI (-1) (fstN (fun i => decide (E.nm i = w)) d i), h)
  | 0, i, k, hd, hk => by
    obtain ⟨k, rfl⟩ : ∃ k', k = k' + 1 := ⟨k - 1, by omega⟩
    obtain ⟨q1, q2, q3, q4, q5, q6, q7⟩ := q
    rw [fX8_find_2, g_52_2 hs, Option.bind_some, q1, ifLe (by omega) (by omega), if_pos (by omega)]
    rfl
  | d + 1, i, k, hd, hk => by
    obtain ⟨k, rfl⟩ : ∃ k', k = k' + 1 := ⟨k - 1, by omega⟩
    obtain ⟨q1, q2, q3, q4, q5, q6, q7⟩ := id q
    have hx : E.1[i]? = some (E.1[i]'(by omega)) := List.getElem?_eq_getElem (by omega)
    generalize E.1[i]'(by omega) = x at hx
    obtain ⟨a1, a2, a3, a4, a5⟩ := q5 i x hx
    have n1 := hl x.1
    have n2 := hl w
    have IH := CSc.find_2 (N := N) hs hi hl q hw d (i + 1) k (by omega) (by omega)
    rw [fX8_find_2, g_52_2 hs, Option.bind_some, q1, ifLe (by omega) (by omega), if_neg (by omega), R_52_0 hs, Option.bind_some, L_53 hs (by omega), Option.bind_some, a2, ifEq (by omega) (by omega), i_add1, IH, fstN_succ, (EnvV.nm_get hx).1]
    by_cases z : x.1 = w
    · rw [if_pos (by rw [z]), if_pos (decide_eq_true z)]
      rfl
    · rw [if_neg (fun y => z (hi _ _ a1 hw y)), if_neg (fun y => z (of_decide_eq_true y))]
theorem CSc.find {P : Pgm} {D : List Int32 → Prop} {num : List Int32 → Nat} {E : EnvV} {M N : Nat} {w : List Int32} {h : pH} (hN : 1100 ≤ N) (hs : Sg h) (hi : NmI D num) (hl : ∀ w, num w < 4000) (q : CSc P D num E M h) (hw : D w) : fX8_find N 52 (Int32.ofNat (num w)) h = some (oI (-1) (E.fnd w), h) := by
  have q3 := q.2.2.1
  have q4 := q.2.2.2.1
  unfold fX8_find
  rw [if_pos (o_52 hs), show (0 : Int32) = Int32.ofNat 0 from rfl, CSc.find_2 hs hi hl q hw E.1.length 0 N (by omega) (by omega)]
  rfl
theorem CSc.isSet {P : Pgm} {D : List Int32 → Prop} {num : List Int32 → Nat} {E : EnvV} {M N i : Nat} {h : pH} (hs : Sg h) (q : CSc P D num E M h) (hi : i < E.1.length) : fX8_isSet N 52 (Int32.ofNat i) h = some (kI (E.isS i), h) := by
  obtain ⟨q1, q2, q3, q4, q5, q6, q7⟩ := q
  unfold fX8_isSet EnvV.isS
  rw [if_pos (o_52 hs), g_52_5 hs, Option.bind_some, q6, kI_if]
  cases hd : E.2.1 with
  | true => rfl
  | false =>
    have hb := q7 hd i hi
    rw [if_neg Bool.false_ne_true, R_52_4 hs, Option.bind_some, i_sh5 i (by omega), L_55 hs (by omega), Option.bind_some, i_m31 i (by omega), Bool.false_or]
    by_cases z : rd h 55 (i / 32) &&& mk1 (i % 32) = 0
    · rw [if_pos z]
      rw [(bt_test _ (by omega)).mp z] at hb
      rw [← hb]
      rfl
    · rw [if_neg z]
      have : bt (rd h 55 (i / 32)) (i % 32) = true := by
        cases y : bt (rd h 55 (i / 32)) (i % 32) with
        | true => rfl
        | false => exact absurd ((bt_test _ (by omega)).mpr y) z
      rw [this] at hb
      rw [← hb]
      rfl
/-- bit i is set to one: what the others are -/
theorem bt_give {h : pH} (hs : Sg h) {i : Nat} (hi : i < 1000) (j : Nat) : bt (rd (wr h 55 (i / 32) (rd h 55 (i / 32) ||| mk1 (i % 32))) 55 (j / 32)) (j % 32) = (bt (rd h 55 (j / 32)) (j % 32) || decide (j = i)) := by
  by_cases z : j / 32 = i / 32
  · rw [z, W_55 hs, bt_or, mk1_bt (i % 32) (by omega) (j % 32) (by omega)]
    congr 1
    by_cases y : j = i
    · rw [decide_eq_true y, decide_eq_true (by rw [y])]
    · rw [decide_eq_false y, decide_eq_false (by omega)]
  · rw [rd_wr_ne _ _ (by omega), decide_eq_false (show ¬ j = i from fun y => z (by rw [y])), Bool.or_false]
theorem bt_take {h : pH} (hs : Sg h) {i : Nat} (hi : i < 1000) (j : Nat) : bt (rd (wr h 55 (i / 32) (rd h 55 (i / 32) &&& (mk1 (i % 32) ^^^ (-1 : Int32)))) 55 (j / 32)) (j % 32) = (bt (rd h 55 (j / 32)) (j % 32) && !decide (j = i)) := by
  by_cases z : j / 32 = i / 32
  · rw [z, W_55 hs, bt_and, mk1x_bt (i % 32) (by omega) (j % 32) (by omega)]
    congr 2
    by_cases y : j = i
    · rw [decide_eq_true y, decide_eq_true (by rw [y])]
    · rw [decide_eq_false y, decide_eq_false (by omega)]
  · rw [rd_wr_ne _ _ (by omega), decide_eq_false (show ¬ j = i from fun y => z (by rw [y])), Bool.not_false, Bool.and_true]
theorem e8_give {N i : Nat} {h : pH} (hs : Sg h) (hi : i < 1000) : fX8_give N 52 (Int32.ofNat i) h = some (wr h 55 (i / 32) (rd h 55 (i / 32) ||| mk1 (i % 32))) := by
  unfold fX8_give
  rw [if_pos (o_52 hs), R_52_4 hs, Option.bind_some, i_sh5 i (by omega), L_55 hs (by omega), Option.bind_some, i_m31 i (by omega), T_55 hs (by omega), Option.bind_some]
theorem CSc.give {P : Pgm} {D : List Int32 → Prop} {num : List Int32 → Nat} {E : EnvV} {M N i : Nat} {h : pH} (hs : Sg h) (q : CSc P D num E M h) (hi : i < E.1.length) : ∃ h', fX8_give N 52 (Int32.ofNat i) h = some h' ∧ CSc P D num (E.give i) M h' ∧ Chg (fun a _ => a = 55) h h' := by
  obtain ⟨q1, q2, q3, q4, q5, q6, q7⟩ := q
  refine ⟨_, e8_give hs (by omega), ⟨?_, ?_, q3, q4, fun j x hx => ?_, ?_, fun hd j hj => ?_⟩, Chg.wr _ _ _ _ rfl⟩
  · rw [rd_wr_ne _ _ (by omega)]; exact q1
  · rw [rd_wr_ne _ _ (by omega)]; exact q2
  · rw [rd_wr_ne _ _ (by omega), rd_wr_ne _ _ (by omega)]; exact q5 j x hx
  · rw [rd_wr_ne _ _ (by omega)]; exact q6
  · rw [bt_give hs (by omega), q7 hd j hj]
    show _ = if j = i then true else E.2.2 j
    by_cases z : j = i
    · rw [if_pos z, decide_eq_true z, Bool.or_true]
    · rw [if_neg z, decide_eq_false z, Bool.or_false]
theorem CSc.stop {P : Pgm} {D : List Int32 → Prop} {num : List Int32 → Nat} {E : EnvV} {M N : Nat} {h : pH} (hs : Sg h) (q : CSc P D num E M h) : ∃ h', fX8_stop N 52 h = some h' ∧ CSc P D num E.stop M h' ∧ Chg (fun a k => a = 52 ∧ k = 5) h h' := by
  obtain ⟨q1, q2, q3, q4, q5, q6, q7⟩ := q
  refine ⟨wr h 52 5 1, ?_, ⟨?_, ?_, q3, q4, fun j x hx => ?_, w_52_5 hs _, fun hd => Bool.noConfusion hd⟩, Chg.wr _ _ _ _ ⟨rfl, rfl⟩⟩
  · unfold fX8_stop
    rw [if_pos (o_52 hs), z_52_5 hs (Or.inr rfl), Option.bind_some]
  · rw [rd_wr_ne _ _ (by omega)]; exact q1
  · rw [rd_wr_ne _ _ (by omega)]; exact q2
  · rw [rd_wr_ne _ _ (by omega), rd_wr_ne _ _ (by omega)]; exact q5 j x hx
theorem CSc.clear {P : Pgm} {D : List Int32 → Prop} {num : List Int32 → Nat} {N : Nat} {h : pH} (hs : Sg h) (f : Nat → Bool) : ∃ h', fX8_clear N 52 h = some h' ∧ CSc P D num ([], false, f) 0 h' ∧ rd h' 52 11 = 0 ∧ Chg (fun a k => a = 52 ∧ (k = 2 ∨ k = 3 ∨ k = 5 ∨ k = 11)) h h' := by
  have hs1 := hs.wr 52 2 0
  have hs2 := hs1.wr 52 3 0
  have hs3 := hs2.wr 52 11 0
  refine ⟨wr (wr (wr (wr h 52 2 0) 52 3 0) 52 11 0) 52 5 0, ?_, ⟨?_, ?_, Nat.le_refl 0, by omega, fun j x hx => (by cases hx), w_52_5 hs3 _, fun _ j hj => absurd hj (Nat.not_lt_zero j)⟩, ?_, ((Chg.wr _ _ _ _ (by omega)).trans (Chg.wr _ _ _ _ (by omega))).trans ((Chg.wr _ _ _ _ (by omega)).trans (Chg.wr _ _ _ _ (by omega)))⟩
  · unfold fX8_clear
    rw [if_pos (o_52 hs), p_52_2 hs, Option.bind_some, p_52_3 hs1, Option.bind_some, p_52_11 hs2, Option.bind_some, z_52_5 hs3 (Or.inl rfl), Option.bind_some]
  · rw [rd_wr_ne _ _ (by omega), rd_wr_ne _ _ (by omega), rd_wr_ne _ _ (by omega), w_52_2 hs]; rfl
  · rw [rd_wr_ne _ _ (by omega), rd_wr_ne _ _ (by omega), w_52_3 hs1]; rfl
  · rw [rd_wr_ne _ _ (by omega), w_52_11 hs2]
