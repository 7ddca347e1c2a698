/-! ===== THE REFERENCE'S SCOPE ===== -/
def RSc (P : Pgm) (D : List Int32 → Prop) (num : List Int32 → Nat) (E : EnvV) (h : pH) : Prop := rd h 138 62 = Int32.ofNat E.1.length ∧ E.1.length < 1000 ∧ (∀ i x, E.1[i]? = some x → D x.1 ∧ rd h 178 i = Int32.ofNat (num x.1) ∧ rd h 179 i = Int32.ofNat x.2 ∧ P.tOk x.2 ∧ x.2 ≠ 5) ∧ rd h 138 66 = kI E.2.1 ∧ (∀ i, i < E.1.length → ∃ b, rd h 180 i = kI b ∧ (E.2.1 = false → b = E.2.2 i))
/-- the names are told once -/
def EnvV.one (E : EnvV) : Prop := ∀ i j, i < E.1.length → j < E.1.length → E.nm i = E.nm j → i = j
/-- kept at number v -/
def RKp (E : EnvV) (n v : Nat) (h : pH) : Prop := ∀ i, i < n → rd h 181 (1000 * v + i) = kI (E.isS i)
theorem RSc.chg {A : Nat → Nat → Prop} {P : Pgm} {D : List Int32 → Prop} {num : List Int32 → Nat} {E : EnvV} {h h' : pH} (q : RSc P D num E h) (g : Chg A h h') (hA : ∀ a k, (a = 178 ∨ a = 179 ∨ a = 180 ∨ (a = 138 ∧ (k = 62 ∨ k = 66))) → ¬ A a k) : RSc P D num E h' := by
  obtain ⟨q1, q2, q3, q4, q5⟩ := q
  refine ⟨by rw [g.2.2.1 _ _ (hA 138 62 (by omega))]; exact q1, q2, fun i x hx => ?_, by rw [g.2.2.1 _ _ (hA 138 66 (by omega))]; exact q4, fun i hi => by rw [g.2.2.1 _ _ (hA 180 _ (by omega))]; exact q5 i hi⟩
  obtain ⟨a1, a2, a3, a4, a5⟩ := q3 i x hx
  exact ⟨a1, by rw [g.2.2.1 _ _ (hA 178 _ (by omega))]; exact a2, by rw [g.2.2.1 _ _ (hA 179 _ (by omega))]; exact a3, a4, a5⟩
theorem RSc.var_7 {P : Pgm} {D : List Int32 → Prop} {num : List Int32 → Nat} {E : EnvV} {N : Nat} {w : List Int32} {h : pH} (hs : Sg h) (hi : NmI D num) (hl : ∀ w, num w < 4000) (q : RSc P D num E h) (ho : E.one) (hw : D w) : ∀ (d k : Nat), d ≤ E.1.length → d < k → (∀ j, d ≤ j → j < E.1.length → E.nm j ≠ w) → fX12_variableOf_7 N k 138 (Int32.ofNat (num w)) (Int32.ofNat d - 1) h = some (oI (-1) (E.fnd w), h)
  | 0, k, hd, hk, hj => by
    obtain ⟨k, rfl⟩ : ∃ k', k = k' + 1 := ⟨k - 1, by omega⟩
    have : E.fnd w = none := by
      rcases hf : E.fnd w with _ | c
      · rfl
      · obtain ⟨f1, f2, f3, _⟩ := fstN_some hf
        exact absurd (of_decide_eq_true f3) (hj c f1 (by omega))
    rw [fX12_variableOf_7, show Int32.ofNat 0 - 1 = (-1 : Int32) by decide, if_pos (by decide), this]
    rfl
  | d + 1, k, hd, hk, hj => by
    obtain ⟨k, rfl⟩ : ∃ k', k = k' + 1 := ⟨k - 1, by omega⟩
    obtain ⟨q1, q2, q3, q4, q5⟩ := id q
    have hx : E.1[d]? = some (E.1[d]'(by omega)) := List.getElem?_eq_getElem (by omega)
    generalize E.1[d]'(by omega) = x at hx
    obtain ⟨a1, a2, a3, a4, a5⟩ := q3 d x hx
    have hnm := (EnvV.nm_get hx).1
    have n1 := hl x.1
    have n2 := hl w
    rw [fX12_variableOf_7, i_sub1, if_neg (i_nneg (by omega)), R_138_63 hs, Option.bind_some, L_178 hs (by omega), Option.bind_some, a2, ifEq (by omega) (by omega)]
    by_cases z : x.1 = w
    · rw [if_pos (by rw [z])]
      have : E.fnd w = some d := by
        rcases hf : E.fnd w with _ | c
        · have := fstN_none hf d (Nat.zero_le _) (by omega)
          exact absurd (hnm.trans z) (of_decide_eq_false this)
        · obtain ⟨f1, f2, f3, _⟩ := fstN_some hf
          have := of_decide_eq_true f3
          rw [ho c d (by omega) (by omega) (this.trans (hnm.trans z).symm)]
      rw [this]
      rfl
    · rw [if_neg (fun y => z (hi _ _ a1 hw y)), ← Int32.sub_eq_add_neg]
      exact RSc.var_7 hs hi hl q ho hw d k (by omega) (by omega) (fun j j1 j2 => by
        by_cases y : j = d
        · rw [y, hnm]; exact z
        · exact hj j (by omega) j2)
theorem RSc.variableOf {P : Pgm} {D : List Int32 → Prop} {num : List Int32 → Nat} {E : EnvV} {N : Nat} {w : List Int32} {h : pH} (hN : 1100 ≤ N) (hs : Sg h) (hi : NmI D num) (hl : ∀ w, num w < 4000) (q : RSc P D num E h) (ho : E.one) (hw : D w) : fX12_variableOf N 138 (Int32.ofNat (num w)) h = some (oI (-1) (E.fnd w), h) := by
  have q2 := q.2.1
  unfold fX12_variableOf
  rw [if_pos (o_138 hs), g_138_62 hs, Option.bind_some, q.1, RSc.var_7 hs hi hl q ho hw E.1.length N (Nat.le_refl _) (by omega) (fun j j1 j2 => by omega)]
theorem RSc.addVariable {P : Pgm} {D : List Int32 → Prop} {num : List Int32 → Nat} {E : EnvV} {N t : Nat} {w : List Int32} {s : Bool} {h : pH} (hs : Sg h) (q : RSc P D num E h) (hw : D w) (ht : P.tOk t) (h5 : t ≠ 5) (hlen : E.1.length < 999) : ∃ h', fX12_addVariable N 138 (Int32.ofNat (num w)) (Int32.ofNat t) (kI s) h = some h' ∧ RSc P D num (E.add w t s) h' ∧ Chg (fun a k => (a = 138 ∧ k = 62) ∨ ((a = 178 ∨ a = 179 ∨ a = 180) ∧ k = E.1.length)) h h' := by
  obtain ⟨q1, q2, q3, q4, q5⟩ := q
  generalize hn : E.1.length = n at q1 q2 q5 hlen ⊢
  have hs1 := hs.wr 178 n (Int32.ofNat (num w))
  have hs2 := hs1.wr 179 n (Int32.ofNat t)
  have hs3 := hs2.wr 180 n (kI s)
  have b1 : rd (wr h 178 n (Int32.ofNat (num w))) 138 62 = Int32.ofNat n := by rw [rd_wr_ne _ _ (by omega)]; exact q1
  have b2 : rd (wr (wr h 178 n (Int32.ofNat (num w))) 179 n (Int32.ofNat t)) 138 62 = Int32.ofNat n := by rw [rd_wr_ne _ _ (by omega)]; exact b1
  have b3 : rd (wr (wr (wr h 178 n (Int32.ofNat (num w))) 179 n (Int32.ofNat t)) 180 n (kI s)) 138 62 = Int32.ofNat n := by rw [rd_wr_ne _ _ (by omega)]; exact b2
  have g : Chg (fun a k => (a = 138 ∧ k = 62) ∨ ((a = 178 ∨ a = 179 ∨ a = 180) ∧ k = n)) h (wr (wr (wr (wr h 178 n (Int32.ofNat (num w))) 179 n (Int32.ofNat t)) 180 n (kI s)) 138 62 (Int32.ofNat (n + 1))) := ((Chg.wr _ _ _ _ (by omega)).trans (Chg.wr _ _ _ _ (by omega))).trans ((Chg.wr _ _ _ _ (by omega)).trans (Chg.wr _ _ _ _ (by omega)))
  have hl : (E.add w t s).1.length = n + 1 := by
    show (E.1 ++ [(w, t)]).length = n + 1
    rw [List.length_append, hn]
    rfl
  refine ⟨_, ?_, ⟨by rw [hl]; exact w_138_62 hs3 _, by rw [hl]; omega, fun i x hx => ?_, ?_, fun i hi => ?_⟩, g⟩
  · unfold fX12_addVariable
    rw [if_pos (o_138 hs), R_138_63 hs, Option.bind_some, g_138_62 hs, Option.bind_some, q1, T_178 hs (by omega), Option.bind_some, R_138_64 hs1, Option.bind_some, g_138_62 hs1, Option.bind_some, b1, T_179 hs1 (by omega), Option.bind_some, R_138_65 hs2, Option.bind_some, g_138_62 hs2, Option.bind_some, b2, T_180 hs2 (by omega) (kI_01 _), Option.bind_some, g_138_62 hs3, Option.bind_some, b3, i_add1, p_138_62 hs3, Option.bind_some]
  · have hx' : (E.1 ++ [(w, t)])[i]? = some x := hx
    by_cases z : i < n
    · rw [List.getElem?_append_left (by omega)] at hx'
      rw [g.2.2.1 _ _ (by omega), g.2.2.1 _ _ (by omega)]
      exact q3 i x hx'
    · rw [List.getElem?_append_right (by omega)] at hx'
      have hi0 := (List.getElem?_eq_some_iff.mp hx').1
      have hi1 : i = n := by
        have : ([(w, t)] : List (List Int32 × Nat)).length = 1 := rfl
        omega
      subst hi1
      rw [hn, Nat.sub_self] at hx'
      obtain rfl := Option.some.inj hx'
      refine ⟨hw, ?_, ?_, ht, h5⟩
      · rw [rd_wr_ne _ _ (by omega), rd_wr_ne _ _ (by omega), rd_wr_ne _ _ (by omega), W_178 hs]
      · rw [rd_wr_ne _ _ (by omega), rd_wr_ne _ _ (by omega), W_179 hs1]
  · rw [g.2.2.1 _ _ (by omega)]; exact q4
  · rw [hl] at hi
    by_cases z : i = n
    · subst z
      refine ⟨s, by rw [rd_wr_ne _ _ (by omega), W_180 hs2], fun _ => ?_⟩
      show s = if i = E.1.length then s else E.2.2 i
      rw [hn, if_pos rfl]
    · obtain ⟨b, c1, c2⟩ := q5 i (by omega)
      refine ⟨b, by rw [g.2.2.1 _ _ (by omega)]; exact c1, fun hd => ?_⟩
      show b = if i = E.1.length then s else E.2.2 i
      rw [hn, if_neg z]
      exact c2 hd
theorem i_1000 (v i : Nat) : (1000 : Int32) * Int32.ofNat v + Int32.ofNat i = Int32.ofNat (1000 * v + i) := by
  rw [Int32.ofNat_add, Int32.ofNat_mul]
  rfl
theorem RSc.keep_2 {P : Pgm} {D : List Int32 → Prop} {num : List Int32 → Nat} {E : EnvV} {N v : Nat} (hv : v < 99) : ∀ (d i k : Nat) (h : pH), i + d = E.1.length → d < k → Sg h → RSc P D num E h → ∃ h', fX12_keepSets_2 N k 138 (Int32.ofNat v) (Int32.ofNat i) h = some h' ∧ (∀ j, i ≤ j → j < E.1.length → rd h' 181 (1000 * v + j) = kI (E.isS j)) ∧ Chg (fun a k => a = 181 ∧ 1000 * v + i ≤ k ∧ k < 1000 * v + 1000) h h'
  | 0, i, k, h, hd, hk, hs, q => by
    obtain ⟨k, rfl⟩ : ∃ k', k = k' + 1 := ⟨k - 1, by omega⟩
    have q2 := q.2.1
    refine ⟨h, ?_, fun j j1 j2 => by omega, Chg.refl _ _⟩
    rw [fX12_keepSets_2, g_138_62 hs, Option.bind_some, q.1, ifLe (by omega) (by omega), if_pos (by omega)]
  | d + 1, i, k, h, hd, hk, hs, q => by
    obtain ⟨k, rfl⟩ : ∃ k', k = k' + 1 := ⟨k - 1, by omega⟩
    obtain ⟨q1, q2, q3, q4, q5⟩ := id q
    obtain ⟨b, b1, b2⟩ := q5 i (by omega)
    have g : Chg (fun a k => a = 181 ∧ 1000 * v + i ≤ k ∧ k < 1000 * v + 1000) h (wr h 181 (1000 * v + i) (kI (E.isS i))) := Chg.wr _ _ _ _ (by omega)
    obtain ⟨h', e1, e2, e3⟩ := RSc.keep_2 (P := P) (D := D) (num := num) (E := E) (N := N) hv d (i + 1) k _ (by omega) (by omega) (hs.wr 181 (1000 * v + i) (kI (E.isS i))) (q.chg g (fun a k z => by omega))
    have h42 : ∀ s : Bool, E.isS i = s → fX12_keepSets_42 N (fX12_keepSets_2 N k) 138 (Int32.ofNat v) (Int32.ofNat i) 181 ((1000 : Int32) * Int32.ofNat v + Int32.ofNat i) (kI s) h = some h' := fun s hse => by
      unfold fX12_keepSets_42
      rw [i_1000, T_181 hs (by omega) (kI_01 _), Option.bind_some, i_add1, ← hse]
      exact e1
    refine ⟨h', ?_, fun j j1 j2 => ?_, g.trans (e3.mono (fun a k z => by omega))⟩
    · rw [fX12_keepSets_2, g_138_62 hs, Option.bind_some, q1, ifLe (by omega) (by omega), if_neg (by omega), R_138_67 hs, Option.bind_some, g_138_66 hs, Option.bind_some, q4, kI_if, R_138_65 hs, Option.bind_some, L_180 hs (by omega), Option.bind_some, b1, kI_if]
      unfold fX12_keepSets_37
      cases hD : E.2.1 with
      | true => exact h42 true (by unfold EnvV.isS; rw [hD, Bool.true_or])
      | false =>
        have hb := b2 hD
        cases hbb : b with
        | true => exact h42 true (by unfold EnvV.isS; rw [hD, Bool.false_or, ← hb, hbb])
        | false => exact h42 false (by unfold EnvV.isS; rw [hD, Bool.false_or, ← hb, hbb])
    · by_cases z : j = i
      · rw [z, e3.2.2.1 _ _ (by omega), W_181 hs]
      · exact e2 j (by omega) j2
theorem RSc.keepSets {P : Pgm} {D : List Int32 → Prop} {num : List Int32 → Nat} {E : EnvV} {N v : Nat} {h : pH} (hN : 1100 ≤ N) (hv : v < 99) (hs : Sg h) (q : RSc P D num E h) : ∃ h', fX12_keepSets N 138 (Int32.ofNat v) h = some h' ∧ RSc P D num E h' ∧ RKp E E.1.length v h' ∧ Chg (fun a k => a = 181 ∧ 1000 * v ≤ k ∧ k < 1000 * v + 1000) h h' := by
  have q2 := q.2.1
  obtain ⟨h', e1, e2, e3⟩ := RSc.keep_2 (N := N) hv E.1.length 0 N h (by omega) (by omega) hs q
  refine ⟨h', ?_, q.chg e3 (fun a k z => by omega), fun i hi => e2 i (Nat.zero_le _) hi, e3.mono (fun a k z => by omega)⟩
  unfold fX12_keepSets
  rw [if_pos (o_138 hs)]
  exact e1
theorem RSc.back_2 {n : Nat} {E0 : EnvV} {N v : Nat} (hv : v < 99) (hn : n < 1000) : ∀ (d i k : Nat) (h : pH), i + d = n → d < k → Sg h → rd h 138 62 = Int32.ofNat n → RKp E0 n v h → ∃ h', fX12_backSets_2 N k 138 (Int32.ofNat v) (Int32.ofNat i) h = some h' ∧ (∀ j, i ≤ j → j < n → rd h' 180 j = kI (E0.isS j)) ∧ Chg (fun a k => a = 180 ∧ i ≤ k ∧ k < n) h h'
  | 0, i, k, h, hd, hk, hs, q1, r => by
    obtain ⟨k, rfl⟩ : ∃ k', k = k' + 1 := ⟨k - 1, by omega⟩
    refine ⟨h, ?_, fun j j1 j2 => by omega, Chg.refl _ _⟩
    rw [fX12_backSets_2, g_138_62 hs, Option.bind_some, q1, ifLe (by omega) (by omega), if_pos (by omega)]
  | d + 1, i, k, h, hd, hk, hs, q1, r => by
    obtain ⟨k, rfl⟩ : ∃ k', k = k' + 1 := ⟨k - 1, by omega⟩
    have g : Chg (fun a k => a = 180 ∧ i ≤ k ∧ k < n) h (wr h 180 i (kI (E0.isS i))) := Chg.wr _ _ _ _ (by omega)
    obtain ⟨h', e1, e2, e3⟩ := RSc.back_2 (E0 := E0) (N := N) hv hn d (i + 1) k _ (by omega) (by omega) (hs.wr 180 i (kI (E0.isS i))) (by rw [rd_wr_ne _ _ (by omega)]; exact q1) (fun j hj => by rw [rd_wr_ne _ _ (by omega)]; exact r j hj)
    refine ⟨h', ?_, fun j j1 j2 => ?_, g.trans (e3.mono (fun a k z => by omega))⟩
    · rw [fX12_backSets_2, g_138_62 hs, Option.bind_some, q1, ifLe (by omega) (by omega), if_neg (by omega), R_138_65 hs, Option.bind_some, R_138_67 hs, Option.bind_some, i_1000, L_181 hs (by omega), Option.bind_some, r i (by omega), T_180 hs (by omega) (kI_01 _), Option.bind_some, i_add1]
      exact e1
    · by_cases z : j = i
      · rw [z, e3.2.2.1 _ _ (by omega), W_180 hs]
      · exact e2 j (by omega) j2
