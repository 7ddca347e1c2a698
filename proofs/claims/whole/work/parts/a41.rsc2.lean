/-! ===== THE REFERENCE'S SCOPE: back, join ===== -/
theorem RSc.back {P : Pgm} {D : List Int32 → Prop} {num : List Int32 → Nat} {E0 E1 : EnvV} {N v : Nat} {h : pH} (hN : 1100 ≤ N) (hv : v < 99) (hs : Sg h) (q : RSc P D num E1 h) (h1 : E1.1 = E0.1) (r : RKp E0 E0.1.length v h) : ∃ h1 h', putZ h 138 12 66 (kI E0.2.1) = some h1 ∧ fX12_backSets N 138 (Int32.ofNat v) h1 = some h' ∧ RSc P D num E0 h' ∧ Chg (fun a k => a = 180 ∨ (a = 138 ∧ k = 66)) h h' := by
  obtain ⟨q1, q2, q3, q4, q5⟩ := q
  rw [h1] at q1 q2 q3 q5
  have hs1 := hs.wr 138 66 (kI E0.2.1)
  obtain ⟨h', e1, e2, e3⟩ := RSc.back_2 (E0 := E0) (N := N) hv q2 E0.1.length 0 N (wr h 138 66 (kI E0.2.1)) (by omega) (by omega) hs1 (by rw [rd_wr_ne _ _ (by omega)]; exact q1) (fun j hj => by rw [rd_wr_ne _ _ (by omega)]; exact r j hj)
  have g : Chg (fun a k => a = 180 ∨ (a = 138 ∧ k = 66)) h h' := (Chg.wr _ _ _ _ (by omega)).trans (e3.mono (fun a k z => by omega))
  refine ⟨_, h', z_138_66 hs (kI_01 _), ?_, ⟨?_, q2, fun i x hx => ?_, ?_, fun i hi => ⟨E0.isS i, e2 i (Nat.zero_le _) hi, fun hD => ?_⟩⟩, g⟩
  · unfold fX12_backSets
    rw [if_pos (o_138 hs1)]
    exact e1
  · rw [g.2.2.1 _ _ (by omega)]; exact q1
  · rw [g.2.2.1 _ _ (by omega), g.2.2.1 _ _ (by omega)]; exact q3 i x hx
  · rw [e3.2.2.1 _ _ (by omega), w_138_66 hs]
  · unfold EnvV.isS
    rw [hD, Bool.false_or]
theorem RSc.join_2 {P : Pgm} {D : List Int32 → Prop} {num : List Int32 → Nat} {E1 E2 : EnvV} {N v : Nat} (hv : v < 99) : ∀ (d i k : Nat) (h : pH), i + d = E2.1.length → d < k → Sg h → rd h 138 62 = Int32.ofNat E2.1.length → E2.1.length < 1000 → rd h 138 66 = kI E2.2.1 → (∀ j, i ≤ j → j < E2.1.length → ∃ b, rd h 180 j = kI b ∧ (E2.2.1 = false → b = E2.2.2 j)) → RKp E1 E2.1.length v h → ∃ h', fX12_joinSets_2 N k 138 (Int32.ofNat v) (kI E1.2.1) (Int32.ofNat i) h = some h' ∧ (∀ j, i ≤ j → j < E2.1.length → rd h' 180 j = kI (E1.isS j && E2.isS j)) ∧ rd h' 138 66 = kI (E1.2.1 && E2.2.1) ∧ Chg (fun a k => (a = 180 ∧ i ≤ k) ∨ (a = 138 ∧ k = 66)) h h'
  | 0, i, k, h, hd, hk, hs, q1, q2, q4, q5, r => by
    obtain ⟨k, rfl⟩ : ∃ k', k = k' + 1 := ⟨k - 1, by omega⟩
    refine ⟨wr h 138 66 (kI (E1.2.1 && E2.2.1)), ?_, fun j j1 j2 => by omega, w_138_66 hs _, Chg.wr _ _ _ _ (by omega)⟩
    rw [fX12_joinSets_2, g_138_62 hs, Option.bind_some, q1, ifLe (by omega) (by omega), if_pos (by omega), g_138_66 hs, Option.bind_some, q4, kI_if, kI_if]
    unfold fX12_joinSets_78 fX12_joinSets_79
    rw [z_138_66 hs (Or.inl rfl), z_138_66 hs (Or.inr rfl)]
    cases E2.2.1 <;> cases E1.2.1 <;> rfl
  | d + 1, i, k, h, hd, hk, hs, q1, q2, q4, q5, r => by
    obtain ⟨k, rfl⟩ : ∃ k', k = k' + 1 := ⟨k - 1, by omega⟩
    obtain ⟨b, b1, b2⟩ := q5 i (Nat.le_refl i) (by omega)
    have ri := r i (by omega)
    have g : Chg (fun a k => (a = 180 ∧ k = i)) h (wr h 180 i (kI (E1.isS i && E2.isS i))) := Chg.wr _ _ _ _ (by omega)
    obtain ⟨h', e1, e2, e3, e4⟩ := RSc.join_2 (P := P) (D := D) (num := num) (E1 := E1) (E2 := E2) (N := N) hv d (i + 1) k _ (by omega) (by omega) (hs.wr 180 i (kI (E1.isS i && E2.isS i))) (by rw [g.2.2.1 _ _ (by omega)]; exact q1) q2 (by rw [g.2.2.1 _ _ (by omega)]; exact q4) (fun j j1 j2 => by rw [g.2.2.1 _ _ (by omega)]; exact q5 j (by omega) j2) (fun j hj => by rw [g.2.2.1 _ _ (by omega)]; exact r j hj)
    have h55 : ∀ s : Bool, (E1.isS i && E2.isS i) = s → fX12_joinSets_55 N (fX12_joinSets_2 N k) 138 (Int32.ofNat v) (kI E1.2.1) (Int32.ofNat i) 180 (Int32.ofNat i) (kI s) h = some h' := fun s hse => by
      unfold fX12_joinSets_55
      rw [T_180 hs (by omega) (kI_01 _), Option.bind_some, i_add1, ← hse]
      exact e1
    have h31 : E2.isS i = true → fX12_joinSets_31 N (fX12_joinSets_2 N k) 138 (Int32.ofNat v) (kI E1.2.1) (Int32.ofNat i) 180 (Int32.ofNat i) h = some h' := fun hS => by
      unfold fX12_joinSets_31 fX12_joinSets_54 fX12_joinSets_50
      rw [kI_if, R_138_67 hs, Option.bind_some, i_1000, L_181 hs (by omega), Option.bind_some, ri, kI_if]
      cases hD1 : E1.2.1 with
      | true =>
        have z := h55 true (by unfold EnvV.isS at hS ⊢; rw [hD1, hS]; rfl)
        rw [hD1] at z
        exact z
      | false =>
        cases hE : E1.isS i with
        | true =>
          have z := h55 true (by rw [hE, hS]; rfl)
          rw [hD1] at z
          exact z
        | false =>
          have z := h55 false (by rw [hE, hS]; rfl)
          rw [hD1] at z
          exact z
    refine ⟨h', ?_, fun j j1 j2 => ?_, e3, (g.mono (fun a k z => by omega)).trans (e4.mono (fun a k z => by omega))⟩
    · rw [fX12_joinSets_2, g_138_62 hs, Option.bind_some, q1, ifLe (by omega) (by omega), if_neg (by omega), R_138_65 hs, Option.bind_some, g_138_66 hs, Option.bind_some, q4, kI_if, Option.bind_some, L_180 hs (by omega), Option.bind_some, b1, kI_if]
      cases hD : E2.2.1 with
      | true => exact h31 (by unfold EnvV.isS; rw [hD, Bool.true_or])
      | false =>
        have hb := b2 hD
        have hS : E2.isS i = b := by unfold EnvV.isS; rw [hD, Bool.false_or, hb]
        cases hbb : b with
        | true => exact h31 (by rw [hS, hbb])
        | false => exact h55 false (by rw [hS, hbb, Bool.and_false])
    · by_cases z : j = i
      · rw [z, e4.2.2.1 _ _ (by omega), W_180 hs]
      · exact e2 j (by omega) j2
theorem RSc.joinSets {P : Pgm} {D : List Int32 → Prop} {num : List Int32 → Nat} {E0 E1 E2 : EnvV} {N v : Nat} {h : pH} (hN : 1100 ≤ N) (hv : v < 99) (hs : Sg h) (q : RSc P D num E2 h) (h2 : E2.1 = E0.1) (r : RKp E1 E0.1.length v h) : ∃ h', fX12_joinSets N 138 (Int32.ofNat v) (kI E1.2.1) h = some h' ∧ RSc P D num (E0.join E1 E2) h' ∧ Chg (fun a k => a = 180 ∨ (a = 138 ∧ k = 66)) h h' := by
  obtain ⟨q1, q2, q3, q4, q5⟩ := q
  obtain ⟨h', e1, e2, e3, e4⟩ := RSc.join_2 (P := P) (D := D) (num := num) (E1 := E1) (E2 := E2) (N := N) hv E2.1.length 0 N h (by omega) (by omega) hs q1 q2 q4 (fun j _ j2 => q5 j j2) (by rw [h2]; exact r)
  refine ⟨h', ?_, ⟨?_, by show E0.1.length < 1000; rw [← h2]; exact q2, fun i x hx => ?_, e3, fun i hi => ⟨_, e2 i (Nat.zero_le _) (by rw [h2]; exact hi), fun _ => rfl⟩⟩, e4.mono (fun a k z => by omega)⟩
  · unfold fX12_joinSets
    rw [if_pos (o_138 hs)]
    exact e1
  · rw [e4.2.2.1 _ _ (by omega), q1, h2]
    rfl
  · rw [e4.2.2.1 _ _ (by omega), e4.2.2.1 _ _ (by omega)]
    exact q3 i x (by rw [h2]; exact hx)
