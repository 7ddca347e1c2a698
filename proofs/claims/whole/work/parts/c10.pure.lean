/-! ===== THE BEGINNING ===== -/
def pM : Nat := 1000000000000
set_option maxRecDepth 1000000 in
theorem init11M : fX11_init pM 6 [.inl (11, pFs0.getD 11 [])] = some (h0A, 131, 93460) := by eq_refl
set_option maxRecDepth 1000000 in
theorem init12M : fX12_init pM 138 (newOh 12 h0A) = some (h0, 66, 1614246) := by eq_refl
theorem law_eqM (X : pX) : fL_law X pM [] = fL_law_18 X pM pM 6 138 0 199 1707826 h0 := by
  unfold fL_law
  have e1 : fX11_init pM (newOa []) (newOh 11 []) = some (h0A, 131, 93460) := init11M
  rw [e1, Option.bind_some, if_neg (by decide)]
  dsimp only
  rw [newOa0, init12M, Option.bind_some, if_neg (by decide)]
  rfl
theorem Inv_h0 : Inv 0 h0 := by
  refine ⟨⟨Sg_h0, fun i hi => ?_, ?_, ⟨0, by decide +kernel, by decide +kernel, by omega, fun i hi => absurd hi (by omega)⟩, ⟨1000, by decide +kernel, by decide +kernel, by omega⟩⟩, [], ⟨0, by decide +kernel, by omega, by decide +kernel, by show 0 ≤ 300; omega, fun j x hj => (by cases hj)⟩, ⟨by decide +kernel, by show 0 ≤ 300; omega, fun j x hj => (by cases hj)⟩, Or.inl ⟨by decide +kernel, by decide +kernel, by decide +kernel, by decide +kernel, by decide +kernel, by decide +kernel, by decide +kernel, by decide +kernel, by decide +kernel⟩⟩
  · have : i = 0 ∨ i = 1 ∨ i = 2 ∨ i = 3 ∨ i = 4 := by omega
    rcases this with rfl | rfl | rfl | rfl | rfl <;> exact ⟨by decide +kernel, by decide +kernel⟩
  · decide +kernel
theorem pileN_h0 : pileN h0 = 2000 := by decide +kernel
theorem pure_law (X : pX) (hX : X.1 ≤ 3072) : ∃ N q, fL_law X N [] = some q ∧ q.1 = 1 ∧ q.2.2.1 ≤ 105980 ∧ q.2.2.2 ≤ 8784308 := by
  obtain ⟨q, h1, h2⟩ := law_loop (X := X) (N := pM) hX (by decide) (X.1 / 6) 0 pM 199 1707826 h0 (by omega) (by have : pM = 1000000000000 := rfl; omega) Inv_h0 ⟨0, 0, rfl, rfl, Nat.le_refl _, by rw [pileN_h0]; omega⟩
  exact ⟨pM, q, by rw [law_eqM]; exact h1, h2⟩
