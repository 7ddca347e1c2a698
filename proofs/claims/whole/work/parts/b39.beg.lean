/-! ===== THE REFERENCE begins a statement ===== -/
theorem lnk_fs {P : Pgm} {S : Tks} {num : List Int32 → Nat} {c mt q : Nat} {g : pH} {E : EnvV} {r : Tr} {s s' n l : Nat} (hk : GK S q r) (h : RTc P num c mt g r E (some s) s' n l) : rd g 161 s = fsB r s' := by
  have e0 : ∀ r, 1 ≤ stB r → rd g 161 s = Int32.ofNat s' → rd g 161 s = fsB r s' := fun r h1 h2 => by
    unfold fsB
    rw [if_neg (by omega)]
    exact h2
  match q, hk with
  | 0, hk =>
    obtain rfl : r = nl := hk
    exact h
  | q + 1, hk =>
    rcases hk with rfl | ⟨p, y, w, r, rfl, g1, g2, hkr⟩ | ⟨p, y, w, e, r, rfl, g1, g2, g3, hkr⟩ | ⟨p, k, e, r, rfl, hkk, hkr⟩ | ⟨p, x, e, r, rfl, g1, g2, g3, hkr⟩ | ⟨p, e, a, f, b, r, rfl, hf, g1, ha, hb, hkr⟩ | ⟨p, e, a, r, rfl, g1, ha, hkr⟩ | ⟨p, a, cw, w, b, r, rfl, g1, g2, ha, hb, hkr⟩
    · exact h
    · rw [RTc_tell] at h
      exact e0 _ (by unfold bTell; rw [stB_nd, if_pos (by omega)]; omega) h.1
    · rw [RTc_tellv] at h
      exact e0 _ (by unfold bTellv; rw [stB_nd, if_pos (by omega)]; omega) h.1
    · have hk5 := GKk hkk
      rw [RTc_k hk5] at h
      exact e0 _ (by rw [stB_nd, if_pos (by omega)]; omega) h.1
    · rw [RTc_give] at h
      exact e0 _ (by unfold bGive; rw [stB_nd, if_pos (by omega)]; omega) h.1
    · rw [RTc_ite] at h
      exact e0 _ (by unfold bIte; rw [stB_nd, if_pos (by omega)]; omega) h.1
    · rw [RTc_whil] at h
      exact e0 _ (by unfold bWhil; rw [stB_nd, if_pos (by omega)]; omega) h.1
    · rw [RTc_try] at h
      exact e0 _ (by unfold bTry; rw [stB_nd, if_pos (by omega)]; omega) h.1
section BG
variable {g h : pH} {N s j : Nat} {T : List It}
theorem b_207 {v2 : Int32} (hv : v2 ≠ 8) : fX12_begins_207 N 138 (Int32.ofNat s) v2 h = some h := by
  unfold fX12_begins_207
  rw [if_neg hv]
/-- an expression, and then the statement's step -/
theorem beg_1 (st : StV g h) (ht : TdH T h) (hT : T.length + 10 < 400000) (hs : s < 1600) (hj : j < 3200) {v2 : Int32} (e151 : rd g 151 s = v2) (h5 : v2 ≠ 5) (h7 : v2 ≠ 7) (h8 : v2 ≠ 8) (e154 : rd g 154 s = Int32.ofNat j) : ∃ h', fX12_begins N 138 (Int32.ofNat s) h = some h' ∧ TdH ((0, Int32.ofNat j) :: (4, Int32.ofNat s) :: T) h' ∧ Chg (tdB T.length) h h' := by
  have sg := st.1
  obtain ⟨h1, f1, f2, f3⟩ := r_todo (N := N) (k := 4) (y := Int32.ofNat s) sg ht (by omega)
  have st1 : StV g h1 := st.chg f3 (fun a k z => by unfold tdA; omega)
  obtain ⟨h2, g1, g2, g3⟩ := r_todo (N := N) (k := 0) (y := Int32.ofNat j) st1.1 f2 (by rw [List.length_cons]; omega)
  have f1 : fX12_todo N 138 4 (Int32.ofNat s) h = some h1 := f1
  have g1 : fX12_todo N 138 0 (Int32.ofNat j) h1 = some h2 := g1
  refine ⟨h2, ?_, g2, (f3.mono (fun a k z => z.b (Nat.le_refl _))).trans (g3.mono (fun a k z => z.b (by rw [List.length_cons]; omega)))⟩
  have e141 : fX12_begins_141 N 138 (Int32.ofNat s) v2 h = some h2 := by
    unfold fX12_begins_141
    rw [if_neg h7, f1, Option.bind_some, R_138_29 st1.1, Option.bind_some, L_154 st1.1 hs, Option.bind_some, st1.2.1 154 s (by omega) (by omega), e154, if_neg (i_nneg (by omega))]
    simp only [Option.bind_some]
    rw [L_154 st1.1 hs, Option.bind_some, st1.2.1 154 s (by omega) (by omega), e154, g1, Option.bind_some, b_207 h8]
  unfold fX12_begins
  rw [if_pos (o_138 sg), R_138_26 sg, Option.bind_some, L_151 sg hs, Option.bind_some, st.2.1 151 s (by omega) (by omega), e151, if_neg h5]
  by_cases h0 : v2 = 0
  · rw [if_pos h0, R_138_29 sg, Option.bind_some, L_154 sg hs, Option.bind_some, st.2.1 154 s (by omega) (by omega), e154, if_pos (i_nn0 (by omega))]
    exact e141
  · rw [if_neg h0]
    exact e141
/-- nothing but the statement's step -/
theorem beg_2 (st : StV g h) (ht : TdH T h) (hT : T.length + 10 < 400000) (hs : s < 1600) (e151 : rd g 151 s = 3) (e154 : rd g 154 s = -1) : ∃ h', fX12_begins N 138 (Int32.ofNat s) h = some h' ∧ TdH ((4, Int32.ofNat s) :: T) h' ∧ Chg (tdB T.length) h h' := by
  have sg := st.1
  obtain ⟨h1, f1, f2, f3⟩ := r_todo (N := N) (k := 4) (y := Int32.ofNat s) sg ht (by omega)
  have st1 : StV g h1 := st.chg f3 (fun a k z => by unfold tdA; omega)
  have f1 : fX12_todo N 138 4 (Int32.ofNat s) h = some h1 := f1
  refine ⟨h1, ?_, f2, f3.mono (fun a k z => z.b (Nat.le_refl _))⟩
  unfold fX12_begins
  rw [if_pos (o_138 sg), R_138_26 sg, Option.bind_some, L_151 sg hs, Option.bind_some, st.2.1 151 s (by omega) (by omega), e151, if_neg (by decide), if_neg (by decide)]
  unfold fX12_begins_141
  rw [if_neg (by decide), f1, Option.bind_some, R_138_29 st1.1, Option.bind_some, L_154 st1.1 hs, Option.bind_some, st1.2.1 154 s (by omega) (by omega), e154, if_pos (by decide), b_207 (by decide)]
/-- a call whose word is dropped -/
theorem beg_3 (st : StV g h) (ht : TdH T h) (hT : T.length + 10 < 400000) (hs : s < 1600) (hj : j < 3200) {t : Nat} (htt : t < 1000) (e151 : rd g 151 s = 7) (e154 : rd g 154 s = Int32.ofNat j) (e148 : rd g 148 j = Int32.ofNat t) : ∃ h', fX12_begins N 138 (Int32.ofNat s) h = some h' ∧ TdH ((0, Int32.ofNat j) :: ((if t = 3 then [] else [(6, 0)]) ++ T)) h' ∧ Chg (tdB T.length) h h' := by
  have sg := st.1
  have pre : fX12_begins N 138 (Int32.ofNat s) h = if Int32.ofNat t = 3 then fX12_begins_169 N 138 (Int32.ofNat s) h else (fX12_todo N 138 (6 : Int32) (0 : Int32) h).bind fun h35 => fX12_begins_169 N 138 (Int32.ofNat s) h35 := by
    unfold fX12_begins
    rw [if_pos (o_138 sg), R_138_26 sg, Option.bind_some, L_151 sg hs, Option.bind_some, st.2.1 151 s (by omega) (by omega), e151, if_neg (by decide), if_neg (by decide)]
    unfold fX12_begins_141
    rw [if_pos rfl, R_138_20 sg, Option.bind_some, R_138_29 sg, Option.bind_some, L_154 sg hs, Option.bind_some, st.2.1 154 s (by omega) (by omega), e154, L_148 sg hj, Option.bind_some, st.2.1 148 j (by omega) (by omega), e148]
  have fin : ∀ (h1 : pH) (T1 : List It), StV g h1 → TdH T1 h1 → T1.length < 400000 → ∃ h', fX12_begins_169 N 138 (Int32.ofNat s) h1 = some h' ∧ TdH ((0, Int32.ofNat j) :: T1) h' ∧ Chg (tdB T1.length) h1 h' := fun h1 T1 st1 ht1 hl => by
    obtain ⟨h2, g1, g2, g3⟩ := r_todo (N := N) (k := 0) (y := Int32.ofNat j) st1.1 ht1 hl
    have g1 : fX12_todo N 138 0 (Int32.ofNat j) h1 = some h2 := g1
    refine ⟨h2, ?_, g2, g3.mono (fun a k z => z.b (Nat.le_refl _))⟩
    unfold fX12_begins_169
    rw [R_138_29 st1.1, Option.bind_some, L_154 st1.1 hs, Option.bind_some, st1.2.1 154 s (by omega) (by omega), e154, g1, Option.bind_some]
  rw [pre]
  by_cases h3 : t = 3
  · rw [if_pos h3, if_pos (by rw [h3]; rfl)]
    exact fin h T st ht (by omega)
  · rw [if_neg h3, if_neg (by rw [show (3 : Int32) = Int32.ofNat 3 from rfl, iEq (by omega) (by omega)]; exact h3)]
    obtain ⟨h1, f1, f2, f3⟩ := r_todo (N := N) (k := 6) (y := 0) sg ht (by omega)
    have f1 : fX12_todo N 138 6 0 h = some h1 := f1
    have st1 : StV g h1 := st.chg f3 (fun a k z => by unfold tdA; omega)
    obtain ⟨h2, w1, w2, w3⟩ := fin h1 ((6, 0) :: T) st1 f2 (by rw [List.length_cons]; omega)
    rw [f1, Option.bind_some]
    exact ⟨h2, w1, w2, (f3.mono (fun a k z => z.b (Nat.le_refl _))).trans (w3.mono (fun a k z => by unfold tdB at z ⊢; rw [List.length_cons] at z; omega))⟩
/-- a gift: the parts of the place, the expression, the step -/
theorem beg_4 (st : StV g h) (ht : TdH T h) (hT : T.length + 10 < 400000) (hs : s < 1600) (hj : j < 3200) {p : Nat} (hp : p < 3200) (e151 : rd g 151 s = 8) (e154 : rd g 154 s = Int32.ofNat j) (e155 : rd g 155 s = Int32.ofNat p) {us : List It} (hus : (rd g 144 p = 7 ∧ us = [(0, rd g 145 p), (0, rd g 146 p)]) ∨ (rd g 144 p = 6 ∧ us = [(0, rd g 145 p)]) ∨ (rd g 144 p ≠ 7 ∧ rd g 144 p ≠ 6 ∧ us = [])) : ∃ h', fX12_begins N 138 (Int32.ofNat s) h = some h' ∧ TdH (us ++ (0, Int32.ofNat j) :: (4, Int32.ofNat s) :: T) h' ∧ Chg (tdB T.length) h h' := by
  have sg := st.1
  obtain ⟨h1, f1, f2, f3⟩ := r_todo (N := N) (k := 4) (y := Int32.ofNat s) sg ht (by omega)
  have st1 : StV g h1 := st.chg f3 (fun a k z => by unfold tdA; omega)
  obtain ⟨h2, g1, g2, g3⟩ := r_todo (N := N) (k := 0) (y := Int32.ofNat j) st1.1 f2 (by rw [List.length_cons]; omega)
  have st2 : StV g h2 := st1.chg g3 (fun a k z => by unfold tdA; omega)
  have f1 : fX12_todo N 138 4 (Int32.ofNat s) h = some h1 := f1
  have g1 : fX12_todo N 138 0 (Int32.ofNat j) h1 = some h2 := g1
  have c2 : Chg (tdB T.length) h h2 := (f3.mono (fun a k z => z.b (Nat.le_refl _))).trans (g3.mono (fun a k z => z.b (by rw [List.length_cons]; omega)))
  have pre : fX12_begins N 138 (Int32.ofNat s) h = fX12_begins_207 N 138 (Int32.ofNat s) 8 h2 := by
    unfold fX12_begins
    rw [if_pos (o_138 sg), R_138_26 sg, Option.bind_some, L_151 sg hs, Option.bind_some, st.2.1 151 s (by omega) (by omega), e151, if_neg (by decide), if_neg (by decide)]
    unfold fX12_begins_141
    rw [if_neg (by decide), f1, Option.bind_some, R_138_29 st1.1, Option.bind_some, L_154 st1.1 hs, Option.bind_some, st1.2.1 154 s (by omega) (by omega), e154, if_neg (i_nneg (by omega))]
    simp only [Option.bind_some]
    rw [L_154 st1.1 hs, Option.bind_some, st1.2.1 154 s (by omega) (by omega), e154, g1, Option.bind_some]
  rw [pre]
  unfold fX12_begins_207
  rw [if_pos rfl, R_138_30 st2.1, Option.bind_some, L_155 st2.1 hs, Option.bind_some, st2.2.1 155 s (by omega) (by omega), e155, R_138_16 st2.1, Option.bind_some, L_144 st2.1 hp, Option.bind_some, st2.2.1 144 p (by omega) (by omega)]
  have fin : ∀ (h3 : pH) (T1 : List It), StV g h3 → TdH T1 h3 → T1.length < 400000 → rd g 144 p = 7 ∨ rd g 144 p = 6 → ∃ h', fX12_begins_243 N 138 (Int32.ofNat p) h3 = some h' ∧ TdH ((0, rd g 145 p) :: T1) h' ∧ Chg (tdB T1.length) h3 h' := fun h3 T1 st3 ht3 hl hK => by
    obtain ⟨h4, k1, k2, k3⟩ := r_todo (N := N) (k := 0) (y := rd g 145 p) st3.1 ht3 hl
    have k1 : fX12_todo N 138 0 (rd g 145 p) h3 = some h4 := k1
    refine ⟨h4, ?_, k2, k3.mono (fun a k z => z.b (Nat.le_refl _))⟩
    have e265 : fX12_begins_265 N 138 (Int32.ofNat p) h3 = some h4 := by
      unfold fX12_begins_265
      rw [R_138_17 st3.1, Option.bind_some, L_145 st3.1 hp, Option.bind_some, st3.2.1 145 p (by omega) (by omega), k1, Option.bind_some]
    unfold fX12_begins_243
    rw [R_138_16 st3.1]
    simp only [Option.bind_some]
    rw [L_144 st3.1 hp]
    simp only [Option.bind_some]
    rw [st3.2.1 144 p (by omega) (by omega)]
    rcases hK with z | z
    · rw [z, if_pos rfl]; exact e265
    · rw [z, if_neg (by decide), if_pos rfl]; exact e265
  rcases hus with ⟨z, rfl⟩ | ⟨z, rfl⟩ | ⟨z, z', rfl⟩
  · rw [z, if_pos rfl, R_138_18 st2.1, Option.bind_some, L_146 st2.1 hp, Option.bind_some, st2.2.1 146 p (by omega) (by omega)]
    obtain ⟨h3, k1, k2, k3⟩ := r_todo (N := N) (k := 0) (y := rd g 146 p) st2.1 g2 (by rw [List.length_cons, List.length_cons]; omega)
    have k1 : fX12_todo N 138 0 (rd g 146 p) h2 = some h3 := k1
    have st3 : StV g h3 := st2.chg k3 (fun a k z => by unfold tdA; omega)
    obtain ⟨h4, m1, m2, m3⟩ := fin h3 _ st3 k2 (by rw [List.length_cons, List.length_cons, List.length_cons]; omega) (Or.inl z)
    rw [k1, Option.bind_some]
    exact ⟨h4, m1, m2, c2.trans ((k3.mono (fun a k z => z.b (by rw [List.length_cons, List.length_cons]; omega))).trans (m3.mono (fun a k z => by unfold tdB at z ⊢; rw [List.length_cons, List.length_cons, List.length_cons] at z; omega)))⟩
  · rw [z, if_neg (by decide)]
    obtain ⟨h4, m1, m2, m3⟩ := fin h2 _ st2 g2 (by rw [List.length_cons, List.length_cons]; omega) (Or.inr z)
    exact ⟨h4, m1, m2, c2.trans (m3.mono (fun a k z => by unfold tdB at z ⊢; rw [List.length_cons, List.length_cons] at z; omega))⟩
  · rw [if_neg z]
    refine ⟨h2, ?_, g2, c2⟩
    unfold fX12_begins_243
    rw [R_138_16 st2.1]
    simp only [Option.bind_some]
    rw [L_144 st2.1 hp]
    simp only [Option.bind_some]
    rw [st2.2.1 144 p (by omega) (by omega), if_neg z, if_neg z']
end BG
