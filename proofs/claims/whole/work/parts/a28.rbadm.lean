/-! ===== THE REFERENCE'S FIRST BAD MEMBER ===== -/
theorem RT.cm_skip {P : Pgm} {D : List Int32 → Prop} {num : List Int32 → Nat} {N : Nat} {h : pH} (hN : 1100 ≤ N) (q : RT P D num h) (hb : 0 ≤ rd h 138 58) : ∀ (d i k : Nat), i + d = P.n → d < k → fX12_checkMembers_77 N k 138 (Int32.ofNat i) h = some h
  | 0, i, k, hd, hk => by
    obtain ⟨k, rfl⟩ : ∃ k', k = k' + 1 := ⟨k - 1, by omega⟩
    have hn := q.2.2.2.2.2.1
    rw [fX12_checkMembers_77, g_138_37 q.1, Option.bind_some, q.2.2.2.2.1, ifLe (by omega) (by omega), if_pos (by omega)]
  | d + 1, i, k, hd, hk => by
    obtain ⟨k, rfl⟩ : ∃ k', k = k' + 1 := ⟨k - 1, by omega⟩
    obtain ⟨N', rfl⟩ : ∃ N', N = N' + 1 := ⟨N - 1, by omega⟩
    have hn := q.2.2.2.2.2.1
    have IH := RT.cm_skip hN q hb d (i + 1) k (by omega) (by omega)
    rw [fX12_checkMembers_77, g_138_37 q.1, Option.bind_some, q.2.2.2.2.1, ifLe (by omega) (by omega), if_neg (by omega), R_138_43 q.1, Option.bind_some, L_167 q.1 (by omega), Option.bind_some, fX12_checkMembers_92, R_138_43 q.1, Option.bind_some, i_add1, L_167 q.1 (by omega), Option.bind_some, g_138_58 q.1, Option.bind_some, if_pos hb]
    unfold fX12_checkMembers_177
    rw [i_add1, IH]
    exact ite_self _
theorem RT.cm_92 {P : Pgm} {D : List Int32 → Prop} {num : List Int32 → Nat} {N c : Nat} {h : pH} {k77 : Nat → Int32 → pH → Option pH} (hN : 1100 ≤ N) (q : RT P D num h) (hp : RPr P h) (ha : Acy P) (r : RQ P D num h) (r1 : RM1 P h) (hpl : ∀ m, P.mpl m ≤ 3000) (hb : rd h 138 58 = -1) (hc : c < P.n) : ∀ (d m k : Nat), m + d = P.mf (c + 1) → P.mf c ≤ m → d < k → fX12_checkMembers_92 N k77 k 138 (Int32.ofNat c) (Int32.ofNat m) h = match fstN (P.mbad c) d m with
    | some m' => k77 138 (Int32.ofNat (c + 1)) (wr h 138 58 (Int32.ofNat (P.mpl m')))
    | none => k77 138 (Int32.ofNat (c + 1)) h
  | 0, m, k, hd, hcm, hk => by
    obtain ⟨k, rfl⟩ : ∃ k', k = k' + 1 := ⟨k - 1, by omega⟩
    have hn := q.2.2.2.2.2.1
    have hml := P.ms_len
    have hmf := P.mf_le (c + 1)
    have hms := q.2.2.2.2.2.2.2.2.2.2.1
    rw [fX12_checkMembers_92, R_138_43 q.1, Option.bind_some, i_add1, L_167 q.1 (by omega), Option.bind_some, q.2.2.2.2.2.2.2.1 (c + 1) (by omega), ifLe (by omega) (by omega), if_pos (by omega)]
    unfold fX12_checkMembers_177
    rw [i_add1]
    rfl
  | d + 1, m, k, hd, hcm, hk => by
    obtain ⟨k, rfl⟩ : ∃ k', k = k' + 1 := ⟨k - 1, by omega⟩
    obtain ⟨k', rfl⟩ : ∃ k', k = k' + 1 := ⟨k - 1, by omega⟩
    obtain ⟨q1, q2, q3, q4, q5, q6, q7, q8, q9, q10, q11, q12⟩ := id q
    have hml := P.ms_len
    have hmf := P.mf_le (c + 1)
    have IH := RT.cm_92 (k77 := k77) hN q hp ha r r1 hpl hb hc d (m + 1) (k' + 1) (by omega) (by omega) (by omega)
    obtain ⟨b, hx⟩ : ∃ b, P.ms[m]? = some b := ⟨P.ms[m]'(by omega), List.getElem?_eq_getElem (by omega)⟩
    obtain ⟨z1, z2, z3, z4⟩ := q12 m b hx
    have hpm : P.mpl m = b.2.2.2.1 := by unfold Pgm.mpl; rw [hx]
    have hpb := hpl m
    have t1 := P.rt_lt (y := b.2.1) (by omega)
    have q' : RT P D num (wr h 138 58 (Int32.ofNat (P.mpl m))) := q.ofW (by unfold rtA; omega) (by omega) (by omega)
    have sk : fX12_checkMembers_92 N k77 (k' + 1) 138 (Int32.ofNat c) (Int32.ofNat (m + 1)) (wr h 138 58 (Int32.ofNat (P.mpl m))) = k77 138 (Int32.ofNat (c + 1)) (wr h 138 58 (Int32.ofNat (P.mpl m))) := by
      rw [fX12_checkMembers_92, R_138_43 q'.1, Option.bind_some, i_add1, L_167 q'.1 (by omega), Option.bind_some, g_138_58 q'.1, Option.bind_some, w_138_58 q1, if_pos (i_nn0 (by omega))]
      unfold fX12_checkMembers_177
      rw [i_add1]
      exact ite_self _
    have e155 : fX12_checkMembers_155 N k77 (fX12_checkMembers_92 N k77 (k' + 1)) 138 (Int32.ofNat c) (Int32.ofNat m) h = k77 138 (Int32.ofNat (c + 1)) (wr h 138 58 (Int32.ofNat (P.mpl m))) := by
      unfold fX12_checkMembers_155 fX12_checkMembers_156 fX12_checkMembers_171
      rw [if_pos rfl, R_138_46 q1, Option.bind_some, L_169 q1 (by omega), Option.bind_some, z4, e12_isBad q1 (by rw [hb]; decide), Option.bind_some, i_add1, ← hpm, sk]
    have e151 : fX12_checkMembers_151 N k77 (fX12_checkMembers_92 N k77 (k' + 1)) 138 (Int32.ofNat c) (Int32.ofNat m) h = match fstN (P.mbad c) d (m + 1) with
        | some m' => k77 138 (Int32.ofNat (c + 1)) (wr h 138 58 (Int32.ofNat (P.mpl m')))
        | none => k77 138 (Int32.ofNat (c + 1)) h := by
      unfold fX12_checkMembers_151 fX12_checkMembers_156 fX12_checkMembers_171
      rw [if_neg (by decide), i_add1, IH]
    rw [fX12_checkMembers_92, R_138_43 q1, Option.bind_some, i_add1, L_167 q1 (by omega), Option.bind_some, q8 (c + 1) (by omega), ifLe (by omega) (by omega), if_neg (by omega), g_138_58 q1, Option.bind_some, if_neg (bad_neg hb), R_138_47 q1, Option.bind_some, L_170 q1 (by omega), Option.bind_some, r1.1 m b hx, show (5 : Int32) = Int32.ofNat 5 from rfl, ifEq (by omega) (by omega), R_138_48 q1, Option.bind_some, L_171 q1 (by omega), Option.bind_some, z3, RT.isField hN q hp ha hx hc hcm, Option.bind_some, RT.isRight hN q hp ha r r1 hx hc hcm, Option.bind_some]
    dsimp only
    rw [e155, e151, kI_if, kI_if, kI_if, fstN_succ]
    have hmb : P.mbad c m = !(if b.1 = true then P.mfine c m b else P.ffine c m b) := by unfold Pgm.mbad; rw [hx]
    rw [hmb]
    unfold Pgm.mfine Pgm.ffine
    by_cases h5 : P.rt b.2.1 = 5
    · rw [if_pos h5, decide_eq_false (fun z => z h5), Bool.false_and, Bool.false_and, ite_self]
      rfl
    · rw [if_neg h5, decide_eq_true h5, Bool.true_and, Bool.true_and]
      cases b.1
      · cases (P.amg false (P.1 b.2.2.1) (P.mf c) m).isNone <;> cases (P.hadO false (P.1 b.2.2.1) (P.par c)).isNone <;> rfl
      · cases (P.amg true (P.1 b.2.2.1) (P.mf c) m).isNone <;> cases P.pfine b <;> cases P.over b (P.hadO true (P.1 b.2.2.1) (P.par c)) <;> rfl
theorem RT.cm_77 {P : Pgm} {D : List Int32 → Prop} {num : List Int32 → Nat} {N : Nat} {h : pH} (hN : 1100 ≤ N) (q : RT P D num h) (hp : RPr P h) (ha : Acy P) (r : RQ P D num h) (r1 : RM1 P h) (hpl : ∀ m, P.mpl m ≤ 3000) (hb : rd h 138 58 = -1) : ∀ (d c k : Nat), c + d = P.n → d < k → fX12_checkMembers_77 N k 138 (Int32.ofNat c) h = some (match P.badBF d c with
    | some p => wr h 138 58 (Int32.ofNat p)
    | none => h)
  | 0, c, k, hd, hk => by
    obtain ⟨k, rfl⟩ : ∃ k', k = k' + 1 := ⟨k - 1, by omega⟩
    have hn := q.2.2.2.2.2.1
    rw [fX12_checkMembers_77, g_138_37 q.1, Option.bind_some, q.2.2.2.2.1, ifLe (by omega) (by omega), if_pos (by omega)]
    rfl
  | d + 1, c, k, hd, hk => by
    obtain ⟨k, rfl⟩ : ∃ k', k = k' + 1 := ⟨k - 1, by omega⟩
    have hn := q.2.2.2.2.2.1
    have hml := P.ms_len
    have hmf := P.mf_le (c + 1)
    have hmo := P.mf_mono (c := c)
    have hms := q.2.2.2.2.2.2.2.2.2.2.1
    rw [fX12_checkMembers_77, g_138_37 q.1, Option.bind_some, q.2.2.2.2.1, ifLe (by omega) (by omega), if_neg (by omega), R_138_43 q.1, Option.bind_some, L_167 q.1 (by omega), Option.bind_some, q.2.2.2.2.2.2.2.1 c (by omega), RT.cm_92 hN q hp ha r r1 hpl hb (by omega) (P.mf (c + 1) - P.mf c) (P.mf c) N (by omega) (by omega) (by omega)]
    rw [show P.badBF (d + 1) c = match fstN (P.mbad c) (P.mf (c + 1) - P.mf c) (P.mf c) with
      | some m => some (P.mpl m)
      | none => P.badBF d (c + 1) from rfl]
    rcases fstN (P.mbad c) (P.mf (c + 1) - P.mf c) (P.mf c) with _ | m
    · exact RT.cm_77 hN q hp ha r r1 hpl hb d (c + 1) k (by omega) (by omega)
    · have q' : RT P D num (wr h 138 58 (Int32.ofNat (P.mpl m))) := q.ofW (by unfold rtA; omega) (by omega) (by omega)
      have := hpl m
      exact q'.cm_skip hN (by rw [w_138_58 q.1]; exact i_nn0 (by omega)) d (c + 1) k (by omega) (by omega)
theorem RT.checkMembers {P : Pgm} {D : List Int32 → Prop} {num : List Int32 → Nat} {N : Nat} {h : pH} (hN : 1100 ≤ N) (q : RT P D num h) (hp : RPr P h) (ha : Acy P) (r : RQ P D num h) (m : RM0 P D num h) (hpl : ∀ m, P.mpl m ≤ 3000) (hb : rd h 138 58 = -1) : ∃ h', fX12_checkMembers N 138 h = some h' ∧ rd h' 138 58 = oI (-1) P.badB ∧ RM1 P h' ∧ Chg (fun a k => a = 170 ∨ a = 176 ∨ (a = 138 ∧ k = 58)) h h' := by
  have hn := q.2.2.2.2.2.1
  have hnn : P.n = 5 + P.2.length := rfl
  obtain ⟨h1, e1, e2, e3⟩ := RT.resolve hN q r m
  have q1 := q.chg e3 (fun a k ha => by unfold rtA at ha; omega) (by omega) (by omega)
  have r1 := r.chg e3 (by omega) (fun k => by omega) (fun k => by omega)
  have hp1 : RPr P h1 := fun c hc => by rw [e3.2.2.1 _ _ (by omega)]; exact hp c hc
  have hb1 : rd h1 138 58 = -1 := by rw [e3.2.2.1 _ _ (by omega)]; exact hb
  have e77 := RT.cm_77 hN q1 hp1 ha r1 e2 hpl hb1 P.2.length 5 N (by omega) (by omega)
  have g3 : Chg (fun a k => a = 170 ∨ a = 176 ∨ (a = 138 ∧ k = 58)) h h1 := e3.mono (fun a k z => by omega)
  rw [e1]
  unfold Pgm.badB
  rcases hz : P.badBF P.2.length 5 with _ | p
  · rw [hz] at e77
    exact ⟨h1, e77, hb1, e2, g3⟩
  · rw [hz] at e77
    refine ⟨wr h1 138 58 (Int32.ofNat p), e77, by rw [w_138_58 q1.1]; rfl, ⟨fun j x hj => ?_, fun j x hj => ?_⟩, g3.trans (Chg.wr _ _ _ _ (by omega))⟩
    · rw [rd_wr_ne _ _ (by omega)]; exact e2.1 j x hj
    · rw [rd_wr_ne _ _ (by omega)]; exact e2.2 j x hj
