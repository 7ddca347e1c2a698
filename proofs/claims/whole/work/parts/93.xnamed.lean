/-! ===== THE READER OF EXPRESSIONS: what stands first ===== -/
theorem Er7.px_emit {C : Cx} {N w W : Nat} {h0 h : pH} {k a b : Int32} (q : Er7 C w W h) (g : Chg (eA W) h0 h) : ∃ h', ((getR h 46 7 3).bind fun t => (fX2_emit N t k a b h).bind fun q => some q.2) = some h' ∧ Er7 C w W h' ∧ Chg (eA W) h0 h' := by
  obtain ⟨m, h', m1, m2, m3, m4, m5⟩ := q.emit (N := N) k a b
  exact ⟨h', by rw [R_46_3 q.sg, Option.bind_some, m2, Option.bind_some], m3, g.trans m4⟩
theorem named_run {C : Cx} {N J j r t W c : Nat} {p o : Int32} {h : pH} {sub : Nat → Pr Tr} (hsub : ∀ r', r = r' + 1 → RX C N J 76 sub r' (7 * (30 - r'))) (hA : C.1.Adv sub) (hJ : 3 ≤ J) (hN : 3200 < N) (hj : J + 2 ≤ j) (q : At7 C r t W c p o h) (hk : C.1.K t = 22) (hW : W ≤ 7 * (30 - r) + 7) : PX C (if C.1.K (t + 1) = 40 then (C.1.args r sub eSelf (t + 1)).bind fun a t' => ok (eCall a.2 t a.1) t' else ok (eLeaf 6 0 t) (t + 1)) r W c p o h (rcV (gX7_readSign N j) 82 [.ref 46] h) := by
  obtain ⟨i, rfl⟩ : ∃ i, j = i + 1 := ⟨j - 1, by omega⟩
  rw [k_82]
  unfold fX7_readNamed
  obtain ⟨h1, e1, q1, c1⟩ := e7_takeName (N := N) q hk
  have hmo := C.1.mono t (by rw [hk]; decide)
  have hcap := q.cap
  rw [if_pos (o_46 q.sg), e1, Option.bind_some]
  dsimp only
  rw [g_46_9 q1.sg, Option.bind_some, q1.kind]
  by_cases h40 : C.1.K (t + 1) = 40
  · rw [if_pos h40, if_pos h40]
    obtain ⟨m1, m2, m3⟩ := q1.emit (N := N) 50 0 0 (by omega)
    rw [R_46_3 q1.sg, Option.bind_some, m1, Option.bind_some]
    dsimp only
    rw [guard46 m2.sg, Option.bind_some]
    have cs : CE (QC C p o (emH h1 c 50 0 0)) eSelf c := CE_leaf (k := 50) (v := 0) (w := 0) (by decide) (by decide) m3
    have c2 : Chg (xA W c) h (emH h1 c 50 0 0) := (c1.mono (fun a k z => m7_x z)).trans (emH_x (Nat.le_refl _))
    have pq := args_run (s := eSelf) hsub hA hJ hN (show J + 1 ≤ i by omega) m2 cs hW
    rcases hq : C.1.args r sub eSelf (t + 1) with ⟨y, t'⟩ | w
    · obtain ⟨h3, e3, q3, x3, c3, hc3⟩ := pq.1 y t' hq
      obtain ⟨h4, e4, q4, x4, y4, c4⟩ := q3.more (N := N) x3 hc3 30 y.2 t
      rw [Pr.bind_ok]
      refine PX.mk_ok (h' := h4) ?_ (by rw [cl_call, ← Nat.add_assoc]; exact q4) (CE_call x4 y4) ((c2.trans (c3.mono (fun a k z => xA_le (Nat.le_refl _) (by omega) z))).trans (c4.mono (fun a k z => xA_le (Nat.le_refl _) (by omega) z)))
      rw [e3, Option.bind_some]
      dsimp only
      rw [R_46_3 q3.sg, Option.bind_some]
      have ha : pa C 30 y.2 t = C.2.1 t := rfl
      have hb : pb C 30 y.2 t = Int32.ofNat y.2 := rfl
      rw [ha, hb] at e4
      show (fX2_emit N 38 (Int32.ofNat 30) _ _ _).bind _ = _
      rw [e4, Option.bind_some]
    · obtain ⟨n, h3, e3, q3, c3⟩ := pq.2 w hq
      rw [Pr.bind_no, e3, Option.bind_some]
      dsimp only
      obtain ⟨h', a1, a2, a3⟩ := q3.px_emit (N := N) (k := 30) (a := C.2.1 t) (b := n) ((c2.mono (fun a k z => xA_e z)).trans c3)
      exact PX.mk_no a1 a2 a3
  · rw [if_neg h40, if_neg h40]
    obtain ⟨m1, m2, m3⟩ := q1.emit (N := N) 6 (C.2.1 t) 0 (by omega)
    refine PX.mk_ok (h' := emH h1 c 6 (C.2.1 t) 0) ?_ (by rw [cl_leaf 0 t (by decide) (by decide)]; exact m2) (CE_leaf (by decide) (by decide) m3) ((c1.mono (fun a k z => m7_x z)).trans (emH_x (Nat.le_refl _)))
    rw [R_46_3 q1.sg, Option.bind_some, m1, Option.bind_some]
theorem new_run {C : Cx} {N J j r t W c : Nat} {p o : Int32} {h : pH} {sub : Nat → Pr Tr} (hP : C.1.Cap sub) (hsub : ∀ r', r = r' + 1 → RX C N J 76 sub r' (7 * (30 - r'))) (hJ : 3 ≤ J) (hN : 3200 < N) (hj : J + 2 ≤ j) (q : At7 C r t W c p o h) (hk : C.1.K t = 14) (hW : W ≤ 7 * (30 - r) + 7) : PX C (if C.1.K (t + 1) = 4 then (C.1.brk r sub 91 93 (t + 2)).bind fun x t' => ok (eUn 14 0 0 x) t' else if C.1.K (t + 1) = 22 then ok (eLeaf 13 0 (t + 1)) (t + 2) else no (C.1.P (t + 1))) r W c p o h (rcV (gX7_readSign N j) 84 [.ref 46] h) := by
  obtain ⟨i, rfl⟩ : ∃ i, j = i + 1 := ⟨j - 1, by omega⟩
  rw [k_84]
  unfold fX7_readNew
  obtain ⟨h1, e1, q1, c1⟩ := e7_advance (N := N) q (q.lt hk (by decide) (by decide))
  have hmo := C.1.mono t (by rw [hk]; decide)
  have hcap := q.cap
  rw [if_pos (o_46 q.sg), e1, Option.bind_some, g_46_9 q1.sg, Option.bind_some, q1.kind]
  by_cases h4 : C.1.K (t + 1) = 4
  · rw [if_pos h4, if_pos h4]
    obtain ⟨h2, e2, q2, c2⟩ := e7_advance (N := N) q1 (q1.lt h4 (by decide) (by decide))
    have pq := index_run hsub hJ (by omega) i (by omega) (t + 2) W c p o h2 q2 hW
    rw [e2, Option.bind_some, guard46 q2.sg, Option.bind_some]
    rcases hq : C.1.brk r sub 91 93 (t + 2) with ⟨x, t'⟩ | w
    · obtain ⟨h3, e3, q3, x3, c3⟩ := pq.1 x t' hq
      have hcl := cl_le_wt x
      have hm2 : C.1.P (t + 1) < C.1.P (t + 2) := C.1.mono (t + 1) (by rw [h4]; decide)
      have hr3 : c + cl x + 1 ≤ C.1.P t' := by
        have := Tks.brk_cap hP (by decide) (by decide) hq
        omega
      obtain ⟨h5, e5, q5, x5, y5, c5⟩ := q3.more (N := N) x3 hr3 14 0 0
      rw [Pr.bind_ok]
      refine PX.mk_ok (h' := h5) ?_ (by rw [cl_un 0 0 x (by decide) (by decide), ← Nat.add_assoc]; exact q5) (CE_un (by decide) (by decide) x5 y5) ((((c1.trans c2).mono (fun a k z => m7_x z)).trans c3).trans (c5.mono (fun a k z => xA_le (Nat.le_refl _) (by omega) z)))
      rw [e3, Option.bind_some, R_46_3 q3.sg, Option.bind_some]
      show (fX2_emit N 38 (Int32.ofNat 14) (pa C 14 0 0) (pb C 14 0 0) _).bind _ = _
      rw [e5, Option.bind_some]
    · obtain ⟨h3, e3, q3, c3⟩ := pq.2 w hq
      rw [Pr.bind_no, e3, Option.bind_some]
      obtain ⟨h', a1, a2, a3⟩ := q3.px_emit (N := N) (k := 14) (a := 0) (b := 0) (((c1.trans c2).mono (fun a k z => m7_e z)).trans c3)
      exact PX.mk_no a1 a2 a3
  · rw [if_neg h4, if_neg h4, R_46_3 q1.sg, Option.bind_some]
    by_cases h22 : C.1.K (t + 1) = 22
    · rw [if_pos h22]
      obtain ⟨h2, e2, q2, c2⟩ := e7_takeName (N := N) q1 h22
      have hm2 : C.1.P (t + 1) < C.1.P (t + 2) := C.1.mono (t + 1) (by rw [h22]; decide)
      obtain ⟨m1, m2, m3⟩ := q2.emit (N := N) 13 (C.2.1 (t + 1)) 0 (by show c + 1 ≤ C.1.P (t + 2); omega)
      refine PX.mk_ok (h' := emH h2 c 13 (C.2.1 (t + 1)) 0) ?_ (by rw [cl_leaf 0 (t + 1) (by decide) (by decide)]; exact m2) (CE_leaf (by decide) (by decide) m3) (((c1.trans c2).mono (fun a k z => m7_x z)).trans (emH_x (Nat.le_refl _)))
      rw [e2, Option.bind_some]
      dsimp only
      rw [m1, Option.bind_some]
    · rw [if_neg h22]
      obtain ⟨x, h2, e2, q2, c2⟩ := e7_takeName_no (N := N) q1 h22
      obtain ⟨m, h', m1, m2, m3, m4, m5⟩ := q2.emit (N := N) 13 x 0
      refine PX.mk_no (h' := h') ?_ m3 (((c1.trans c2).mono (fun a k z => m7_e z)).trans m4)
      rw [e2, Option.bind_some]
      dsimp only
      rw [m2, Option.bind_some]
theorem bind_id {α : Type} (x : Option α) : (x.bind fun y => some y) = x := by cases x <;> rfl
theorem first_run7 {C : Cx} {N J r : Nat} {sub : Nat → Pr Tr} (hP : C.1.Cap sub) (hsub : ∀ r', r = r' + 1 → RX C N J 76 sub r' (7 * (30 - r'))) (hA : C.1.Adv sub) (hJ : 3 ≤ J) (hN : 3200 < N) : RX C N (J + 3) 79 (C.1.first r sub) r (7 * (30 - r) + 7) := by
  intro j hj t W c p o h q hW
  obtain ⟨i, rfl⟩ : ∃ i, j = i + 1 := ⟨j - 1, by omega⟩
  have lf : ∀ (k : Nat) (a : Int32) (v w : Nat), C.1.K t ≠ 0 → C.1.K t ≠ 24 → ¬ (k = 28 ∨ k = 29) → k ≠ 70 → pa C k v w = a → pb C k v w = 0 → PX C (ok (eLeaf k v w) (t + 1)) r W c p o h (fX7_readSingle N 46 (Int32.ofNat k) a h) := fun k a v w k0 k24 z1 z2 z3 z4 => q.leaf (q.1.lt q.2.1 k0 k24) v w z1 z2 z3 z4
  rw [k_79]
  unfold fX7_readFirst
  rw [if_pos (o_46 q.sg), g_46_9 q.sg, Option.bind_some, q.kind]
  simp only [bind_id]
  by_cases h23 : C.1.K t = 23
  · unfold Tks.first
    rw [if_pos h23]
    have hC := q.1.2.1
    have ht := q.2.1
    have e10 := (q.1.2.2.2.2.2.1 t ht).2.2.2 h23
    rw [h23]
    simp only [show ¬ (23 : Int32) = 14 by decide, show ¬ (23 : Int32) = 15 by decide, show ¬ (23 : Int32) = 16 by decide, show ¬ (23 : Int32) = 17 by decide, show ¬ (23 : Int32) = 18 by decide, show ¬ (23 : Int32) = 19 by decide, show ¬ (23 : Int32) = 20 by decide, show ¬ (23 : Int32) = 21 by decide, show ¬ (23 : Int32) = 22 by decide, if_false]
    rw [if_pos trivial, R_46_0 q.sg, Option.bind_some, R_8_1 q.sg, Option.bind_some, g_46_8 q.sg, Option.bind_some, q.2.2.2.2.2.2.1, L_10 q.sg (by omega), Option.bind_some, e10]
    exact lf 1 _ (C.1.V t) 0 (by rw [h23]; decide) (by rw [h23]; decide) (by decide) (by decide) rfl rfl
  by_cases h22 : C.1.K t = 22
  · unfold Tks.first
    rw [if_neg h23, if_pos h22]
    rw [h22]
    simp only [show ¬ (22 : Int32) = 14 by decide, show ¬ (22 : Int32) = 15 by decide, show ¬ (22 : Int32) = 16 by decide, show ¬ (22 : Int32) = 17 by decide, show ¬ (22 : Int32) = 18 by decide, show ¬ (22 : Int32) = 19 by decide, show ¬ (22 : Int32) = 20 by decide, show ¬ (22 : Int32) = 21 by decide, if_false]
    rw [if_pos trivial, guard46 q.sg, Option.bind_some]
    exact named_run hsub hA hJ hN (by omega) q h22 hW
  by_cases h40 : C.1.K t = 40
  · unfold Tks.first
    rw [if_neg h23, if_neg h22, if_pos h40]
    have pq := bracketed_run hsub hJ (by omega) i (by omega) t W c p o h q hW
    rw [h40]
    simp only [show ¬ (40 : Int32) = 14 by decide, show ¬ (40 : Int32) = 15 by decide, show ¬ (40 : Int32) = 16 by decide, show ¬ (40 : Int32) = 17 by decide, show ¬ (40 : Int32) = 18 by decide, show ¬ (40 : Int32) = 19 by decide, show ¬ (40 : Int32) = 20 by decide, show ¬ (40 : Int32) = 21 by decide, show ¬ (40 : Int32) = 22 by decide, show ¬ (40 : Int32) = 23 by decide, show ¬ (40 : Int32) = 24 by decide, show ¬ (40 : Int32) = 25 by decide, show ¬ (40 : Int32) = 26 by decide, show ¬ (40 : Int32) = 27 by decide, show ¬ (40 : Int32) = 28 by decide, show ¬ (40 : Int32) = 29 by decide, show ¬ (40 : Int32) = 30 by decide, show ¬ (40 : Int32) = 31 by decide, show ¬ (40 : Int32) = 32 by decide, show ¬ (40 : Int32) = 33 by decide, show ¬ (40 : Int32) = 34 by decide, show ¬ (40 : Int32) = 35 by decide, show ¬ (40 : Int32) = 36 by decide, show ¬ (40 : Int32) = 37 by decide, show ¬ (40 : Int32) = 38 by decide, show ¬ (40 : Int32) = 39 by decide, if_false]
    rw [if_pos trivial, guard46 q.sg, Option.bind_some]
    exact pq
  by_cases h14 : C.1.K t = 14
  · unfold Tks.first
    rw [if_neg h23, if_neg h22, if_neg h40, if_pos h14]
    have pq := new_run hP hsub hJ hN (show J + 2 ≤ i by omega) q h14 hW
    rw [if_pos h14, guard46 q.sg, Option.bind_some]
    exact pq
  unfold Tks.first
  rw [if_neg h23, if_neg h22, if_neg h40, if_neg h14, if_neg h14]
  by_cases h15 : C.1.K t = 15
  · rw [if_pos h15, if_pos h15]
    exact lf 3 0 0 0 (by rw [h15]; decide) (by rw [h15]; decide) (by decide) (by decide) rfl rfl
  rw [if_neg h15, if_neg h15]
  by_cases h16 : C.1.K t = 16
  · rw [if_pos h16, if_pos h16]
    exact lf 2 1 1 0 (by rw [h16]; decide) (by rw [h16]; decide) (by decide) (by decide) rfl rfl
  rw [if_neg h16, if_neg h16]
  by_cases h17 : C.1.K t = 17
  · rw [if_pos h17, if_pos h17]
    exact lf 2 0 0 0 (by rw [h17]; decide) (by rw [h17]; decide) (by decide) (by decide) rfl rfl
  rw [if_neg h17, if_neg h17]
  by_cases h18 : C.1.K t = 18
  · rw [if_pos h18, if_pos h18]
    exact lf 4 0 0 0 (by rw [h18]; decide) (by rw [h18]; decide) (by decide) (by decide) rfl rfl
  rw [if_neg h18, if_neg h18]
  by_cases h19 : C.1.K t = 19
  · rw [if_pos h19, if_pos h19]
    exact lf 5 0 0 0 (by rw [h19]; decide) (by rw [h19]; decide) (by decide) (by decide) rfl rfl
  rw [if_neg h19, if_neg h19]
  obtain ⟨h1, e1, q1, c1⟩ := e7_fail (N := N) q
  have ef : fX7_readFirst_214 N (gX7_readSign N i) 46 h = some h1 := by
    unfold fX7_readFirst_214
    rw [e1, Option.bind_some]
  refine PX.mk_no (h' := h1) ?_ q1 (c1.mono (fun a k z => m7_e z))
  rw [ef]
  simp only [h22, h23, h40, if_false, ite_self]
