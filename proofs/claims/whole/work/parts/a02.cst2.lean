/-! ===== THE CLASS' READER: variables, return, throw, print, calls, gifts ===== -/
theorem Chg.code {A : Nat → Nat → Prop} {h h' : pH} (g : Chg A h h') (hA : ∀ y i, 39 ≤ y → y ≤ 45 → ¬ A y i) : ∀ y i, 39 ≤ y → y ≤ 45 → rd h' y i = rd h y i := fun y i y1 y2 => g.2.2.1 _ _ (hA y i y1 y2)
theorem Er7.emit3 {C : Cx} {N w W : Nat} {h0 h : pH} {k a b : Int32} (q : Er7 C w W h) (g : Chg (eA W) h0 h) : ∃ m h', m < 3100 ∧ fX2_emit N 38 k a b h = some (Int32.ofNat m, h') ∧ Er7 C w W h' ∧ Chg (eA W) h0 h' := by
  obtain ⟨m, h', m1, m2, m3, m4, m5⟩ := q.emit (N := N) k a b
  exact ⟨m, h', m1, m2, m3, g.trans m4⟩
theorem variable_run {C : Cx} {N r t c : Nat} {o : Int32} {h : pH} (hC : NmC C) (hN : 3200 < N) (q : At7 C r t 0 c (Int32.ofNat (C.1.P t)) o h) : PS7 C (C.1.tellS r t) r c o h (fX7_readVariable N 46 h) := by
  have hcap := q.cap
  unfold Tks.tellS fX7_readVariable
  rw [if_pos (o_46 q.sg)]
  rcases hy : C.1.ty t with _ | y
  · obtain ⟨x, h1, e1, q1, c1⟩ := e7_takeType_no (N := N) q hy
    obtain ⟨x2, e2⟩ := q1.takeName (N := N)
    obtain ⟨m, h3, m1, e3, q3, c3⟩ := q1.emit3 (N := N) (k := 53) (a := x2) (b := x) (c1.mono (fun a k z => m7_e z))
    refine PS7.mk_no (h' := h3) ?_ q3 c3
    rw [e1, Option.bind_some]
    dsimp only
    rw [e2, Option.bind_some]
    dsimp only
    rw [g_46_9 q1.sg, Option.bind_some, q1.kind, if_neg (by decide), R_46_3 q1.sg, Option.bind_some, e3, Option.bind_some]
    exact q3.semi
  · have kt0 : C.1.K t ≠ 0 := by
      intro z
      unfold Tks.ty at hy
      rw [z, if_neg (by decide), if_neg (by decide), if_neg (by decide), if_neg (by decide)] at hy
      cases hy
    have hm0 := C.1.mono t kt0
    obtain ⟨h1, e1, q1, c1⟩ := e7_takeType (N := N) hC q hy
    rw [e1, Option.bind_some]
    dsimp only
    by_cases h22 : C.1.K (t + 1) ≠ 22
    · rw [if_pos h22]
      obtain ⟨x2, h2, e2, q2, c2⟩ := e7_takeName_no (N := N) q1 h22
      obtain ⟨m, h3, m1, e3, q3, c3⟩ := q2.emit3 (N := N) (k := 53) (a := x2) (b := tyc C y) ((c1.trans c2).mono (fun a k z => m7_e z))
      refine PS7.mk_no (h' := h3) ?_ q3 c3
      rw [e2, Option.bind_some]
      dsimp only
      rw [g_46_9 q2.sg, Option.bind_some, q2.kind, if_neg (by decide), R_46_3 q2.sg, Option.bind_some, e3, Option.bind_some]
      exact q3.semi
    · rw [if_neg h22]
      have h22 := Decidable.not_not.mp h22
      have hm1 : C.1.P (t + 1) < C.1.P (t + 2) := C.1.mono (t + 1) (by rw [h22]; decide)
      obtain ⟨h2, e2, q2, c2⟩ := e7_takeName (N := N) q1 h22
      have q2 : At7 C r (t + 2) 0 c (Int32.ofNat (C.1.P t)) o h2 := q2
      rw [e2, Option.bind_some]
      dsimp only
      rw [g_46_9 q2.sg, Option.bind_some, q2.kind]
      by_cases h61 : C.1.K (t + 2) = 61
      · rw [if_pos h61, if_pos h61]
        obtain ⟨h3, e3, q3, c3⟩ := e7_advance (N := N) q2 (q2.lt h61 (by decide) (by decide))
        have hm2 : C.1.P (t + 2) < C.1.P (t + 3) := C.1.mono (t + 2) (by rw [h61]; decide)
        have c13 := (c1.trans c2).trans c3
        have pq := ex7 hN q3
        rw [e3, Option.bind_some, guard46 q3.sg, Option.bind_some]
        rcases hq : C.1.expr r (t + 3) with ⟨x, t'⟩ | w
        · obtain ⟨h4, e4, q4, x4, c4⟩ := pq.1 x t' hq
          have hcx := Tks.expr_cap C.1 r _ _ _ hq
          have hcl := cl_le_wt x
          obtain ⟨h5, e5, q5, x5, y5, c5⟩ := q4.more (N := N) x4 (by omega) 37 y (t + 1)
          rw [e4, Option.bind_some, R_46_3 q4.sg, Option.bind_some, Pr.bind_ok]
          rw [show fX2_emit N 38 37 (C.2.1 (t + 1)) (tyc C y) h4 = _ from e5, Option.bind_some]
          refine semi_run (x := bTellv (C.1.P t) y (t + 1) x nl) q5 (fun h' hh => ?_) ⟨0, Or.inr (Or.inl ⟨_, _, _, _, rfl⟩)⟩ (((c13.mono (fun a k z => m7_s z)).trans (c4.mono (fun a k z => xA_s z))).trans (c5.mono (fun a k z => sA_le (by omega) (xA_s z))))
          exact ⟨x5.same hh, PcAt.same y5 (fun y y1 y2 => hh y _ y1 y2), trivial⟩
        · obtain ⟨h4, e4, q4, c4⟩ := pq.2 w hq
          obtain ⟨m, h5, m1, e5, q5, c5⟩ := q4.emit3 (N := N) (k := 37) (a := C.2.1 (t + 1)) (b := tyc C y) ((c13.mono (fun a k z => m7_e z)).trans c4)
          rw [e4, Option.bind_some, R_46_3 q4.sg, Option.bind_some, e5, Option.bind_some, Pr.bind_no]
          exact PS7.mk_no (h' := h5) q5.semi q5 c5
      · rw [if_neg h61, if_neg h61]
        obtain ⟨m1, m2, m3⟩ := q2.emit (N := N) 53 (C.2.1 (t + 1)) (tyc C y) (by omega)
        rw [R_46_3 q2.sg, Option.bind_some, m1, Option.bind_some]
        refine semi_run (x := bTell (C.1.P t) y (t + 1) nl) m2 (fun h' hh => ?_) ⟨0, Or.inl ⟨_, _, _, rfl⟩⟩ (((c1.trans c2).mono (fun a k z => m7_s z)).trans ((emH_x (W := 0) (Nat.le_refl c)).mono (fun a k z => xA_s z)))
        exact ⟨PcAt.same m3 (fun y y1 y2 => hh y _ y1 y2), trivial⟩
theorem work_run {C : Cx} {N r t c k : Nat} {o : Int32} {h : pH} (hN : 3200 < N) (hk : k = 41 ∨ k = 42 ∨ k = 43) (q : At7 C r t 0 c (Int32.ofNat (C.1.P t)) o h) (k0 : C.1.K t ≠ 0) (k24 : C.1.K t ≠ 24) : PS7 C (C.1.workS r k t) r c o h ((fX7_advance N 46 h).bind fun h1 => (if isO h1 46 7 = true then some () else none).bind fun _ => (rcV (gX7_readSign N 600) 76 [.ref 46] h1).bind fun h2 => (getR h2 46 7 3).bind fun t4 => (fX2_emit N t4 (Int32.ofNat k) 0 0 h2).bind fun q5 => (fX7_take N 46 59 q5.2).bind fun h6 => some h6) := by
  have hcap := q.cap
  have hm0 := C.1.mono t k0
  unfold Tks.workS
  obtain ⟨h1, e1, q1, c1⟩ := e7_advance (N := N) q (q.1.lt q.2.1 k0 k24)
  have pq := ex7 hN q1
  rw [e1, Option.bind_some, guard46 q1.sg, Option.bind_some]
  rcases hq : C.1.expr r (t + 1) with ⟨x, t'⟩ | w
  · obtain ⟨h4, e4, q4, x4, c4⟩ := pq.1 x t' hq
    have hcx := Tks.expr_cap C.1 r _ _ _ hq
    have hcl := cl_le_wt x
    obtain ⟨h5, e5, q5, x5, y5, c5⟩ := q4.more (N := N) x4 (by omega) k 0 0
    have hpa : pa C k 0 0 = 0 ∧ pb C k 0 0 = 0 := by
      rcases hk with rfl | rfl | rfl <;> exact ⟨rfl, rfl⟩
    rw [hpa.1, hpa.2] at e5
    rw [e4, Option.bind_some, R_46_3 q4.sg, Option.bind_some, Pr.bind_ok, e5, Option.bind_some]
    refine semi_run (x := bWork (C.1.P t) k x nl) (by rw [cb_w hk]; exact q5) (fun h' hh => ?_) ⟨0, Or.inr (Or.inr (Or.inr (Or.inl ⟨_, _, _, rfl, hk⟩)))⟩ (((c1.mono (fun a k z => m7_s z)).trans (c4.mono (fun a k z => xA_s z))).trans (c5.mono (fun a k z => sA_le (by omega) (xA_s z))))
    rw [CB_w hk]
    exact ⟨x5.same hh, PcAt.same y5 (fun y y1 y2 => hh y _ y1 y2), trivial⟩
  · obtain ⟨h4, e4, q4, c4⟩ := pq.2 w hq
    obtain ⟨m, h5, m1, e5, q5, c5⟩ := q4.emit3 (N := N) (k := Int32.ofNat k) (a := 0) (b := 0) ((c1.mono (fun a k z => m7_e z)).trans c4)
    rw [e4, Option.bind_some, R_46_3 q4.sg, Option.bind_some, e5, Option.bind_some, Pr.bind_no]
    exact PS7.mk_no (h' := h5) q5.semi q5 c5
theorem return_run {C : Cx} {N r t c : Nat} {o : Int32} {h : pH} (hN : 3200 < N) (q : At7 C r t 0 c (Int32.ofNat (C.1.P t)) o h) (hk : C.1.K t = 9) : PS7 C (if C.1.K (t + 1) = 59 then ok (bRet (C.1.P t) nl) (t + 2) else C.1.workS r 41 t) r c o h (fX7_readReturn N 46 h) := by
  have hcap := q.cap
  have hm0 := C.1.mono t (by rw [hk]; decide)
  obtain ⟨h1, e1, q1, c1⟩ := e7_advance (N := N) q (q.lt hk (by decide) (by decide))
  have wr := work_run hN (k := 41) (Or.inl rfl) q (by rw [hk]; decide) (by rw [hk]; decide)
  unfold fX7_readReturn
  rw [e1, Option.bind_some] at wr
  rw [if_pos (o_46 q.sg), e1, Option.bind_some, g_46_9 q1.sg, Option.bind_some, q1.kind]
  by_cases h59 : C.1.K (t + 1) = 59
  · rw [if_pos h59, if_pos h59]
    obtain ⟨m1, m2, m3⟩ := q1.emit (N := N) 40 0 0 (by omega)
    rw [R_46_3 q1.sg, Option.bind_some, m1, Option.bind_some]
    have sr := semi_run (N := N) (h0 := h) (x := bRet (C.1.P t) nl) (c := c) m2 (fun h' hh => ⟨CE_nl _ _, PcAt.same m3 (fun y y1 y2 => hh y _ y1 y2), trivial⟩) ⟨0, Or.inr (Or.inr (Or.inl ⟨_, rfl⟩))⟩ ((c1.mono (fun a k z => m7_s z)).trans ((emH_x (W := 0) (Nat.le_refl c)).mono (fun a k z => xA_s z)))
    unfold Tks.semi at sr
    rw [if_pos h59] at sr
    exact sr
  · rw [if_neg h59, if_neg h59]
    exact wr
/-- the last piece of an expression -/
theorem CE_last {C : Cx} {p o : Int32} {h : pH} {x : Tr} {c : Nat} (hx : ∃ k v w a b, x = nd k v w a b ∧ 1 ≤ k ∧ k ≤ 30) (q : CE (QC C p o h) x c) : 1 ≤ cl x ∧ rd h 39 (c + (cl x - 1)) = Int32.ofNat (if kd x = 28 ∨ kd x = 29 then 51 else kd x) := by
  obtain ⟨k, v, w, a, b, rfl, h1, h2⟩ := hx
  have hkd : kd (nd k v w a b) = k := rfl
  rw [hkd]
  rw [CE_nd] at q
  rw [cl_nd]
  by_cases hk : k = 28 ∨ k = 29
  · rw [if_pos hk] at q ⊢
    rw [if_pos hk]
    obtain ⟨q1, q2, q3, q4⟩ := q
    refine ⟨by omega, ?_⟩
    rw [show c + (cl a + cl b + 2 - 1) = c + cl a + 1 + cl b by omega]
    exact q4.1
  · rw [if_neg hk, if_neg (by omega)] at q ⊢
    rw [if_neg hk]
    obtain ⟨q1, q2, q3⟩ := q
    refine ⟨by omega, ?_⟩
    rw [show c + (cl a + cl b + 1 - 1) = c + cl a + cl b by omega]
    exact q3.1
theorem e7_giftOf (N k : Nat) (hk : k < 62) (h : pH) : fX7_giftOf N (Int32.ofNat k) h = some (if k = 6 then 31 else if k = 9 then 34 else if k = 12 then 36 else -1, h) := by
  unfold fX7_giftOf
  rw [show (6 : Int32) = Int32.ofNat 6 from rfl, ifEq (by omega) (by decide), show (9 : Int32) = Int32.ofNat 9 from rfl, ifEq (by omega) (by decide), show (12 : Int32) = Int32.ofNat 12 from rfl, ifEq (by omega) (by decide)]
  split
  · rfl
  · split
    · rfl
    · split <;> rfl
theorem e2_lastOp {N c n : Nat} {h : pH} (hs : Sg h) (e7 : rd h 38 7 = Int32.ofNat n) (hc : c < n) (hn : n ≤ 3100) : fX2_lastOp N 38 (Int32.ofNat c) h = some (rd h 39 (n - 1), h) := by
  obtain ⟨m, rfl⟩ : ∃ m, n = m + 1 := ⟨n - 1, by omega⟩
  unfold fX2_lastOp
  rw [if_pos (o_38 hs), g_38_7 hs, Option.bind_some, e7, ifLe (by omega) (by omega), if_neg (by omega), R_38_0 hs, Option.bind_some, Option.bind_some, i_sub1, L_39 hs (by omega), Option.bind_some]
  rfl
theorem At7.takeBack {C : Cx} {N r t W c : Nat} {p o : Int32} {h : pH} (q : At7 C r t W (c + 1) p o h) : fX2_takeBackLast N 38 h = some (rd h 40 c, wr h 38 7 (Int32.ofNat c)) ∧ At7 C r t W c p o (wr h 38 7 (Int32.ofNat c)) := by
  obtain ⟨q1, q2, q3, q4, q5, q6, q7, q8, q9, q10, q11, q12, q13, q14⟩ := q
  have hP := q1.2.2.1 t
  have g : Chg (fun a k => a = 38 ∧ k = 7) h (wr h 38 7 (Int32.ofNat c)) := Chg.wr _ _ _ _ ⟨rfl, rfl⟩
  have s1 := g.sg q1.1
  refine ⟨?_, q1.chg g (fun a k ha => by omega), q2, q3, q4, by omega, ?_, ?_, ?_, ?_, ?_, w_38_7 q1.1 _, ?_, ?_, fun i hi => (q14 i hi).chg g (fun a a1 a2 => by omega)⟩
  · unfold fX2_takeBackLast
    rw [if_pos (o_38 q1.1), g_38_7 q1.1, Option.bind_some, q11, show (0 : Int32) = Int32.ofNat 0 from rfl, ifEq (by omega) (by decide), if_neg (by omega), Option.bind_some, i_sub1, p_38_7 q1.1, Option.bind_some, R_38_1 s1, Option.bind_some, g_38_7 s1, Option.bind_some, w_38_7 q1.1, L_40 s1 (by omega), Option.bind_some, rd_wr_ne _ _ (by omega)]
  · rw [g.2.2.1 _ _ (by omega)]; exact q6
  · rw [g.2.2.1 _ _ (by omega)]; exact q7
  · rw [g.2.2.1 _ _ (by omega)]; exact q8
  · rw [g.2.2.1 _ _ (by omega)]; exact q9
  · rw [g.2.2.1 _ _ (by omega)]; exact q10
  · rw [g.2.2.1 _ _ (by omega)]; exact q12
  · rw [g.2.2.1 _ _ (by omega)]; exact q13
/-- a place without its last piece stands, and the name that the last one told -/
theorem place_cm {C : Cx} {p o : Int32} {h : pH} {x : Tr} {c : Nat} (hx : ∃ k v w a b, x = nd k v w a b ∧ 1 ≤ k ∧ k ≤ 30) (hp : isPlaceE x = true) (q : CE (QC C p o h) x c) : CM (QC C p o h) x c ∧ rd h 40 (c + (cl x - 1)) = pa C (gk x) 0 (gw x) ∧ pb C (gk x) 0 (gw x) = 0 := by
  obtain ⟨k, v, w, a, b, rfl, h1, h2⟩ := hx
  have hk : k = 6 ∨ k = 9 ∨ k = 12 := by
    have hx : (k == 6 || k == 9 || k == 12) = true := hp
    simp at hx
    omega
  rw [CE_nd, if_neg (by omega), if_neg (by omega)] at q
  rw [cl_nd, if_neg (by omega), if_neg (by omega)]
  obtain ⟨q1, q2, q3⟩ := q
  refine ⟨⟨q1, q2⟩, ?_⟩
  have e := q3.2.1
  rw [show c + (cl a + cl b + 1 - 1) = c + cl a + cl b by omega, e]
  have hkd : kd (nd k v w a b) = k := rfl
  have hgw : gw (nd k v w a b) = w := rfl
  unfold gk
  rw [hkd, hgw]
  rcases hk with rfl | rfl | rfl <;> exact ⟨rfl, rfl⟩
