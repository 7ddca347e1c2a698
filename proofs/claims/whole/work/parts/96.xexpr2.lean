/-! ===== THE READER OF EXPRESSIONS: the loop over signs ===== -/
theorem fits_nil {N W l : Nat} {h : pH} (hs : Sg h) (hW : W ≤ 400) (hl : 0 < l) (hl7 : l ≤ 7) (e7 : rd h 46 7 = Int32.ofNat W) : fX7_fits N 46 (Int32.ofNat W) (Int32.ofNat l) h = some (1, h) := by
  unfold fX7_fits fX7_fits_12
  rw [if_pos (o_46 hs), show (0 : Int32) = Int32.ofNat 0 from rfl, ifEq (by omega) (by decide), if_neg (by omega), g_46_7 hs, Option.bind_some, e7, ifLt (by omega) (by omega), if_neg (by omega), ifLe (by omega) (by decide), if_neg (by omega)]
theorem fits_top {N W B l l' k : Nat} {h : pH} (hs : Sg h) (hW : W < 400) (hB : B ≤ W) (hl : 0 < l) (hl7 : l ≤ 7) (hl' : l' ≤ 7) (hk : k < 62) (e7 : rd h 46 7 = Int32.ofNat (W + 1)) (e8 : rd h 48 W = Int32.ofNat l') (ek : rd h 47 W = Int32.ofNat k) : fX7_fits N 46 (Int32.ofNat B) (Int32.ofNat l) h = some (if l' < l ∧ k ≠ 16 then 1 else 0, h) := by
  unfold fX7_fits
  rw [if_pos (o_46 hs), show (0 : Int32) = Int32.ofNat 0 from rfl, ifEq (by omega) (by decide), if_neg (by omega), g_46_7 hs, Option.bind_some, e7, ifLt (by omega) (by omega), if_pos (by omega), R_46_5 hs, Option.bind_some, Option.bind_some, i_sub1, L_48 hs hW, Option.bind_some, e8, ifLe (by omega) (by omega)]
  by_cases h1 : l ≤ l'
  · rw [if_pos h1, if_neg (by omega)]
  · rw [if_neg h1, R_46_4 hs, Option.bind_some, Option.bind_some, i_sub1, L_47 hs hW, Option.bind_some, ek, show (16 : Int32) = Int32.ofNat 16 from rfl, ifEq (by omega) (by decide)]
    by_cases h2 : k = 16
    · rw [if_pos h2, if_neg (fun z => z.2 h2)]
    · rw [if_neg h2, if_pos ⟨by omega, h2⟩]
theorem relL_0 : ∀ (es : List En) (x : Tr), (relL 0 es x).1 = []
  | [], x => rfl
  | e :: es, x => by
    unfold relL
    rw [if_pos (Nat.zero_le _)]
    exact relL_0 es _
/-- the end: all that waits is done -/
theorem expr_72_ok {C : Cx} {N r t W c : Nat} {p o : Int32} {h : pH} {es : List En} {x y : Tr} {rc : Nat → List Value → pH → Option (Option Value × pH)} (hN : 400 < N) (q : At7 C r t (W + es.length) (c + LW es + cl x) p o h) (qw : WRep C p o h W c es) (qx : CE (QC C p o h) x (c + LW es)) (hcap : c + WTl es + wt x ≤ C.1.P t) (hy : (relL 0 es x).2 = y) : PX C (ok y t) r W c p o h (fX7_readExpression_72 N rc 46 (Int32.ofNat W) h) := by
  obtain ⟨h', e, a1, a2, a3, a4, a5⟩ := At7.release (N := N) (ls := 0) hN (by omega) q qw qx hcap
  rw [relL_0, hy] at a1 a3
  refine PX.mk_ok (h' := h') ?_ a1 a3 a5
  unfold fX7_readExpression_72
  show (fX7_release N 46 (Int32.ofNat W) (Int32.ofNat 0) _).bind _ = _
  rw [e, Option.bind_some]
theorem PX.back {C : Cx} {q : Pr Tr} {r W c : Nat} {p o : Int32} {h0 h : pH} {res : Option pH} (a : PX C q r W c p o h res) (g : Chg (xA W c) h0 h) : PX C q r W c p o h0 res := ⟨fun y u z => by
  obtain ⟨h', a1, a2, a3, a4⟩ := a.1 y u z
  exact ⟨h', a1, a2, a3, g.trans a4⟩, fun w z => by
  obtain ⟨h', a1, a4, a5⟩ := a.2 w z
  exact ⟨h', a1, a4, (g.mono (fun a k z => xA_e z)).trans a5⟩⟩
theorem fold_rel : ∀ (st : Tks.Wt) (x : Tr), (relL 0 (st.map toEn) x).2 = Tks.fold st x := by
  intro st x
  rw [relL_map, Tks.rel_0]
theorem sign_is {C : Cx} {N j r t W c : Nat} {p o : Int32} {h : pH} {es : List En} {x : Tr} (q : At7 C r t (W + es.length) (c + LW es + cl x) p o h) (qw : WRep C p o h W c es) (qx : CE (QC C p o h) x (c + LW es)) (hk : C.1.K t = 21) (hk2 : C.1.K (t + 1) = 22) (hW : W + es.length < 300) : ∃ h', fX7_readSign N (gX7_readSign N j) 46 (Int32.ofNat 4) h = some h' ∧ At7 C r (t + 2) (W + es.length + 1) (c + LW es + cl x) p o h' ∧ WRep C p o h' W c ((16, 4, t + 1, nl) :: es) ∧ CE (QC C p o h') x (c + LW es) ∧ Chg (xA W c) h h' := by
  obtain ⟨h1, e1, q1, c1⟩ := e7_advance (N := N) q (q.lt hk (by decide) (by decide))
  obtain ⟨h2, e2, q2, c2⟩ := e7_takeName (N := N) q1 hk2
  have c12 := c1.trans c2
  obtain ⟨e3, q3⟩ := q2.await (N := N) (l := 4) 16 (C.2.1 (t + 1)) hW (by omega) (fun z => absurd z (by decide))
  have qw2 := qw.chg c12 (fun y i y1 y2 i1 i2 => by unfold m7; omega) (fun y i y1 y2 i1 i2 => by unfold m7; omega)
  have cw := wtH_chg h2 (W + es.length) 16 (Int32.ofNat 4) (C.2.1 (t + 1))
  refine ⟨_, ?_, q3, wtH_rep (e := (16, 4, t + 1, nl)) q2.sg qw2 ⟨by show 16 < 62; omega, by show 4 ≤ 7; omega, fun _ => ⟨rfl, fun z => absurd rfl z⟩, Or.inr (Or.inr (Or.inr (by show 16 ≤ 16 ∧ 16 ≤ 18; omega)))⟩ (CE_nl _ _) (fun z => by revert z; show (16 = 28 ∨ 16 = 29) → _; intro z; omega), (qx.chg c12 (fun y i y1 y2 i1 i2 => by unfold m7; omega)).chg cw (fun y i y1 y2 i1 i2 => by unfold wtA; omega), (c12.mono (fun a k z => m7_x z)).trans (cw.mono (fun a k z => by unfold wtA at z; unfold xA; omega))⟩
  unfold fX7_readSign
  rw [if_pos (o_46 q.sg), g_46_9 q.sg, Option.bind_some, e7_opOf, Option.bind_some]
  dsimp only
  rw [g_46_9 q.sg, Option.bind_some, q.kind, if_pos hk]
  unfold fX7_readSign_22
  rw [e1, Option.bind_some, if_neg (show ¬ (1 : Int32) = 0 by decide), e2, Option.bind_some]
  dsimp only
  rw [e3, Option.bind_some]
theorem sign_is_no {C : Cx} {N j r t W c : Nat} {p o : Int32} {h : pH} (q : At7 C r t W c p o h) (hk : C.1.K t = 21) (hk2 : C.1.K (t + 1) ≠ 22) (hW : W < 300) : ∃ h', fX7_readSign N (gX7_readSign N j) 46 (Int32.ofNat 4) h = some h' ∧ Er7 C (C.1.P (t + 1)) (W + 1) h' ∧ Chg (eA W) h h' := by
  obtain ⟨h1, e1, q1, c1⟩ := e7_advance (N := N) q (q.lt hk (by decide) (by decide))
  obtain ⟨x, h2, e2, q2, c2⟩ := e7_takeName_no (N := N) q1 hk2
  have c12 := c1.trans c2
  obtain ⟨e3, q3⟩ := q2.await (N := N) (l := 4) 16 x (by omega) (by omega) (fun z => absurd z (by decide))
  have cw := wtH_chg h2 W 16 (Int32.ofNat 4) x
  refine ⟨_, ?_, q3, (c12.mono (fun a k z => m7_e z)).trans (cw.mono (fun a k z => by unfold wtA at z; unfold eA; omega))⟩
  unfold fX7_readSign
  rw [if_pos (o_46 q.sg), g_46_9 q.sg, Option.bind_some, e7_opOf, Option.bind_some]
  dsimp only
  rw [g_46_9 q.sg, Option.bind_some, q.kind, if_pos hk]
  unfold fX7_readSign_22
  rw [e1, Option.bind_some, if_neg (show ¬ (1 : Int32) = 0 by decide), e2, Option.bind_some]
  dsimp only
  rw [e3, Option.bind_some]
theorem opc_and {k : Int32} (h : lvl k ≠ 0) : (opc k = 28 ∨ opc k = 29) ↔ (lvl k = 1 ∨ lvl k = 2) := by
  unfold lvl at h
  unfold opc lvl
  by_cases h1 : k = 132
  · subst h1; decide
  by_cases h2 : k = 131
  · subst h2; decide
  rw [if_neg h1, if_neg h2] at h ⊢
  by_cases h3 : k = 128
  · subst h3; decide
  by_cases h4 : k = 129
  · subst h4; decide
  by_cases h5 : k = 60
  · subst h5; decide
  by_cases h6 : k = 130
  · subst h6; decide
  by_cases h7 : k = 43
  · subst h7; decide
  by_cases h8 : k = 45
  · subst h8; decide
  by_cases h9 : k = 42
  · subst h9; decide
  by_cases h10 : k = 47
  · subst h10; decide
  by_cases h11 : k = 37
  · subst h11; decide
  by_cases h12 : k = 21
  · subst h12; decide
  exfalso
  revert h
  simp [h3, h4, h5, h6, h7, h8, h9, h10, h11, h12]
/-- a sign between: it waits, and readOne is called -/
theorem sign_bin {C : Cx} {N j r t W c : Nat} {p o : Int32} {h : pH} {es : List En} {x : Tr} (q : At7 C r t (W + es.length) (c + LW es + cl x) p o h) (qw : WRep C p o h W c es) (qx : CE (QC C p o h) x (c + LW es)) (hk : C.1.K t ≠ 21) (hl : lvl (C.1.K t) ≠ 0) (hW : W + es.length < 300) : ∃ h', fX7_readSign N (gX7_readSign N j) 46 (Int32.ofNat (lvl (C.1.K t))) h = rcV (gX7_readSign N j) 77 [.ref 46] h' ∧ At7 C r (t + 1) (W + es.length + 1) (c + LW (toEn (C.1.K t, x) :: es)) p o h' ∧ WRep C p o h' W c (toEn (C.1.K t, x) :: es) ∧ Chg (xA W c) h h' := by
  have h6 := lvl_le (C.1.K t)
  have k0 : C.1.K t ≠ 0 := fun z => hl (by rw [z]; rfl)
  have k24 : C.1.K t ≠ 24 := fun z => hl (by rw [z]; rfl)
  have hmo := C.1.mono t k0
  have hcap := q.cap
  have hP := q.1.2.2.1 (t + 1)
  obtain ⟨h1, e1, q1, c1⟩ := e7_advance (N := N) q (q.1.lt q.2.1 k0 k24)
  have qw1 := qw.chg c1 (fun y i y1 y2 i1 i2 => by unfold m7; omega) (fun y i y1 y2 i1 i2 => by unfold m7; omega)
  have qx1 := qx.chg c1 (fun y i y1 y2 i1 i2 => by unfold m7; omega)
  obtain ⟨o1, o2⟩ := opc_rng (C.1.K t)
  have hef : enF (toEn (C.1.K t, x)) := ⟨by show opc (C.1.K t) < 62; omega, by show lvl (C.1.K t) ≤ 7; omega, fun z => by exfalso; have z : opc (C.1.K t) = 16 ∨ opc (C.1.K t) = 17 ∨ opc (C.1.K t) = 18 := z; omega, by show opc (C.1.K t) = 28 ∨ opc (C.1.K t) = 29 ∨ (19 ≤ opc (C.1.K t) ∧ opc (C.1.K t) ≤ 27) ∨ _; omega⟩
  have start : fX7_readSign N (gX7_readSign N j) 46 (Int32.ofNat (lvl (C.1.K t))) h = if lvl (C.1.K t) = 1 ∨ lvl (C.1.K t) = 2 then fX7_readSign_56 N (gX7_readSign N j) 46 (Int32.ofNat (lvl (C.1.K t))) (Int32.ofNat (opc (C.1.K t))) h1 else fX7_readSign_68 N (gX7_readSign N j) 46 (Int32.ofNat (lvl (C.1.K t))) (Int32.ofNat (opc (C.1.K t))) 0 h1 := by
    unfold fX7_readSign
    rw [if_pos (o_46 q.sg), g_46_9 q.sg, Option.bind_some, e7_opOf, Option.bind_some]
    dsimp only
    rw [g_46_9 q.sg, Option.bind_some, q.kind, if_neg hk]
    unfold fX7_readSign_22
    rw [e1, Option.bind_some, if_pos rfl, show (1 : Int32) = Int32.ofNat 1 from rfl, ifEq (by omega) (by decide), show (2 : Int32) = Int32.ofNat 2 from rfl, ifEq (by omega) (by decide)]
    by_cases z1 : lvl (C.1.K t) = 1
    · rw [if_pos z1, if_pos (Or.inl z1)]
    · rw [if_neg z1]
      by_cases z2 : lvl (C.1.K t) = 2
      · rw [if_pos z2, if_pos (Or.inr z2)]
      · rw [if_neg z2, if_neg (by omega)]
  have hand := opc_and hl
  by_cases hm : lvl (C.1.K t) = 1 ∨ lvl (C.1.K t) = 2
  · have hm2 := hand.mpr hm
    obtain ⟨m1, m2, m3⟩ := q1.emit (N := N) (Int32.ofNat (opc (C.1.K t))) 0 0 (by omega)
    have g := emH_chg h1 (c + LW es + cl x) (Int32.ofNat (opc (C.1.K t))) 0 0
    obtain ⟨e3, q3⟩ := m2.await (N := N) (l := lvl (C.1.K t)) (Int32.ofNat (opc (C.1.K t))) (Int32.ofNat (c + LW es + cl x)) hW (by omega) (fun _ => ⟨c + LW es + cl x, by omega, rfl⟩)
    have hen : enM C c (toEn (C.1.K t, x)) es = Int32.ofNat (c + LW es + cl x) := by
      unfold enM
      exact if_pos hm2
    have qw2 := qw1.chg g (fun y i y1 y2 i1 i2 => by unfold emA; omega) (fun y i y1 y2 i1 i2 => by unfold emA; omega)
    have qx2 := qx1.chg g (fun y i y1 y2 i1 i2 => by unfold emA; omega)
    have qr := wtH_rep (e := toEn (C.1.K t, x)) m2.sg qw2 hef qx2 (fun _ => m3)
    rw [hen] at qr
    have cw := wtH_chg (emH h1 (c + LW es + cl x) (Int32.ofNat (opc (C.1.K t))) 0 0) (W + es.length) (Int32.ofNat (opc (C.1.K t))) (Int32.ofNat (lvl (C.1.K t))) (Int32.ofNat (c + LW es + cl x))
    refine ⟨_, ?_, ?_, qr, ((c1.mono (fun a k z => m7_x z)).trans (g.mono (fun a k z => by unfold emA at z; unfold xA; omega))).trans (cw.mono (fun a k z => by unfold wtA at z; unfold xA; omega))⟩
    · rw [start, if_pos hm]
      unfold fX7_readSign_56
      rw [R_46_3 q1.sg, Option.bind_some, m1, Option.bind_some]
      dsimp only
      unfold fX7_readSign_68
      rw [e3, Option.bind_some, guard46 q3.sg, Option.bind_some, bind_id]
      rfl
    · have hl2 : LW (toEn (C.1.K t, x) :: es) = LW es + cl x + 1 := by rw [LW_cons]; show LW es + cl x + (if opc (C.1.K t) = 28 ∨ opc (C.1.K t) = 29 then 1 else 0) = _; rw [if_pos hm2]
      rw [hl2, ← Nat.add_assoc, ← Nat.add_assoc]
      exact q3
  · have hm2 : ¬ (opc (C.1.K t) = 28 ∨ opc (C.1.K t) = 29) := fun z => hm (hand.mp z)
    obtain ⟨e3, q3⟩ := q1.await (N := N) (l := lvl (C.1.K t)) (Int32.ofNat (opc (C.1.K t))) 0 hW (by omega) (fun z => by
      rw [show (28 : Int32) = Int32.ofNat 28 from rfl, show (29 : Int32) = Int32.ofNat 29 from rfl, iEq (by omega) (by decide), iEq (by omega) (by decide)] at z
      exact absurd z hm2)
    have hen : enM C c (toEn (C.1.K t, x)) es = 0 := by
      unfold enM toEn
      dsimp only
      rw [if_neg hm2, if_neg (show ¬ opc (C.1.K t) = 16 by omega)]
    have qr := wtH_rep (e := toEn (C.1.K t, x)) q1.sg qw1 hef qx1 (fun z => absurd z hm2)
    rw [hen] at qr
    have cw := wtH_chg h1 (W + es.length) (Int32.ofNat (opc (C.1.K t))) (Int32.ofNat (lvl (C.1.K t))) 0
    refine ⟨_, ?_, ?_, qr, (c1.mono (fun a k z => m7_x z)).trans (cw.mono (fun a k z => by unfold wtA at z; unfold xA; omega))⟩
    · rw [start, if_neg hm]
      unfold fX7_readSign_68
      rw [e3, Option.bind_some, guard46 q3.sg, Option.bind_some, bind_id]
      rfl
    · have hl2 : LW (toEn (C.1.K t, x) :: es) = LW es + cl x := by rw [LW_cons]; show LW es + cl x + (if opc (C.1.K t) = 28 ∨ opc (C.1.K t) = 29 then 1 else 0) = _; rw [if_neg hm2]; rfl
      rw [hl2, ← Nat.add_assoc]
      exact q3
theorem fitsW_dec (l : Nat) (st : Tks.Wt) : Tks.fitsW l st ∨ ¬ Tks.fitsW l st := Classical.em _
/-- from behind an operand to the loop's head -/
theorem tail_run {C : Cx} {N r t W c n : Nat} {p o v : Int32} {h : pH} {es : List En} {x : Tr} {s : Nat → Pr Tr} {D : Pr Tr} {rc : Nat → List Value → pH → Option (Option Value × pH)} (hN : 400 < N) (q : At7 C r t (W + es.length) (c + LW es + cl x) p o h) (qw : WRep C p o h W c es) (qx : CE (QC C p o h) x (c + LW es)) (hcap : c + WTl es + wt x ≤ C.1.P t) (m : MD C s D t es x) (IH : ∀ (es' : List En) (x' : Tr) (h' : pH), HD C s D t es' x' → At7 C r t (W + es'.length) (c + LW es' + cl x') p o h' → WRep C p o h' W c es' → CE (QC C p o h') x' (c + LW es') → c + WTl es' + wt x' ≤ C.1.P t → PX C D r W c p o h' (fX7_readExpression_28 N rc n 46 (Int32.ofNat W) (Int32.ofNat (lvl (C.1.K t))) v h')) : PX C D r W c p o h ((getI h 46 7 9).bind fun t7 => (fX7_levelOf N t7 h).bind fun q8 => (fX7_leastReleased N q8.1 q8.2).bind fun q9 => (fX7_release N 46 (Int32.ofNat W) q9.1 q9.2).bind fun h10 => fX7_readExpression_28 N rc n 46 (Int32.ofNat W) q8.1 v h10) := by
  obtain ⟨h', e, a1, a2, a3, a4, a5⟩ := At7.release (N := N) (ls := Tks.least (lvl (C.1.K t))) hN (least_le _ (lvl_le _)) q qw qx hcap
  rw [g_46_9 q.sg, Option.bind_some, q.kind, e7_levelOf, Option.bind_some]
  dsimp only
  rw [e7_least N _ (lvl_le _), Option.bind_some]
  dsimp only
  rw [e, Option.bind_some]
  exact (IH _ _ h' m.hd a1 a2 a3 a4).back a5
theorem expr_loop7 {C : Cx} {N r j W c : Nat} {p o : Int32} {D : Pr Tr} (hN : 3200 < N) (hsub : ∀ r', r' < r → RX C N (6 * r' + 9) 76 (C.1.expr r') r' (7 * (30 - r'))) (hj : 6 * r + 8 ≤ j) (hW : W ≤ 7 * (30 - r)) : ∀ (d n g t : Nat) (es : List En) (x : Tr) (h : pH), C.1.E ≤ t + d → C.2.2 + 1 < t + n → g ≤ t → HD C (C.1.sgl r) D t es x → At7 C r t (W + es.length) (c + LW es + cl x) p o h → WRep C p o h W c es → CE (QC C p o h) x (c + LW es) → c + WTl es + wt x ≤ C.1.P t → PX C D r W c p o h (fX7_readExpression_28 N (gX7_readSign N j) n 46 (Int32.ofNat W) (Int32.ofNat (lvl (C.1.K t))) (Int32.ofNat g) h)
  | d, n, g, t, es, x, h, hd, hn, hg, hh, q, qw, qx, hcap => by
    have hE := q.le_E
    have hC := q.1.2.1
    have ht := q.2.1
    have h6 := lvl_le (C.1.K t)
    obtain ⟨n', rfl⟩ : ∃ n', n = n' + 1 := ⟨n - 1, by omega⟩
    rw [fX7_readExpression_28, show (3100 : Int32) = Int32.ofNat 3100 from rfl, ifLe (by decide) (by omega), if_neg (by omega)]
    rcases hh with ⟨st, rfl, hw, hD⟩ | ⟨st, w, rfl, hw, h4, hD⟩
    · have hlen : (st.map toEn).length = st.length := List.length_map _
      rcases hD with ⟨hl, rfl, hD⟩ | ⟨hl, hD⟩
      · rw [hl, show Int32.ofNat 0 = (0 : Int32) from rfl, fits_0 q.sg, Option.bind_some]
        dsimp only
        rw [if_pos rfl, hD]
        exact expr_72_ok (by omega) q qw qx hcap rfl
      · have hsl : st.length ≤ 6 := by
          have := hw.len
          unfold Tks.least at this
          split at this <;> omega
        rcases fitsW_dec (lvl (C.1.K t)) st with hf | hf
        · have ef : fX7_fits N 46 (Int32.ofNat W) (Int32.ofNat (lvl (C.1.K t))) h = some (1, h) := by
            cases st with
            | nil => exact fits_nil q.sg (by omega) (by omega) (by omega) q.f7
            | cons e st =>
              have hf : lvl e.1 < lvl (C.1.K t) := hf
              have := lvl_le e.1
              have ho := opc_rng e.1
              have hl2 : (List.map toEn (e :: st)).length = (List.map toEn st).length + 1 := rfl
              rw [hl2] at q hlen
              have := fits_top (N := N) (B := W) (W := W + (List.map toEn st).length) (l := lvl (C.1.K t)) (l' := lvl e.1) (k := opc e.1) q.sg (by have := q.2.2.2.1; omega) (by omega) (by omega) (by omega) (by omega) (by omega) q.f7 qw.2.2.1 qw.2.1
              rw [this, if_pos ⟨hf, by omega⟩]
          rw [ef, Option.bind_some]
          dsimp only
          rw [if_neg (show ¬ (1 : Int32) = 0 by decide), guard46 q.sg, Option.bind_some]
          obtain ⟨i, rfl⟩ : ∃ i, j = i + 1 := ⟨j - 1, by omega⟩
          rw [k_92]
          have k0 : C.1.K t ≠ 0 := fun z => hl (by rw [z]; rfl)
          have htE := Tks.lt_of k0
          obtain ⟨d', rfl⟩ : ∃ d', d = d' + 1 := ⟨d - 1, by omega⟩
          by_cases h21 : C.1.K t = 21
          · have hl4 : lvl (C.1.K t) = 4 := by rw [h21]; rfl
            rw [hl4] at hf hD hw ⊢
            rw [Tks.den_is C.1 (C.1.sgl r) st x h21 hf] at hD
            by_cases h22 : C.1.K (t + 1) = 22
            · rw [if_pos h22] at hD
              obtain ⟨h', e', a1, a2, a3, a4⟩ := sign_is (N := N) (j := i) q qw qx h21 h22 (by omega)
              rw [e', Option.bind_some, i_add1]
              have hw3 : Tks.WtOk 3 st := by
                cases st with
                | nil => trivial
                | cons e st =>
                  obtain ⟨w1, w2, w3, w4⟩ := hw
                  have hf : lvl e.1 < 4 := hf
                  exact ⟨w1, by omega, w3, w4⟩
              have hm1 : C.1.P t < C.1.P (t + 1) := C.1.mono t k0
              have hm2 : C.1.P (t + 1) < C.1.P (t + 2) := C.1.mono (t + 1) (by rw [h22]; decide)
              have hlw : LW ((16, 4, t + 1, nl) :: st.map toEn) = LW (st.map toEn) := rfl
              have hwt : WTl ((16, 4, t + 1, nl) :: st.map toEn) = WTl (st.map toEn) + 0 + 1 := rfl
              refine PX.back ?_ a4
              refine tail_run (es := (16, 4, t + 1, nl) :: st.map toEn) (x := x) (s := C.1.sgl r) (by omega) (by rw [hlw]; exact a1) a2 (by rw [hlw]; exact a3) (by rw [hwt]; omega) (Or.inr ⟨st, t + 1, rfl, hw3, hD⟩) (fun es' x' h'' z1 z2 z3 z4 z5 => expr_loop7 hN hsub hj hW d' n' (g + 1) (t + 2) es' x' h'' (by omega) (by omega) (by omega) z1 z2 z3 z4 z5)
            · rw [if_neg h22] at hD
              obtain ⟨h', e', a1, a2⟩ := sign_is_no (N := N) (j := i) q h21 h22 (by omega)
              rw [e', Option.bind_some, hD]
              obtain ⟨n'', rfl⟩ : ∃ n'', n' = n'' + 1 := ⟨n' - 1, by omega⟩
              obtain ⟨h2, e2, q2, c2⟩ := expr_err (N := N) (rc := gX7_readSign N (i + 1)) (n := n'') (v := Int32.ofNat g + 1) (B := W) (by omega) (by omega) a1
              exact PX.mk_no e2 q2 ((a2.mono (fun a k z => eA_le (by omega) z)).trans c2)
          · obtain ⟨h', e', a1, a2, a4⟩ := sign_bin (N := N) (j := i) q qw qx h21 hl (by omega)
            rw [Tks.den_fit C.1 (C.1.sgl r) (Tks.sgl_adv C.1 r) st x h21 hf] at hD
            have hw6 : Tks.WtOk 6 ((C.1.K t, x) :: st) := by
              refine ⟨by omega, h6, h21, ?_⟩
              cases st with
              | nil => trivial
              | cons e st =>
                obtain ⟨w1, w2, w3, w4⟩ := hw
                have hf : lvl e.1 < lvl (C.1.K t) := hf
                exact ⟨w1, by omega, w3, w4⟩
            have hl6 : st.length + 1 ≤ 6 := hw6.len
            have pq := one_run7 (j := i) (W := W + (st.map toEn).length + 1) hN hsub (by omega) (by omega) a1
            rw [e']
            have hm1 : C.1.P t < C.1.P (t + 1) := C.1.mono t k0
            have hwt : WTl (toEn (C.1.K t, x) :: st.map toEn) + C.1.P t ≤ WTl (st.map toEn) + wt x + C.1.P (t + 1) := by
              have z := Tks.wt_mk2 (S := C.1) (t := t) x nl hl
              unfold mk2 eBin at z
              rw [wt_nd, wt_nl] at z
              rw [WTl_cons]
              show WTl (st.map toEn) + wt x + (if opc (C.1.K t) = 28 ∨ opc (C.1.K t) = 29 then 2 else 1) + C.1.P t ≤ _
              omega
            rcases hq : C.1.sgl r (t + 1) with ⟨y, u⟩ | w
            · obtain ⟨h3, e3, q3, x3, c3⟩ := pq.1 y u hq
              have hadv := Tks.sgl_adv C.1 r _ _ _ hq
              have hcp := Tks.sgl_cap C.1 r _ _ _ hq
              rw [hq, Pr.bind_ok] at hD
              rw [e3, Option.bind_some, i_add1]
              refine PX.back ?_ (a4.trans (c3.mono (fun a k z => xA_le (by omega) (by omega) z)))
              refine tail_run (es := toEn (C.1.K t, x) :: st.map toEn) (x := y) (s := C.1.sgl r) (by omega) q3 (a2.chg c3 (fun y i y1 y2 i1 i2 => by unfold xA; omega) (fun y i y1 y2 i1 i2 => by unfold xA; have : (toEn (C.1.K t, x) :: st.map toEn).length = (st.map toEn).length + 1 := rfl; omega)) x3 (by omega) (Or.inl ⟨(C.1.K t, x) :: st, rfl, hw6, hD⟩) (fun es' x' h'' z1 z2 z3 z4 z5 => expr_loop7 hN hsub hj hW d' n' (g + 1) u es' x' h'' (by omega) (by omega) (by omega) z1 z2 z3 z4 z5)
            · obtain ⟨h3, W', e3, b1, q3, c3⟩ := pq.2 w hq
              rw [hq, Pr.bind_no] at hD
              rw [e3, Option.bind_some, hD]
              obtain ⟨n'', rfl⟩ : ∃ n'', n' = n'' + 1 := ⟨n' - 1, by omega⟩
              obtain ⟨h2, e2, q2, c2⟩ := expr_err (N := N) (rc := gX7_readSign N (i + 1)) (n := n'') (v := Int32.ofNat g + 1) (B := W) (by omega) (by omega) q3
              exact PX.mk_no e2 q2 (((a4.mono (fun a k z => xA_e z)).trans (c3.mono (fun a k z => eA_le (by omega) z))).trans c2)
        · have ef : fX7_fits N 46 (Int32.ofNat W) (Int32.ofNat (lvl (C.1.K t))) h = some (0, h) := by
            cases st with
            | nil => exact absurd (Nat.pos_of_ne_zero hl) hf
            | cons e st =>
              have hf : ¬ lvl e.1 < lvl (C.1.K t) := hf
              have := lvl_le e.1
              have ho := opc_rng e.1
              have hl2 : (List.map toEn (e :: st)).length = (List.map toEn st).length + 1 := rfl
              rw [hl2] at q hlen
              have := fits_top (N := N) (B := W) (W := W + (List.map toEn st).length) (l := lvl (C.1.K t)) (l' := lvl e.1) (k := opc e.1) q.sg (by have := q.2.2.2.1; omega) (by omega) (by omega) (by omega) (by omega) (by omega) q.f7 qw.2.2.1 qw.2.1
              rw [this, if_neg (fun z => hf z.1)]
          rw [ef, Option.bind_some]
          dsimp only
          rw [if_pos rfl, hD, Tks.den_unfit C.1 (C.1.sgl r) st x hw hf]
          exact expr_72_ok (by omega) q qw qx hcap (fold_rel st x)
    · have hsl := hw.len
      have hlen : (st.map toEn).length = st.length := List.length_map _
      have hl2 : ((16, 4, w, nl) :: st.map toEn : List En).length = (st.map toEn).length + 1 := rfl
      rw [hl2] at q
      have ef := fits_top (N := N) (B := W) (W := W + (st.map toEn).length) (l := lvl (C.1.K t)) (l' := 4) (k := 16) q.sg (by omega) (by omega) (by omega) (by omega) (by omega) (by omega) q.f7 qw.2.2.1 qw.2.1
      rw [if_neg (fun z => z.2 rfl)] at ef
      rw [ef, Option.bind_some]
      dsimp only
      rw [if_pos rfl, hD]
      refine expr_72_ok (es := (16, 4, w, nl) :: st.map toEn) (by omega) q qw qx hcap ?_
      show (if 0 ≤ 4 then relL 0 (st.map toEn) (act (16, 4, w, nl) x) else _).2 = _
      rw [if_pos (Nat.zero_le _), act_is, fold_rel]
theorem expr_run7 {C : Cx} {N : Nat} (hN : 3200 < N) : ∀ r, RX C N (6 * r + 9) 76 (C.1.expr r) r (7 * (30 - r)) := by
  intro r
  induction r using Nat.strongRecOn with
  | ind r hsub =>
    intro j hj t W c p o h q hW
    obtain ⟨i, rfl⟩ : ∃ i, j = i + 1 := ⟨j - 1, by omega⟩
    have hE := q.le_E
    have hC := q.1.2.1
    have hcp0 := q.cap
    rw [k_76]
    unfold fX7_readExpression
    rw [if_pos (o_46 q.sg), g_46_7 q.sg, Option.bind_some, guard46 q.sg, Option.bind_some, q.f7]
    have pq := one_run7 (j := i) hN hsub (by omega) (by omega) q
    rw [Tks.expr_den]
    rcases hq : C.1.sgl r t with ⟨y, u⟩ | w
    · obtain ⟨h3, e3, q3, x3, c3⟩ := pq.1 y u hq
      have hcp := Tks.sgl_cap C.1 r _ _ _ hq
      rw [e3, Option.bind_some, Pr.bind_ok]
      refine PX.back ?_ c3
      exact tail_run (es := []) (x := y) (s := C.1.sgl r) (by omega) q3 trivial x3 (by show c + 0 + wt y ≤ _; omega) (Or.inl ⟨[], rfl, trivial, rfl⟩) (fun es' x' h'' z1 z2 z3 z4 z5 => expr_loop7 hN (fun r' z => hsub r' z) (by omega) hW (C.1.E - u) N 0 u es' x' h'' (by omega) (by omega) (by omega) z1 z2 z3 z4 z5)
    · obtain ⟨h3, W', e3, b1, q3, c3⟩ := pq.2 w hq
      rw [e3, Option.bind_some, Pr.bind_no]
      obtain ⟨n, hn⟩ : ∃ n, N = n + 1 := ⟨N - 1, by omega⟩
      obtain ⟨h2, e2, q2, c2⟩ := expr_err (N := N) (rc := gX7_readSign N i) (n := n) (v := 0) (B := W) (by omega) b1 q3
      rw [← hn] at e2
      exact PX.mk_no e2 q2 (c3.trans c2)
