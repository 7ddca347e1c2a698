/-! ===== THE CLASS' READER: while, try ===== -/
theorem while_err {C : Cx} {N w m : Nat} {v : Int32} {h0 h : pH} (hm : m < 3100) (q : Er7 C w 0 h) (g : Chg (eA 0) h0 h) : ∃ h', ((getR h 46 7 3).bind fun t10 => (fX2_emit N t10 57 0 0 h).bind fun q11 => (getR q11.2 46 7 3).bind fun t12 => (getR q11.2 t12 2 3).bind fun t13 => (stI q11.2 t13 q11.1 v).bind fun h14 => (getR h14 46 7 3).bind fun t15 => (getR h14 t15 2 3).bind fun t16 => (getR h14 46 7 3).bind fun t17 => (getI h14 t17 2 7).bind fun t18 => (stI h14 t16 (Int32.ofNat m) t18).bind fun h19 => some h19) = some h' ∧ Er7 C w 0 h' ∧ Chg (eA 0) h0 h' := by
  obtain ⟨i, h1, i1, e1, q1, c1⟩ := q.emit3 (N := N) (k := 57) (a := 0) (b := 0) g
  obtain ⟨q2, c2⟩ := q1.wrC (a := 42) (m := i) (x := v) ⟨by omega, by omega⟩
  obtain ⟨q3, c3⟩ := q2.wrC (a := 42) (m := m) (x := rd (wr h1 42 i v) 38 7) ⟨by omega, by omega⟩
  refine ⟨_, ?_, q3, (c1.trans c2).trans c3⟩
  rw [R_46_3 q.sg, Option.bind_some, e1, Option.bind_some]
  dsimp only
  rw [R_46_3 q1.sg, Option.bind_some, R_38_3 q1.sg, Option.bind_some, T_42 q1.sg i1, Option.bind_some, R_46_3 q2.sg, Option.bind_some, R_38_3 q2.sg, Option.bind_some, Option.bind_some, g_38_7 q2.sg, Option.bind_some, T_42 q2.sg hm, Option.bind_some]
theorem while_run {C : Cx} {N J j r t c : Nat} {o : Int32} {h : pH} (hN : 3200 < N) (hb : RB7 C N J r) (hJ : J + 1 ≤ j) (hJ1 : 1 ≤ J) (q : At7 C r t 0 c (Int32.ofNat (C.1.P t)) o h) (hk : C.1.K t = 8) : PS7 C (C.1.whileS r (C.1.blk r) t) r c o h (rcV (gX7_readWhile N j) 94 [.ref 46] h) := by
  obtain ⟨i, rfl⟩ : ∃ i, j = i + 1 := ⟨j - 1, by omega⟩
  obtain ⟨i', hi'⟩ : ∃ i', i = i' + 1 := ⟨i - 1, by omega⟩
  have hcap := q.cap
  have hm0 := C.1.mono t (by rw [hk]; decide)
  have hP3 := q.1.2.2.1 t
  rw [k_94]
  unfold fX7_readWhile Tks.whileS
  obtain ⟨h1, e1, q1, c1⟩ := e7_advance (N := N) q (q.lt hk (by decide) (by decide))
  have pq := br7 hN q1
  rw [if_pos (o_46 q.sg), e1, Option.bind_some, R_46_3 q1.sg, Option.bind_some, g_38_7 q1.sg, Option.bind_some, q1.2.2.2.2.2.2.2.2.2.2.1, guard46 q1.sg, Option.bind_some]
  rcases hq : C.1.brk r (C.1.expr (r - 1)) 40 41 (t + 1) with ⟨x, t1⟩ | w
  · obtain ⟨h2, e2, q2, x2, c2⟩ := pq.1 x t1 hq
    have hbc := Tks.brk_cap (Tks.expr_cap C.1 (r - 1)) (by decide) (by decide) hq
    have hcl := cl_le_wt x
    have hP1 := q2.1.2.2.1 t1
    obtain ⟨e3, q3, p3, c3⟩ := q2.silent (N := N) (by omega) 39
    have c13 : Chg (sA c) h (emH h2 (c + cl x) (Int32.ofNat 39) 0 0) := ((c1.mono (fun a k z => m7_s z)).trans (c2.mono (fun a k z => xA_s z))).trans (c3.mono (fun a k z => by unfold emA at z; unfold sA xA; omega))
    have pb := hb i (by omega) t1 (c + cl x + 1) _ o _ q3
    rw [e2, Option.bind_some, R_46_3 q2.sg, Option.bind_some, show fX2_emit N 38 39 0 0 h2 = _ from e3, Option.bind_some, Pr.bind_ok]
    dsimp only
    rw [guard46 q3.sg, Option.bind_some]
    rcases hqa : C.1.blk r t1 with ⟨a, t2⟩ | w
    · obtain ⟨h4, p4, e4, q4, x4, ⟨na, oka⟩, c4, hc4⟩ := pb.1 a t2 hqa
      have hP2 := q4.1.2.2.1 t2
      rw [e4, Option.bind_some, Pr.bind_ok]
      dsimp only
      have p34 : PcAt h4 (c + cl x) (Int32.ofNat 39) 0 0 0 (Int32.ofNat (C.1.P t)) o := PcAt.chg p3 c4 (fun y y1 y2 => by unfold sA xA; omega)
      obtain ⟨e6, q6, p6, c6⟩ := q4.silent (N := N) (by omega) 57
      have s6 := q6.sg
      have q7 := q6.wrC (a := 42) (m := c + cl x + 1 + cb a.1) (x := Int32.ofNat c) ⟨by omega, by omega⟩
      have c7 : Chg (fun y k => y = 42 ∧ k = c + cl x + 1 + cb a.1) (emH h4 (c + cl x + 1 + cb a.1) (Int32.ofNat 57) 0 0) (wr (emH h4 (c + cl x + 1 + cb a.1) (Int32.ofNat 57) 0 0) 42 (c + cl x + 1 + cb a.1) (Int32.ofNat c)) := Chg.wr _ _ _ _ ⟨rfl, rfl⟩
      have q8 := q7.wrC (a := 42) (m := c + cl x) (x := Int32.ofNat (c + cl x + 1 + cb a.1 + 1)) ⟨by omega, by omega⟩
      have c8 : Chg (fun y k => y = 42 ∧ k = c + cl x) (wr (emH h4 (c + cl x + 1 + cb a.1) (Int32.ofNat 57) 0 0) 42 (c + cl x + 1 + cb a.1) (Int32.ofNat c)) (wr (wr (emH h4 (c + cl x + 1 + cb a.1) (Int32.ofNat 57) 0 0) 42 (c + cl x + 1 + cb a.1) (Int32.ofNat c)) 42 (c + cl x) (Int32.ofNat (c + cl x + 1 + cb a.1 + 1))) := Chg.wr _ _ _ _ ⟨rfl, rfl⟩
      rw [R_46_3 q4.sg, Option.bind_some, show fX2_emit N 38 57 0 0 h4 = _ from e6, Option.bind_some]
      dsimp only
      rw [R_46_3 s6, Option.bind_some, R_38_3 s6, Option.bind_some, T_42 s6 (by omega), Option.bind_some, R_46_3 q7.sg, Option.bind_some, R_38_3 q7.sg, Option.bind_some, Option.bind_some, g_38_7 q7.sg, Option.bind_some, q7.2.2.2.2.2.2.2.2.2.2.1, T_42 q7.sg (by omega), Option.bind_some]
      have p66 := (PcAt.tg (x := Int32.ofNat c) s6 p6).chg c8 (fun y y1 y2 => by omega)
      have p67 := PcAt.tg (x := Int32.ofNat (c + cl x + 1 + cb a.1 + 1)) q7.sg ((PcAt.chg p34 c6 (fun y y1 y2 => by unfold emA; omega)).chg c7 (fun y y1 y2 => by omega))
      refine PS7.mk_ok (x := bWhil (C.1.P t) x a.1 nl) rfl (by rw [cb_whil, cb_nl, show c + (cl x + 1 + cb a.1 + 1 + 0) = c + cl x + 1 + cb a.1 + 1 by omega]; exact q8) ?_ ⟨na, Or.inr (Or.inr (Or.inr (Or.inr (Or.inr (Or.inr (Or.inr (Or.inl ⟨_, _, _, rfl, oka⟩)))))))⟩ ((((c13.trans (c4.mono (fun a k z => sA_le (by omega) z))).trans (c6.mono (fun a k z => by unfold emA at z; unfold sA xA; omega))).trans (c7.mono (fun a k z => by unfold sA xA; omega))).trans (c8.mono (fun a k z => by unfold sA xA; omega)))
      rw [CB_whil]
      exact ⟨CE.same2 x2 (fun y i y1 y2 i1 i2 => by rw [c8.2.2.1 _ _ (by omega), c7.2.2.1 _ _ (by omega), c6.2.2.1 _ _ (by unfold emA; omega), c4.2.2.1 _ _ (by unfold sA xA; omega), c3.2.2.1 _ _ (by unfold emA; omega)]), CB.same oka x4 (fun y i y1 y2 i1 i2 => by rw [c8.2.2.1 _ _ (by omega), c7.2.2.1 _ _ (by omega), c6.2.2.1 _ _ (by unfold emA; omega)]), p67, ⟨_, p66⟩, trivial⟩
    · obtain ⟨v, h4, e4, q4, c4⟩ := pb.2 w hqa
      rw [e4, Option.bind_some, Pr.bind_no]
      obtain ⟨h5, e5, q5, c5⟩ := while_err (N := N) (v := Int32.ofNat c) (m := c + cl x) (by omega) q4 ((c13.mono (fun a k z => sA_e z)).trans c4)
      exact PS7.mk_no e5 q5 c5
  · obtain ⟨h2, e2, q2, c2⟩ := pq.2 w hq
    obtain ⟨m, h3, m1, e3, q3, c3⟩ := q2.emit3 (N := N) (k := 39) (a := 0) (b := 0) ((c1.mono (fun a k z => m7_e z)).trans c2)
    obtain ⟨v, h4, e4, q4, c4⟩ := Er7.block (N := N) (j := i') (by omega) q3
    rw [← hi'] at e4
    rw [e2, Option.bind_some, R_46_3 q2.sg, Option.bind_some, e3, Option.bind_some, Pr.bind_no]
    dsimp only
    rw [guard46 q3.sg, Option.bind_some, e4, Option.bind_some]
    obtain ⟨h5, e5, q5, c5⟩ := while_err (N := N) (v := Int32.ofNat c) (m := m) m1 q4 (c3.trans c4)
    exact PS7.mk_no e5 q5 c5
/-- the pieces of readTry, from its end on -/
def tr5 (N : Nat) (rc : Nat → List Value → pH → Option (Option Value × pH)) (pl op v w : Int32) (h18 : pH) : Option pH :=
  (getR h18 46 7 3).bind fun t19 => (putI h18 t19 2 8 pl).bind fun h20 => (getR h20 46 7 3).bind fun t21 => (fX2_emit N t21 59 v w h20).bind fun q22 => (getR q22.2 46 7 3).bind fun t23 => (getR q22.2 t23 2 1).bind fun t24 => (stI q22.2 t24 op q22.1).bind fun h25 => (if isO h25 46 7 = true then some () else none).bind fun _ => (rcI rc 72 [.ref 46] h25).bind fun q27 => (getR q27.2 46 7 3).bind fun t28 => (getR q27.2 t28 2 3).bind fun t29 => (getR q27.2 46 7 3).bind fun t30 => (fX2_emit N t30 60 0 0 q27.2).bind fun q31 => (stI q31.2 t29 q22.1 q31.1).bind fun h32 => some h32
def tr4 (N : Nat) (rc : Nat → List Value → pH → Option (Option Value × pH)) (pl op v w : Int32) (h : pH) : Option pH := (fX7_close N 46 41 h).bind fun h18 => tr5 N rc pl op v w h18
def tr3 (N : Nat) (rc : Nat → List Value → pH → Option (Option Value × pH)) (pl op v : Int32) (h : pH) : Option pH := (fX7_takeName N 46 h).bind fun q17 => tr4 N rc pl op v q17.1 q17.2
def tr2 (N : Nat) (rc : Nat → List Value → pH → Option (Option Value × pH)) (pl op : Int32) (h : pH) : Option pH := (fX7_takeName N 46 h).bind fun q16 => tr3 N rc pl op q16.1 q16.2
def tr1 (N : Nat) (rc : Nat → List Value → pH → Option (Option Value × pH)) (pl op : Int32) (h : pH) : Option pH := (fX7_open N 46 40 h).bind fun h15 => tr2 N rc pl op h15
def tr0 (N : Nat) (rc : Nat → List Value → pH → Option (Option Value × pH)) (pl op : Int32) (h : pH) : Option pH := (fX7_take N 46 12 h).bind fun h14 => tr1 N rc pl op h14
theorem tr5_err {C : Cx} {N j w m : Nat} {pl v x : Int32} {h0 h : pH} (hN : 0 < N) (hm : m < 3100) (q : Er7 C w 0 h) (g : Chg (eA 0) h0 h) : ∃ h', tr5 N (gX7_readWhile N (j + 1)) pl (Int32.ofNat m) v x h = some h' ∧ Er7 C w 0 h' ∧ Chg (eA 0) h0 h' := by
  obtain ⟨q1, c1⟩ := q.set8 (k := 8) (x := pl) (Or.inl rfl)
  obtain ⟨i, h2, i1, e2, q2, c2⟩ := q1.emit3 (N := N) (k := 59) (a := v) (b := x) (g.trans c1)
  obtain ⟨q3, c3⟩ := q2.wrC (a := 40) (m := m) (x := Int32.ofNat i) ⟨by omega, by omega⟩
  obtain ⟨v4, h4, e4, q4, c4⟩ := Er7.block (N := N) (j := j) hN q3
  obtain ⟨i5, h5, i51, e5, q5, c5⟩ := q4.emit3 (N := N) (k := 60) (a := 0) (b := 0) ((c2.trans c3).trans c4)
  obtain ⟨q6, c6⟩ := q5.wrC (a := 42) (m := i) (x := Int32.ofNat i5) ⟨by omega, by omega⟩
  refine ⟨_, ?_, q6, c5.trans c6⟩
  unfold tr5
  rw [R_46_3 q.sg, Option.bind_some, p_38_8 q.sg, Option.bind_some, R_46_3 q1.sg, Option.bind_some, e2, Option.bind_some]
  dsimp only
  rw [R_46_3 q2.sg, Option.bind_some, R_38_1 q2.sg, Option.bind_some, T_40 q2.sg hm, Option.bind_some, guard46 q3.sg, Option.bind_some, e4, Option.bind_some]
  dsimp only
  rw [R_46_3 q4.sg, Option.bind_some, R_38_3 q4.sg, Option.bind_some, Option.bind_some, e5, Option.bind_some]
  dsimp only
  rw [T_42 q5.sg i1, Option.bind_some]
theorem tr4_err {C : Cx} {N j w m : Nat} {pl v x : Int32} {h0 h : pH} (hN : 0 < N) (hm : m < 3100) (q : Er7 C w 0 h) (g : Chg (eA 0) h0 h) : ∃ h', tr4 N (gX7_readWhile N (j + 1)) pl (Int32.ofNat m) v x h = some h' ∧ Er7 C w 0 h' ∧ Chg (eA 0) h0 h' := by
  obtain ⟨h1, e1, q1, c1⟩ := q.close (N := N) (k := 41) (by decide)
  unfold tr4
  rw [e1, Option.bind_some]
  exact tr5_err hN hm q1 (g.trans (c1.mono (fun a k z => m7_e z)))
theorem tr3_err {C : Cx} {N j w m : Nat} {pl v : Int32} {h0 h : pH} (hN : 0 < N) (hm : m < 3100) (q : Er7 C w 0 h) (g : Chg (eA 0) h0 h) : ∃ h', tr3 N (gX7_readWhile N (j + 1)) pl (Int32.ofNat m) v h = some h' ∧ Er7 C w 0 h' ∧ Chg (eA 0) h0 h' := by
  obtain ⟨x, e1⟩ := q.takeName (N := N)
  unfold tr3
  rw [e1, Option.bind_some]
  exact tr4_err hN hm q g
theorem tr2_err {C : Cx} {N j w m : Nat} {pl : Int32} {h0 h : pH} (hN : 0 < N) (hm : m < 3100) (q : Er7 C w 0 h) (g : Chg (eA 0) h0 h) : ∃ h', tr2 N (gX7_readWhile N (j + 1)) pl (Int32.ofNat m) h = some h' ∧ Er7 C w 0 h' ∧ Chg (eA 0) h0 h' := by
  obtain ⟨x, e1⟩ := q.takeName (N := N)
  unfold tr2
  rw [e1, Option.bind_some]
  exact tr3_err hN hm q g
theorem tr1_err {C : Cx} {N j w m : Nat} {pl : Int32} {h0 h : pH} (hN : 0 < N) (hm : m < 3100) (q : Er7 C w 0 h) (g : Chg (eA 0) h0 h) : ∃ h', tr1 N (gX7_readWhile N (j + 1)) pl (Int32.ofNat m) h = some h' ∧ Er7 C w 0 h' ∧ Chg (eA 0) h0 h' := by
  obtain ⟨h1, e1, q1, c1⟩ := q.opn (N := N) (k := 40) (by decide)
  unfold tr1
  rw [e1, Option.bind_some]
  exact tr2_err hN hm q1 (g.trans (c1.mono (fun a k z => m7_e z)))
theorem tr0_err {C : Cx} {N j w m : Nat} {pl : Int32} {h0 h : pH} (hN : 0 < N) (hm : m < 3100) (q : Er7 C w 0 h) (g : Chg (eA 0) h0 h) : ∃ h', tr0 N (gX7_readWhile N (j + 1)) pl (Int32.ofNat m) h = some h' ∧ Er7 C w 0 h' ∧ Chg (eA 0) h0 h' := by
  unfold tr0
  rw [q.take (by decide), Option.bind_some]
  exact tr1_err hN hm q g
theorem try_run {C : Cx} {N J j r t c : Nat} {o : Int32} {h : pH} (hN : 3200 < N) (hb : RB7 C N J r) (hJ : J + 1 ≤ j) (hJ1 : 1 ≤ J) (q : At7 C r t 0 c (Int32.ofNat (C.1.P t)) o h) (hk : C.1.K t = 11) : PS7 C (C.1.tryS r (C.1.blk r) t) r c o h (rcV (gX7_readWhile N j) 95 [.ref 46] h) := by
  obtain ⟨i, rfl⟩ : ∃ i, j = i + 1 := ⟨j - 1, by omega⟩
  obtain ⟨i', hi'⟩ : ∃ i', i = i' + 1 := ⟨i - 1, by omega⟩
  have hcap := q.cap
  have hm0 := C.1.mono t (by rw [hk]; decide)
  have hP3 := q.1.2.2.1 t
  rw [k_95]
  have fold : fX7_readTry N (gX7_readWhile N i) 46 h = if isO h 46 7 = true then ((getR h 46 7 3).bind fun t1 => (getI h t1 2 8).bind fun t2 => (fX7_advance N 46 h).bind fun h3 => (getR h3 46 7 3).bind fun t4 => (getI h3 t4 2 9).bind fun t5 => (getR h3 46 7 3).bind fun t6 => (fX2_emit N t6 58 0 0 h3).bind fun q7 => (getR q7.2 46 7 3).bind fun t8 => (putI q7.2 t8 2 9 q7.1).bind fun h9 => (if isO h9 46 7 = true then some () else none).bind fun _ => (rcI (gX7_readWhile N i) 72 [.ref 46] h9).bind fun q11 => (getR q11.2 46 7 3).bind fun t12 => (putI q11.2 t12 2 9 t5).bind fun h13 => tr0 N (gX7_readWhile N i) t2 q7.1 h13) else none := rfl
  rw [fold]
  unfold Tks.tryS
  obtain ⟨h1, e1, q1, c1⟩ := e7_advance (N := N) q (q.lt hk (by decide) (by decide))
  obtain ⟨e2, q2, p2, c2⟩ := q1.silent (N := N) (by omega) 58
  have q3 := q2.setO (Int32.ofNat c)
  have c3 : Chg (fun a k => a = 38 ∧ k = 9) (emH h1 c (Int32.ofNat 58) 0 0) (wr (emH h1 c (Int32.ofNat 58) 0 0) 38 9 (Int32.ofNat c)) := Chg.wr _ _ _ _ ⟨rfl, rfl⟩
  have c13 : Chg (sA c) h (wr (emH h1 c (Int32.ofNat 58) 0 0) 38 9 (Int32.ofNat c)) := ((c1.mono (fun a k z => m7_s z)).trans (c2.mono (fun a k z => by unfold emA at z; unfold sA xA; omega))).trans (c3.mono (fun a k z => Or.inr ⟨z.1, Or.inr z.2⟩))
  have pb := hb i (by omega) (t + 1) (c + 1) _ _ _ q3
  rw [if_pos (o_46 q.sg), R_46_3 q.sg, Option.bind_some, g_38_8 q.sg, Option.bind_some, e1, Option.bind_some, R_46_3 q1.sg, Option.bind_some, g_38_9 q1.sg, Option.bind_some, Option.bind_some, show fX2_emit N 38 58 0 0 h1 = _ from e2, Option.bind_some]
  dsimp only
  rw [R_46_3 q2.sg, Option.bind_some, p_38_9 q2.sg, Option.bind_some, guard46 q3.sg, Option.bind_some, q.2.2.2.2.2.2.2.2.2.2.2.1, q1.2.2.2.2.2.2.2.2.2.2.2.2.1]
  rcases hqa : C.1.blk r (t + 1) with ⟨a, t1⟩ | w
  · obtain ⟨h4, p4, e4, q4, x4, ⟨na, oka⟩, c4, hc4⟩ := pb.1 a t1 hqa
    have hP4 := q4.1.2.2.1 t1
    have q5 := q4.setO o
    have c5 : Chg (fun a k => a = 38 ∧ k = 9) h4 (wr h4 38 9 o) := Chg.wr _ _ _ _ ⟨rfl, rfl⟩
    have c15 : Chg (sA c) h (wr h4 38 9 o) := (c13.trans (c4.mono (fun a k z => sA_le (by omega) z))).trans (c5.mono (fun a k z => Or.inr ⟨z.1, Or.inr z.2⟩))
    rw [e4, Option.bind_some, Pr.bind_ok]
    dsimp only
    rw [R_46_3 q4.sg, Option.bind_some, p_38_9 q4.sg, Option.bind_some]
    unfold tr0
    by_cases k12 : C.1.K t1 ≠ 12
    · rw [if_pos k12]
      obtain ⟨h6, e6, q6, c6⟩ := e7_take_no (N := N) q5 k12
      rw [e6, Option.bind_some, hi']
      obtain ⟨h', a1, a2, a3⟩ := tr1_err (N := N) (j := i') (m := c) (pl := Int32.ofNat (C.1.P t)) (by omega) (by omega) q6 ((c15.mono (fun a k z => sA_e z)).trans (c6.mono (fun a k z => m7_e z)))
      exact PS7.mk_no a1 a2 a3
    rw [if_neg k12]
    have k12 := Decidable.not_not.mp k12
    obtain ⟨h6, e6, q6, c6⟩ := e7_take (N := N) q5 k12 (by decide) (by decide)
    have m1 := C.1.mono t1 (by rw [k12]; decide)
    rw [e6, Option.bind_some]
    have c16 : Chg (sA c) h h6 := c15.trans (c6.mono (fun a k z => m7_s z))
    unfold tr1
    by_cases k40 : C.1.K (t1 + 1) ≠ 40 ∨ r = 0
    · rw [if_pos k40]
      obtain ⟨h7, e7, q7, c7⟩ := e7_open_no (N := N) q6 k40
      rw [e7, Option.bind_some, hi']
      obtain ⟨h', a1, a2, a3⟩ := tr2_err (N := N) (j := i') (m := c) (pl := Int32.ofNat (C.1.P t)) (by omega) (by omega) q7 ((c16.mono (fun a k z => sA_e z)).trans (c7.mono (fun a k z => m7_e z)))
      exact PS7.mk_no a1 a2 a3
    rw [if_neg k40]
    obtain ⟨r', hr'⟩ : ∃ r', r = r' + 1 := ⟨r - 1, by omega⟩
    have k40 : C.1.K (t1 + 1) = 40 := Decidable.not_not.mp (fun z => k40 (Or.inl z))
    have hr := q.2.2.1
    have q6' : At7 C (r' + 1) (t1 + 1) 0 (c + 1 + cb a.1) p4 o h6 := by rw [← hr']; exact q6
    obtain ⟨h7, e7, q7, c7⟩ := e7_open (N := N) q6' k40 (by decide) (by decide)
    have m2 := C.1.mono (t1 + 1) (by rw [k40]; decide)
    have q7 : At7 C r' (t1 + 2) 0 (c + 1 + cb a.1) p4 o h7 := q7
    rw [e7, Option.bind_some]
    unfold tr2
    by_cases k22 : C.1.K (t1 + 2) ≠ 22
    · rw [if_pos k22]
      obtain ⟨v, h8, e8, q8, c8⟩ := e7_takeName_no (N := N) q7 k22
      rw [e8, Option.bind_some, hi']
      obtain ⟨h', a1, a2, a3⟩ := tr3_err (N := N) (j := i') (m := c) (pl := Int32.ofNat (C.1.P t)) (v := v) (by omega) (by omega) q8 ((c16.mono (fun a k z => sA_e z)).trans ((c7.trans c8).mono (fun a k z => m7_e z)))
      exact PS7.mk_no a1 a2 a3
    rw [if_neg k22]
    have k22 := Decidable.not_not.mp k22
    obtain ⟨h8, e8, q8, c8⟩ := e7_takeName (N := N) q7 k22
    have m3 := C.1.mono (t1 + 2) (by rw [k22]; decide)
    have q8 : At7 C r' (t1 + 3) 0 (c + 1 + cb a.1) p4 o h8 := q8
    rw [e8, Option.bind_some]
    unfold tr3
    dsimp only
    by_cases k22b : C.1.K (t1 + 3) ≠ 22
    · rw [if_pos k22b]
      obtain ⟨v, h9, e9, q9, c9⟩ := e7_takeName_no (N := N) q8 k22b
      rw [e9, Option.bind_some, hi']
      obtain ⟨h', a1, a2, a3⟩ := tr4_err (N := N) (j := i') (m := c) (pl := Int32.ofNat (C.1.P t)) (v := C.2.1 (t1 + 2)) (x := v) (by omega) (by omega) q9 ((c16.mono (fun a k z => sA_e z)).trans (((c7.trans c8).trans c9).mono (fun a k z => m7_e z)))
      exact PS7.mk_no a1 a2 a3
    rw [if_neg k22b]
    have k22b := Decidable.not_not.mp k22b
    obtain ⟨h9, e9, q9, c9⟩ := e7_takeName (N := N) q8 k22b
    have m4 := C.1.mono (t1 + 3) (by rw [k22b]; decide)
    have q9 : At7 C r' (t1 + 4) 0 (c + 1 + cb a.1) p4 o h9 := q9
    rw [e9, Option.bind_some]
    unfold tr4
    dsimp only
    by_cases k41 : C.1.K (t1 + 4) ≠ 41
    · rw [if_pos k41]
      obtain ⟨h10, e10, q10, c10⟩ := e7_close_no (N := N) q9 k41
      rw [e10, Option.bind_some, hi']
      obtain ⟨h', a1, a2, a3⟩ := tr5_err (N := N) (j := i') (m := c) (pl := Int32.ofNat (C.1.P t)) (v := C.2.1 (t1 + 2)) (x := C.2.1 (t1 + 3)) (by omega) (by omega) q10 ((c16.mono (fun a k z => sA_e z)).trans ((((c7.trans c8).trans c9).trans c10).mono (fun a k z => m7_e z)))
      exact PS7.mk_no a1 a2 a3
    rw [if_neg k41]
    have k41 := Decidable.not_not.mp k41
    obtain ⟨h10, e10, q10, c10⟩ := e7_close (N := N) q9 (by omega) k41 (by decide) (by decide)
    have m5 := C.1.mono (t1 + 4) (by rw [k41]; decide)
    have q10 : At7 C r (t1 + 5) 0 (c + 1 + cb a.1) p4 o h10 := by rw [hr']; exact q10
    have c6_10 := ((c7.trans c8).trans c9).trans c10
    have q11 := q10.setP (Int32.ofNat (C.1.P t))
    have c11 : Chg (fun a k => a = 38 ∧ k = 8) h10 (wr h10 38 8 (Int32.ofNat (C.1.P t))) := Chg.wr _ _ _ _ ⟨rfl, rfl⟩
    have hP5 := q10.1.2.2.1 (t1 + 5)
    have mm1 : C.1.P (t1 + 1) < C.1.P (t1 + 2) := m2
    have mm2 : C.1.P (t1 + 2) < C.1.P (t1 + 3) := m3
    have mm3 : C.1.P (t1 + 3) < C.1.P (t1 + 4) := m4
    have mm4 : C.1.P (t1 + 4) < C.1.P (t1 + 5) := m5
    obtain ⟨n1, n2, n3⟩ := q11.emit (N := N) 59 (C.2.1 (t1 + 2)) (C.2.1 (t1 + 3)) (by omega)
    have cE := emH_chg (wr h10 38 8 (Int32.ofNat (C.1.P t))) (c + 1 + cb a.1) 59 (C.2.1 (t1 + 2)) (C.2.1 (t1 + 3))
    generalize hE : emH (wr h10 38 8 (Int32.ofNat (C.1.P t))) (c + 1 + cb a.1) 59 (C.2.1 (t1 + 2)) (C.2.1 (t1 + 3)) = hX at n1 n2 n3 cE
    have q13 := n2.wrC (a := 40) (m := c) (x := Int32.ofNat (c + 1 + cb a.1)) ⟨by omega, by omega⟩
    have c13b : Chg (fun y k => y = 40 ∧ k = c) hX (wr hX 40 c (Int32.ofNat (c + 1 + cb a.1))) := Chg.wr _ _ _ _ ⟨rfl, rfl⟩
    have cc : Chg (sA c) h (wr hX 40 c (Int32.ofNat (c + 1 + cb a.1))) := (((c16.trans (c6_10.mono (fun a k z => m7_s z))).trans (c11.mono (fun a k z => Or.inr ⟨z.1, Or.inl z.2⟩))).trans (cE.mono (fun a k z => by unfold emA at z; unfold sA xA; omega))).trans (c13b.mono (fun a k z => by unfold sA xA; omega))
    have pb2 := hb i (by omega) (t1 + 5) (c + 1 + cb a.1 + 1) _ o _ q13
    rw [e10, Option.bind_some]
    unfold tr5
    rw [R_46_3 q10.sg, Option.bind_some, p_38_8 q10.sg, Option.bind_some, R_46_3 q11.sg, Option.bind_some, n1, Option.bind_some]
    dsimp only
    rw [R_46_3 n2.sg, Option.bind_some, R_38_1 n2.sg, Option.bind_some, T_40 n2.sg (by omega), Option.bind_some, guard46 q13.sg, Option.bind_some]
    rcases hqb : C.1.blk r (t1 + 5) with ⟨b, t2⟩ | w
    · obtain ⟨h14, p14, e14, q14, x14, ⟨nb, okb⟩, c14, hc14⟩ := pb2.1 b t2 hqb
      have hP14 := q14.1.2.2.1 t2
      obtain ⟨e15, q15, p15, c15'⟩ := q14.silent (N := N) (by omega) 60
      have s15 := q15.sg
      have q16 := q15.wrC (a := 42) (m := c + 1 + cb a.1) (x := Int32.ofNat (c + 1 + cb a.1 + 1 + cb b.1)) ⟨by omega, by omega⟩
      have c16' : Chg (fun y k => y = 42 ∧ k = c + 1 + cb a.1) (emH h14 (c + 1 + cb a.1 + 1 + cb b.1) (Int32.ofNat 60) 0 0) (wr (emH h14 (c + 1 + cb a.1 + 1 + cb b.1) (Int32.ofNat 60) 0 0) 42 (c + 1 + cb a.1) (Int32.ofNat (c + 1 + cb a.1 + 1 + cb b.1))) := Chg.wr _ _ _ _ ⟨rfl, rfl⟩
      rw [e14, Option.bind_some, Pr.bind_ok]
      dsimp only
      rw [R_46_3 q14.sg, Option.bind_some, R_38_3 q14.sg, Option.bind_some, Option.bind_some, show fX2_emit N 38 60 0 0 h14 = _ from e15, Option.bind_some]
      dsimp only
      rw [T_42 s15 (by omega), Option.bind_some]
      -- TRY: up to the catch's number
      have y1 := (((((PcAt.chg p2 c3 (fun y y1 y2 => by omega)).chg c4 (fun y y1 y2 => by unfold sA xA; omega)).chg c5 (fun y y1 y2 => by omega)).chg c6 (fun y y1 y2 => by unfold m7; omega)).chg c6_10 (fun y y1 y2 => by unfold m7; omega)).chg c11 (fun y y1 y2 => by omega)
      have y2 := PcAt.ta (x := Int32.ofNat (c + 1 + cb a.1)) n2.sg (y1.chg cE (fun y y1 y2 => by unfold emA; omega))
      have y3 := ((y2.chg c14 (fun y y1 y2 => by unfold sA xA; omega)).chg c15' (fun y y1 y2 => by unfold emA; omega)).chg c16' (fun y y1 y2 => by omega)
      have y4 := PcAt.tg (x := Int32.ofNat (c + 1 + cb a.1 + 1 + cb b.1)) s15 (((n3.chg c13b (fun y y1 y2 => by omega)).chg c14 (fun y y1 y2 => by unfold sA xA; omega)).chg c15' (fun y y1 y2 => by unfold emA; omega))
      have y5 := p15.chg c16' (fun y y1 y2 => by omega)
      refine PS7.mk_ok (x := bTry (C.1.P t) a.1 (t1 + 2) (t1 + 3) b.1 nl) rfl (by rw [cb_try, cb_nl, show c + (1 + cb a.1 + 1 + cb b.1 + 1 + 0) = c + 1 + cb a.1 + 1 + cb b.1 + 1 by omega]; exact q16) ?_ ⟨na + nb, Or.inr (Or.inr (Or.inr (Or.inr (Or.inr (Or.inr (Or.inr (Or.inr ⟨_, _, _, _, _, rfl, oka.le (by omega), okb.le (by omega)⟩)))))))⟩ (((cc.trans (c14.mono (fun a k z => sA_le (by omega) z))).trans (c15'.mono (fun a k z => by unfold emA at z; unfold sA xA; omega))).trans (c16'.mono (fun a k z => by unfold sA xA; omega)))
      rw [CB_try]
      refine ⟨y3, CB.same oka x4 (fun y i y1 y2 i1 i2 => ?_), y4, CB.same okb x14 (fun y i y1 y2 i1 i2 => by rw [c16'.2.2.1 _ _ (by omega), c15'.2.2.1 _ _ (by unfold emA; omega)]), ⟨_, y5⟩, trivial⟩
      rw [c16'.2.2.1 _ _ (by omega), c15'.2.2.1 _ _ (by unfold emA; omega), c14.2.2.1 _ _ (by unfold sA xA; omega), c13b.2.2.1 _ _ (by omega), cE.2.2.1 _ _ (by unfold emA; omega), c11.2.2.1 _ _ (by omega), c6_10.2.2.1 _ _ (by unfold m7; omega), c6.2.2.1 _ _ (by unfold m7; omega), c5.2.2.1 _ _ (by omega)]
    · obtain ⟨v, h14, e14, q14, c14⟩ := pb2.2 w hqb
      obtain ⟨m, h15, m1, e15, q15, c15'⟩ := q14.emit3 (N := N) (k := 60) (a := 0) (b := 0) ((cc.mono (fun a k z => sA_e z)).trans c14)
      obtain ⟨q16, c16'⟩ := q15.wrC (a := 42) (m := c + 1 + cb a.1) (x := Int32.ofNat m) ⟨by omega, by omega⟩
      rw [e14, Option.bind_some, Pr.bind_no]
      dsimp only
      rw [R_46_3 q14.sg, Option.bind_some, R_38_3 q14.sg, Option.bind_some, Option.bind_some, e15, Option.bind_some]
      dsimp only
      rw [T_42 q15.sg (by omega), Option.bind_some]
      exact PS7.mk_no rfl q16 (c15'.trans c16')
  · obtain ⟨v, h4, e4, q4, c4⟩ := pb.2 w hqa
    obtain ⟨q5, c5⟩ := q4.set8 (k := 9) (x := o) (Or.inr rfl)
    rw [e4, Option.bind_some, Pr.bind_no]
    dsimp only
    rw [R_46_3 q4.sg, Option.bind_some, p_38_9 q4.sg, Option.bind_some, hi']
    obtain ⟨h', a1, a2, a3⟩ := tr0_err (N := N) (j := i') (m := c) (pl := Int32.ofNat (C.1.P t)) (by omega) (by omega) q5 (((c13.mono (fun a k z => sA_e z)).trans c4).trans c5)
    exact PS7.mk_no a1 a2 a3
