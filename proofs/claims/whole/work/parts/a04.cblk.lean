/-! ===== THE CLASS' READER: if, while, try, blocks ===== -/
theorem At7.wrC {C : Cx} {r t W c a m : Nat} {p o x : Int32} {h : pH} (q : At7 C r t W c p o h) (ha : 39 ≤ a ∧ a ≤ 45) : At7 C r t W c p o (wr h a m x) := q.of (A := fun y k => y = a ∧ k = m) (Chg.wr _ _ _ _ ⟨rfl, rfl⟩) (fun y k hy => by omega) (fun k hk => by omega) (fun k hk => by omega) (fun y i y1 y2 y3 => by omega)
theorem Er7.wrC {C : Cx} {w W a m : Nat} {x : Int32} {h : pH} (q : Er7 C w W h) (ha : 39 ≤ a ∧ a ≤ 45) : Er7 C w W (wr h a m x) ∧ Chg (eA W) h (wr h a m x) := ⟨q.of (A := fun y k => y = a ∧ k = m) (Chg.wr _ _ _ _ ⟨rfl, rfl⟩) (fun y k hy => by omega) (fun k hk => by omega) (by omega) (fun y i y1 y2 y3 => by omega), Chg.wr _ _ _ _ (by unfold eA; omega)⟩
theorem At7.setP {C : Cx} {r t W c : Nat} {p o : Int32} {h : pH} (q : At7 C r t W c p o h) (x : Int32) : At7 C r t W c x o (wr h 38 8 x) := by
  obtain ⟨q1, q2, q3, q4, q5, q6, q7, q8, q9, q10, q11, q12, q13, q14⟩ := q
  have g : Chg (fun a k => a = 38 ∧ k = 8) h (wr h 38 8 x) := Chg.wr _ _ _ _ ⟨rfl, rfl⟩
  refine ⟨q1.chg g (fun a k ha => by omega), q2, q3, q4, q5, ?_, ?_, ?_, ?_, ?_, ?_, w_38_8 q1.1 _, ?_, fun i hi => (q14 i hi).chg g (fun a a1 a2 => by omega)⟩
  · rw [g.2.2.1 _ _ (by omega)]; exact q6
  · rw [g.2.2.1 _ _ (by omega)]; exact q7
  · rw [g.2.2.1 _ _ (by omega)]; exact q8
  · rw [g.2.2.1 _ _ (by omega)]; exact q9
  · rw [g.2.2.1 _ _ (by omega)]; exact q10
  · rw [g.2.2.1 _ _ (by omega)]; exact q11
  · rw [g.2.2.1 _ _ (by omega)]; exact q13
theorem At7.setO {C : Cx} {r t W c : Nat} {p o : Int32} {h : pH} (q : At7 C r t W c p o h) (x : Int32) : At7 C r t W c p x (wr h 38 9 x) := by
  obtain ⟨q1, q2, q3, q4, q5, q6, q7, q8, q9, q10, q11, q12, q13, q14⟩ := q
  have g : Chg (fun a k => a = 38 ∧ k = 9) h (wr h 38 9 x) := Chg.wr _ _ _ _ ⟨rfl, rfl⟩
  refine ⟨q1.chg g (fun a k ha => by omega), q2, q3, q4, q5, ?_, ?_, ?_, ?_, ?_, ?_, ?_, w_38_9 q1.1 _, fun i hi => (q14 i hi).chg g (fun a a1 a2 => by omega)⟩
  · rw [g.2.2.1 _ _ (by omega)]; exact q6
  · rw [g.2.2.1 _ _ (by omega)]; exact q7
  · rw [g.2.2.1 _ _ (by omega)]; exact q8
  · rw [g.2.2.1 _ _ (by omega)]; exact q9
  · rw [g.2.2.1 _ _ (by omega)]; exact q10
  · rw [g.2.2.1 _ _ (by omega)]; exact q11
  · rw [g.2.2.1 _ _ (by omega)]; exact q12
theorem Er7.set8 {C : Cx} {w W k : Nat} {x : Int32} {h : pH} (q : Er7 C w W h) (hk : k = 8 ∨ k = 9) : Er7 C w W (wr h 38 k x) ∧ Chg (eA W) h (wr h 38 k x) := ⟨q.of (A := fun y i => y = 38 ∧ i = k) (Chg.wr _ _ _ _ ⟨rfl, rfl⟩) (fun y k hy => by omega) (fun k hk => by omega) (by omega) (fun y i y1 y2 y3 => by omega), Chg.wr _ _ _ _ (by unfold eA; omega)⟩
theorem chg_s8 {h : pH} {c k : Nat} {x : Int32} (hk : k = 8 ∨ k = 9) : Chg (sA c) h (wr h 38 k x) := Chg.wr _ _ _ _ (Or.inr ⟨rfl, hk⟩)
/-- what a reading of a block comes to -/
def PB7 (C : Cx) (q : Pr (Tr × Nat)) (r c : Nat) (o : Int32) (h : pH) (res : Option (Int32 × pH)) : Prop := (∀ x t', q = ok x t' → ∃ h' p', res = some (Int32.ofNat x.2, h') ∧ At7 C r t' 0 (c + cb x.1) p' o h' ∧ CB (QC5 C h') x.1 c o ∧ (∃ n, OkB n x.1) ∧ Chg (sA c) h h' ∧ c + cb x.1 + 1 ≤ C.1.P t') ∧ (∀ w, q = no w → ∃ v h', res = some (v, h') ∧ Er7 C w 0 h' ∧ Chg (eA 0) h h')
/-- blocks with r levels -/
def RB7 (C : Cx) (N J r : Nat) : Prop := ∀ j, J ≤ j → ∀ t c p o h, At7 C r t 0 c p o h → PB7 C (C.1.blk r t) r c o h (rcI (gX7_readWhile N j) 72 [.ref 46] h)
theorem CB.same {C : Cx} {h h' : pH} {n : Nat} {e : Tr} {c : Nat} {o : Int32} (hk : OkB n e) (q : CB (QC5 C h) e c o) (g : ∀ y i, 39 ≤ y → y ≤ 45 → i < c + cb e → c ≤ i → rd h' y i = rd h y i) : CB (QC5 C h') e c o := CB.mono n e c o hk (fun p o i k v w t i1 i2 z => PcAt.same z (fun y y1 y2 => g y i y1 y2 i2 i1)) q
theorem CE.same2 {C : Cx} {p o : Int32} {h h' : pH} {e : Tr} {c : Nat} (q : CE (QC C p o h) e c) (g : ∀ y i, 39 ≤ y → y ≤ 45 → i < c + cl e → c ≤ i → rd h' y i = rd h y i) : CE (QC C p o h') e c := CE.mono e c (fun i k v w t i1 i2 z => PcAt.same z (fun y y1 y2 => g y i y1 y2 i2 i1)) q
/-- a new piece with its target set later -/
theorem PcAt.tg {h : pH} {i : Nat} {k a b tg p o x : Int32} (hs : Sg h) (q : PcAt h i k a b tg p o) : PcAt (wr h 42 i x) i k a b x p o := by
  obtain ⟨q1, q2, q3, q4, q5, q6⟩ := q
  refine ⟨?_, ?_, ?_, W_42 hs _ _, ?_, ?_⟩
  · rw [rd_wr_ne _ _ (by omega)]; exact q1
  · rw [rd_wr_ne _ _ (by omega)]; exact q2
  · rw [rd_wr_ne _ _ (by omega)]; exact q3
  · rw [rd_wr_ne _ _ (by omega)]; exact q5
  · rw [rd_wr_ne _ _ (by omega)]; exact q6
theorem PcAt.ta {h : pH} {i : Nat} {k a b tg p o x : Int32} (hs : Sg h) (q : PcAt h i k a b tg p o) : PcAt (wr h 40 i x) i k x b tg p o := by
  obtain ⟨q1, q2, q3, q4, q5, q6⟩ := q
  refine ⟨?_, W_40 hs _ _, ?_, ?_, ?_, ?_⟩
  · rw [rd_wr_ne _ _ (by omega)]; exact q1
  · rw [rd_wr_ne _ _ (by omega)]; exact q3
  · rw [rd_wr_ne _ _ (by omega)]; exact q4
  · rw [rd_wr_ne _ _ (by omega)]; exact q5
  · rw [rd_wr_ne _ _ (by omega)]; exact q6
/-- the end of an if where all has gone wrong -/
theorem if_err {C : Cx} {N j w m : Nat} {h0 h : pH} (hN : 0 < N) (hm : m < 3100) (q : Er7 C w 0 h) (g : Chg (eA 0) h0 h) : ∃ h', ((getI h 46 7 9).bind fun t8 => if t8 = 7 then (fX7_advance N 46 h).bind fun h10 => (getR h10 46 7 3).bind fun t11 => (fX2_emit N t11 54 0 0 h10).bind fun q12 => (getR q12.2 46 7 3).bind fun t13 => (getR q12.2 t13 2 3).bind fun t14 => (getR q12.2 46 7 3).bind fun t15 => (getI q12.2 t15 2 7).bind fun t16 => (stI q12.2 t14 (Int32.ofNat m) t16).bind fun h17 => (if isO h17 46 7 = true then some () else none).bind fun _ => (rcI (gX7_readWhile N j) 72 [.ref 46] h17).bind fun q19 => (getR q19.2 46 7 3).bind fun t20 => (getR q19.2 t20 2 3).bind fun t21 => (getR q19.2 46 7 3).bind fun t22 => (fX2_emit N t22 56 0 0 q19.2).bind fun q23 => (stI q23.2 t21 q12.1 q23.1).bind fun h24 => some h24 else (getR h 46 7 3).bind fun t25 => (getR h t25 2 3).bind fun t26 => (getR h 46 7 3).bind fun t27 => (fX2_emit N t27 55 0 0 h).bind fun q28 => (stI q28.2 t26 (Int32.ofNat m) q28.1).bind fun h29 => some h29) = some h' ∧ Er7 C w 0 h' ∧ Chg (eA 0) h0 h' := by
  obtain ⟨i, h1, i1, e1, q1, c1⟩ := q.emit3 (N := N) (k := 55) (a := 0) (b := 0) g
  obtain ⟨q2, c2⟩ := q1.wrC (a := 42) (m := m) (x := Int32.ofNat i) ⟨by omega, by omega⟩
  refine ⟨_, ?_, q2, c1.trans c2⟩
  rw [g_46_9 q.sg, Option.bind_some, q.kind, if_neg (by decide), R_46_3 q.sg, Option.bind_some, R_38_3 q.sg, Option.bind_some, Option.bind_some, e1, Option.bind_some]
  dsimp only
  rw [T_42 q1.sg hm, Option.bind_some]
/-- block and END_IF, END_ELSE, LOOP: a piece behind -/
theorem At7.silent {C : Cx} {N r t c : Nat} {p o : Int32} {h : pH} (q : At7 C r t 0 c p o h) (hc : c + 1 ≤ C.1.P t) (k : Nat) : fX2_emit N 38 (Int32.ofNat k) 0 0 h = some (Int32.ofNat c, emH h c (Int32.ofNat k) 0 0) ∧ At7 C r t 0 (c + 1) p o (emH h c (Int32.ofNat k) 0 0) ∧ PcAt (emH h c (Int32.ofNat k) 0 0) c (Int32.ofNat k) 0 0 0 p o ∧ Chg (emA c) h (emH h c (Int32.ofNat k) 0 0) := by
  obtain ⟨m1, m2, m3⟩ := q.emit (N := N) (Int32.ofNat k) 0 0 hc
  exact ⟨m1, m2, m3, emH_chg _ _ _ _ _⟩
theorem if_run {C : Cx} {N J j r t c : Nat} {o : Int32} {h : pH} (hN : 3200 < N) (hb : RB7 C N J r) (hJ : J + 1 ≤ j) (hJ1 : 1 ≤ J) (q : At7 C r t 0 c (Int32.ofNat (C.1.P t)) o h) (hk : C.1.K t = 6) : PS7 C (C.1.ifS r (C.1.blk r) t) r c o h (rcV (gX7_readWhile N j) 74 [.ref 46] h) := by
  obtain ⟨i, rfl⟩ : ∃ i, j = i + 1 := ⟨j - 1, by omega⟩
  obtain ⟨i', hi'⟩ : ∃ i', i = i' + 1 := ⟨i - 1, by omega⟩
  have hcap := q.cap
  have hm0 := C.1.mono t (by rw [hk]; decide)
  have hP3 := q.1.2.2.1 t
  rw [k_74]
  unfold fX7_readIf Tks.ifS
  obtain ⟨h1, e1, q1, c1⟩ := e7_advance (N := N) q (q.lt hk (by decide) (by decide))
  have pq := br7 hN q1
  rw [if_pos (o_46 q.sg), e1, Option.bind_some, guard46 q1.sg, Option.bind_some]
  rcases hq : C.1.brk r (C.1.expr (r - 1)) 40 41 (t + 1) with ⟨x, t1⟩ | w
  · obtain ⟨h2, e2, q2, x2, c2⟩ := pq.1 x t1 hq
    have hbc := Tks.brk_cap (Tks.expr_cap C.1 (r - 1)) (by decide) (by decide) hq
    have hcl := cl_le_wt x
    have hP1 := q2.1.2.2.1 t1
    obtain ⟨e3, q3, p3, c3⟩ := q2.silent (N := N) (by omega) 38
    have c13 : Chg (sA c) h (emH h2 (c + cl x) (Int32.ofNat 38) 0 0) := ((c1.mono (fun a k z => m7_s z)).trans (c2.mono (fun a k z => xA_s z))).trans (c3.mono (fun a k z => by unfold emA at z; unfold sA xA; omega))
    have pb := hb i (by omega) t1 (c + cl x + 1) _ o _ q3
    rw [e2, Option.bind_some, R_46_3 q2.sg, Option.bind_some, show fX2_emit N 38 38 0 0 h2 = _ from e3, Option.bind_some, Pr.bind_ok]
    dsimp only
    rw [guard46 q3.sg, Option.bind_some]
    rcases hqa : C.1.blk r t1 with ⟨a, t2⟩ | w
    · obtain ⟨h4, p4, e4, q4, x4, ⟨na, oka⟩, c4, hc4⟩ := pb.1 a t2 hqa
      have hP2 := q4.1.2.2.1 t2
      rw [e4, Option.bind_some, Pr.bind_ok]
      dsimp only
      rw [g_46_9 q4.sg, Option.bind_some, q4.kind]
      -- what stands ahead of the block
      have hx4 : ∀ h', (∀ y i, 39 ≤ y → y ≤ 45 → i < c + cl x + 1 + cb a.1 → i ≠ c + cl x → rd h' y i = rd h4 y i) → CE (QC C (Int32.ofNat (C.1.P t)) o h') x c ∧ CB (QC5 C h') a.1 (c + cl x + 1) o := by
        intro h' hh
        refine ⟨CE.same2 x2 (fun y i y1 y2 i1 i2 => ?_), CB.same oka x4 (fun y i y1 y2 i1 i2 => hh y i y1 y2 i1 (by omega))⟩
        rw [hh y i y1 y2 (by omega) (by omega), c4.2.2.1 _ _ (by unfold sA xA; omega), c3.2.2.1 _ _ (by unfold emA; omega)]
      have p34 : PcAt h4 (c + cl x) (Int32.ofNat 38) 0 0 0 (Int32.ofNat (C.1.P t)) o := PcAt.chg p3 c4 (fun y y1 y2 => by unfold sA xA; omega)
      by_cases h7 : C.1.K t2 = 7
      · rw [if_pos h7, if_pos h7]
        have hm2 := C.1.mono t2 (by rw [h7]; decide)
        obtain ⟨h5, e5, q5, c5⟩ := e7_advance (N := N) q4 (q4.lt h7 (by decide) (by decide))
        obtain ⟨e6, q6, p6, c6⟩ := q5.silent (N := N) (by omega) 54
        have s6 := q6.sg
        have q7 := q6.wrC (a := 42) (m := c + cl x) (x := Int32.ofNat (c + cl x + 1 + cb a.1 + 1)) ⟨by omega, by omega⟩
        have c7 : Chg (fun y k => y = 42 ∧ k = c + cl x) (emH h5 (c + cl x + 1 + cb a.1) (Int32.ofNat 54) 0 0) (wr (emH h5 (c + cl x + 1 + cb a.1) (Int32.ofNat 54) 0 0) 42 (c + cl x) (Int32.ofNat (c + cl x + 1 + cb a.1 + 1))) := Chg.wr _ _ _ _ ⟨rfl, rfl⟩
        have pb2 := hb i (by omega) (t2 + 1) (c + cl x + 1 + cb a.1 + 1) _ o _ q7
        rw [e5, Option.bind_some, R_46_3 q5.sg, Option.bind_some, show fX2_emit N 38 54 0 0 h5 = _ from e6, Option.bind_some]
        dsimp only
        rw [R_46_3 s6, Option.bind_some, R_38_3 s6, Option.bind_some, Option.bind_some, g_38_7 s6, Option.bind_some, q6.2.2.2.2.2.2.2.2.2.2.1, T_42 s6 (by omega), Option.bind_some, guard46 q7.sg, Option.bind_some]
        have p67 : PcAt (wr (emH h5 (c + cl x + 1 + cb a.1) (Int32.ofNat 54) 0 0) 42 (c + cl x) (Int32.ofNat (c + cl x + 1 + cb a.1 + 1))) (c + cl x) (Int32.ofNat 38) 0 0 (Int32.ofNat (c + cl x + 1 + cb a.1 + 1)) (Int32.ofNat (C.1.P t)) o := PcAt.tg s6 ((PcAt.chg p34 c5 (fun y y1 y2 => by unfold m7; omega)).chg c6 (fun y y1 y2 => by unfold emA; omega))
        have p66 := PcAt.chg p6 c7 (fun y y1 y2 => by omega)
        have c47 : Chg (sA c) h (wr (emH h5 (c + cl x + 1 + cb a.1) (Int32.ofNat 54) 0 0) 42 (c + cl x) (Int32.ofNat (c + cl x + 1 + cb a.1 + 1))) := (((c13.trans (c4.mono (fun a k z => sA_le (by omega) z))).trans (c5.mono (fun a k z => m7_s z))).trans (c6.mono (fun a k z => by unfold emA at z; unfold sA xA; omega))).trans (c7.mono (fun a k z => by unfold sA xA; omega))
        rcases hqb : C.1.blk r (t2 + 1) with ⟨b, t3⟩ | w
        · obtain ⟨h8, p8, e8, q8, x8, ⟨nb, okb⟩, c8, hc8⟩ := pb2.1 b t3 hqb
          have hP8 := q8.1.2.2.1 t3
          obtain ⟨e9, q9, p9, c9⟩ := q8.silent (N := N) (by omega) 56
          have s9 := q9.sg
          have q10 := q9.wrC (a := 42) (m := c + cl x + 1 + cb a.1) (x := Int32.ofNat (c + cl x + 1 + cb a.1 + 1 + cb b.1)) ⟨by omega, by omega⟩
          have c10 : Chg (fun y k => y = 42 ∧ k = c + cl x + 1 + cb a.1) (emH h8 (c + cl x + 1 + cb a.1 + 1 + cb b.1) (Int32.ofNat 56) 0 0) (wr (emH h8 (c + cl x + 1 + cb a.1 + 1 + cb b.1) (Int32.ofNat 56) 0 0) 42 (c + cl x + 1 + cb a.1) (Int32.ofNat (c + cl x + 1 + cb a.1 + 1 + cb b.1))) := Chg.wr _ _ _ _ ⟨rfl, rfl⟩
          rw [e8, Option.bind_some, Pr.bind_ok]
          dsimp only
          rw [R_46_3 q8.sg, Option.bind_some, R_38_3 q8.sg, Option.bind_some, Option.bind_some, show fX2_emit N 38 56 0 0 h8 = _ from e9, Option.bind_some]
          dsimp only
          rw [T_42 s9 (by omega), Option.bind_some]
          have p66' := PcAt.tg (x := Int32.ofNat (c + cl x + 1 + cb a.1 + 1 + cb b.1)) s9 ((PcAt.chg p66 c8 (fun y y1 y2 => by unfold sA xA; omega)).chg c9 (fun y y1 y2 => by unfold emA; omega))
          have p67' := ((PcAt.chg p67 c8 (fun y y1 y2 => by unfold sA xA; omega)).chg c9 (fun y y1 y2 => by unfold emA; omega)).chg c10 (fun y y1 y2 => by omega)
          have p9' := PcAt.chg p9 c10 (fun y y1 y2 => by omega)
          obtain ⟨z1, z2⟩ := hx4 (wr (emH h8 (c + cl x + 1 + cb a.1 + 1 + cb b.1) (Int32.ofNat 56) 0 0) 42 (c + cl x + 1 + cb a.1) (Int32.ofNat (c + cl x + 1 + cb a.1 + 1 + cb b.1))) (fun y i y1 y2 i1 i2 => by
            rw [c10.2.2.1 _ _ (by omega), c9.2.2.1 _ _ (by unfold emA; omega), c8.2.2.1 _ _ (by unfold sA xA; omega), c7.2.2.1 _ _ (by omega), c6.2.2.1 _ _ (by unfold emA; omega), c5.2.2.1 _ _ (by unfold m7; omega)])
          refine PS7.mk_ok (x := bIte (C.1.P t) x a.1 1 b.1 nl) rfl (by rw [cb_ite, if_pos rfl, cb_nl, show c + (cl x + 1 + cb a.1 + 1 + (cb b.1 + 1) + 0) = c + cl x + 1 + cb a.1 + 1 + cb b.1 + 1 by omega]; exact q10) ?_ ⟨na + nb, Or.inr (Or.inr (Or.inr (Or.inr (Or.inr (Or.inr (Or.inl ⟨_, _, _, _, _, rfl, Or.inl rfl, oka.le (by omega), okb.le (by omega)⟩))))))⟩ (((c47.trans (c8.mono (fun a k z => sA_le (by omega) z))).trans (c9.mono (fun a k z => by unfold emA at z; unfold sA xA; omega))).trans (c10.mono (fun a k z => by unfold sA xA; omega)))
          rw [CB_ite, if_pos rfl]
          exact ⟨z1, z2, ⟨p67', ⟨_, p66'⟩, CB.same okb x8 (fun y i y1 y2 i1 i2 => by rw [c10.2.2.1 _ _ (by omega), c9.2.2.1 _ _ (by unfold emA; omega)]), ⟨_, p9'⟩⟩, trivial⟩
        · obtain ⟨v, h8, e8, q8, c8⟩ := pb2.2 w hqb
          obtain ⟨m, h9, m1, e9, q9, c9⟩ := q8.emit3 (N := N) (k := 56) (a := 0) (b := 0) ((c47.mono (fun a k z => sA_e z)).trans c8)
          obtain ⟨q10, c10⟩ := q9.wrC (a := 42) (m := c + cl x + 1 + cb a.1) (x := Int32.ofNat m) ⟨by omega, by omega⟩
          rw [e8, Option.bind_some, Pr.bind_no]
          dsimp only
          rw [R_46_3 q8.sg, Option.bind_some, R_38_3 q8.sg, Option.bind_some, Option.bind_some, e9, Option.bind_some]
          dsimp only
          rw [T_42 q9.sg (by omega), Option.bind_some]
          exact PS7.mk_no rfl q10 (c9.trans c10)
      · rw [if_neg h7, if_neg h7]
        obtain ⟨e6, q6, p6, c6⟩ := q4.silent (N := N) (by omega) 55
        have s6 := q6.sg
        have q7 := q6.wrC (a := 42) (m := c + cl x) (x := Int32.ofNat (c + cl x + 1 + cb a.1)) ⟨by omega, by omega⟩
        have c7 : Chg (fun y k => y = 42 ∧ k = c + cl x) (emH h4 (c + cl x + 1 + cb a.1) (Int32.ofNat 55) 0 0) (wr (emH h4 (c + cl x + 1 + cb a.1) (Int32.ofNat 55) 0 0) 42 (c + cl x) (Int32.ofNat (c + cl x + 1 + cb a.1))) := Chg.wr _ _ _ _ ⟨rfl, rfl⟩
        rw [R_46_3 q4.sg, Option.bind_some, R_38_3 q4.sg, Option.bind_some, Option.bind_some, show fX2_emit N 38 55 0 0 h4 = _ from e6, Option.bind_some]
        dsimp only
        rw [T_42 s6 (by omega), Option.bind_some]
        have p67 := PcAt.tg (x := Int32.ofNat (c + cl x + 1 + cb a.1)) s6 (PcAt.chg p34 c6 (fun y y1 y2 => by unfold emA; omega))
        have p66 := PcAt.chg p6 c7 (fun y y1 y2 => by omega)
        obtain ⟨z1, z2⟩ := hx4 (wr (emH h4 (c + cl x + 1 + cb a.1) (Int32.ofNat 55) 0 0) 42 (c + cl x) (Int32.ofNat (c + cl x + 1 + cb a.1))) (fun y i y1 y2 i1 i2 => by
          rw [c7.2.2.1 _ _ (by omega), c6.2.2.1 _ _ (by unfold emA; omega)])
        refine PS7.mk_ok (x := bIte (C.1.P t) x a.1 0 nl nl) rfl (by rw [cb_ite, if_neg (by decide), cb_nl, show c + (cl x + 1 + cb a.1 + 1 + 0 + 0) = c + cl x + 1 + cb a.1 + 1 by omega]; exact q7) ?_ ⟨na, Or.inr (Or.inr (Or.inr (Or.inr (Or.inr (Or.inr (Or.inl ⟨_, _, _, _, _, rfl, Or.inr ⟨rfl, rfl⟩, oka, OkB.nl _⟩))))))⟩ (((c13.trans (c4.mono (fun a k z => sA_le (by omega) z))).trans (c6.mono (fun a k z => by unfold emA at z; unfold sA xA; omega))).trans (c7.mono (fun a k z => by unfold sA xA; omega)))
        rw [CB_ite, if_neg (by decide)]
        exact ⟨z1, z2, ⟨p67, ⟨_, p66⟩⟩, trivial⟩
    · obtain ⟨v, h4, e4, q4, c4⟩ := pb.2 w hqa
      rw [e4, Option.bind_some, Pr.bind_no]
      obtain ⟨h5, e5, q5, c5⟩ := if_err (N := N) (j := i) (m := c + cl x) (by omega) (by omega) q4 ((c13.mono (fun a k z => sA_e z)).trans c4)
      exact PS7.mk_no e5 q5 c5
  · obtain ⟨h2, e2, q2, c2⟩ := pq.2 w hq
    obtain ⟨m, h3, m1, e3, q3, c3⟩ := q2.emit3 (N := N) (k := 38) (a := 0) (b := 0) ((c1.mono (fun a k z => m7_e z)).trans c2)
    obtain ⟨v, h4, e4, q4, c4⟩ := Er7.block (N := N) (j := i') (by omega) q3
    rw [← hi'] at e4
    rw [e2, Option.bind_some, R_46_3 q2.sg, Option.bind_some, e3, Option.bind_some, Pr.bind_no]
    dsimp only
    rw [guard46 q3.sg, Option.bind_some, e4, Option.bind_some]
    obtain ⟨h5, e5, q5, c5⟩ := if_err (N := N) (j := i) (m := m) (by omega) m1 q4 (c3.trans c4)
    exact PS7.mk_no e5 q5 c5
