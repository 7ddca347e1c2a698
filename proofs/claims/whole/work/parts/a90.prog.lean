/-! ===== program(), the class' and the reference's ===== -/
/-- what program() answers, and the program that is then there -/
noncomputable def prO (T : Txt) : Int32 × Option (List Cl) := match (tkS T).prog with
  | .inr w => (-1 - Int32.ofNat w, none)
  | .inl (cs, _) => match Pgm.bad1 (tkW T, cs) T.2 with
    | some p => (-10000 - Int32.ofNat p, none)
    | none => match Pgm.badT (tkW T, cs) with
      | some p => (-10000 - Int32.ofNat p, none)
      | none => (Int32.ofNat cs.length, some cs)
def clsA (a k : Nat) : Prop := (a = 6 ∧ (k = 8 ∨ k = 10)) ∨ (8 ≤ a ∧ a ≤ 125) ∨ (a = 128 ∧ 6 ≤ k)
theorem pgA.cls (a k : Nat) (h : pgA a k) : clsA a k := by
  unfold pgA fgA wdA eM eA at h
  unfold clsA
  omega
theorem tyC.cls (a k : Nat) (h : tyC a k) : clsA a k := by
  unfold tyC at h
  unfold clsA
  omega
theorem Pgm.bad1_lt {P : Pgm} {L p : Nat} (h1 : ∀ c, 5 ≤ c → c < P.n → P.pl c ≤ 3000) (h2 : ∀ m, P.mpl m ≤ 3000) (hL : L ≤ 3000) (h : P.bad1 L = some p) : p ≤ 3000 := by
  unfold Pgm.bad1 at h
  rcases hA : P.badA with _ | x
  · rw [hA] at h
    rcases hB : P.badB with _ | x
    · rw [hB] at h
      have h : (if P.hm = true then none else some L) = some p := h
      split at h
      · cases h
      · obtain rfl := Option.some.inj h; exact hL
    · rw [hB] at h
      obtain rfl : x = p := Option.some.inj h
      exact Pgm.badBF_lt h2 hB
  · rw [hA] at h
    obtain rfl : x = p := Option.some.inj h
    exact Pgm.badA_lt h1 hA
theorem Pgm.bad1_none {P : Pgm} {L : Nat} (h : P.bad1 L = none) : P.badA = none ∧ P.badB = none ∧ P.hm = true := by
  unfold Pgm.bad1 at h
  rcases hA : P.badA with _ | x
  · rw [hA] at h
    rcases hB : P.badB with _ | x
    · rw [hB] at h
      have h : (if P.hm = true then none else some L) = none := h
      split at h
      · exact ⟨rfl, rfl, by assumption⟩
      · cases h
    · rw [hB] at h; cases h
  · rw [hA] at h; cases h
theorem Pgm.badT_lt {S : Tks} {P : Pgm} (gp : GP S P) (gr : GR P) : ∀ {d c p : Nat}, P.tyCs d c = some p → p ≤ 3000 := by
  have ms : ∀ (d c m p : Nat), P.tyMs c d m = some p → p ≤ 3000 := by
    intro d
    induction d with
    | zero => intro c m p h; cases h
    | succ d ih =>
      intro c m p h
      unfold Pgm.tyMs at h
      rcases hM : P.tyM c m with _ | x
      · rw [hM] at h; exact ih c (m + 1) p h
      · rw [hM] at h
        obtain rfl : x = p := Option.some.inj h
        unfold Pgm.tyM at hM
        rcases hb : P.ms[m]? with _ | b
        · rw [hb] at hM; cases hM
        · rw [hb] at hM
          have hM : (if b.1 = true then P.chkM c b else none) = some x := hM
          split at hM
          · rename_i hbm
            exact Pgm.chkM_place gp gr hb hbm hM
          · cases hM
  intro d
  induction d with
  | zero => intro c p h; cases h
  | succ d ih =>
    intro c p h
    unfold Pgm.tyCs at h
    rcases hM : P.tyMs c (P.mf (c + 1) - P.mf c) (P.mf c) with _ | x
    · rw [hM] at h; exact ih h
    · rw [hM] at h
      obtain rfl : x = p := Option.some.inj h
      exact ms _ _ _ _ hM
theorem tkP_all {T : Txt} (hT : T.2 ≤ 3000) (u : Nat) : (tkS T).P u ≤ 3000 := Nat.le_trans (tkP_le T u).1 hT
/-- the class' program -/
theorem e11_prog {N : Nat} {T : Txt} {h : pH} (hN : 10000 ≤ N) (hs : Sg h) (ht : TapeIs T h) (e8 : rd h 6 8 = Int32.ofNat T.2) : ∃ h', fX11_program N 6 h = some ((prO T).1, h') ∧ rd h' 6 8 = 0 ∧ (∀ k, rd h' 128 k = rd (fgH h) 128 k) ∧ Chg clsA h h' ∧ match (prO T).2 with
    | none => rd h' 6 10 = 0
    | some cs => rd h' 6 10 = 1 ∧ ∃ r n, TyI (cxT T r n) (tkW T, cs) (fun w => w ∈ fxW ++ r) (nmb r) (Pgm.ms (tkW T, cs)).length h' := by
  obtain ⟨r, n, p1, p2⟩ := e11_parse (N := N) (L := T.2) (by omega) hs ht rfl e8
  unfold prO
  rcases hq : (tkS T).prog with ⟨cs, t'⟩ | w
  · obtain ⟨h1, e1, cp, ws, z8, z10, z128, g1⟩ := p1 cs t' hq
    obtain ⟨ct, cpn, c21⟩ := CPar.ct hq cp ws
    have cm0 := CPar.cm0 hq cp ws
    have hT := ht.1
    have hpl := prog_mpl hT hq
    have ccd := CPar.ccd (nmw := tkW T) cp
    have hs1 := ct.1
    obtain ⟨h2, e2, e3, g2⟩ := CT.check (N := N) (L := T.2) (by omega) ct cpn c21 cm0 hpl
    have hs2 : Sg h2 := hs1.of g2.1
    have pb : ∀ p, Pgm.bad1 (tkW T, cs) T.2 = some p → p ≤ 3000 := fun p hp => Pgm.bad1_lt (fun c c1 c2 => (ct.2.2.2.2.2.2.2.1 c c1 c2).2) hpl hT hp
    have g12 : Chg clsA h h2 := (g1.mono pgA.cls).trans (g2.mono (fun a k z => by unfold clsA; omega))
    have keep2 : ∀ k, rd h2 6 k = rd h1 6 k := fun k => g2.2.2.1 _ _ (by omega)
    have keep128 : ∀ k, rd h2 128 k = rd (fgH h) 128 k := fun k => by rw [g2.2.2.1 _ _ (by omega)]; exact z128 k
    rw [e1, e2, Option.bind_some]
    dsimp only
    rw [i_nn_oI (fun p hp => by have := pb p hp; omega)]
    have bad : ∀ p (h3 : pH), p ≤ 3000 → fX11_program_71 N 6 (Int32.ofNat p) h3 = some (-10000 - Int32.ofNat p, h3) := fun p h3 hp => by
      unfold fX11_program_71
      rw [if_neg (i_nneg (by omega))]
    rcases hb : Pgm.bad1 (tkW T, cs) T.2 with _ | p
    · rw [if_pos (show (none : Option Nat).isNone = true from rfl)]
      obtain ⟨c1, c2, c3, c4, c5⟩ := e3 hb
      obtain ⟨_, bB, _⟩ := Pgm.bad1_none hb
      have ck : CK (tkW T, cs) (fun w => w ∈ fxW ++ r) (nmb r) h2 := ⟨c1, c2, c3, c4⟩
      have hC : ∀ w, (tkS T).K w = 22 → (tkW T w ∈ fxW ++ r) ∧ (cxT T r n).2.1 w = Int32.ofNat (nmb r (tkW T w)) := fun w hw => ⟨ws.word cp.2.2.2.2.2.2.2.2.2.2.2 hw, rfl⟩
      have gp := Pgm.gp (nmw := tkW T) hq (tkP_all hT) bB
      have gr := Pgm.gr (nmw := tkW T) hq (tkP_all hT) bB
      have kp12 : Kp 0 4000 h1 h2 := fun a i i1 i2 _ _ => g2.2.2.1 _ _ (by omega)
      have ccd2 : CCd (cxT T r n) (tkW T, cs) h2 := by
        refine ⟨by rw [g2.2.2.1 _ _ (by omega)]; exact ccd.1, ccd.2.1, fun m b hbm hm => ?_⟩
        obtain ⟨⟨ng, hg⟩, _⟩ := gp m b hbm hm
        have hle := Pgm.kf_le hbm hm
        have := ccd.2.1
        exact CdM.kp hg (ccd.2.2 m b hbm hm) (kp12.sub (Nat.zero_le _) (by omega)) (g2.2.2.1 _ _ (by omega))
      have M := TyI.check (S := tkS T) (N := N) hN (Pgm.p5 bB (Pgm.hF hq)) hC gp ck ccd2
      rw [R_6_5 hs2, Option.bind_some]
      rcases hbt : Pgm.badT (tkW T, cs) with _ | p
      · rw [hbt] at M
        obtain ⟨h3, f1, f2, g3⟩ := M
        have hs3 := f2.1.1.1
        have g13 : Chg clsA h h3 := g12.trans (g3.mono tyC.cls)
        have gw : Chg (fun a k => a = 6 ∧ k = 10) h3 (wr h3 6 10 1) := Chg.wr _ _ _ _ ⟨rfl, rfl⟩
        refine ⟨wr h3 6 10 1, ?_, ?_, fun k => ?_, g13.trans (gw.mono (fun a k z => by unfold clsA; omega)), w_6_10 hs3 _, r, n, ?_⟩
        · rw [f1, Option.bind_some]
          unfold fX11_program_71 fX1_told
          dsimp only
          rw [if_pos (show (-1 : Int32) < 0 by decide), z_6_10 hs3 (Or.inr rfl), Option.bind_some, R_6_2 (hs3.wr 6 10 1), Option.bind_some, if_pos (o_17 (hs3.wr 6 10 1)), g_17_7 (hs3.wr 6 10 1), Option.bind_some, rd_wr_ne _ _ (by omega), f2.1.1.2.2.2.2.1, show Pgm.n (tkW T, cs) = 5 + cs.length from rfl, show (5 : Int32) = Int32.ofNat 5 from rfl, i_sub, Option.bind_some]
        · rw [rd_wr_ne _ _ (by omega), g3.2.2.1 _ _ (by unfold tyC; omega), keep2]; exact z8
        · rw [rd_wr_ne _ _ (by omega), g3.2.2.1 _ _ (by unfold tyC; omega)]; exact keep128 k
        · obtain ⟨q1, q2, q3, q4⟩ := f2
          refine ⟨q1.chg gw (fun a k z => by unfold ckA ctA at z; omega), by rw [rd_wr_ne _ _ (by omega)]; exact q2, fun j b hj hbj hm => ?_, fun j b hj hbj hm => ?_⟩
          · have := (List.getElem?_eq_some_iff.mp hbj).1
            omega
          · obtain ⟨⟨ng, hg⟩, _⟩ := gp j b hbj hm
            exact (q4 j b hj hbj hm).kp hg (fun a i i1 i2 _ _ => gw.2.2.1 _ _ (by omega)) (fun a ha => gw.2.2.1 _ _ (by omega))
      · rw [hbt] at M
        obtain ⟨h3, f1, g3⟩ := M
        have hp := Pgm.badT_lt gp gr hbt
        refine ⟨h3, ?_, ?_, fun k => ?_, g12.trans (g3.mono tyC.cls), ?_⟩
        · rw [f1, Option.bind_some]
          exact bad p h3 hp
        · rw [g3.2.2.1 _ _ (by unfold tyC; omega), keep2]; exact z8
        · rw [g3.2.2.1 _ _ (by unfold tyC; omega)]; exact keep128 k
        · show rd h3 6 10 = 0
          rw [g3.2.2.1 _ _ (by unfold tyC; omega), keep2]; exact z10
    · rw [if_neg (show ¬ (some p).isNone = true from Bool.false_ne_true)]
      refine ⟨h2, bad p h2 (pb p hb), by rw [keep2]; exact z8, keep128, g12, ?_⟩
      show rd h2 6 10 = 0
      rw [keep2]; exact z10
  · obtain ⟨h1, e1, hw, z8, z10, z128, g1⟩ := p2 w hq
    exact ⟨h1, e1, z8, z128, g1.mono pgA.cls, z10⟩
def refA (a k : Nat) : Prop := (a = 138 ∧ k ≤ 69) ∨ (140 ≤ a ∧ a ≤ 182)
theorem rdA.ref (a k : Nat) (h : rdA a k) : refA a k := by
  unfold refA
  rcases h with h | h | h
  · rcases h with ⟨h1, h2⟩ | h | h | h | h | h
    · simp only [List.mem_cons, List.not_mem_nil, or_false] at h2
      omega
    all_goals omega
  · rcases h with ((z | z | z | z | z) | z | z) | (z | z | z | z | z)
    · rcases z with z | z | z
      · have := z.2
        simp only [List.mem_cons, List.not_mem_nil, or_false] at this
        omega
      · omega
      · omega
    all_goals omega
  · omega
theorem chA.ref (a k : Nat) (h : chA a k) : refA a k := by
  unfold chA at h
  unfold refA
  omega
theorem tyR2.ref (a k : Nat) (h : tyR2 a k) : refA a k := by
  unfold tyR2 at h
  unfold refA
  omega
/-- the reference's program -/
theorem e12_prog {N L : Nat} {h : pH} (hN : 10000 ≤ N) (hs : Sg h) (e1 : rd h 138 1 = Int32.ofNat L) (hL : L ≤ 3000) (hK : ∀ j, j < 36 → rd h 143 j = knB j) : ∃ T : Txt, T.2 = L ∧ (∀ i, i < L → T.1 i = rd h 139 i) ∧ ∃ h', fX12_program N 138 h = some ((prO T).1, h') ∧ rd h' 138 1 = 0 ∧ rd h' 138 69 = 0 ∧ Chg refA h h' ∧ match (prO T).2 with
    | none => rd h' 138 56 = 0
    | some cs => rd h' 138 56 = 1 ∧ Acy (tkW T, cs) ∧ rd h' 138 59 = oI (-1) (Pgm.fnd (tkW T, cs) (knW 5)) ∧ ∃ D num, RyI (tkW T, cs) D num (Pgm.ms (tkW T, cs)).length h' := by
  obtain ⟨T, b1, b2, b3⟩ := e12_parse (N := N) (by omega) hs e1 hL hK
  refine ⟨T, b1, b2, ?_⟩
  unfold prO
  rcases hq : (tkS T).prog with ⟨cs, t'⟩ | w
  · rw [hq] at b3
    obtain ⟨h1, k', p1, p2, p9, p3, z1, z56, z69, z58, g1⟩ := b3
    have hT : T.2 ≤ 3000 := by omega
    obtain ⟨rt, rpn, r5⟩ := Parsed.rt hq p2
    obtain ⟨rq, rm⟩ := Parsed.rm p2
    have hpl := prog_mpl hT hq
    have C := RT.check1 (N := N) (L := T.2) (k := k') (by omega) rt rpn r5 rq rm hpl z58 (by rw [p9]; decide) (by rw [b1]; exact p3) (by omega)
    rw [p1]
    dsimp only
    rcases hb : Pgm.bad1 (tkW T, cs) T.2 with _ | p
    · rw [hb] at C
      obtain ⟨h2, c1, c58, c2, c3, c4, c5, c6, ha, c59, g2⟩ := C
      obtain ⟨_, bB, _⟩ := Pgm.bad1_none hb
      have gp := Pgm.gp (nmw := tkW T) hq (tkP_all hT) bB
      have gr := Pgm.gr (nmw := tkW T) hq (tkP_all hT) bB
      obtain ⟨d1, d2, d3, d4⟩ := Parsed.code (S := tkS T) p2 (fun m b hm hbm => (gp m b hm hbm).1)
      have ag : ∀ {t t' v v' y y'}, AgT h1 h2 t t' v v' y y' := fun {t t' v v' y y'} => ⟨fun a k i1 i2 _ _ => g2.2.2.1 _ _ (by unfold chA; omega), fun k => g2.2.2.1 _ _ (by unfold chA; omega), fun a m i1 _ _ => g2.2.2.1 _ _ (by unfold chA; omega), fun m => g2.2.2.1 _ _ (by unfold chA; omega)⟩
      have ry : RyI (tkW T, cs) (rD h1) (rnum h1) 0 h2 := by
        refine ⟨⟨c2, c3, c4, c5, c6⟩, c58, fun j b _ hj hbm => ?_, fun j b hj => absurd hj (Nat.not_lt_zero j)⟩
        obtain ⟨⟨n', hg'⟩, _⟩ := gp j b hj hbm
        obtain ⟨⟨u1, u2⟩, u3⟩ := d1 j b hj hbm
        exact ⟨⟨by rw [g2.2.2.1 _ _ (by unfold chA; omega)]; exact u1, by rw [g2.2.2.1 _ _ (by unfold chA; omega)]; exact u2⟩, RBn.ag n' _ _ _ _ _ hg' u3 ag⟩
      have R := RyI.prog (S := tkS T) (N := N) (by omega) ha (Pgm.p5 bB (Pgm.hF hq)) (Pgm.p3 hq) gp gr d2 d3 d4 ry
      have g12 : Chg refA h h2 := (g1.mono rdA.ref).trans (g2.mono chA.ref)
      have w1 : rd h2 138 1 = 0 := by rw [g2.2.2.1 _ _ (by unfold chA; omega)]; exact z1
      have w56 : rd h2 138 56 = 0 := by rw [g2.2.2.1 _ _ (by unfold chA; omega)]; exact z56
      have w69 : rd h2 138 69 = 0 := by rw [g2.2.2.1 _ _ (by unfold chA; omega)]; exact z69
      rw [c1]
      rcases hbt : Pgm.badT (tkW T, cs) with _ | p
      · rw [hbt] at R
        obtain ⟨h3, f1, f2, f3, g3⟩ := R
        exact ⟨h3, f1, by rw [g3.2.2.1 _ _ (by unfold tyR2; omega)]; exact w1, by rw [g3.2.2.1 _ _ (by unfold tyR2; omega)]; exact w69, g12.trans (g3.mono tyR2.ref), f3, ha, by rw [g3.2.2.1 _ _ (by unfold tyR2; omega)]; exact c59, rD h1, rnum h1, f2⟩
      · rw [hbt] at R
        obtain ⟨h3, f1, f3, g3⟩ := R
        exact ⟨h3, f1, by rw [g3.2.2.1 _ _ (by unfold tyR2; omega)]; exact w1, by rw [g3.2.2.1 _ _ (by unfold tyR2; omega)]; exact w69, g12.trans (g3.mono tyR2.ref), f3.trans w56⟩
    · rw [hb] at C
      obtain ⟨h2, c1, g2⟩ := C
      exact ⟨h2, c1, by rw [g2.2.2.1 _ _ (by unfold chA; omega)]; exact z1, by rw [g2.2.2.1 _ _ (by unfold chA; omega)]; exact z69, (g1.mono rdA.ref).trans (g2.mono chA.ref), by show rd h2 138 56 = 0; rw [g2.2.2.1 _ _ (by unfold chA; omega)]; exact z56⟩
  · rw [hq] at b3
    obtain ⟨h1, p1, hw, z1, z56, z69, g1⟩ := b3
    exact ⟨h1, p1, z1, z69, g1.mono rdA.ref, z56⟩
