/-! ===== THE CLASS' STEPS: statements ===== -/
theorem dn_st {P : Pgm} {C : Cx} {g h h1 : pH} {G G' : Gs} {A : Nat → Nat} {L : List Nat} {i : Nat × Nat × Nat} {lo lo' : List Vl} {ops : List (Bool × Vl)} {E E' : EnvV} {xs0 : List Xi} {ks0 ks : List Si} {fs : List Fm} {b t M X pc pc' N : Nat} (pre : Pre P C g h G A L (i, lo, ops, E, xs0, ks0) fs b t M X pc) (hb1 : Bse g G' A L h1) (pg : PgA fs.length b h h1) (hout : Out h h1) (e13 : rd h1 128 13 = rd h 128 13) (e14 : rd h1 128 14 = rd h 128 14) (e11 : rd h1 128 11 = rd h 128 11) (e6 : rd h1 128 6 = Int32.ofNat (b + M)) (e12 : rd h1 128 12 = Int32.ofNat pc') (hlo : lo'.length ≤ M) (hl : ∀ (j : Nat) (v : Vl), lo'[j]? = some v → Ww A L (rdJ h1 (pileR h) (b + j)) v) (hcd : ∃ o s, XC P C i.1 E' g o [] pc' s ∧ KC P C i.1 (P.mty i.2.1) M X (msK P.ms) g ks s o) : StR P C (msK P.ms) g h N (some ((0 : Int64), h1, 0, 0)) (G', .inl ((i, lo', [], E', [], ks) :: fs)) := by
  obtain ⟨hb, h13, h14, h6, h11, h12, h133, hpU, hF, hL⟩ := pre
  obtain ⟨j1, j2, j3, j4, j5, j6, j7, j8, j9, j10, j11, j12, j13, j14⟩ := hF
  obtain ⟨o, s, c1, c2⟩ := hcd
  refine ⟨0, h1, 0, 0, rfl, Or.inl ⟨rfl, pc', ⟨b + M, e13.trans h13, e14.trans h14, A, L, hb1, b, M, X, o, ?_, ⟨s, c1, c2⟩, ?_, e6, e11.trans h11, e12⟩, hout.1, hout.pot⟩⟩
  · refine ⟨(pg.2.1 _).1.trans j1, (pg.2.1 _).2.1.trans j2, by rw [(pg.2.1 _).2.2]; exact j3, j4, j5, j6, j7, j8, rfl, hlo, by rw [pileN_of pg.1]; exact j11, fun j v hj => by rw [pileR_of pg.1]; exact hl j v hj, fun j x hj => (by cases hj), Nat.zero_le _⟩
  · exact hL.ag pg (Nat.le_refl _) (by omega)
theorem dn_cg {P : Pgm} {C : Cx} {g h h1 : pH} {G : Gs} {A : Nat → Nat} {L : List Nat} {i : Nat × Nat × Nat} {lo lo' : List Vl} {ops : List (Bool × Vl)} {E E' : EnvV} {xs0 : List Xi} {ks0 ks : List Si} {fs : List Fm} {b t M X pc pc' N : Nat} {Q T : Nat → Prop} (pre : Pre P C g h G A L (i, lo, ops, E, xs0, ks0) fs b t M X pc) (c : Cg Q (fun _ => False) T h h1) (hQ : ∀ k, Q k → k = 6 ∨ k = 12) (hT : ∀ k, T k → b ≤ k) (e6 : rd h1 128 6 = Int32.ofNat (b + M)) (e12 : rd h1 128 12 = Int32.ofNat pc') (hlo : lo'.length ≤ M) (hl : ∀ (j : Nat) (v : Vl), lo'[j]? = some v → Ww A L (rdJ h1 (pileR h) (b + j)) v) (hcd : ∃ o s, XC P C i.1 E' g o [] pc' s ∧ KC P C i.1 (P.mty i.2.1) M X (msK P.ms) g ks s o) : StR P C (msK P.ms) g h N (some ((0 : Int64), h1, 0, 0)) (G, .inl ((i, lo', [], E', [], ks) :: fs)) := dn_st pre (c.bse (fun k z => by have := hQ k z; unfold QF; omega) pre.1) (c.pg (fun _ z => z.elim) hT pre.1.1.1) c.out (c.2.2.1 _ _ (fun z => by have := hQ _ z.2; omega) (by omega)) (c.2.2.1 _ _ (fun z => by have := hQ _ z.2; omega) (by omega)) (c.2.2.1 _ _ (fun z => by have := hQ _ z.2; omega) (by omega)) e6 e12 hlo hl hcd
/-- a number is printed -/
theorem e5_print {g h : pH} {G : Gs} {A : Nat → Nat} {L : List Nat} {N : Nat} (hb : Bse g G A L h) (hp : G.2.2.1.length < 2 ^ 31 - 1) (x : Int32) : ∃ h1, fX5_print N 128 x h = some h1 ∧ Bse g (G.1, G.2.1, G.2.2.1 ++ [x], G.2.2.2) A L h1 ∧ (∀ b, sh h1 b = sh h b) ∧ (∀ a k, ¬ (a = 128 ∧ k = 19) → a ≠ 137 → rd h1 a k = rd h a k) ∧ ∀ a k, rdJ h1 a k = rdJ h a k := by
  have sg := hb.1.1
  obtain ⟨b1, b2, b3, b4, b5, z, b6, b7, b8, b9, b10⟩ := hb.2.2.1
  have fin : ∀ h2, Sg h2 → (∀ b, sh h2 b = sh h b) → (∀ a k, a ≠ 137 → rd h2 a k = rd h a k) → (∀ a k, rdJ h2 a k = rdJ h a k) → (∀ (j : Nat) (y : Int32), j < 500 → (G.2.2.1 ++ [x])[j]? = some y → rd h2 137 j = y) → ∃ h1, fX5_print_27 N 128 h2 = some h1 ∧ Bse g (G.1, G.2.1, G.2.2.1 ++ [x], G.2.2.2) A L h1 ∧ (∀ b, sh h1 b = sh h b) ∧ (∀ a k, ¬ (a = 128 ∧ k = 19) → a ≠ 137 → rd h1 a k = rd h a k) ∧ ∀ a k, rdJ h1 a k = rdJ h a k := fun h2 s2 q1 q2 q3 q4 => by
    have hsh : ∀ b, sh (wr h2 128 19 (Int32.ofNat (G.2.2.1.length + 1))) b = sh h b := fun b => (sh_wr _ _ _ _ b).trans (q1 b)
    refine ⟨wr h2 128 19 (Int32.ofNat (G.2.2.1.length + 1)), ?_, ⟨⟨s2.wr _ _ _, fun a k x1 x2 => by rw [rd_wr_ne _ _ (by omega), q2 _ _ (by omega)]; exact hb.1.2 a k x1 x2⟩, fun i hi => by rw [rdJ_wr, rdJ_wr, q3, q3]; exact hb.2.1 i hi, ⟨?_, ?_, ?_, ?_, fun j y h1 h2 => ?_, z, ?_, b7, ?_, b9, fun j y h1 => ?_⟩, ?_⟩, hsh, fun a k n1 n2 => by rw [rd_wr_ne _ _ (fun z => n1 ⟨z.1.symm, z.2.symm⟩), q2 _ _ n2], fun a k => by rw [rdJ_wr, q3]⟩
    · unfold fX5_print_27
      rw [g_128_19 s2, Option.bind_some, q2 _ _ (by omega), b4, i_add1, p_128_19 s2, Option.bind_some]
    · rw [rd_wr_ne _ _ (by omega), q2 _ _ (by omega)]; exact b1
    · rw [rd_wr_ne _ _ (by omega), q2 _ _ (by omega)]; exact b2
    · rw [rd_wr_ne _ _ (by omega), q2 _ _ (by omega)]; exact b3
    · rw [w_128_19 s2, List.length_append]; rfl
    · rw [rd_wr_ne _ _ (by omega)]; exact q4 j y h1 h2
    · rw [rd_wr_ne _ _ (by omega), q2 _ _ (by omega)]; exact b6
    · rw [rd_wr_ne _ _ (by omega), q2 _ _ (by omega)]; exact b8
    · rw [rd_wr_ne _ _ (by omega), q2 _ _ (by omega)]; exact b10 j y h1
    · obtain ⟨p1, p2, p3, p4, p5, p6, p7⟩ := hb.2.2.2
      have ec := cR_of hsh
      refine ⟨p1, p2, by rw [rd_wr_ne _ _ (by omega), q2 _ _ (by omega)]; exact p3, p4, p5, by rw [rd_wr_ne _ _ (by omega), q2 _ _ (by omega)]; exact p6, fun i hi ob hob => ?_⟩
      obtain ⟨c1, c2, c3⟩ := p7 i hi ob hob
      rw [ec]
      exact ⟨by rw [rdJ_wr, q3]; exact c1, by rw [rdJ_wr, q3]; exact c2, fun j v hj => by rw [rdJ_wr, q3]; exact c3 j v hj⟩
  unfold fX5_print
  rw [if_pos (o_128 sg), g_128_19 sg, Option.bind_some, b4, if_neg (i_nneg (by omega)), Option.bind_some, show (500 : Int32) = Int32.ofNat 500 from rfl]
  by_cases h5 : 500 ≤ G.2.2.1.length
  · rw [if_pos (by rw [iLe (by omega) (by omega)]; exact h5)]
    refine fin h sg (fun _ => rfl) (fun _ _ _ => rfl) (fun _ _ => rfl) (fun j y h1 h2 => ?_)
    rw [List.getElem?_append_left (by omega)] at h2
    exact b5 j y h1 h2
  · rw [if_neg (by rw [iLe (by omega) (by omega)]; exact h5), R_128_18 sg, Option.bind_some, Option.bind_some, T_137 sg (by omega), Option.bind_some]
    refine fin _ (sg.wr _ _ _) (fun b => sh_wr _ _ _ _ b) (fun a k ha => rd_wr_ne _ _ (by omega)) (fun a k => rdJ_wr _ _ _ _ _ _) (fun j y h1 h2 => ?_)
    by_cases hj : j = G.2.2.1.length
    · subst hj
      rw [List.getElem?_append_right (Nat.le_refl _), Nat.sub_self] at h2
      obtain rfl : x = y := Option.some.inj h2
      exact W_137 sg _ _
    · rw [rd_wr_ne _ _ (by omega)]
      have hjl : j < G.2.2.1.length := by
        have := (List.getElem?_eq_some_iff.mp h2).1
        rw [List.length_append] at this
        have e1 : [x].length = 1 := rfl
        omega
      rw [List.getElem?_append_left hjl] at h2
      exact b5 j y h1 h2
theorem VT.subm {P : Pgm} {hp : List Ob} {v : Vl} {t : Nat} (h : VT P hp v t) (ht : t = 0) : ∃ n, v = .inl n := by
  subst ht
  exact h.int
/-- a statement's step -/
theorem actS_cls {P : Pgm} {S : Tks} {C : Cx} {D : List Int32 → Prop} {num : List Int32 → Nat} {N : Nat} {g h : pH} {G : Gs} {A : Nat → Nat} {L : List Nat} {i : Nat × Nat × Nat} {lo : List Vl} {ops : List (Bool × Vl)} {E : EnvV} {bb : Tr} {z : Bool} {ks : List Si} {fs : List Fm} {b t M X pc : Nat} {o : Int32} (hN : 12000 ≤ N) (hst : Stc P S C D num g) (ho : HO P G.1) (hpr : G.2.2.1.length < 2 ^ 31 - 1) (pre : Pre P C g h G A L (i, lo, ops, E, [], (1, E, bb, z) :: ks) fs b t M X pc) (hf : FT P S G.1 (i, lo, ops, E, [], (1, E, bb, z) :: ks) []) (hfs : FsT P S G.1 fs [mk3 (P.mty i.2.1)]) (hl1 : fs.length + 1 ≤ 100) (x2 : KC P C i.1 (P.mty i.2.1) M X (msK P.ms) g ((1, E, bb, z) :: ks) pc o) : StR P C (msK P.ms) g h N (actK N (Int32.ofNat pc) (rd g 39 pc) h) (P.actS G i lo ops fs bb E ks) := by
  obtain ⟨hb, h13, h14, h6, h11, h12, h133, hpU, hF, hL⟩ := id pre
  have hP := hst.1
  obtain ⟨ha, hB, p5, p3, hrest⟩ := id hP
  have sg := hb.1.1
  have hU := hst.2.2.2
  have hp31 : pc < 3100 := by omega
  obtain ⟨q1, q2, q3, q4, q5, q6, ⟨a, a', q7, q8, q9⟩, q10, q11⟩ := hf
  dsimp only at q1 q2 q3 q4 q5 q6 q7 q8 q9 q10 q11
  obtain rfl : a = a' := q8
  have q9 : E = E ∧ stK bb = true ∧ (∃ n, GK S n bb) ∧ CapB 101 E bb ks ∧ (∃ E2, P.chk i.1 (P.mty i.2.1) bb E = .inr E2) ∧ a = P.prT i.1 E bb ∧ KT P S i.1 (P.mty i.2.1) ks (P.nxE i.1 (P.mty i.2.1) bb E) := q9
  obtain ⟨-, g1, ⟨n, g2⟩, g3, ⟨E2, g4⟩, g5, g6⟩ := q9
  subst g5
  rw [TyL_p (by omega)] at q6
  have fkt : FK P S G.1 (i, lo, ops, E, [], ks) := ⟨q1, q2, q3, q4, q6, _, [], g6.kh⟩
  rw [KC_1] at x2
  obtain ⟨s0, j1, j2, j3, j4⟩ := x2
  have htop := hF.top
  have k9 : t = b + M + ops.length := hF.2.2.2.2.2.2.2.2.1
  have hM : lo.length ≤ M := hF.2.2.2.2.2.2.2.2.2.1
  have hlow : ∀ (j : Nat) (v : Vl), lo[j]? = some v → Ww A L (rdJ h (pileR h) (b + j)) v := hF.2.2.2.2.2.2.2.2.2.2.2.1
  have hb1 := hF.2.2.2.1
  have hlE : lo.length = E.1.length := q5.1
  have hbm : b + M + X + 1 ≤ pileN h := hF.2.2.2.2.2.2.2.2.2.2.1
  match n, g2 with
  | 0, g2 =>
    obtain rfl : bb = nl := g2
    cases g1
  | n + 1, g2 =>
    rcases g2 with rfl | ⟨p, y, w, r, rfl, w1, w2, hkr⟩ | ⟨p, y, w, e, r, rfl, w1, w2, w3, hkr⟩ | ⟨p, k, e, r, rfl, hkk, hkr⟩ | ⟨p, x, e, r0, rfl, w1, w2, w3, hkr⟩ | ⟨p, e, a', f, b', r, rfl, hff, w1, ha', hb', hkr⟩ | ⟨p, e, a', r, rfl, w1, ha', hkr⟩ | ⟨p, a', cw, w, b', r, rfl, w1, w2, ha', hb', hkr⟩
    · cases g1
    · cases g1
    · obtain ⟨t0, i1, i2, i3, i4, i5⟩ := inv_tellv g4
      have hp1 : P.prT i.1 E (bTellv p y w e r) = [mk3 t0] := by
        show ((P.te i.1 E e).getD []).reverse.map mk3 = _
        rw [te_getD i1]; rfl
      rw [hp1] at q7
      have hol : ops.length = 1 := q7.len
      rw [TC_tellv] at j2
      obtain ⟨-, t1, t2, t3, -⟩ := j2
      have ex : exL (bTellv p y w e r) = cl e := rfl
      have es : slL (bTellv p y w e r) = cl e + 1 := rfl
      rw [ex] at j1
      rw [← j1] at t1 t2
      rw [es, show s0 + (cl e + 1) = pc + 1 by omega] at j4
      obtain ⟨w0, h1, f1, f2, f3, f4⟩ := pop_v (N := N) sg h6 hF (by show 1 ≤ ops.length; omega)
      have f4 : Ww A L w0 (opV ops 0) := f4
      have s1 := f2.sg sg
      have ep := pileR_of f2.1
      have tp := T_p s1 (i := b + E.1.length) (by rw [pileN_of f2.1]; omega) w0
      have W := W_p s1 (b + E.1.length) w0
      rw [ep] at tp W
      rw [t1.1, actK_gift hb.1 hp31 (by simp), f1, Option.bind_some]
      dsimp only
      have e1 : fX5_actGift N 128 37 (rd g 40 pc) w0 h1 = some (0, wrJ h1 (pileR h) (b + E.1.length) w0) := by
        unfold fX5_actGift
        rw [if_pos (o_128 s1), if_neg (by decide), if_neg (by decide), if_neg (by decide), if_neg (by decide)]
        unfold fX5_actGift_80
        rw [R_128_5 s1, Option.bind_some, t2, e5_slot (b := b) s1 (by rw [f2.2.2.1 _ _ (by omega)]; exact h11) (by omega) (by rw [f2.2.2.1 _ _ (by omega)]; exact hF.1) (by rw [pileN_of f2.1]; omega), Option.bind_some]
        dsimp only
        rw [ep, tp, Option.bind_some]
      rw [e1, Option.bind_some]
      have cc : Cg (fun k => k = 6) (fun _ => False) (fun k => k = b + E.1.length) h (wrJ h1 (pileR h) (b + E.1.length) w0) := ((f2.cg (Q := fun k => k = 6) (Z := fun _ => False) rfl).mono (fun _ z => z) (fun _ z => z) (fun _ z => z.elim)).trans ⟨fun b => sh_wrJ _ _ _ _ b, wrJ_len _ _ _ _, fun a k _ _ => rd_wrJ _ _ _ _ _ _, fun a k n => rdJ_wrJ_ne _ _ (fun z => n ⟨by rw [ep]; exact z.1.symm, z.2.symm⟩)⟩
      have hd1 : ops.drop 1 = [] := List.drop_eq_nil_of_le (by omega)
      show StR P C (msK P.ms) g h N (some ((0 : Int64), wrJ h1 (pileR h) (b + E.1.length) w0, 0, 0)) (G, .inl ((i, lo ++ [opV ops 0], ops.drop 1, P.nxE i.1 (P.mty i.2.1) (bTellv p y w e r) E, [], ks) :: fs))
      rw [hd1]
      refine dn_cg (E' := P.nxE i.1 (P.mty i.2.1) (bTellv p y w e r) E) (pc' := pc + 1) pre cc (fun k z => Or.inl z) (fun k z => by omega) ?_ ?_ ?_ (fun j v hj => ?_) ⟨o, pc + 1, rfl, j4⟩
      · rw [rd_wrJ, f3, show t - 1 = b + M by omega]
      · rw [rd_wrJ, f2.2.2.1 _ _ (by omega)]; exact h12
      · rw [List.length_append]
        show lo.length + 1 ≤ M
        omega
      · by_cases hjl : j < lo.length
        · rw [List.getElem?_append_left hjl] at hj
          rw [rdJ_wrJ_ne _ _ (by omega), f2.2.2.2 _ _ (fun z => z.2)]
          exact hlow j v hj
        · rw [List.getElem?_append_right (by omega)] at hj
          have : j - lo.length = 0 := by
            have := (List.getElem?_eq_some_iff.mp hj).1
            have h1 : ([opV ops 0] : List Vl).length = 1 := rfl
            omega
          rw [this] at hj
          obtain rfl : opV ops 0 = v := Option.some.inj hj
          rw [show b + j = b + E.1.length by omega, W]
          exact f4
    · have hk5 := GKk hkk
      obtain ⟨i1, i2⟩ := inv_k hk5 g4
      have h52 : k ≠ 52 := by
        rintro rfl
        cases g1
      rw [TC_k hk5] at j2
      obtain ⟨-, t1, -⟩ := j2
      rw [(exL_k hk5 p e r).1] at j1
      rw [(exL_k hk5 p e r).2, show s0 + (cl e + 1) = pc + 1 by omega] at j4
      rw [← j1] at t1
      have hA : P.actS G i lo ops fs (nd k p 0 e r) E ks = if k = 40 then retM G true (.inl 0) fs
        else if k = 41 then retM G false (opV ops 0) fs
        else if k = 42 then (match opV ops 0 with
          | .inr (some o) => P.thr G o ((i, lo, ops, E, [], ks) :: fs)
          | _ => P.thr G 0 ((i, lo, ops, E, [], ks) :: fs))
        else ((G.1, G.2.1, G.2.2.1 ++ [vI (opV ops 0)], G.2.2.2), .inl ((i, lo, ops.drop 1, P.nxE i.1 (P.mty i.2.1) (nd k p 0 e r) E, [], ks) :: fs)) := by
        rcases hk5 with rfl | rfl | rfl | rfl | rfl <;> rfl
      rw [hA, t1.1]
      have hk32 : Int32.ofNat k = 38 ∨ Int32.ofNat k = 39 ∨ Int32.ofNat k = 40 ∨ Int32.ofNat k = 41 ∨ Int32.ofNat k = 42 ∨ Int32.ofNat k = 43 := by
        rcases hk5 with rfl | rfl | rfl | rfl | rfl
        · decide
        · decide
        · decide
        · decide
        · omega
      rw [actK_work hb.1 hp31 hk32]
      have hret : ∀ (w0 : Int64) (v : Vl) (zz : Bool) (h1 : pH), Ch (fun _ => False) h h1 → Ww A L w0 v → (fs = [] → w0.toInt32 = vI v) → StR P C (msK P.ms) g h N (((fX5_closeMethod N 128 w0 h1).bind fun h9 => some ((0 : Int64), h9)).bind fun q => some (q.1, q.2, 0, 0)) (retM G zz v fs) := fun w0 v zz h1 c hw hw' => by
        have c1 : Cg (fun k => k = 6) (fun _ => False) (fun _ => False) h h1 := c.cg rfl
        obtain ⟨h2, pc', r1, r2, r3, r4⟩ := ret_cls (P := P) (C := C) (U := msK P.ms) (N := N) (b := b) (se := i.2.2) (z := zz) (c.bse hb) (by rw [c.2.2.1 _ _ (by omega)]; exact h13) (by rw [c.2.2.1 _ _ (by omega)]; exact h14) (by rw [c.2.2.1 _ _ (by omega)]; exact hF.1) hb1 (hL.ag (c1.pg (n := fs.length) (t := b) (fun _ z => z.elim) (fun _ z => z.elim) sg) (Nat.le_refl _) (by omega)) (by rw [c.2.2.1 _ _ (by omega)]; exact h11) (by omega) hw hw' hfs.xw
        have r5 := c1.out.trans r3
        exact ⟨0, h2, 0, 0, by rw [r1]; rfl, Or.inl ⟨rfl, pc', r2, r5.1, r5.pot⟩⟩
      by_cases h40 : k = 40
      · subst h40
        rw [if_pos rfl]
        unfold fX5_actWork
        rw [if_pos (o_128 sg), if_neg (by decide), if_neg (by decide), if_pos (by rfl)]
        exact hret 0 (.inl 0) true h (Ch.refl _ _) ⟨wN_0.symm, okV_inl _ _⟩ (fun _ => rfl)
      · rw [if_neg h40]
        have hte : ∃ t, P.te i.1 E e = some [t] ∧ P.wkX (P.mty i.2.1) E k t = some (P.nxE i.1 (P.mty i.2.1) (nd k p 0 e r) E) := by
          unfold Pgm.wkE at i1
          rw [if_neg h40] at i1
          obtain ⟨l, l1, l2⟩ := Option.bind_eq_some_iff.mp i1
          obtain ⟨t, rfl, l3⟩ := hdO_some l2
          exact ⟨t, l1, l3⟩
        obtain ⟨t0, ht, hx⟩ := hte
        have hp1 : P.prT i.1 E (nd k p 0 e r) = [mk3 t0] := by
          rw [prT_k hk5, te_getD ht]; rfl
        rw [hp1] at q7
        have hol : ops.length = 1 := q7.len
        have hv : VT P G.1 (opV ops 0) t0 := (q7.get (j := 0) (x := mk3 t0) rfl).1
        obtain ⟨w0, h1, f1, f2, f3, f4⟩ := pop_v (N := N) sg h6 hF (by show 1 ≤ ops.length; omega)
        have f4 : Ww A L w0 (opV ops 0) := f4
        have s1 := f2.sg sg
        unfold Pgm.wkX at hx
        by_cases h41 : k = 41
        · subst h41
          rw [if_pos rfl] at hx ⊢
          split at hx
          · rename_i hq
            unfold fX5_actWork
            rw [if_pos (o_128 sg), if_neg (by decide), if_neg (by decide), if_neg (by decide), if_pos (by rfl), f1, Option.bind_some]
            refine hret w0 (opV ops 0) false h1 f2 f4 (fun hnil => ?_)
            subst hnil
            have hm : mk3 (P.mty i.2.1) = mk3 0 := by
              have : [mk3 (P.mty i.2.1)] = [mk3 0] := hfs
              exact (List.cons.inj this).1
            have hm0 : P.mty i.2.1 = 0 := congrArg Prod.snd hm
            exact (f4.n ((hv.sub ha ho hq.2).subm hm0)).1
          · cases hx
        · rw [if_neg h41] at hx ⊢
          by_cases h42 : k = 42
          · subst h42
            rw [if_pos rfl] at hx ⊢
            split at hx
            · rename_i hq
              unfold fX5_actWork
              rw [if_pos (o_128 sg), if_neg (by decide), if_neg (by decide), if_neg (by decide), if_neg (by decide), if_pos (by rfl), f1, Option.bind_some]
              dsimp only
              rw [lc_if]
              rcases hv.obj hq with z1 | ⟨ob, c', fl, z1, z2, z3⟩
              · rw [z1] at f4 ⊢
                rw [if_pos (show w0 = 0 from f4.1)]
                show StR P C (msK P.ms) g h N (some (wO (0 + 1), h1, 0, 0)) _
                exact pre.flt (by omega) hst ho f2 (by omega) rfl rfl t1.2.2.1 j4 fkt hfs (by omega)
              · rw [z1] at f4 ⊢
                rw [if_neg (show ¬ w0 = 0 by rw [f4.1]; exact wO_ne _)]
                dsimp only
                rw [show w0 = wO (A ob) from f4.1]
                exact thr_st (by omega) hst hb f2 h13 h14 h11 ho z2 (f4.2 ob rfl) (pre.at (f' := (i, lo, ops, E, [], ks)) rfl rfl t1.2.2.1 j4) fkt ⟨_, hfs⟩ (by omega)
            · cases hx
          · rw [if_neg h42] at hx ⊢
            have h43 : k = 43 := by omega
            subst h43
            rw [if_pos rfl] at hx
            split at hx
            · rename_i hq
              unfold fX5_actWork
              rw [if_pos (o_128 sg), if_neg (by decide), if_neg (by decide), if_neg (by decide), if_neg (by decide), if_neg (by decide), f1, Option.bind_some]
              dsimp only
              have hnum : ∃ n, opV ops 0 = .inl n := hv.n01 (by omega)
              rw [(f4.n hnum).1]
              obtain ⟨h2, m1, m2, m3, m4, m5⟩ := e5_print (N := N) (f2.bse hb) hpr (vI (opV ops 0))
              rw [m1, Option.bind_some, Option.bind_some]
              have hE := Option.some.inj hx
              have hd1 : ops.drop 1 = [] := List.drop_eq_nil_of_le (by omega)
              rw [hd1]
              have pg : PgA fs.length b h h2 := ⟨fun b => (m3 b).trans (f2.1 b), fun k => ⟨(m4 _ _ (by omega) (by omega)).trans (f2.2.2.1 _ _ (by omega)), (m4 _ _ (by omega) (by omega)).trans (f2.2.2.1 _ _ (by omega)), (m5 _ _).trans (f2.2.2.2 _ _ (fun z => z.2))⟩, fun k _ => (m4 _ _ (by omega) (by omega)).trans (f2.2.2.1 _ _ (by omega)), fun k _ => (m5 _ _).trans (f2.2.2.2 _ _ (fun z => z.2))⟩
              refine dn_st (E' := P.nxE i.1 (P.mty i.2.1) (nd 43 p 0 e r) E) (pc' := pc + 1) pre m2 pg ⟨fun a k ha => (m4 _ _ (by omega) (by omega)).trans (f2.2.2.1 _ _ (by omega)), pileN_of pg.1⟩ ((m4 _ _ (by omega) (by omega)).trans (f2.2.2.1 _ _ (by omega))) ((m4 _ _ (by omega) (by omega)).trans (f2.2.2.1 _ _ (by omega))) ((m4 _ _ (by omega) (by omega)).trans (f2.2.2.1 _ _ (by omega))) ?_ ?_ hM (fun j v hj => ?_) ⟨o, pc + 1, rfl, j4⟩
              · rw [m4 _ _ (by omega) (by omega), f3, show t - 1 = b + M by omega]
              · rw [m4 _ _ (by omega) (by omega), f2.2.2.1 _ _ (by omega)]; exact h12
              · rw [m5, f2.2.2.2 _ _ (fun z => z.2)]; exact hlow j v hj
            · cases hx
    · obtain ⟨l, t0, i1, i2, i3, i4⟩ := inv_give g4
      have hp1 : P.prT i.1 E (bGive p x e r0) = (l ++ [t0]).reverse.map mk3 := by
        show ((P.plT i.1 E x).getD [] ++ (P.te i.1 E e).getD []).reverse.map mk3 = _
        rw [i1, te_getD i2]; rfl
      rw [hp1] at q7
      have hE1 := (Pgm.gvX_some i3).1
      rw [TC_give] at j2
      obtain ⟨-, t1, t2, -⟩ := j2
      have ex : exL (bGive p x e r0) = (cl x - 1) + cl e := rfl
      have es : slL (bGive p x e r0) = (cl x - 1) + cl e + 1 := rfl
      rw [ex, ← Nat.add_assoc] at j1
      rw [es, show s0 + ((cl x - 1) + cl e + 1) = pc + 1 by omega] at j4
      rw [← j1] at t1 t2
      rw [i1] at t1 t2
      show StR P C (msK P.ms) g h N _ (P.givM G i lo ops E (P.nxE i.1 (P.mty i.2.1) (bGive p x e r0) E) x ks fs)
      have hol : 1 ≤ ops.length := by
        have := q7.len
        rw [List.length_map, List.length_reverse, List.length_append] at this
        have e1 : [t0].length = 1 := rfl
        omega
      have hv : VT P G.1 (opV ops 0) t0 := by
        refine (q7.get (j := 0) (x := mk3 t0) ?_).1
        rw [List.reverse_append]
        rfl
      obtain ⟨w0, h1, f1, f2, f3, f4⟩ := pop_v (N := N) sg h6 hF hol
      have f4 : Ww A L w0 (opV ops 0) := f4
      have s1 := f2.sg sg
      have ep := pileR_of f2.1
      have hb2 := f2.bse hb
      have hkg := gvK_cases P i.1 E (gk x) (P.1 (gw x)) l
      have hact : actK N (Int32.ofNat pc) (rd g 39 pc) h = (fX5_actGift N 128 (P.gvK i.1 E (gk x) (P.1 (gw x)) l).1 (P.gvK i.1 E (gk x) (P.1 (gw x)) l).2 w0 h1).bind fun q => some (q.1, q.2, 0, 0) := by
        rw [t1.1, actK_gift hb.1 hp31 (by
          rcases hkg with z | z | z | z <;> rw [show ((some l).getD []) = l from rfl, z] <;> simp), f1, Option.bind_some, t2]
        rfl
      rw [hact]
      have put : ∀ (oo j : Nat) (ob : Ob) (h2 : pH) (r : Option (Int64 × pH)), (oo ∈ L ∨ oo < 5) → G.1[oo]? = some ob → j < ob.2.length → Ch (fun _ => False) h h2 → rd h2 128 6 = Int32.ofNat (b + M) → r = ((fX3_put N 129 (wO (A oo)) (Int32.ofNat j) w0 h2).bind fun h3 => some ((0 : Int64), h3)) → StR P C (msK P.ms) g h N (r.bind fun q => some (q.1, q.2, 0, 0)) ((obS G.1 oo j (opV ops 0), G.2), .inl ((i, lo, [], P.nxE i.1 (P.mty i.2.1) (bGive p x e r0) E, [], ks) :: fs)) := fun oo j ob h2 rr hoo hob hj c h26 hr => by
        obtain ⟨h3, m1, m2, m3, m4, m5⟩ := Bse.set (N := N) (v := opV ops 0) ho (c.bse hb) hoo hob hj f4
        have hcr := (c.sg sg).rows.1
        have hap := (c.sg sg).apart
        have ep2 := pileR_of c.1
        rw [hr, m1, Option.bind_some, Option.bind_some]
        have pg : PgA fs.length b h h3 := ⟨fun b => (m3 b).trans (c.1 b), fun k => ⟨(m4 _ _).trans (c.2.2.1 _ _ (by omega)), (m4 _ _).trans (c.2.2.1 _ _ (by omega)), (m5 _ _ (by omega)).trans (c.2.2.2 _ _ (fun z => z.2))⟩, fun k _ => (m4 _ _).trans (c.2.2.1 _ _ (by omega)), fun k _ => (m5 _ _ (by omega)).trans (c.2.2.2 _ _ (fun z => z.2))⟩
        refine dn_st (E' := P.nxE i.1 (P.mty i.2.1) (bGive p x e r0) E) (pc' := pc + 1) pre m2 pg ⟨fun a k ha => (m4 _ _).trans (c.2.2.1 _ _ (by omega)), pileN_of pg.1⟩ ((m4 _ _).trans (c.2.2.1 _ _ (by omega))) ((m4 _ _).trans (c.2.2.1 _ _ (by omega))) ((m4 _ _).trans (c.2.2.1 _ _ (by omega))) ((m4 _ _).trans h26) ((m4 _ _).trans ((c.2.2.1 _ _ (by omega)).trans h12)) hM (fun j v hj => ?_) ⟨o, pc + 1, rfl, j4⟩
        rw [m5 _ _ (by omega), c.2.2.2 _ _ (fun z => z.2)]
        exact hlow j v hj
      unfold Pgm.givM
      rcases gkx w2 w1 with ⟨w, hx, hgk, hgw⟩ | ⟨w, xa, hx, hgk, hgw, oa⟩ | ⟨xa, xb, hx, hgk, oa, ob⟩
      · have hl0 : l = [] := by
          subst hx
          exact (Option.some.inj i1).symm
        subst hl0
        have hol1 : ops.length = 1 := q7.len
        have hd1 : ops.drop 1 = [] := List.drop_eq_nil_of_le (by omega)
        rw [hgk, if_pos rfl, hd1]
        rw [hgk] at i3
        unfold Pgm.gvX at i3
        rw [if_pos rfl] at i3
        unfold Pgm.gvK
        rw [if_pos rfl]
        rcases hfn : E.fnd (P.1 (gw x)) with _ | j
        · rw [hfn] at i3
          dsimp only at i3 ⊢
          split at i3
          · rename_i hsub
            unfold Pgm.subO at hsub
            rcases hm : P.fldT (P.1 (gw x)) (10 + i.1) with _ | m'
            · rw [hm] at hsub; cases hsub
            · obtain ⟨d, fl, s1', s2'⟩ := q3
              obtain ⟨ff1, ff2, ff3, ff4⟩ := obF_T ha ho s1' (t := 10 + i.1) (by rw [show 10 + i.1 - 10 = i.1 by omega]; exact s2') hm
              refine put i.2.2 (P.mo m') (some d, fl) h1 _ (hF.2.2.1.2 _ rfl) s1' ff2 f2 (by rw [f3, show t - 1 = b + M by omega]) ?_
              unfold fX5_actGift
              rw [if_pos (o_128 s1), if_pos rfl, R_128_4 s1, Option.bind_some, R_128_10 s1, Option.bind_some, g_128_11 s1, Option.bind_some, f2.2.2.1 _ _ (by omega), h11, i_sub1, L_136 s1 (by omega), Option.bind_some, f2.2.2.2 _ _ (fun z => z.2), hF.2.2.1.1]
              rfl
          · cases i3
        · rw [hfn] at i3
          dsimp only at i3 ⊢
          obtain ⟨k1, k2, k3, k4⟩ := fstN_some hfn
          have hjl : j < lo.length := by omega
          have tp := T_p s1 (i := b + j) (by rw [pileN_of f2.1]; omega) w0
          have W := W_p s1 (b + j) w0
          rw [ep] at tp W
          have e1 : fX5_actGift N 128 32 (Int32.ofNat j) w0 h1 = some (0, wrJ h1 (pileR h) (b + j) w0) := by
            unfold fX5_actGift
            rw [if_pos (o_128 s1), if_neg (by decide), if_neg (by decide), if_neg (by decide), if_neg (by decide)]
            unfold fX5_actGift_80
            rw [R_128_5 s1, Option.bind_some, e5_slot (b := b) s1 (by rw [f2.2.2.1 _ _ (by omega)]; exact h11) (by omega) (by rw [f2.2.2.1 _ _ (by omega)]; exact hF.1) (by rw [pileN_of f2.1]; omega), Option.bind_some]
            dsimp only
            rw [ep, tp, Option.bind_some]
          rw [e1, Option.bind_some]
          have cc : Cg (fun k => k = 6) (fun _ => False) (fun k => k = b + j) h (wrJ h1 (pileR h) (b + j) w0) := ((f2.cg (Q := fun k => k = 6) (Z := fun _ => False) rfl).mono (fun _ z => z) (fun _ z => z) (fun _ z => z.elim)).trans ⟨fun b => sh_wrJ _ _ _ _ b, wrJ_len _ _ _ _, fun a k _ _ => rd_wrJ _ _ _ _ _ _, fun a k n => rdJ_wrJ_ne _ _ (fun z => n ⟨by rw [ep]; exact z.1.symm, z.2.symm⟩)⟩
          refine dn_cg (E' := P.nxE i.1 (P.mty i.2.1) (bGive p x e r0) E) (pc' := pc + 1) pre cc (fun k z => Or.inl z) (fun k z => by omega) ?_ ?_ ?_ (fun j' v hj' => ?_) ⟨o, pc + 1, rfl, j4⟩
          · rw [rd_wrJ, f3, show t - 1 = b + M by omega]
          · rw [rd_wrJ, f2.2.2.1 _ _ (by omega)]; exact h12
          · rw [List.length_set]; exact hM
          · rw [List.getElem?_set] at hj'
            by_cases hjj : j = j'
            · subst hjj
              rw [if_pos rfl, if_pos hjl] at hj'
              obtain rfl := Option.some.inj hj'
              rw [W]
              exact f4
            · rw [if_neg hjj] at hj'
              rw [rdJ_wrJ_ne _ _ (by omega), f2.2.2.2 _ _ (fun z => z.2)]
              exact hlow j' v hj'
      · rw [hgk, if_neg (by omega), if_pos rfl]
        rw [hgk] at i3
        unfold Pgm.gvX at i3
        rw [if_neg (by omega), if_pos rfl] at i3
        unfold Pgm.gvK
        rw [if_neg (by omega), if_pos rfl]
        match l, i3, i1, q7 with
        | [u], i3, i1, q7 =>
          dsimp only at i3 ⊢
          split at i3
          · rename_i hsub
            have hol2 : ops.length = 2 := q7.len
            have hv2 : VT P G.1 (opV ops 1) u := (q7.get (j := 1) (x := mk3 u) rfl).1
            have hd1 : ops.drop 2 = [] := List.drop_eq_nil_of_le (by omega)
            rw [hd1]
            unfold Pgm.subO at hsub
            rcases hm : P.fldT (P.1 (gw x)) u with _ | m'
            · rw [hm] at hsub; cases hsub
            · have e0 : lget [u] 0 = u := rfl
              obtain ⟨v0, h1', v1, h2, z1, z2, z3, z4, z5, z6, z7⟩ := pop_v2 (N := N) sg h6 hF (by show 2 ≤ ops.length; omega)
              rw [f1] at z1
              obtain ⟨rfl, rfl⟩ := Prod.mk.inj (Option.some.inj z1)
              have z7 : Ww A L v1 (opV ops 1) := z7
              have s2 := z4.sg sg
              rw [e0, hm]
              have e35 : fX5_actGift N 128 35 (P.moO (some m')) w0 h1 = fX5_giveField N 128 v1 (Int32.ofNat (P.mo m')) w0 h2 := by
                unfold fX5_actGift
                rw [if_pos (o_128 s1), if_neg (by decide), if_neg (by decide), if_pos rfl, z2, Option.bind_some]
                exact id_2
              rw [e35]
              unfold fX5_giveField
              rw [if_pos (o_128 s2), lc_if]
              rcases hv2.obj (fldT_10 hm) with y1 | ⟨ob', c', fl, y1, y2, y3⟩
              · rw [y1] at z7 ⊢
                rw [if_pos (show v1 = 0 from z7.1)]
                show StR P C (msK P.ms) g h N (some (wO (0 + 1), h2, 0, 0)) _
                exact pre.flt (by omega) hst ho z4 (by omega) rfl rfl t1.2.2.1 j4 fkt hfs (by omega)
              · rw [y1] at z7 ⊢
                obtain ⟨ff1, ff2, ff3, ff4⟩ := obF_T ha ho y2 y3 hm
                dsimp only
                rw [i1]
                show StR P C (msK P.ms) g h N _ ((obS G.1 ob' (P.foO (P.fldT (P.1 (gw x)) u)) (opV ops 0), G.2), .inl ((i, lo, [], _, [], ks) :: fs))
                rw [hm, if_neg (show ¬ v1 = 0 by rw [z7.1]; exact wO_ne _)]
                refine put ob' (P.mo m') (some c', fl) h2 _ (z7.2 ob' rfl) y2 ff2 z4 (by rw [z5, show t - 2 = b + M by omega]) ?_
                rw [R_128_4 s2, Option.bind_some, show v1 = wO (A ob') from z7.1]
          · cases i3
      · rw [hgk, if_neg (by omega), if_neg (by omega)]
        rw [hgk] at i3
        unfold Pgm.gvX at i3
        rw [if_neg (by omega), if_neg (by omega)] at i3
        unfold Pgm.gvK
        rw [if_neg (by omega), if_neg (by omega)]
        split at i3
        · rename_i hq
          obtain ⟨hq1, hq2⟩ := hq
          subst hq1 hq2
          have hol3 : ops.length = 3 := q7.len
          have hv2 : VT P G.1 (opV ops 1) 0 := (q7.get (j := 1) (x := mk3 0) rfl).1
          have hv3 : VT P G.1 (opV ops 2) 2 := (q7.get (j := 2) (x := mk3 2) rfl).1
          have hd1 : ops.drop 3 = [] := List.drop_eq_nil_of_le (by omega)
          rw [hd1]
          obtain ⟨v0, h1', v1, h2, z1, z2, z3, z4, z5, z6, z7⟩ := pop_v2 (N := N) sg h6 hF (by show 2 ≤ ops.length; omega)
          rw [f1] at z1
          obtain ⟨rfl, rfl⟩ := Prod.mk.inj (Option.some.inj z1)
          have z7 : Ww A L v1 (opV ops 1) := z7
          have s2 := z4.sg sg
          obtain ⟨h3, y1, y2, y3⟩ := e5_pop (N := N) s2 (t := t - 3) (by rw [z5, show t - 3 + 1 = t - 2 by omega]) (by rw [pileN_of z4.1]; omega)
          have c3 := z4.trans y2
          have s3 := c3.sg sg
          have hv2w : Ww A L (rdJ h2 (pileR h2) (t - 3)) (opV ops 2) := by
            rw [pileR_of z4.1, z4.2.2.2 _ _ (fun z => z.2)]
            have := hF.op (j := 2) (by show 2 < ops.length; omega)
            rw [show t - 3 = t - 1 - 2 by omega]
            exact this
          have e36 : fX5_actGift N 128 36 0 w0 h1 = fX5_giveElement N 128 v1.toInt32 (rdJ h2 (pileR h2) (t - 3)) w0 h3 := by
            unfold fX5_actGift
            rw [if_pos (o_128 s1), if_neg (by decide), if_neg (by decide), if_neg (by decide), if_pos rfl, z2, Option.bind_some]
            dsimp only
            rw [y1, Option.bind_some]
            exact id_2
          show StR P C (msK P.ms) g h N ((fX5_actGift N 128 36 0 w0 h1).bind _) _
          rw [e36, (z7.n hv2.int).1]
          unfold fX5_giveElement fX5_elementFault
          rw [if_pos (o_128 s3), if_pos (o_128 s3), lc_if]
          have hb3 := c3.bse hb
          rcases hv3.row with x1 | ⟨ob', fl, x1, x2⟩
          · rw [x1] at hv2w ⊢
            rw [if_pos (show rdJ h2 (pileR h2) (t - 3) = 0 from hv2w.1)]
            unfold fX3_faultObject
            rw [Option.bind_some, Option.bind_some]
            dsimp only
            rw [lc_if, if_neg (show ¬ ((4294967296 : Int64) ||| ((0 : Int32) + 1).toInt64 = 0) by decide), Option.bind_some]
            show StR P C (msK P.ms) g h N (some (wO (0 + 1), h3, 0, 0)) _
            exact pre.flt (by omega) hst ho c3 (by omega) rfl rfl t1.2.2.1 j4 fkt hfs (by omega)
          · rw [x1] at hv2w ⊢
            dsimp only
            rw [if_neg (show ¬ rdJ h2 (pileR h2) (t - 3) = 0 by rw [hv2w.1]; exact wO_ne _), R_128_4 s3, Option.bind_some, show rdJ h2 (pileR h2) (t - 3) = wO (A ob') from hv2w.1, e3_has ho hb3 (hv2w.2 ob' rfl) x2, Option.bind_some, obL_get x2]
            dsimp only
            by_cases q : 0 ≤ vI (opV ops 1) ∧ vI (opV ops 1) < Int32.ofNat fl.length
            · rw [if_pos q, if_pos q, if_neg (show ¬ ((1 : Int32) = 0) by decide), Option.bind_some]
              dsimp only
              rw [if_pos ((lc0 _ _).mpr rfl), (R_128_4 s3), Option.bind_some]
              obtain ⟨n1, n2⟩ := i_ncl (Int32.not_lt.mpr q.1)
              have hlen : fl.length ≤ 11000 := (ho.2 ob' _ x2).1
              have hlt : (vI (opV ops 1)).toNatClampNeg < fl.length := by
                have := q.2
                rw [n1, iLt (by omega) (by omega)] at this
                exact this
              have := put ob' (vI (opV ops 1)).toNatClampNeg (none, fl) h3 _ (hv2w.2 ob' rfl) x2 hlt c3 (by rw [y3, show t - 3 = b + M by omega]) rfl
              rw [← n1] at this
              exact this
            · rw [if_neg q, if_neg q, if_pos rfl]
              unfold fX3_faultObject
              rw [Option.bind_some, Option.bind_some]
              dsimp only
              rw [lc_if, if_neg (show ¬ ((4294967296 : Int64) ||| ((1 : Int32) + 1).toInt64 = 0) by decide), Option.bind_some]
              show StR P C (msK P.ms) g h N (some (wO (1 + 1), h3, 0, 0)) _
              exact pre.flt (by omega) hst ho c3 (by omega) rfl rfl t1.2.2.1 j4 fkt hfs (by omega)
        · cases i3
    · obtain ⟨i1, E3, i2, i3, i4, i5⟩ := inv_ite g4
      have hp1 : P.prT i.1 E (bIte p e a' f b' r) = [mk3 1] := by
        show ((P.te i.1 E e).getD []).reverse.map mk3 = _
        rw [te_getD i1]; rfl
      rw [hp1] at q7
      have hol : ops.length = 1 := q7.len
      have hv : VT P G.1 (opV ops 0) 1 := (q7.get (j := 0) (x := mk3 1) rfl).1
      have hd1 : ops.drop 1 = [] := List.drop_eq_nil_of_le (by omega)
      obtain ⟨w0, h1, f1, f2, f3, f4⟩ := pop_v (N := N) sg h6 hF (by show 1 ≤ ops.length; omega)
      have f4 : Ww A L w0 (opV ops 0) := f4
      have s1 := f2.sg sg
      have hw0 := (f4.n (hv.n01 (Or.inr rfl))).2
      have ex : exL (bIte p e a' f b' r) = cl e := rfl
      have es : slL (bIte p e a' f b' r) = cl e + 1 + cb a' + 1 + (if f = 1 then cb b' + 1 else 0) := rfl
      rw [ex] at j1
      rw [es] at j4
      have j2' := j2
      rw [TC_ite] at j2
      obtain ⟨-, ta, tf⟩ := j2
      rw [← j1] at ta tf
      have t38 : rd g 39 pc = 38 := by
        split at tf
        · exact tf.1.1
        · exact tf.1.1
      rw [t38, actK_work hb.1 hp31 (by simp)]
      unfold fX5_actWork
      rw [if_pos (o_128 sg), if_pos rfl]
      unfold fX5_actWork_36
      rw [f1, Option.bind_some]
      dsimp only
      rw [lc_if, hw0]
      show StR P C (msK P.ms) g h N _ (G, .inl ((i, lo, ops.drop 1, E, [], (0, E, if vI (opV ops 0) ≠ 0 then a' else b', false) :: (2, P.nxE i.1 (P.mty i.2.1) (bIte p e a' f b' r) E, nl, false) :: ks) :: fs))
      rw [hd1]
      have c1 : Cg (fun k => k = 6 ∨ k = 12) (fun _ => False) (fun _ => False) h h1 := f2.cg (Or.inl rfl)
      by_cases hz : vI (opV ops 0) = 0
      · rw [if_pos ((wN_eq0 _).mpr hz), if_neg (fun y => y hz)]
        have key : ∀ u, rd g 42 pc = Int32.ofNat u → (∃ oo s, XC P C i.1 E g oo [] u s ∧ KC P C i.1 (P.mty i.2.1) M X (msK P.ms) g ((0, E, b', false) :: (2, P.nxE i.1 (P.mty i.2.1) (bIte p e a' f b' r) E, nl, false) :: ks) s oo) → StR P C (msK P.ms) g h N (((putI h1 128 5 12 (rd g 42 pc)).bind fun h3 => some ((0 : Int64), h3)).bind fun q => some (q.1, q.2, 0, 0)) (G, .inl ((i, lo, [], E, [], (0, E, b', false) :: (2, P.nxE i.1 (P.mty i.2.1) (bIte p e a' f b' r) E, nl, false) :: ks) :: fs)) := fun u hu hcd => by
          have c2 := c1.trans (Cg.wr (Z := fun _ => False) (T := fun _ => False) h1 12 (Int32.ofNat u) (Or.inr rfl))
          rw [hu, p_128_12 s1, Option.bind_some, Option.bind_some]
          refine dn_cg (pc' := u) pre c2 (fun k z => z) (fun k z => z.elim) ?_ (w_128_12 s1 _) hM (fun j v hj => ?_) hcd
          · rw [rd_wr_ne _ _ (by omega), f3, show t - 1 = b + M by omega]
          · rw [rdJ_wr, f2.2.2.2 _ _ (fun z => z.2)]; exact hlow j v hj
        by_cases hf1 : f = 1
        · rw [if_pos hf1] at tf j4
          refine key _ tf.1.2.1 ⟨o, _, rfl, ?_⟩
          rw [KC_0, KC_2]
          refine ⟨tf.2.2.1, _, Or.inl ⟨Or.inr (Or.inl tf.2.2.2.1.1), rfl⟩, ?_⟩
          rw [show pc + 1 + cb a' + 1 + cb b' + 1 = s0 + (cl e + 1 + cb a' + 1 + (cb b' + 1)) by omega]
          exact j4
        · rw [if_neg hf1] at tf j4
          have hbn : b' = nl := by
            rcases hff with y | y
            · exact absurd y hf1
            · exact y.2
          refine key _ tf.1.2.1 ⟨o, _, rfl, ?_⟩
          rw [KC_0, KC_2, hbn]
          refine ⟨trivial, _, Or.inl ⟨Or.inl ?_, rfl⟩, ?_⟩
          · rw [cb_nl, Nat.add_zero]; exact tf.2.1.1
          · rw [cb_nl, show pc + 1 + cb a' + 0 + 1 = s0 + (cl e + 1 + cb a' + 1 + 0) by omega]
            exact j4
      · rw [if_neg (fun y => hz ((wN_eq0 _).mp y)), if_pos hz, Option.bind_some]
        refine dn_cg (pc' := pc + 1) pre c1 (fun k z => z) (fun k z => z.elim) (by rw [f3, show t - 1 = b + M by omega]) (by rw [f2.2.2.1 _ _ (by omega)]; exact h12) hM (fun j v hj => by rw [f2.2.2.2 _ _ (fun z => z.2)]; exact hlow j v hj) ⟨o, pc + 1, rfl, ?_⟩
        rw [KC_0, KC_2]
        refine ⟨ta, ?_⟩
        by_cases hf1 : f = 1
        · rw [if_pos hf1] at tf j4
          refine ⟨_, Or.inr ⟨_, Or.inl tf.2.1.1, tf.2.1.2, Or.inl tf.2.2.2.1.1, by omega, rfl⟩, ?_⟩
          rw [show pc + 1 + cb a' + 1 + cb b' + 1 = s0 + (cl e + 1 + cb a' + 1 + (cb b' + 1)) by omega]
          exact j4
        · rw [if_neg hf1] at tf j4
          refine ⟨_, Or.inl ⟨Or.inl tf.2.1.1, rfl⟩, ?_⟩
          rw [show pc + 1 + cb a' + 1 = s0 + (cl e + 1 + cb a' + 1 + 0) by omega]
          exact j4
    · obtain ⟨i1, E3, i2, i3, i5⟩ := inv_whil g4
      have hp1 : P.prT i.1 E (bWhil p e a' r) = [mk3 1] := by
        show ((P.te i.1 E e).getD []).reverse.map mk3 = _
        rw [te_getD i1]; rfl
      rw [hp1] at q7
      have hol : ops.length = 1 := q7.len
      have hv : VT P G.1 (opV ops 0) 1 := (q7.get (j := 0) (x := mk3 1) rfl).1
      have hd1 : ops.drop 1 = [] := List.drop_eq_nil_of_le (by omega)
      obtain ⟨w0, h1, f1, f2, f3, f4⟩ := pop_v (N := N) sg h6 hF (by show 1 ≤ ops.length; omega)
      have f4 : Ww A L w0 (opV ops 0) := f4
      have s1 := f2.sg sg
      have hw0 := (f4.n (hv.n01 (Or.inr rfl))).2
      have ex : exL (bWhil p e a' r) = cl e := rfl
      have es : slL (bWhil p e a' r) = cl e + 1 + cb a' + 1 := rfl
      rw [ex] at j1
      rw [es] at j4
      have j2' := j2
      rw [TC_whil] at j2
      obtain ⟨-, ta, t39, t57, -⟩ := j2
      rw [← j1] at ta t39 t57
      rw [t39.1, actK_work hb.1 hp31 (by simp)]
      unfold fX5_actWork
      rw [if_pos (o_128 sg), if_neg (by decide), if_pos rfl]
      unfold fX5_actWork_36
      rw [f1, Option.bind_some]
      dsimp only
      rw [lc_if, hw0]
      show StR P C (msK P.ms) g h N _ (if vI (opV ops 0) ≠ 0 then (G, .inl ((i, lo, ops.drop 1, E, [], (0, E, a', false) :: (3, E, bWhil p e a' r, false) :: ks) :: fs)) else (G, .inl ((i, lo, ops.drop 1, E, [], ks) :: fs)))
      rw [hd1]
      have c1 : Cg (fun k => k = 6 ∨ k = 12) (fun _ => False) (fun _ => False) h h1 := f2.cg (Or.inl rfl)
      by_cases hz : vI (opV ops 0) = 0
      · rw [if_pos ((wN_eq0 _).mpr hz), if_neg (fun y => y hz)]
        have c2 := c1.trans (Cg.wr (Z := fun _ => False) (T := fun _ => False) h1 12 (Int32.ofNat (pc + 1 + cb a' + 1)) (Or.inr rfl))
        rw [t39.2.1, p_128_12 s1, Option.bind_some, Option.bind_some]
        refine dn_cg (pc' := pc + 1 + cb a' + 1) pre c2 (fun k z => z) (fun k z => z.elim) ?_ (w_128_12 s1 _) hM (fun j v hj => ?_) ⟨o, _, rfl, ?_⟩
        · rw [rd_wr_ne _ _ (by omega), f3, show t - 1 = b + M by omega]
        · rw [rdJ_wr, f2.2.2.2 _ _ (fun z => z.2)]; exact hlow j v hj
        · rw [show pc + 1 + cb a' + 1 = s0 + (cl e + 1 + cb a' + 1) by omega]
          exact j4
      · rw [if_neg (fun y => hz ((wN_eq0 _).mp y)), if_pos hz, Option.bind_some]
        refine dn_cg (pc' := pc + 1) pre c1 (fun k z => z) (fun k z => z.elim) (by rw [f3, show t - 1 = b + M by omega]) (by rw [f2.2.2.1 _ _ (by omega)]; exact h12) hM (fun j v hj => by rw [f2.2.2.2 _ _ (fun z => z.2)]; exact hlow j v hj) ⟨o, pc + 1, rfl, ?_⟩
        rw [KC_0, KC_3]
        refine ⟨ta, s0, t57.1, t57.2, ?_, j2', j4⟩
        rw [es]
        omega
    · cases g1
