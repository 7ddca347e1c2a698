/-! ===== THE CLASS' STEPS: expressions ===== -/
def actK (N : Nat) (t5 t12 : Int32) (h9 : pH) : Option (Int64 × pH × Nat × Nat) :=
  if (8 : Int32) < t12 then (
  if t12 = (13 : Int32) then (
  fX5_act_67 N 128 t5 t12 0 0 h9) else (
  if t12 = (14 : Int32) then (
  fX5_act_67 N 128 t5 t12 0 0 h9) else (
  if (16 : Int32) < t12 then (
  if (27 : Int32) < t12 then (
  if (29 : Int32) < t12 then (
  if t12 = (30 : Int32) then (
  (getR h9 128 5 2).bind fun t30 =>
  (getR h9 t30 2 1).bind fun t31 =>
  (ldI h9 t31 t5).bind fun t32 =>
  (getR h9 128 5 2).bind fun t33 =>
  (getR h9 t33 2 2).bind fun t34 =>
  (ldI h9 t34 t5).bind fun t35 =>
  (fX5_call N 128 t32 t35 h9).bind fun q36 =>
  some (q36.1, q36.2.1, (0 + q36.2.2.1), (0 + q36.2.2.2))) else (
  if (37 : Int32) < t12 then (
  (getR h9 128 5 2).bind fun t21 =>
  (getR h9 t21 2 3).bind fun t22 =>
  (ldI h9 t22 t5).bind fun t23 =>
  (fX5_actWork N 128 t12 t23 h9).bind fun q24 =>
  some (q24.1, q24.2, 0, 0)) else (
  (getR h9 128 5 2).bind fun t25 =>
  (getR h9 t25 2 1).bind fun t26 =>
  (ldI h9 t26 t5).bind fun t27 =>
  (fX5_pop N 128 h9).bind fun q28 =>
  (fX5_actGift N 128 t12 t27 q28.1 q28.2).bind fun q29 =>
  some (q29.1, q29.2, 0, 0)))) else (
  (getR h9 128 5 2).bind fun t37 =>
  (getR h9 t37 2 3).bind fun t38 =>
  (ldI h9 t38 t5).bind fun t39 =>
  (fX5_actJoin N 128 t12 t39 h9).bind fun q40 =>
  some (q40.1, q40.2, 0, 0))) else (
  (fX5_pop N 128 h9).bind fun q41 =>
  (fX5_actSign N 128 t12 q41.1 q41.2).bind fun q42 =>
  some (q42.1, q42.2, 0, 0))) else (
  (getR h9 128 5 2).bind fun t43 =>
  (getR h9 t43 2 1).bind fun t44 =>
  (ldI h9 t44 t5).bind fun t45 =>
  (fX5_actPart N 128 t12 t45 h9).bind fun q46 =>
  some (q46.1, q46.2, 0, 0))))) else (
  (getR h9 128 5 2).bind fun t47 =>
  (getR h9 t47 2 1).bind fun t48 =>
  (ldI h9 t48 t5).bind fun t49 =>
  (fX5_actValue N 128 t12 t49 h9).bind fun q50 =>
  some (q50.1, q50.2, 0, 0))
def h9H (h : pH) (n pc : Nat) : pH := wr (wr h 133 n (Int32.ofNat pc)) 128 12 (Int32.ofNat (pc + 1))
theorem act_pre {g h : pH} {N n pc : Nat} (st : StC g h) (h11 : rd h 128 11 = Int32.ofNat (n + 1)) (h12 : rd h 128 12 = Int32.ofNat pc) (hn : n < 100) (hp : pc < 3100) : fX5_act N 128 h = actK N (Int32.ofNat pc) (rd g 39 pc) (h9H h n pc) := by
  have sg := st.1
  have s1 := sg.wr 133 n (Int32.ofNat pc)
  have s2 := s1.wr 128 12 (Int32.ofNat (pc + 1))
  unfold fX5_act h9H
  rw [if_pos (o_128 sg), g_128_12 sg, Option.bind_some, R_128_7 sg, Option.bind_some, g_128_11 sg, Option.bind_some, h11, h12, i_sub1, T_133 sg hn, Option.bind_some, i_add1, p_128_12 s1, Option.bind_some, R_128_2 s2, Option.bind_some, R_38_0 s2, Option.bind_some, L_39 s2 hp, Option.bind_some, rd_wr_ne _ _ (by omega), rd_wr_ne _ _ (by omega), st.2 39 pc (by omega) (by omega)]
  unfold actK
  rw [R_128_2 s2]
theorem h9_cg {h : pH} {n pc : Nat} (sg : Sg h) : Cg (fun k => k = 12) (fun k => k = n) (fun _ => False) h (h9H h n pc) ∧ rd (h9H h n pc) 133 n = Int32.ofNat pc ∧ rd (h9H h n pc) 128 12 = Int32.ofNat (pc + 1) := by
  have c1 : Cg (fun k => k = 12) (fun k => k = n) (fun _ => False) h (wr h 133 n (Int32.ofNat pc)) := ⟨fun b => sh_wr _ _ _ _ b, wr_len _ _ _ _, fun a j _ n' => rd_wr_ne _ _ (fun z => n' ⟨z.1.symm, z.2.symm⟩), fun a j _ => rdJ_wr _ _ _ _ _ _⟩
  have s1 := c1.sg sg
  refine ⟨c1.trans (Cg.wr _ 12 _ rfl), ?_, w_128_12 s1 _⟩
  unfold h9H
  rw [rd_wr_ne _ _ (by omega), W_133 sg]
theorem StR.of {P : Pgm} {C : Cx} {U : Nat} {g h h9 : pH} {N : Nat} {r : Option (Int64 × pH × Nat × Nat)} {σ : Mst} (c : Out h h9) (q : StR P C U g h9 N r σ) : StR P C U g h N r σ := by
  obtain ⟨w, h1, nc, ns, e1, e2⟩ := q
  refine ⟨w, h1, nc, ns, e1, ?_⟩
  have hp : ∀ h', Pot h9 h' nc ns → Pot h h' nc ns := fun h' z => ⟨z.1, by rw [← c.2]; exact z.2⟩
  have ho : ∀ h', OutG h9 h' → OutG h h' := fun h' z a k ha => (z a k ha).trans (c.1 a k ha)
  rcases e2 with ⟨e2, pc, e3, e4, e5⟩ | ⟨e2, h2, pc, e3, e4, e5, e6⟩
  · exact Or.inl ⟨e2, pc, e3, ho _ e4, hp _ e5⟩
  · exact Or.inr ⟨e2, h2, pc, e3, e4, ho _ e5, hp _ e6⟩
/-- the class stands ahead of a step: all that is known then -/
def Pre (P : Pgm) (C : Cx) (g h : pH) (G : Gs) (A : Nat → Nat) (L : List Nat) (f : Fm) (fs : List Fm) (b t M X pc : Nat) : Prop := Bse g G A L h ∧ rd h 128 13 = 0 ∧ rd h 128 14 = 0 ∧ rd h 128 6 = Int32.ofNat t ∧ rd h 128 11 = Int32.ofNat (fs.length + 1) ∧ rd h 128 12 = Int32.ofNat (pc + 1) ∧ rd h 133 fs.length = Int32.ofNat pc ∧ pc < msK P.ms ∧ FrK A L h g fs.length f b t M X 0 ∧ LwC P C (msK P.ms) g A L h fs (b - 1) f.1.2.2
/-- a word, and it goes on -/
theorem val_st {P : Pgm} {C : Cx} {g h : pH} {G : Gs} {A : Nat → Nat} {L : List Nat} {i : Nat × Nat × Nat} {lo : List Vl} {ops : List (Bool × Vl)} {E E' : EnvV} {xs0 xs : List Xi} {ks0 ks : List Si} {fs : List Fm} {b t M X pc d N : Nat} {z : Bool} {v : Vl} {o : Int32} {r : Option (Int64 × pH)} (pre : Pre P C g h G A L (i, lo, ops, E, xs0, ks0) fs b t M X pc) (hd : d ≤ ops.length) (hv : VaR A L h (t - d) v r) (hx : XH xs (ops.length - d + 1) X) (hcd : ∃ s, XC P C i.1 E' g o xs (pc + 1) s ∧ KC P C i.1 (P.mty i.2.1) M X (msK P.ms) g ks s o) : StR P C (msK P.ms) g h N (r.bind fun q => some (q.1, q.2, 0, 0)) (G, .inl ((i, lo, (z, v) :: ops.drop d, E', xs, ks) :: fs)) := by
  obtain ⟨hb, h13, h14, h6, h11, h12, h133, hpU, hF, hL⟩ := pre
  obtain ⟨h1, e1, e2, e3, e4⟩ := hv
  have sg := hb.1.1
  have cg : Cg (fun k => k = 6) (fun _ => False) (fun k => k = t - d) h h1 := e2.cg rfl
  have k9 : t = b + M + ops.length := hF.2.2.2.2.2.2.2.2.1
  have hb1 := hF.2.2.2.1
  refine ⟨0, h1, 0, 0, by rw [e1, Option.bind_some], Or.inl ⟨rfl, pc + 1, ⟨t - d + 1, ?_, ?_, A, L, cg.bse (fun k z => Or.inl z) hb, b, M, X, o, ?_, hcd, ?_, e3, ?_, ?_⟩, cg.out.1, cg.out.pot⟩⟩
  · rw [e2.2.2.1 _ _ (by omega)]; exact h13
  · rw [e2.2.2.1 _ _ (by omega)]; exact h14
  · have hF2 := hF.drop (E' := E) (xs' := []) (ks' := ks) (pre' := 0) d hd (by show _ ≤ X; have := XH.le hx; omega)
    refine (hF2.ag (cg.pg (n := fs.length) (t := t - d) (fun _ z => z.elim) (fun k z => Nat.le_of_eq z.symm) sg) (Nat.le_refl _)).push ?_ ?_
    · rw [pileR_of e2.1]; exact e4
    · rw [List.length_drop, Nat.zero_add]; exact hx
  · exact hL.ag (cg.pg (n := fs.length) (t := b) (fun _ z => z.elim) (fun k z => by omega) sg) (Nat.le_refl _) (by omega)
  · rw [e2.2.2.1 _ _ (by omega)]; exact h11
  · rw [e2.2.2.1 _ _ (by omega)]; exact h12
theorem Pre.at {P : Pgm} {C : Cx} {g h : pH} {G : Gs} {A : Nat → Nat} {L : List Nat} {f : Fm} {fs : List Fm} {b t M X pc s : Nat} {o : Int32} (pre : Pre P C g h G A L f fs b t M X pc) {f' : Fm} (h1 : f'.1 = f.1) (h2 : f'.2.1 = f.2.1) (e45 : rd g 45 pc = o) (hk : KC P C f.1.1 (P.mty f.1.2.1) M X (msK P.ms) g f'.2.2.2.2.2 s o) : AtT P C (msK P.ms) g A L h f' fs := by
  obtain ⟨hb, h13, h14, h6, h11, h12, h133, hpU, hF, hL⟩ := pre
  have hF2 := hF.bare
  refine ⟨b, M, X, pc, o, s, ?_, h133, hpU, e45, by rw [h1]; exact hk, by rw [h1]; exact hL⟩
  rw [h1, h2]
  obtain ⟨j1, j2, j3, j4, j5, j6, j7, j8, j9, j10, j11, j12, j13, j14⟩ := hF2
  exact ⟨j1, j2, j3, j4, j5, j6, j7, j8, j9, j10, j11, j12, j13, j14⟩
theorem Pre.flt {P : Pgm} {S : Tks} {C : Cx} {D : List Int32 → Prop} {num : List Int32 → Nat} {N : Nat} {g h h1 : pH} {G : Gs} {A : Nat → Nat} {L : List Nat} {f f' : Fm} {fs : List Fm} {b t M X pc s n : Nat} {o : Int32} (hN : 1100 ≤ N) (hst : Stc P S C D num g) (ho : HO P G.1) (pre : Pre P C g h G A L f fs b t M X pc) (hc : Ch (fun _ => False) h h1) (hn5 : n < 5) (e1 : f'.1 = f.1) (e2 : f'.2.1 = f.2.1) (e45 : rd g 45 pc = o) (hk : KC P C f.1.1 (P.mty f.1.2.1) M X (msK P.ms) g f'.2.2.2.2.2 s o) (fk : FK P S G.1 f') (hfs : FsT P S G.1 fs [mk3 (P.mty f.1.2.1)]) (hn : fs.length < 100) : StR P C (msK P.ms) g h N (some (wO (n + 1), h1, 0, 0)) (P.thr G n (f' :: fs)) := flt_st hN hst pre.1 hc pre.2.1 pre.2.2.1 pre.2.2.2.2.1 ho hn5 (pre.at e1 e2 e45 hk) fk ⟨_, hfs⟩ hn
/-- the next of the input -/
theorem e4_next {g h : pH} {G : Gs} {A : Nat → Nat} {L : List Nat} {N : Nat} (hb : Bse g G A L h) : ∃ h1, fX4_next N 126 h = some (G.2.1.headD 0, h1) ∧ Bse g (G.1, G.2.1.tail, G.2.2) A L h1 ∧ (∀ b, sh h1 b = sh h b) ∧ (∀ a k, a ≠ 126 → rd h1 a k = rd h a k) ∧ ∀ a k, rdJ h1 a k = rdJ h a k := by
  have sg := hb.1.1
  obtain ⟨b1, b2, b3, b4, b5, z, b6, b7, b8, b9, b10⟩ := hb.2.2.1
  unfold fX4_next
  rw [if_pos (o_126 sg), g_126_2 sg, Option.bind_some, b8]
  match hi : G.2.1, b8, b9, b10 with
  | [], b8, b9, b10 =>
    rw [if_pos (by rfl)]
    refine ⟨h, rfl, ⟨hb.1, hb.2.1, ⟨b1, b2, b3, b4, b5, z, b6, b7, b8, by show 0 ≤ 300; omega, fun j x hj => by cases hj⟩, hb.2.2.2⟩, fun _ => rfl, fun _ _ _ => rfl, fun _ _ => rfl⟩
  | x :: l, b8, b9, b10 =>
    rw [List.length_cons] at b8 b9
    rw [List.length_cons, if_neg (by rw [iZ (by omega)]; omega), R_126_0 sg, Option.bind_some, g_126_1 sg, Option.bind_some, b6, L_127 sg b7, Option.bind_some]
    have e0 := b10 0 x rfl
    rw [Nat.add_zero, Nat.mod_eq_of_lt b7] at e0
    have emod : Int32.ofNat z + 1 - (Int32.ofNat z + 1) / 300 * 300 = Int32.ofNat ((z + 1) % 300) := by
      have : ∀ z, z < 300 → Int32.ofNat z + 1 - (Int32.ofNat z + 1) / 300 * 300 = Int32.ofNat ((z + 1) % 300) := by decide +kernel
      exact this z b7
    have s1 := sg.wr 126 1 (Int32.ofNat ((z + 1) % 300))
    have hm : (z + 1) % 300 < 300 := Nat.mod_lt _ (by omega)
    refine ⟨wr (wr h 126 1 (Int32.ofNat ((z + 1) % 300))) 126 2 (Int32.ofNat l.length), ?_, ⟨⟨s1.wr _ _ _, fun a k x1 x2 => by rw [rd_wr_ne _ _ (by omega), rd_wr_ne _ _ (by omega)]; exact hb.1.2 a k x1 x2⟩, fun i hi => by rw [rdJ_wr, rdJ_wr, rdJ_wr, rdJ_wr]; exact hb.2.1 i hi, ⟨?_, ?_, ?_, ?_, fun j x h1 h2 => ?_, (z + 1) % 300, ?_, hm, w_126_2 s1 _, by show l.length ≤ 300; omega, fun j x hj => ?_⟩, ?_⟩, fun b => (sh_wr _ _ _ _ b).trans (sh_wr _ _ _ _ b), fun a k ha => by rw [rd_wr_ne _ _ (by omega), rd_wr_ne _ _ (by omega)], fun a k => by rw [rdJ_wr, rdJ_wr]⟩
    · rw [e0]
      simp only [Option.bind_some]
      rw [emod, p_126_1 sg, Option.bind_some, g_126_2 s1, Option.bind_some, rd_wr_ne _ _ (by omega), b8, i_sub1, p_126_2 s1, Option.bind_some]
      rfl
    · rw [rd_wr_ne _ _ (by omega), rd_wr_ne _ _ (by omega)]; exact b1
    · rw [rd_wr_ne _ _ (by omega), rd_wr_ne _ _ (by omega)]; exact b2
    · rw [rd_wr_ne _ _ (by omega), rd_wr_ne _ _ (by omega)]; exact b3
    · rw [rd_wr_ne _ _ (by omega), rd_wr_ne _ _ (by omega)]; exact b4
    · rw [rd_wr_ne _ _ (by omega), rd_wr_ne _ _ (by omega)]; exact b5 j x h1 h2
    · rw [rd_wr_ne _ _ (by omega), w_126_1 sg]
    · have := b10 (j + 1) x hj
      rw [rd_wr_ne _ _ (by omega), rd_wr_ne _ _ (by omega), show ((z + 1) % 300 + j) % 300 = (z + (j + 1)) % 300 by omega]
      exact this
    · obtain ⟨p1, p2, p3, p4, p5, p6, p7⟩ := hb.2.2.2
      have ec : cR (wr (wr h 126 1 (Int32.ofNat ((z + 1) % 300))) 126 2 (Int32.ofNat l.length)) = cR h := cR_of (fun b => (sh_wr _ _ _ _ b).trans (sh_wr _ _ _ _ b))
      refine ⟨p1, p2, by rw [rd_wr_ne _ _ (by omega), rd_wr_ne _ _ (by omega)]; exact p3, p4, p5, by rw [rd_wr_ne _ _ (by omega), rd_wr_ne _ _ (by omega)]; exact p6, fun i hi ob hob => ?_⟩
      obtain ⟨c1, c2, c3⟩ := p7 i hi ob hob
      rw [ec]
      exact ⟨by rw [rdJ_wr, rdJ_wr]; exact c1, by rw [rdJ_wr, rdJ_wr]; exact c2, fun j v hj => by rw [rdJ_wr, rdJ_wr]; exact c3 j v hj⟩
theorem FsT.fo {P : Pgm} {S : Tks} {hp : List Ob} (h1000 : P.ms.length ≤ 1000) : ∀ {fs : List Fm} {pre : List (Bool × Nat)}, FsT P S hp fs pre → ∀ f, f ∈ fs → f.1.2.1 < 1000 ∧ f.2.2.1.length ≤ 1999
  | [], _, _, f, hf => by cases hf
  | f0 :: fs, pre, h, f, hf => by
    rcases List.mem_cons.mp hf with rfl | hf
    · obtain ⟨⟨⟨b, hb, _⟩, h2, h3, h4, h5, h6, h7, h8, h9⟩, _⟩ := h
      have := (List.getElem?_eq_some_iff.mp hb).1
      have := XH.le h8
      omega
    · exact FsT.fo h1000 h.2 f hf
