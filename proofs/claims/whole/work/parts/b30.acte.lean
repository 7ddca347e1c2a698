/-! ===== THE CLASS' STEPS: expressions, all ===== -/
section AK
variable {g h : pH} {N pc : Nat} {k : Int32}
theorem actK_dsp (st : StC g h) (hp : pc < 3100) (k1 : k ≠ 13) (k2 : k ≠ 14) (k3 : ¬ (27 : Int32) < k) : actK N (Int32.ofNat pc) k h = (dsp N k (rd g 40 pc) h).bind fun q => some (q.1, q.2, 0, 0) := by
  have sg := st.1
  unfold actK dsp
  by_cases h8 : (8 : Int32) < k
  · rw [if_pos h8, if_pos h8, if_neg k1, if_neg k2]
    by_cases h16 : (16 : Int32) < k
    · rw [if_pos h16, if_pos h16, if_neg k3]
      cases fX5_pop N 128 h with
      | none => rfl
      | some q => rfl
    · rw [if_neg h16, if_neg h16, R_128_2 sg, Option.bind_some, R_38_1 sg, Option.bind_some, L_40 sg hp, Option.bind_some, st.2 40 pc (by omega) (by omega)]
  · rw [if_neg h8, if_neg h8, R_128_2 sg, Option.bind_some, R_38_1 sg, Option.bind_some, L_40 sg hp, Option.bind_some, st.2 40 pc (by omega) (by omega)]
theorem actK_mk (st : StC g h) (hp : pc < 3100) (k1 : k = 13 ∨ k = 14) : actK N (Int32.ofNat pc) k h = (fX5_make N 128 k (rd g 40 pc) h).bind fun q => some (q.1, q.2, 0, 0) := by
  have sg := st.1
  have e : fX5_act_67 N 128 (Int32.ofNat pc) k 0 0 h = (fX5_make N 128 k (rd g 40 pc) h).bind fun q => some (q.1, q.2, 0, 0) := by
    unfold fX5_act_67
    rw [R_128_2 sg, Option.bind_some, R_38_1 sg, Option.bind_some, L_40 sg hp, Option.bind_some, st.2 40 pc (by omega) (by omega)]
  unfold actK
  rcases k1 with rfl | rfl
  · rw [if_pos (by decide), if_pos rfl]; exact e
  · rw [if_pos (by decide), if_neg (by decide), if_pos rfl]; exact e
theorem actK_call (st : StC g h) (hp : pc < 3100) : actK N (Int32.ofNat pc) 30 h = fX5_call N 128 (rd g 40 pc) (rd g 41 pc) h := by
  have sg := st.1
  unfold actK
  rw [if_pos (by decide), if_neg (by decide), if_neg (by decide), if_pos (by decide), if_pos (by decide), if_pos (by decide), if_pos rfl, R_128_2 sg]
  simp only [Option.bind_some]
  rw [R_38_1 sg, Option.bind_some, L_40 sg hp, Option.bind_some, R_38_2 sg, Option.bind_some, L_41 sg hp, Option.bind_some, st.2 40 pc (by omega) (by omega), st.2 41 pc (by omega) (by omega)]
  cases fX5_call N 128 (rd g 40 pc) (rd g 41 pc) h with
  | none => rfl
  | some q =>
    obtain ⟨q1, q2, q3, q4⟩ := q
    simp only [Option.bind_some, Nat.zero_add]
theorem actK_join (st : StC g h) (hp : pc < 3100) (k1 : k = 28 ∨ k = 29) : actK N (Int32.ofNat pc) k h = (fX5_actJoin N 128 k (rd g 42 pc) h).bind fun q => some (q.1, q.2, 0, 0) := by
  have sg := st.1
  unfold actK
  rcases k1 with rfl | rfl
  · rw [if_pos (by decide), if_neg (by decide), if_neg (by decide), if_pos (by decide), if_pos (by decide), if_neg (by decide), R_128_2 sg, Option.bind_some, R_38_3 sg, Option.bind_some, L_42 sg hp, Option.bind_some, st.2 42 pc (by omega) (by omega)]
  · rw [if_pos (by decide), if_neg (by decide), if_neg (by decide), if_pos (by decide), if_pos (by decide), if_neg (by decide), R_128_2 sg, Option.bind_some, R_38_3 sg, Option.bind_some, L_42 sg hp, Option.bind_some, st.2 42 pc (by omega) (by omega)]
theorem actK_work (st : StC g h) (hp : pc < 3100) (k1 : k = 38 ∨ k = 39 ∨ k = 40 ∨ k = 41 ∨ k = 42 ∨ k = 43) : actK N (Int32.ofNat pc) k h = (fX5_actWork N 128 k (rd g 42 pc) h).bind fun q => some (q.1, q.2, 0, 0) := by
  have sg := st.1
  unfold actK
  rcases k1 with rfl | rfl | rfl | rfl | rfl | rfl <;> rw [if_pos (by decide), if_neg (by decide), if_neg (by decide), if_pos (by decide), if_pos (by decide), if_pos (by decide), if_neg (by decide), if_pos (by decide), R_128_2 sg, Option.bind_some, R_38_3 sg, Option.bind_some, L_42 sg hp, Option.bind_some, st.2 42 pc (by omega) (by omega)]
theorem actK_gift (st : StC g h) (hp : pc < 3100) (k1 : k = 32 ∨ k = 33 ∨ k = 35 ∨ k = 36 ∨ k = 37) : actK N (Int32.ofNat pc) k h = (fX5_pop N 128 h).bind fun q28 => (fX5_actGift N 128 k (rd g 40 pc) q28.1 q28.2).bind fun q => some (q.1, q.2, 0, 0) := by
  have sg := st.1
  unfold actK
  rcases k1 with rfl | rfl | rfl | rfl | rfl <;> rw [if_pos (by decide), if_neg (by decide), if_neg (by decide), if_pos (by decide), if_pos (by decide), if_pos (by decide), if_neg (by decide), if_neg (by decide), R_128_2 sg, Option.bind_some, R_38_1 sg, Option.bind_some, L_40 sg hp, Option.bind_some, st.2 40 pc (by omega) (by omega)]
end AK
theorem i_ncl {x : Int32} (h : ¬ x < 0) : x = Int32.ofNat x.toNatClampNeg ∧ x.toNatClampNeg < 2 ^ 31 := by
  have h1 := Int32.not_lt.mp h
  rw [Int32.le_iff_toInt_le] at h1
  have h0 : (0 : Int32).toInt = 0 := rfl
  have hl := Int32.toInt_lt x
  have h2 : x.toNatClampNeg < 2 ^ 31 := by
    unfold Int32.toNatClampNeg
    omega
  refine ⟨?_, h2⟩
  apply Int32.toInt_inj.mp
  rw [Int32.toInt_ofNat_of_lt h2]
  unfold Int32.toNatClampNeg
  omega
theorem pcK_nm {P : Pgm} {c k w : Nat} {E : EnvV} {l : List Nat} {a : Int32} (h6 : k ≠ 6) (h9 : k ≠ 9) (h13 : k ≠ 13) (h15 : k ≠ 15) (h16 : k ≠ 16) : P.pcK c E k w l a = (Int32.ofNat k, a) := by
  unfold Pgm.pcK
  rw [if_neg h6, if_neg h9, if_neg (by omega)]
theorem dfl_v (t : Nat) : dfl t = .inl 0 ∨ dfl t = .inr none := by
  unfold dfl
  split
  · exact Or.inl rfl
  · exact Or.inr rfl
theorem pcK_27 {P : Pgm} {c k v w : Nat} {E : EnvV} {l : List Nat} {a : Int32} (hk : kOk k v l) (h13 : k ≠ 13) (h14 : k ≠ 14) (h30 : k ≠ 30) : (P.pcK c E k w l a).1 ≠ 13 ∧ (P.pcK c E k w l a).1 ≠ 14 ∧ ¬ (27 : Int32) < (P.pcK c E k w l a).1 := by
  have hk := hk.1
  have hb : ∀ j, j ≤ 27 → j ≠ 13 → j ≠ 14 → Int32.ofNat j ≠ 13 ∧ Int32.ofNat j ≠ 14 ∧ ¬ (27 : Int32) < Int32.ofNat j := by decide
  unfold Pgm.pcK
  split
  · unfold Pgm.nmK
    split
    · exact hb 7 (by omega) (by omega) (by omega)
    · exact hb 8 (by omega) (by omega) (by omega)
  · split
    · unfold Pgm.dotK
      split
      · exact hb 11 (by omega) (by omega) (by omega)
      · exact hb 10 (by omega) (by omega) (by omega)
    · split
      · exact hb k (by omega) h13 h14
      · exact hb k (by omega) h13 h14
theorem actX_cls {P : Pgm} {S : Tks} {C : Cx} {D : List Int32 → Prop} {num : List Int32 → Nat} {N : Nat} {g h : pH} {G : Gs} {A : Nat → Nat} {L : List Nat} {i : Nat × Nat × Nat} {lo : List Vl} {ops : List (Bool × Vl)} {E : EnvV} {xs : List Xi} {ks : List Si} {fs : List Fm} {b t M X pc k v w s : Nat} {z : Bool} {l : List Nat} {o : Int32} (hN : 12000 ≤ N) (hst : Stc P S C D num g) (ho : HO P G.1) (pre : Pre P C g h G A L (i, lo, ops, E, .inl (k, v, w, z, l) :: xs, ks) fs b t M X pc) (hf : FT P S G.1 (i, lo, ops, E, .inl (k, v, w, z, l) :: xs, ks) []) (hfs : FsT P S G.1 fs [mk3 (P.mty i.2.1)]) (hl1 : fs.length + 1 ≤ 100) (h50 : k ≠ 50) (h51 : k ≠ 51) (y1 : Rp P C i.1 E g pc k v w l) (y2 : Qo C o g pc k v w 0) (y3 : XC P C i.1 E g o xs (pc + 1) s) (x2 : KC P C i.1 (P.mty i.2.1) M X (msK P.ms) g ks s o) : StR P C (msK P.ms) g h N (actK N (Int32.ofNat pc) (rd g 39 pc) h) (P.actX G i lo ops E k v w l xs ks fs) := by
  obtain ⟨hb, h13, h14, h6, h11, h12, h133, hpU, hF, hL⟩ := id pre
  have hP := hst.1
  obtain ⟨ha, hB, p5, p3, hrest⟩ := id hP
  have sg := hb.1.1
  have hU := hst.2.2.2
  have hp31 : pc < 3100 := by omega
  have fk := hf.fk
  have hlo : LoT P G.1 E lo := hf.2.2.2.2.1
  have hfo : ∀ f', f' ∈ (i, lo, ops, E, .inl (k, v, w, z, l) :: xs, ks) :: fs → f'.1.2.1 < 1000 ∧ f'.2.2.1.length ≤ 1999 := FsT.fo hrest.2.1 (pre := []) ⟨hf, hfs⟩
  have hf0 : i.2.1 < 1000 ∧ ops.length ≤ 1999 := hfo _ (List.mem_cons_self ..)
  obtain ⟨a0, u, q1, q2, q3, q4⟩ := hf.pop h50 h51
  have fk' : FK P S G.1 (i, lo, ops, E, xs, ks) := ⟨fk.1, fk.2.1, fk.2.2.1, fk.2.2.2.1, fk.2.2.2.2.1, fk.2.2.2.2.2⟩
  obtain ⟨r1, r2, r3⟩ := y1
  obtain ⟨w1, w2, w3⟩ := y2
  have e44 : rd g 44 pc = Int32.ofNat lo.length := by rw [r3, hlo.1]
  have kx : XH (.inl (k, v, w, z, l) :: xs) (0 + ops.length) X := hF.2.2.2.2.2.2.2.2.2.2.2.2.2
  have kx2 : XH xs (ops.length - l.length + 1) X := by
    have := kx.2
    rw [if_neg h50, if_neg h51, Nat.zero_add] at this
    exact this
  have hol : l.length ≤ ops.length := by
    have := q1.len
    rw [List.length_append, popT_len] at this
    omega
  have htop := hF.top
  have k9 : t = b + M + ops.length := hF.2.2.2.2.2.2.2.2.1
  have hb1 := hF.2.2.2.1
  unfold Pgm.actX
  by_cases h5 : k = 5
  · subst h5
    rw [if_pos rfl]
    have hl0 : l = [] := List.length_eq_zero_iff.mp (by rw [q3.2.1]; rfl)
    subst hl0
    have e39 : rd g 39 pc = 5 := by rw [r1]; rfl
    rw [e39, actK_dsp hb.1 hp31 (by decide) (by decide) (by decide), dsp_v (by decide)]
    obtain ⟨h1, f1, f2, f3, f4, f5⟩ := e4_next (N := N) hb
    have s1 := f2.1.1
    unfold fX5_actValue
    rw [if_pos (o_128 sg), if_neg (by decide), if_neg (by decide), if_neg (by decide), if_neg (by decide), if_pos rfl, R_128_3 sg, Option.bind_some, f1, Option.bind_some]
    dsimp only
    have pg : ∀ T n, PgA n T h h1 := fun T n => ⟨f3, fun k => ⟨f4 _ _ (by omega), f4 _ _ (by omega), f5 _ _⟩, fun k _ => f4 _ _ (by omega), fun k _ => f5 _ _⟩
    have pre1 : Pre P C g h1 (G.1, G.2.1.tail, G.2.2) A L (i, lo, ops, E, .inl (5, v, w, z, []) :: xs, ks) fs b t M X pc := ⟨f2, (f4 _ _ (by omega)).trans h13, (f4 _ _ (by omega)).trans h14, (f4 _ _ (by omega)).trans h6, (f4 _ _ (by omega)).trans h11, (f4 _ _ (by omega)).trans h12, (f4 _ _ (by omega)).trans h133, hpU, hF.ag (pg t 0) (Nat.le_refl _), hL.ag (pg b fs.length) (Nat.le_refl _) (by omega)⟩
    have hout : Out h h1 := ⟨fun a k ha => f4 a k (by omega), pileN_of f3⟩
    refine StR.of hout ?_
    exact val_st (d := 0) (z := false) pre1 (Nat.zero_le _) (push_v (N := N) s1 pre1.2.2.2.1 (by rw [pileN_of f3]; omega) (Ww.num _)) (by rw [Nat.sub_zero]; exact kx2) ⟨s, y3, x2⟩
  rw [if_neg h5]
  by_cases h13' : k = 13
  · subst h13'
    rw [if_pos rfl]
    have q2 : P.clsT (P.1 w) = some [u] := q2
    obtain ⟨d, hd, rfl⟩ := clsT_some q2
    have hl0 : l = [] := List.length_eq_zero_iff.mp (by rw [q3.2.1]; rfl)
    subst hl0
    have hdn := (Pgm.fnd_lt hd).1
    rw [hd]
    have e39 : rd g 39 pc = 13 := by rw [r1]; rfl
    have e40 : rd g 40 pc = Int32.ofNat d := by
      rw [r2]
      show oI (-6) (P.fnd (P.1 w)) = _
      rw [hd]; rfl
    have hnf := (hst.2.1.1.2.2.2 d hdn).1
    have hfl := Pgm.fts_len ha _ d rfl hdn
    have hd380 := hst.ct.2.2.2.2.2.1
    rw [e39, actK_mk hb.1 hp31 (Or.inl rfl), e40]
    unfold fX5_make
    rw [if_pos (o_128 sg), if_neg (by decide), R_128_0 sg, Option.bind_some, R_17_6 sg, Option.bind_some, L_24 sg (by omega), Option.bind_some, hb.1.2 24 d (by omega) (by omega), hnf, ← hfl]
    have hFp : FrK A L h g fs.length (i, lo, ops, E, xs, ks) b t M X 1 := by
      have := hF.drop (E' := E) (xs' := xs) (ks' := ks) (pre' := 1) 0 (Nat.zero_le _) (by rw [Nat.sub_zero, Nat.add_comm]; exact kx2)
      exact this
    have hnl : P.nf d < 2 ^ 31 := Pgm.nf_lt hrest.1 hrest.2.1 d
    obtain ⟨h1, pc', m1, m2, m3⟩ := mk_cls (N := N) (ob := (some d, (P.fts d).map dfl)) (kk := 13) (v2 := Int32.ofNat d) hN hst ho hb h13 h14 h6 h11 h12 h133 hp31 e44 (by omega) hFp hL ⟨s, y3, x2⟩ (by show ((P.fts d).map dfl).length < 2 ^ 31; rw [List.length_map]; omega) (Or.inr ⟨by decide, rfl⟩) (fun v hv => by
      obtain ⟨t, _, rfl⟩ := List.mem_map.mp hv
      exact dfl_v t) (fun f' hf' => by
      rcases List.mem_cons.mp hf' with rfl | hf'
      · exact hf0
      · exact hfo f' (List.mem_cons_of_mem _ hf'))
    have m1 : fX5_make_23 N 128 13 (Int32.ofNat d) (Int32.ofNat ((P.fts d).map dfl).length) h = some (0, h1) := m1
    rw [List.length_map] at m1
    rw [m1, Option.bind_some]
    exact ⟨0, h1, 0, 0, rfl, Or.inl ⟨rfl, pc', m2, m3.1, m3.pot⟩⟩
  rw [if_neg h13']
  by_cases h14' : k = 14
  · subst h14'
    rw [if_pos rfl]
    have q2 : eqT l [0] 2 = some [u] := q2
    obtain ⟨rr1, rr2⟩ := eqT_one q2
    obtain rfl := (List.cons.inj rr1).1
    subst rr2
    have hv : VT P G.1 (opV ops 0) 0 := by
      have := q1
      rw [popT_1 (by omega)] at this
      exact (this.get (j := 0) (x := mk3 0) rfl).1
    have e39 : rd g 39 pc = 14 := by rw [r1]; rfl
    rw [e39, actK_mk hb.1 hp31 (Or.inr rfl)]
    obtain ⟨w0, h1, f1, f2, f3, f4⟩ := pop_v (N := N) sg h6 hF hol
    have f4 : Ww A L w0 (opV ops 0) := f4
    have hb2 := f2.bse hb
    have s1 := f2.sg sg
    unfold fX5_make
    rw [if_pos (o_128 sg), if_pos rfl, f1, Option.bind_some]
    dsimp only
    rw [(f4.n hv.int).1]
    by_cases hneg : vI (opV ops 0) < 0
    · rw [if_pos hneg]
      unfold fX5_make_23
      rw [if_neg (Int32.not_le.mpr hneg)]
      show StR P C (msK P.ms) g h N (some (wO (4 + 1), h1, 0, 0)) _
      exact pre.flt (by omega) hst ho f2 (by omega) rfl rfl w3 x2 fk' hfs (by omega)
    · rw [if_neg hneg]
      obtain ⟨n1, n2⟩ := i_ncl hneg
      have c1 : Cg (fun k => k = 6) (fun _ => False) (fun _ => False) h h1 := f2.cg rfl
      have hFp : FrK A L h1 g fs.length (i, lo, ops.drop 1, E, xs, ks) b (t - 1) M X 1 := by
        have := hF.drop (E' := E) (xs' := xs) (ks' := ks) (pre' := 1) 1 hol (by rw [Nat.add_comm]; exact kx2)
        exact this.ag (c1.pg (n := fs.length) (t := t) (fun _ z => z.elim) (fun _ z => z.elim) sg) (by omega)
      have hLp := hL.ag (c1.pg (n := fs.length) (t := b) (fun _ z => z.elim) (fun _ z => z.elim) sg) (Nat.le_refl _) (by omega)
      obtain ⟨h2, pc', m1, m2, m3⟩ := mk_cls (N := N) (ob := (none, List.replicate (vI (opV ops 0)).toNatClampNeg (.inl 0))) (kk := 14) (v2 := rd g 40 pc) hN hst ho hb2 (by rw [f2.2.2.1 _ _ (by omega)]; exact h13) (by rw [f2.2.2.1 _ _ (by omega)]; exact h14) f3 (by rw [f2.2.2.1 _ _ (by omega)]; exact h11) (by rw [f2.2.2.1 _ _ (by omega)]; exact h12) (by rw [f2.2.2.1 _ _ (by omega)]; exact h133) hp31 e44 (by omega) hFp hLp ⟨s, y3, x2⟩ (by show (List.replicate _ _).length < 2 ^ 31; rw [List.length_replicate]; exact n2) (Or.inl ⟨rfl, rfl⟩) (fun v hv => Or.inl (List.mem_replicate.mp hv).2) (fun f' hf' => by
        rcases List.mem_cons.mp hf' with rfl | hf'
        · refine ⟨hf0.1, ?_⟩
          have := hf0.2
          show (ops.drop 1).length ≤ 1999
          rw [List.length_drop]; omega
        · exact hfo f' (List.mem_cons_of_mem _ hf'))
      have m1 : fX5_make_23 N 128 14 (rd g 40 pc) (Int32.ofNat (List.replicate (vI (opV ops 0)).toNatClampNeg (Sum.inl 0 : Vl)).length) h1 = some (0, h2) := m1
      rw [List.length_replicate, ← n1] at m1
      rw [m1, Option.bind_some]
      have m4 := c1.out.trans m3
      exact ⟨0, h2, 0, 0, rfl, Or.inl ⟨rfl, pc', m2, m4.1, m4.pot⟩⟩
  rw [if_neg h14']
  by_cases h30 : k = 30
  · subst h30
    rw [if_pos rfl]
    have e39 : rd g 39 pc = 30 := by rw [r1]; rfl
    have e40 : rd g 40 pc = C.2.1 w := by rw [r2]; rfl
    have e41 : rd g 41 pc = Int32.ofNat v := by rw [w1]; rfl
    rw [e39, actK_call hb.1 hp31, e40, e41]
    exact cal_cls (by omega) hst ho hb h13 h14 h6 h11 hF hL h133 hpU e44 w3 ⟨s, y3, x2⟩ q1 q2 q3 q4 hfs hl1
  rw [if_neg h30]
  obtain ⟨m1, m2, m3⟩ := pcK_27 (P := P) (c := i.1) (w := w) (E := E) (a := pa C k v w) q3 h13' h14' h30
  rw [r1, actK_dsp hb.1 hp31 m1 m2 m3, r2]
  have W := wk_cls (C := C) (N := N) (by omega) hP hst.ct hst.cp ho hb h6 h11 (by omega) hF fk.2.2.1 hlo q3 h5 h13' h14' h30 q2 q1
  have W2 := wkV_T hP ho fk.2.2.1 fk.2.2.2.1 hf.2.2.2.2.1 q3 h5 h13' h14' h30 q2 q1
  dsimp only at W W2 ⊢
  rcases hw : P.wkV i.1 E i.2.2 lo G.1 k v w l (opV ops (l.length - 1)) (opV ops 0) with x | n
  · rw [hw] at W
    exact val_st (d := l.length) (z := false) pre hol W kx2 ⟨s, y3, x2⟩
  · rw [hw] at W W2
    obtain ⟨h1, e1, e2⟩ := W
    rw [e1, Option.bind_some]
    exact pre.flt (by omega) hst ho e2 W2 rfl rfl w3 x2 fk' hfs (by omega)
/-- the left side is there -/
theorem actH_cls {P : Pgm} {S : Tks} {C : Cx} {D : List Int32 → Prop} {num : List Int32 → Nat} {N : Nat} {g h : pH} {G : Gs} {A : Nat → Nat} {L : List Nat} {i : Nat × Nat × Nat} {lo : List Vl} {ops : List (Bool × Vl)} {E : EnvV} {xs : List Xi} {ks : List Si} {fs : List Fm} {b t M X pc k s : Nat} {e : Tr} {o : Int32} (hst : Stc P S C D num g) (pre : Pre P C g h G A L (i, lo, ops, E, .inr (k, e) :: xs, ks) fs b t M X pc) (hf : FT P S G.1 (i, lo, ops, E, .inr (k, e) :: xs, ks) []) (x1 : XC P C i.1 E g o (.inr (k, e) :: xs) pc s) (x2 : KC P C i.1 (P.mty i.2.1) M X (msK P.ms) g ks s o) : StR P C (msK P.ms) g h N (actK N (Int32.ofNat pc) (rd g 39 pc) h) (P.actH G i lo ops E k e xs ks fs) := by
  obtain ⟨hb, h13, h14, h6, h11, h12, h133, hpU, hF, hL⟩ := id pre
  have sg := hb.1.1
  have hU := hst.2.2.2
  obtain ⟨⟨g1, g2, g3, g4⟩, g5, g6, g7, g8, g9⟩ := x1
  obtain ⟨-, -, -, -, -, -, ⟨a, a', q7, q8, q9⟩, -, -⟩ := hf
  obtain ⟨a0, e1, e2, ⟨n, e3⟩, e4, e5⟩ := q8
  have e1 : a = mk3 1 :: a0 := e1
  subst e1
  have q7 : OT P G.1 ops (mk3 1 :: a0) := q7
  have hol : 1 ≤ ops.length := by
    have := q7.len
    rw [List.length_cons] at this
    omega
  have hv : VT P G.1 (opV ops 0) 1 := (q7.get (j := 0) (x := mk3 1) rfl).1
  have htop := hF.top
  have k9 : t = b + M + ops.length := hF.2.2.2.2.2.2.2.2.1
  have hb1 := hF.2.2.2.1
  have kx : XH (.inr (k, e) :: xs) (0 + ops.length) X := hF.2.2.2.2.2.2.2.2.2.2.2.2.2
  rw [Nat.zero_add] at kx
  obtain ⟨kx1, kx2, kx3⟩ := kx
  obtain ⟨w0, h1, f1, f2, f3, f4⟩ := pop_v (N := N) sg h6 hF hol
  have f4 : Ww A L w0 (opV ops 0) := f4
  have hw := (f4.n (hv.n01 (Or.inr rfl))).2
  have hb2 := f2.bse hb
  have s1 := f2.sg sg
  have c1 : Cg (fun k => k = 6) (fun _ => False) (fun _ => False) h h1 := f2.cg rfl
  have hi39 : rd g 39 pc = Int32.ofNat k := g1
  have hk32 : Int32.ofNat k = 28 ∨ Int32.ofNat k = 29 := by rcases e2 with rfl | rfl <;> decide
  have hpl : t - 1 < pileN h1 := by rw [pileN_of f2.1]; omega
  rw [hi39, actK_join hb.1 (by omega) hk32, g2]
  unfold fX5_actJoin
  rw [if_pos (o_128 sg), f1, Option.bind_some]
  dsimp only
  rw [lc_if, hw]
  have hF1 : FrK A L h1 g fs.length (i, lo, ops.drop 1, E, [], ks) b (t - 1) M X 0 := by
    have := hF.drop (E' := E) (xs' := []) (ks' := ks) (pre' := 0) 1 hol (by show _ ≤ X; omega)
    exact this.ag (c1.pg (n := fs.length) (t := t) (fun _ z => z.elim) (fun _ z => z.elim) sg) (by omega)
  have hL1 := hL.ag (c1.pg (n := fs.length) (t := b) (fun _ z => z.elim) (fun _ z => z.elim) sg) (Nat.le_refl _) (by omega)
  have ez : (wN (vI (opV ops 0)) = 0) ↔ vI (opV ops 0) = 0 := wN_eq0 _
  have stay : ∀ bb : Bool, opV ops 0 = bV bb → ∀ x : Int32, x = (if bb = true then 1 else 0) → StR P C (msK P.ms) g h N (((fX5_pushTruth N 128 x h1).bind fun q2 => (putI q2.2 128 5 12 (Int32.ofNat (pc + 1 + cl e))).bind fun h3 => some ((0 : Int64), h3)).bind fun q => some (q.1, q.2, 0, 0)) (G, .inl ((i, lo, ops, E, .inl (51, 0, 0, false, []) :: xs, ks) :: fs)) := fun bb hbb x hx => by
    obtain ⟨h2, p1, p2, p3, p4⟩ := push_b (A := A) (L := L) (N := N) s1 f3 hpl bb hx
    have c2 : Cg (fun k => k = 6 ∨ k = 12) (fun _ => False) (fun k => k = t - 1) h h2 := (c1.mono (fun k z => Or.inl z) (fun _ z => z) (fun _ z => z.elim)).trans (p2.cg (Or.inl rfl))
    have c3 := c2.trans (Cg.wr (Z := fun _ => False) (T := fun k => k = t - 1) h2 12 (Int32.ofNat (pc + 1 + cl e)) (Or.inr rfl))
    have s2 := c2.sg sg
    refine ⟨0, _, 0, 0, ?_, Or.inl ⟨rfl, pc + 1 + cl e, ⟨t, ?_, ?_, A, L, c3.bse (fun k z => by unfold QF; omega) hb, b, M, X, o, ?_, ⟨s, ⟨g7, g8, g9⟩, x2⟩, ?_, ?_, ?_, w_128_12 s2 _⟩, c3.out.1, c3.out.pot⟩⟩
    · rw [p1, Option.bind_some]
      dsimp only
      rw [p_128_12 s2, Option.bind_some, Option.bind_some]
    · rw [c3.2.2.1 _ _ (by omega) (by omega)]; exact h13
    · rw [c3.2.2.1 _ _ (by omega) (by omega)]; exact h14
    · have hdr : ops = (ops[0]) :: ops.drop 1 := by
        rw [List.drop_one]
        cases ops with
        | nil => exact absurd hol (by decide)
        | cons y ys => rfl
      have hF2 := hF1.ag ((p2.cg (Q := fun k => k = 6) (Z := fun _ => False) rfl).pg (n := fs.length) (t := t - 1) (fun _ z => z.elim) (fun k z => Nat.le_of_eq z.symm) s1) (Nat.le_refl _)
      have hF3 := hF2.push (E' := E) (xs' := .inl (51, 0, 0, false, []) :: xs) (ks' := ks) (pre' := 0) (z := (ops[0]).1) (v := bV bb) (by rw [pileR_of p2.1]; exact p4) (by
        rw [List.length_drop, show 0 + (ops.length - 1 + 1) = ops.length by omega]
        exact ⟨kx1, kx3⟩)
      have hbv : (ops[0]).2 = bV bb := by
        rw [← hbb]
        unfold opV
        rw [List.getElem?_eq_getElem hol]
      rw [show t - 1 + 1 = t by omega, ← hbv] at hF3
      have hF4 : FrK A L h2 g fs.length (i, lo, ops, E, .inl (51, 0, 0, false, []) :: xs, ks) b t M X 0 := by
        rw [hdr]
        exact hF3
      exact hF4.ag ((Cg.wr (Q := fun k => k = 12) (Z := fun _ => False) (T := fun _ => False) h2 12 (Int32.ofNat (pc + 1 + cl e)) rfl).pg (n := fs.length) (t := t) (fun _ z => z.elim) (fun _ z => z.elim) s2) (Nat.le_refl _)
    · exact hL.ag (c3.pg (n := fs.length) (t := b) (fun _ z => z.elim) (fun k z => by omega) sg) (Nat.le_refl _) (by omega)
    · rw [rd_wr_ne _ _ (by omega), p3, show t - 1 + 1 = t by omega]
    · rw [c3.2.2.1 _ _ (by omega) (by omega)]; exact h11
  have go : StR P C (msK P.ms) g h N ((some ((0 : Int64), h1)).bind fun q => some (q.1, q.2, 0, 0)) (G, .inl ((i, lo, ops.drop 1, E, P.flX i.1 E e ++ .inl (51, 0, 0, false, []) :: xs, ks) :: fs)) := by
    refine ⟨0, h1, 0, 0, rfl, Or.inl ⟨rfl, pc + 1, ⟨t - 1, ?_, ?_, A, L, hb2, b, M, X, o, ?_, ⟨s, ?_, x2⟩, hL1, f3, ?_, ?_⟩, c1.out.1, c1.out.pot⟩⟩
    · rw [f2.2.2.1 _ _ (by omega)]; exact h13
    · rw [f2.2.2.1 _ _ (by omega)]; exact h14
    · refine hF1.same ?_
      rw [List.length_drop, Nat.zero_add]
      refine XH.fl n e e3 [1] e4 (ops.length - 1) _ kx2 ?_
      rw [show ops.length - 1 + 1 = ops.length by omega]
      exact ⟨kx1, kx3⟩
    · exact XC.fl e (pc + 1) s _ g5 g6 ⟨g7, g8, g9⟩
    · rw [f2.2.2.1 _ _ (by omega)]; exact h11
    · rw [f2.2.2.1 _ _ (by omega)]; exact h12
  have h29 : ∀ (x y : Option (Int64 × pH)), (if Int32.ofNat k = (29 : Int32) then x else y) = if k = 28 then y else x := fun x y => by
    rcases e2 with rfl | rfl
    · rw [if_neg (by decide), if_pos rfl]
    · rw [if_pos (by decide), if_neg (by omega)]
  unfold Pgm.actH
  by_cases hz : vI (opV ops 0) = 0
  · rw [if_pos (ez.mpr hz)]
    unfold fX5_actJoin_14 fX5_actJoin_27
    rw [h29]
    rcases e2 with rfl | rfl
    · rw [if_pos rfl, if_pos rfl, if_pos (Or.inl ⟨rfl, hz⟩)]
      have hb0 : opV ops 0 = bV false := by
        rcases hv.bool with y | y
        · exact y
        · rw [y] at hz; exact absurd hz (by decide)
      exact stay false hb0 0 rfl
    · rw [if_neg (by omega), if_neg (by decide), if_neg (fun y => by rcases y with y | y; exact absurd y.1 (by decide); exact y.2 hz)]
      exact go
  · rw [if_neg (fun y => hz (ez.mp y))]
    unfold fX5_actJoin_14 fX5_actJoin_27
    rw [h29]
    rcases e2 with rfl | rfl
    · rw [if_pos rfl, if_neg (by decide), if_neg (fun y => by rcases y with y | y; exact hz y.2; exact y.1 rfl)]
      exact go
    · rw [if_neg (by omega), if_pos rfl, if_pos (Or.inr ⟨by omega, hz⟩)]
      have hb0 : opV ops 0 = bV true := by
        rcases hv.bool with y | y
        · rw [y] at hz; exact absurd rfl hz
        · exact y
      exact stay true hb0 1 rfl
