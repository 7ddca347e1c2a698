/-! ===== THE CLASS calls ===== -/
def Pot (h h' : pH) (nc ns : Nat) : Prop := 100 * nc ≤ ns ∧ ns + pot (pileN h) ≤ pot (pileN h')
def OutG (h h' : pH) : Prop := ∀ a k, a < 126 ∨ (138 ≤ a ∧ a < 205) → rd h' a k = rd h a k
theorem OutG.trans {h h1 h2 : pH} (q1 : OutG h h1) (q2 : OutG h1 h2) : OutG h h2 := fun a k ha => (q2 a k ha).trans (q1 a k ha)
theorem Out.pot {h h' : pH} (q : Out h h') : Pot h h' 0 0 := ⟨Nat.le_refl _, by rw [q.2]; omega⟩
def StR (P : Pgm) (C : Cx) (U : Nat) (g h : pH) (N : Nat) (r : Option (Int64 × pH × Nat × Nat)) (σ : Mst) : Prop := ∃ w h1 nc ns, r = some (w, h1, nc, ns) ∧ ((w = 0 ∧ ∃ pc, CRs P C U g h1 σ pc ∧ OutG h h1 ∧ Pot h h1 nc ns) ∨ (w ≠ 0 ∧ ∃ h2 pc, fX5_throwObject N 128 w h1 = some h2 ∧ CRs P C U g h2 σ pc ∧ OutG h h2 ∧ Pot h h2 nc ns))
theorem AtT.ag {P : Pgm} {C : Cx} {U : Nat} {g : pH} {A : Nat → Nat} {L : List Nat} {h h' : pH} {f : Fm} {fs : List Fm} (hs : Sg h) (q : PgA (fs.length + 1) 400000 h h') (k : AtT P C U g A L h f fs) : AtT P C U g A L h' f fs := by
  obtain ⟨b, M, X, z, oo, s, k1, k2, k3, k4, k5, k6⟩ := k
  have := k1.2.2.2.2.2.2.2.2.2.2.1
  have := hs.pile.2.2.2.2
  exact ⟨b, M, X, z, oo, s, k1.ag q (by omega), (q.2.2.1 _ (by omega)).trans k2, k3, k4, k5, k6.ag q (by omega) (by omega)⟩
theorem thr_st {P : Pgm} {S : Tks} {C : Cx} {D : List Int32 → Prop} {num : List Int32 → Nat} {N : Nat} {g h h1 : pH} {G : Gs} {A : Nat → Nat} {L : List Nat} {o d : Nat} {fl : List Vl} {f : Fm} {fs : List Fm} (hN : 1100 ≤ N) (hst : Stc P S C D num g) (hb : Bse g G A L h) (hc : Ch (fun _ => False) h h1) (h13 : rd h 128 13 = 0) (h14 : rd h 128 14 = 0) (h11 : rd h 128 11 = Int32.ofNat (fs.length + 1)) (hho : HO P G.1) (hob : G.1[o]? = some (some d, fl)) (ho : o ∈ L ∨ o < 5) (ha : AtT P C (msK P.ms) g A L h f fs) (hk : FK P S G.1 f) (hfs : ∃ pre, FsT P S G.1 fs pre) (hn : fs.length < 100) : StR P C (msK P.ms) g h N (some (wO (A o), h1, 0, 0)) (P.thr G o (f :: fs)) := by
  have sg := hb.1.1
  have c1 : Cg (fun k => k = 6) (fun _ => False) (fun _ => False) h h1 := hc.cg rfl
  obtain ⟨h2, pc, e1, e2, e3⟩ := thr_cls (N := N) (o := o) hN hst.ct hst.cp hst.cde (hc.bse hb) (by rw [hc.2.2.1 _ _ (by omega)]; exact h13) (by rw [hc.2.2.1 _ _ (by omega)]; exact h14) (by rw [hc.2.2.1 _ _ (by omega)]; exact h11) hho hob ho (ha.ag sg (c1.pg (fun _ z => z.elim) (fun _ z => z.elim) sg)) hk hfs hn
  have e4 := c1.out.trans e3
  exact ⟨_, h1, 0, 0, rfl, Or.inr ⟨wO_ne _, h2, pc, e1, e2, e4.1, e4.pot⟩⟩
theorem flt_st {P : Pgm} {S : Tks} {C : Cx} {D : List Int32 → Prop} {num : List Int32 → Nat} {N : Nat} {g h h1 : pH} {G : Gs} {A : Nat → Nat} {L : List Nat} {n : Nat} {f : Fm} {fs : List Fm} (hN : 1100 ≤ N) (hst : Stc P S C D num g) (hb : Bse g G A L h) (hc : Ch (fun _ => False) h h1) (h13 : rd h 128 13 = 0) (h14 : rd h 128 14 = 0) (h11 : rd h 128 11 = Int32.ofNat (fs.length + 1)) (hho : HO P G.1) (hn5 : n < 5) (ha : AtT P C (msK P.ms) g A L h f fs) (hk : FK P S G.1 f) (hfs : ∃ pre, FsT P S G.1 fs pre) (hn : fs.length < 100) : StR P C (msK P.ms) g h N (some (wO (n + 1), h1, 0, 0)) (P.thr G n (f :: fs)) := by
  have := thr_st (N := N) hN hst hb hc h13 h14 h11 hho (hho.1 n hn5) (Or.inr hn5) ha hk hfs hn
  rw [hb.2.2.2.1 n hn5] at this
  exact this
theorem mty_get {P : Pgm} {m : Nat} {b : Mb} (h : P.ms[m]? = some b) : P.mty m = P.rt b.2.1 := by unfold Pgm.mty; rw [h]
/-- a method is open -/
theorem opn_cls {P : Pgm} {S : Tks} {C : Cx} {D : List Int32 → Prop} {num : List Int32 → Nat} {N m o v t : Nat} {b : Mb} {g h : pH} {G : Gs} {A : Nat → Nat} {L : List Nat} {as : List Vl} {fs : List Fm} (hst : Stc P S C D num g) (hbb : P.ms[m]? = some b) (hbm : b.1 = true) (hb : Bse g G A L h) (h13 : rd h 128 13 = 0) (h14 : rd h 128 14 = 0) (h6 : rd h 128 6 = Int32.ofNat t) (h11 : rd h 128 11 = Int32.ofNat fs.length) (hn : fs.length < 100) (hv : v + 1 ≤ t) (htn : t ≤ pileN h) (hl : as.length = v) (hvb : mbP b = v) (h3 : t - v ≤ 3000 * fs.length + 1) (has : ∀ (j : Nat) (x : Vl), as[j]? = some x → Ww A L (rdJ h (pileR h) (t - v + j)) x) (hre : Ww A L (rdJ h (pileR h) (t - v - 1)) (.inr (some o))) (hL : LwC P C (msK P.ms) g A L h fs (t - v - 1) o) : ∃ h' nc ns, fX5_openMethod N 128 (Int32.ofNat m) (Int32.ofNat v) h = some (h', nc, ns) ∧ (∃ t', CRn P C (msK P.ms) g h' G (P.newF m o as) fs t' (P.kf m)) ∧ OutG h h' ∧ Pot h h' nc ns := by
  have sg := hb.1.1
  have hml : m < P.ms.length := (List.getElem?_eq_some_iff.mp hbb).1
  have hm1 : m < 1000 := by have := hst.ct.2.2.2.2.2.2.2.2.2.1; omega
  obtain ⟨M, X, m1, m2, m3, m4, m5, m6, m7, m8⟩ := hst.2.1.2.2.2 m b hml hbb hbm
  obtain ⟨hg, h', nc, ns, e1, e2, e3, e4, e5, e6, e7, e8, e9, e10⟩ := e5_open (N := N) hb.1 h6 h11 hn hm1 hv m1 m2 m8 (by omega)
  have sgg := e2.1
  have hap := sgg.apart
  have ep : ∀ k, k < pileN h → rdJ h' (pileR h') k = rdJ h (pileR h) k := fun k hk => by
    rw [pileR_of e4.1, e4.2.2 _ _ (by omega), e2.2.2.2.2.1 k hk]
  have eN : P.newF m o as = ((P.ow m, m, o), as, [], P.e0 b, [], [(0, P.e0 b, mbB b, false)]) := by
    unfold Pgm.newF
    rw [hbb]
  refine ⟨h', nc, ns, e1, ⟨t - v + M, ?_, ?_, A, L, e4.bse (e2.bse sg hb), t - v, M, X, -1, ?_, ?_, (by rw [eN]; exact OpA.lw sgg e4 (Nat.le_refl _) (hL.gro e2)), e8, e9, e10⟩, fun a k ha => ?_, ⟨e2.2.2.2.2.2.2.2.1, by rw [pileN_of e4.1]; exact e2.2.2.2.2.2.2.2.2⟩⟩
  · rw [e4.2.1 _ _ (by omega) (by omega), e2.2.1]; exact h13
  · rw [e4.2.1 _ _ (by omega) (by omega), e2.2.1]; exact h14
  · rw [eN]
    refine ⟨e5, e6, ?_, by omega, h3, m1, m3, m4, rfl, ?_, by rw [pileN_of e4.1]; exact e3, ?_, fun j x hj => (by cases hj), Nat.zero_le _⟩
    · show Ww A L (rdJ h' 136 fs.length) (.inr (some o))
      rw [e7, e2.2.2.2.2.1 _ (by omega)]
      exact hre
    · show as.length ≤ M
      omega
    · intro j x hj
      have hj : as[j]? = some x := hj
      have := (List.getElem?_eq_some_iff.mp hj).1
      rw [ep _ (by omega)]
      exact has j x hj
  · rw [eN]
    refine ⟨P.kf m, rfl, ?_⟩
    show KC P C (P.ow m) (P.mty m) M X (msK P.ms) g [(0, P.e0 b, mbB b, false)] (P.kf m) (-1)
    rw [KC_0, mty_get hbb]
    exact ⟨m6, m7, Pgm.kf_le hbb hbm, rfl⟩
  · rw [e4.2.1 _ _ (by omega) (by omega), e2.2.1]
theorem cal_cls {P : Pgm} {S : Tks} {C : Cx} {D : List Int32 → Prop} {num : List Int32 → Nat} {N : Nat} {g h : pH} {G : Gs} {A : Nat → Nat} {L : List Nat} {i : Nat × Nat × Nat} {lo : List Vl} {ops : List (Bool × Vl)} {E : EnvV} {xs : List Xi} {ks : List Si} {fs : List Fm} {v w u b t M X pc : Nat} {z : Bool} {l : List Nat} {a0 : List (Bool × Nat)} {o : Int32} (hN : 1100 ≤ N) (hst : Stc P S C D num g) (ho : HO P G.1) (hb : Bse g G A L h) (h13 : rd h 128 13 = 0) (h14 : rd h 128 14 = 0) (h6 : rd h 128 6 = Int32.ofNat t) (h11 : rd h 128 11 = Int32.ofNat (fs.length + 1)) (hF : FrK A L h g fs.length (i, lo, ops, E, .inl (30, v, w, z, l) :: xs, ks) b t M X 0) (hL : LwC P C (msK P.ms) g A L h fs (b - 1) i.2.2) (h133 : rd h 133 fs.length = Int32.ofNat pc) (hpU : pc < msK P.ms) (e44 : rd g 44 pc = Int32.ofNat lo.length) (e45 : rd g 45 pc = o) (hcd : ∃ s, XC P C i.1 E g o xs (pc + 1) s ∧ KC P C i.1 (P.mty i.2.1) M X (msK P.ms) g ks s o) (hops : OT P G.1 ops (popT 30 z l ++ a0)) (ht : P.opT i.1 E 30 w l = some [u]) (hk : kOk 30 v l) (hf : FT P S G.1 (i, lo, ops.drop l.length, E, xs, ks) [mk3 u]) (hfs : FsT P S G.1 fs [mk3 (P.mty i.2.1)]) (hl : fs.length + 1 ≤ 100) : StR P C (msK P.ms) g h N (fX5_call N 128 (C.2.1 w) (Int32.ofNat v) h) (P.calM G w ((ops.take v).map Prod.snd).reverse (opV ops v) ((i, lo, ops, E, xs, ks) :: fs) ((i, lo, ops.drop (v + 1), E, xs, ks) :: fs)) := by
  have hP := hst.1
  obtain ⟨ha, hB, p5, p3, hrest⟩ := id hP
  have sg := hb.1.1
  have htop := hF.top
  have hpn := sg.pile.2.2.2.2
  rw [opT_30] at ht
  have hlen : l.length = v + 1 := by rw [hk.2.1]; unfold arK; rw [if_pos rfl]
  have k9 : t = b + M + ops.length := hF.2.2.2.2.2.2.2.2.1
  have kx : XH (.inl (30, v, w, z, l) :: xs) (0 + ops.length) X := hF.2.2.2.2.2.2.2.2.2.2.2.2.2
  have kx2 : XH xs (0 + ops.length - l.length + 1) X := kx.2
  have hb3 := hF.2.2.2.2.1
  have hM3 := hF.2.2.2.2.2.2.1
  have hb1 := hF.2.2.2.1
  match l, hlen, hops, ht, hf, kx2 with
  | r :: as, hlen, hops, ht, hf, kx2 =>
    have hv : as.length = v := by rw [List.length_cons] at hlen; omega
    have h10 := callT_10 ht
    obtain ⟨m, bm, hm, hbm, harg, ht'⟩ := callT_some ht
    obtain ⟨n1, n2⟩ := argT_of harg
    have hpo : popT 30 z (r :: as) ++ a0 = as.reverse.map mk3 ++ ((z, r) :: a0) := by
      show (as.reverse.map mk3 ++ [(z, r)]) ++ a0 = _
      rw [List.append_assoc]; rfl
    rw [hpo] at hops
    have hrl : (as.reverse.map mk3).length = v := by rw [List.length_map, List.length_reverse, hv]
    have hrec : VT P G.1 (opV ops v) r := by
      refine (hops.get (j := v) (x := (z, r)) ?_).1
      rw [List.getElem?_append_right (by omega), hrl, Nat.sub_self]
      rfl
    have hol := hops.len
    rw [List.length_append, hrl, List.length_cons] at hol
    have fk : FK P S G.1 (i, lo, ops, E, xs, ks) := hf.fk
    have h1999 : 1 + (ops.length - (v + 1)) ≤ 1999 := by
      have := XH.le hf.2.2.2.2.2.2.2.1
      have e : 1 + (ops.drop (r :: as).length).length ≤ 1999 := this
      rw [List.length_drop, hlen] at e
      exact e
    have hwr : Ww A L (rdJ h (pileR h) (t - v - 1)) (opV ops v) := by
      have := hF.op (j := v) (by show v < ops.length; omega)
      rw [show t - v - 1 = t - 1 - v by omega]
      exact this
    have eread : fX5_call N 128 (C.2.1 w) (Int32.ofNat v) h = fX5_call_23 N 128 (C.2.1 w) (Int32.ofNat v) (rdJ h (pileR h) (t - v - 1)) 0 0 h := by
      unfold fX5_call
      have e1 : Int32.ofNat t - Int32.ofNat v - 1 = Int32.ofNat (t - v - 1) := by
        rw [i_subk (by omega)]
        exact i_subk (k := 1) (by omega)
      rw [if_pos (o_128 sg), g_128_6 sg, Option.bind_some, h6, e1, if_neg (i_nneg (by omega)), R_128_5 sg, Option.bind_some, L_p sg (by omega), Option.bind_some]
    rw [eread]
    unfold fX5_call_23 Pgm.calM
    rw [lc_if]
    rcases hrec.obj h10 with y | ⟨ob, d, fl, y, y1, y2⟩
    · rw [y] at hwr ⊢
      rw [if_pos (show rdJ h (pileR h) (t - v - 1) = 0 from hwr.1)]
      dsimp only
      obtain ⟨s, c1, c2⟩ := hcd
      have hat : AtT P C (msK P.ms) g A L h (i, lo, ops, E, xs, ks) fs := ⟨b, M, X, pc, o, s, hF.bare, h133, hpU, e45, c2, hL⟩
      exact flt_st hN hst hb (Ch.refl _ _) h13 h14 h11 ho (n := 0) (by omega) hat fk ⟨_, hfs⟩ (by omega)
    · rw [y] at hwr ⊢
      dsimp only
      have hdn := (ho.2 ob _ y1).2.1
      have hrn := Pgm.und_lt ha hdn y2
      obtain ⟨m', hm', b1, b', s1, s2, s3, s4, s5, s6, s7⟩ := Pgm.had_same ha hB hrn hm hdn y2
      have hc : (obC G.1 ob).getD 0 = d := by unfold obC; rw [y1]; rfl
      rw [hc, hm']
      have hbb : b1 = bm := by rw [hbm] at s1; exact (Option.some.inj s1).symm
      subst hbb
      have hio := hwr.2 ob rfl
      have hD : D (P.1 w) := by
        obtain ⟨b2, b21, b22, b23⟩ := mIs_get (Pgm.had_ow ha _ d rfl hdn hm').2.2
        have := (hst.ct.2.2.2.2.2.2.2.2.2.2 m' b2 b21).1
        rw [b23] at this
        exact this
      have ehad := CT.had (kk := true) (hst.ct.st hb.1) (hst.cp.st hb.1) hN hD hdn
      rw [hm'] at ehad
      have ewo : rdJ h (pileR h) (t - v - 1) = wO (A ob) := hwr.1
      rw [ewo, if_neg (wO_ne _), R_128_1 sg, Option.bind_some, R_128_4 sg, Option.bind_some, e3_cls ho hb hio y1, Option.bind_some]
      dsimp only
      rw [clW_to, hst.2.2.1 w, show fX6_had N 25 (Int32.ofNat d) 1 (Int32.ofNat (num (P.1 w))) h = _ from ehad, Option.bind_some]
      dsimp only
      show StR P C (msK P.ms) g h N ((fX5_openMethod N 128 (Int32.ofNat m') (Int32.ofNat v) h).bind fun q6 => some ((0 : Int64), q6.1, (0 + q6.2.1), (0 + q6.2.2))) (if ((i, lo, ops.drop (v + 1), E, xs, ks) :: fs).length = 100 then (G, .inr (4, 0)) else (G, .inl (P.newF m' ob ((ops.take v).map Prod.snd).reverse :: (i, lo, ops.drop (v + 1), E, xs, ks) :: fs)))
      rw [List.length_cons]
      by_cases h100 : fs.length + 1 = 100
      · rw [if_pos h100]
        have c1 : Cg (fun k => k = 13) (fun _ => False) (fun _ => False) h (wr h 128 13 4) := Cg.wr h 13 _ rfl
        refine ⟨0, wr h 128 13 4, 0, 0, ?_, Or.inl ⟨rfl, 0, ⟨c1.st hb.1, c1.ft sg hb.2.1, c1.cn (fun k z => by unfold QF; omega) hb.2.2.1, w_128_13 sg _, ?_, by omega, by omega⟩, c1.out.1, c1.out.pot⟩⟩
        · unfold fX5_openMethod
          rw [if_pos (o_128 sg), g_128_6 sg, Option.bind_some, g_128_11 sg, Option.bind_some, h11, h100, if_pos (show (100 : Int32) ≤ Int32.ofNat 100 by decide)]
          unfold fX5_openMethod_25
          rw [p_128_13 sg, Option.bind_some, Option.bind_some]
          rfl
        · rw [rd_wr_ne _ _ (by omega)]; exact h14
      · rw [if_neg h100]
        have hlr : ((ops.take v).map Prod.snd).length = v := by
          rw [List.length_map, List.length_take]; omega
        obtain ⟨h', nc, ns, e1, ⟨t', e2⟩, e3, e4⟩ := opn_cls (N := N) (o := ob) (v := v) (t := t) (as := ((ops.take v).map Prod.snd).reverse) (fs := (i, lo, ops.drop (v + 1), E, xs, ks) :: fs) hst s2 s4 hb h13 h14 h6 h11 (by rw [List.length_cons]; omega) (by omega) (by omega) (by rw [List.length_reverse, hlr]) (by omega) (by rw [List.length_cons]; omega) (fun j x hj => by
          have hjl := (List.getElem?_eq_some_iff.mp hj).1
          rw [List.length_reverse, hlr] at hjl
          rw [rev_get _ (by rw [hlr]; exact hjl), hlr, List.getElem?_map, List.getElem?_take, if_pos (by omega)] at hj
          cases hq : ops[v - 1 - j]? with
          | none => rw [hq] at hj; cases hj
          | some y =>
            rw [hq] at hj
            obtain rfl : y.2 = x := Option.some.inj hj
            have := hF.2.2.2.2.2.2.2.2.2.2.2.2.1 (v - 1 - j) y hq
            rw [show t - v + j = t - 1 - (v - 1 - j) by omega]
            exact this) hwr (by
          obtain ⟨s, c1, c2⟩ := hcd
          refine ⟨b, M, X, pc, o, ?_, hwr, ⟨h133, e44, e45⟩, ⟨s, c1, c2⟩, hpU, hL⟩
          have := hF.drop (E' := E) (xs' := xs) (ks' := ks) (pre' := 1) (v + 1) (by omega) (by
            rw [show 1 + (ops.length - (v + 1)) = 0 + ops.length - (r :: as).length + 1 by rw [List.length_cons, hv]; omega]
            exact kx2)
          rw [show t - (v + 1) = t - v - 1 by omega] at this
          exact this)
        refine ⟨0, h', nc, ns, ?_, Or.inl ⟨rfl, P.kf m', ⟨t', e2⟩, e3, e4⟩⟩
        rw [e1, Option.bind_some, Nat.zero_add, Nat.zero_add]
