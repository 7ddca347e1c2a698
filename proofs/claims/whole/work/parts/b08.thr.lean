/-! ===== STEPS keep all typed: throws, calls, new objects ===== -/
/-- what a throw needs of an open method -/
def FK (P : Pgm) (S : Tks) (hp : List Ob) (f : Fm) : Prop := (∃ b, P.ms[f.1.2.1]? = some b ∧ b.1 = true) ∧ f.1.1 = P.ow f.1.2.1 ∧ (∃ d fs, hp[f.1.2.2]? = some (some d, fs) ∧ P.und d f.1.1 = true) ∧ GE P f.2.2.2.1 ∧ TyL P hp f.2.1 f.2.2.2.2.2 f.2.2.2.1 ∧ ∃ E a, KH P S f.1.1 (P.mty f.1.2.1) f.2.2.2.2.2 E a
theorem FT.fk {P : Pgm} {S : Tks} {hp : List Ob} {f : Fm} {pre : List (Bool × Nat)} (h : FT P S hp f pre) : FK P S hp f := by
  obtain ⟨h1, h2, h3, h4, h5, h6, ⟨a, a', h7, h8, h9⟩, h10, h11⟩ := h
  exact ⟨h1, h2, h3, h4, h6, _, a', h9⟩
def thI (P : Pgm) (S : Tks) (hp : List Ob) (c mt d : Nat) (lo : List Vl) (E0 : EnvV) (o : EnvV × Tr × List Si) : Prop := Pfx o.1 E0 ∧ LoT P hp o.1 (lo.take o.1.1.length) ∧ TyL P hp lo o.2.2 o.1 ∧ isY o.2.1 ∧ (∃ n, GK S n o.2.1) ∧ CapB 101 o.1 o.2.1 o.2.2 ∧ (∃ E2, P.chk c mt o.2.1 o.1 = .inr E2) ∧ KT P S c mt o.2.2 (P.nxE c mt o.2.1 o.1) ∧ ∃ e, P.fnd (P.1 (tryI o.2.1).1) = some e ∧ P.und d e = true
theorem thK_KT {P : Pgm} {S : Tks} {hp : List Ob} {c mt d : Nat} {lo : List Vl} : ∀ (ks : List Si) (E E0 : EnvV) (o : EnvV × Tr × List Si), KT P S c mt ks E → TyL P hp lo ks E0 → P.thK d ks = some o → thI P S hp c mt d lo E0 o
  | [], E, E0, o, _, _, h => by cases h
  | (k, E', b, z) :: ks, E, E0, o, hk, hy, h => by
    unfold KT at hk
    unfold Pgm.thK at h
    by_cases k0 : k = 0
    · rw [if_pos k0] at hk
      rw [if_neg (by omega)] at h
      rw [TyL_p (by omega)] at hy
      obtain ⟨_, _, _, E2, _, hk⟩ := hk
      exact thK_KT ks E2 E0 o hk hy h
    · rw [if_neg k0] at hk
      by_cases k2 : k = 2
      · rw [if_pos k2] at hk
        rw [if_neg (by omega)] at h
        rw [TyL_b (by omega)] at hy
        obtain ⟨r1, r2⟩ := thK_KT ks E' E' o hk.2 hy.2.2 h
        exact ⟨r1.trans hy.1, r2⟩
      · rw [if_neg k2] at hk
        by_cases k3 : k = 3
        · rw [if_pos k3] at hk
          rw [if_neg (by omega)] at h
          rw [TyL_b (by omega)] at hy
          obtain ⟨r1, r2⟩ := thK_KT ks _ E' o hk.2.2.2.2.2 hy.2.2 h
          exact ⟨r1.trans hy.1, r2⟩
        · rw [if_neg k3] at hk
          by_cases k4 : k = 4
          · rw [if_pos k4] at hk h
            rw [TyL_b (by omega)] at hy
            obtain ⟨q1, q2, q3, q4, q5, q6⟩ := hk
            have next : P.thK d ks = some o → thI P S hp c mt d lo E0 o := fun h => by
              obtain ⟨r1, r2⟩ := thK_KT ks E E' o q6 hy.2.2 h
              exact ⟨r1.trans hy.1, r2⟩
            rcases hf : P.fnd (P.1 (tryI b).1) with _ | e
            · rw [hf] at h
              exact next h
            · rw [hf] at h
              dsimp only at h
              by_cases hu : P.und d e = true
              · rw [if_pos hu] at h
                obtain rfl := Option.some.inj h
                exact ⟨hy.1, hy.2.1 k4, hy.2.2, q2, q3, q4, q5, by rw [← q1]; exact q6, e, hf, hu⟩
              · rw [if_neg hu] at h
                exact next h
          · rw [if_neg k4] at hk
            exact hk.elim
theorem thK_KH {P : Pgm} {S : Tks} {hp : List Ob} {c mt d : Nat} {lo : List Vl} {ks : List Si} {E E0 : EnvV} {a : List (Bool × Nat)} {o : EnvV × Tr × List Si} (hk : KH P S c mt ks E a) (hy : TyL P hp lo ks E0) (h : P.thK d ks = some o) : thI P S hp c mt d lo E0 o := by
  match ks, hk, hy, h with
  | [], hk, hy, h => cases h
  | (k, E', b, z) :: ks, hk, hy, h =>
    unfold KH at hk
    dsimp only at hk
    by_cases k1 : k = 1
    · rw [if_pos k1] at hk
      unfold Pgm.thK at h
      rw [if_neg (by omega)] at h
      rw [TyL_p (by omega)] at hy
      exact thK_KT ks _ E0 o hk.2.2.2.2.2.2 hy h
    · rw [if_neg k1] at hk
      by_cases k5 : k = 5
      · rw [if_pos k5] at hk
        unfold Pgm.thK at h
        rw [if_neg (by omega)] at h
        rw [TyL_p (by omega)] at hy
        exact thK_KT ks _ E0 o hk.2 hy h
      · rw [if_neg k5] at hk
        exact thK_KT _ _ E0 o hk.2 hy h
theorem GKy {S : Tks} {n p cw w : Nat} {a b r : Tr} (h : GK S n (bTry p a cw w b r)) : ∃ m, GK S m a ∧ GK S m b ∧ GK S m r := by
  match n, h with
  | 0, h => cases h
  | n + 1, h =>
    rcases h with z | ⟨_, _, _, _, z, _⟩ | ⟨_, _, _, _, _, z, _⟩ | ⟨_, k, _, _, z, hkk, _⟩ | ⟨_, _, _, _, z, _⟩ | ⟨_, _, _, _, _, _, z, _⟩ | ⟨_, _, _, _, z, _⟩ | ⟨_, _, _, _, _, _, z, g1, g2, ha, hb, hr⟩
    · cases z
    · cases z
    · cases z
    · have := GKk hkk
      unfold bTry nd at z
      injection z with z1 z2
      injection z1 with z3 z4
      injection z3 with z5
      omega
    · cases z
    · cases z
    · cases z
    · unfold bTry nd at z
      injection z with z1 z2
      injection z2 with z3 z4
      injection z4 with z5 z6
      injection z6 with z7 z8
      injection z8 with z9 z10
      injection z10 with z11 z12
      injection z12 with z13 z14
      injection z14 with z15 z16
      rw [z7, z15, z16]
      exact ⟨n, ha, hb, hr⟩
/-- where what was thrown lands, all is typed -/
theorem lnd_good {P : Pgm} {S : Tks} {hp : List Ob} (hP : PgF P S) {i : Nat × Nat × Nat} {lo : List Vl} {ops : List (Bool × Vl)} {E : EnvV} {xs : List Xi} {ks : List Si} {d o : Nat} {fs : List Vl} {x : EnvV × Tr × List Si} (hob : hp[o]? = some (some d, fs)) (h : FK P S hp (i, lo, ops, E, xs, ks)) (hx : P.thK d ks = some x) : FT P S hp (P.lnd o i lo x.1 x.2.1 x.2.2) [] := by
  obtain ⟨h1, h2, h3, h4, h5, E1, a, h6⟩ := h
  dsimp only at h1 h2 h3 h4 h5 h6
  obtain ⟨t1, t2, t3, ⟨p, a', cw, w, b', r, hb⟩, ⟨n, t5⟩, t6, ⟨E2, t7⟩, t8, e, t9, t10⟩ := thK_KH h6 h5 hx
  obtain ⟨E', b, ks'⟩ := x
  dsimp only at t1 t2 t3 t5 t6 t7 t8 t9 hb ⊢
  subst hb
  obtain ⟨E3, d', E0, E4, i1, i2, i3, i4, i5, i6, i7⟩ := inv_try t7
  obtain ⟨m, ka, kb, kr⟩ := GKy t5
  have t9 : P.fnd (P.1 cw) = some e := t9
  have hde : d' = e := Option.some.inj (i2.symm.trans t9)
  have hlt := (Pgm.fnd_lt t9).1
  have hct : (P.ctE E' (tryI (bTry p a' cw w b' r)).1 (tryI (bTry p a' cw w b' r)).2.1).getD E' = E0 := by
    show (P.ctE E' cw w).getD E' = E0
    rw [i3]; rfl
  have hnl : (P.nxE i.1 (P.mty i.2.1) (bTry p a' cw w b' r) E').1 = E'.1 := by rw [i6]; rfl
  have p0 : Pfx E' E0 := by rw [i4]; exact Pfx.add _ _ _ _
  have p4 := (Pgm.chk_pfx m b' E0 E4 kb i5).1
  have hlen : (lo.take E'.1.length).length = E'.1.length := t2.1
  have hd : dp (bTry p a' cw w b' r) = max (max (dp a') (dp b') + 1) (dp r) := rfl
  have hnv : nv (bTry p a' cw w b' r) = 1 + nv a' + nv b' + nv r := rfl
  have hxw : exW (bTry p a' cw w b' r) := t6.2.1
  have k2 : KT P S i.1 (P.mty i.2.1) ((2, P.nxE i.1 (P.mty i.2.1) (bTry p a' cw w b' r) E', nl, false) :: ks') E4 := KT_2 (by rw [i6]; exact Rf.join2 (p0.trans p4)) t8
  have k0 := KT_0 (z := false) kb (E := E0) ⟨by
      have := t6.1
      have e0 : E0.1.length = E'.1.length + 1 := by rw [i4]; exact EnvV.add_len _ _ _ _
      omega, hxw.2.1, by have := t6.2.2.1; rw [List.length_cons]; omega, by
      have := t6.2.2.2
      show dp b' + ((if (2 : Nat) = 4 then 1 else 0) + cty ks') ≤ 50
      rw [if_neg (by omega)]
      omega⟩ i5 k2
  unfold Pgm.lnd
  rw [hct]
  refine ⟨h1, h2, h3, ?_, ?_, ?_, ⟨[], [], trivial, rfl, k0.kh⟩, Nat.zero_le _, Nat.zero_le _⟩
  · show GE P E0
    rw [i4]
    exact (h4.pfx t1).add (by unfold tyV; omega)
  · show LoT P hp E0 (lo.take E'.1.length ++ [.inr (some o)])
    rw [i4]
    exact t2.add (Or.inl (VT.ob (by omega) hob (by rw [show 10 + d' - 10 = d' by omega, hde]; exact t10)))
  · show TyL P hp (lo.take E'.1.length ++ [.inr (some o)]) ((0, E0, _) :: (2, P.nxE i.1 (P.mty i.2.1) (bTry p a' cw w b' r) E', _) :: ks') E0
    rw [TyL_p (by omega), TyL_b (by omega)]
    refine ⟨(Pfx.same (E := P.nxE i.1 (P.mty i.2.1) (bTry p a' cw w b' r) E') (E' := E') hnl.symm).trans p0, fun z => by omega, ?_⟩
    exact ((t3.tk).ap hlen _).more (Pfx.same hnl)
theorem thF_good {P : Pgm} {S : Tks} {hp : List Ob} (hP : PgF P S) {d o : Nat} {fl : List Vl} (hob : hp[o]? = some (some d, fl)) : ∀ (fs : List Fm) (pre : List (Bool × Nat)) (r : List Fm), FsT P S hp fs pre → P.thF d o fs = some r → FsT P S hp r [] ∧ r ≠ [] ∧ r.length ≤ fs.length
  | [], pre, r, _, h => by cases h
  | (i, lo, ops, E, xs, ks) :: fs, pre, r, ⟨h1, h2⟩, h => by
    unfold Pgm.thF at h
    rcases hx : P.thK d ks with _ | x
    · rw [hx] at h
      obtain ⟨k1, k2, k3⟩ := thF_good hP hob fs _ r h2 h
      exact ⟨k1, k2, by rw [List.length_cons]; omega⟩
    · rw [hx] at h
      obtain ⟨E', b, ks'⟩ := x
      obtain rfl := Option.some.inj h
      exact ⟨⟨lnd_good hP hob h1.fk hx, h2⟩, List.cons_ne_nil _ _, by rw [List.length_cons, List.length_cons]; omega⟩
/-- a throw -/
theorem thr_good {P : Pgm} {S : Tks} (hP : PgF P S) {G : Gs} {o d : Nat} {fl : List Vl} {i : Nat × Nat × Nat} {lo : List Vl} {ops : List (Bool × Vl)} {E : EnvV} {xs : List Xi} {ks : List Si} {fs : List Fm} (ho : HO P G.1) (hob : G.1[o]? = some (some d, fl)) (h1 : FK P S G.1 (i, lo, ops, E, xs, ks)) (h2 : FsT P S G.1 fs [mk3 (P.mty i.2.1)]) (hl : fs.length + 1 ≤ 100) (hH : G.2.2.2.2 ≤ 10900) : GdM P S (P.thr G o ((i, lo, ops, E, xs, ks) :: fs)) := by
  have hd : (obC G.1 o).getD 0 = d := by unfold obC; rw [hob]; rfl
  unfold Pgm.thr
  rw [hd]
  rcases hr : P.thF d o ((i, lo, ops, E, xs, ks) :: fs) with _ | r
  · exact ho
  · have key : FsT P S G.1 r [] ∧ r ≠ [] ∧ r.length ≤ fs.length + 1 := by
      unfold Pgm.thF at hr
      rcases hx : P.thK d ks with _ | x
      · rw [hx] at hr
        obtain ⟨k1, k2, k3⟩ := thF_good hP hob fs _ r h2 hr
        exact ⟨k1, k2, by omega⟩
      · rw [hx] at hr
        obtain ⟨E', b, ks'⟩ := x
        obtain rfl := Option.some.inj hr
        exact ⟨⟨lnd_good hP hob h1 hx, h2⟩, List.cons_ne_nil _ _, Nat.le_refl _⟩
    exact ⟨ho, key.1, key.2.1, by have := key.2.2; omega, hH⟩
/-- a piece takes its parts -/
theorem FT.pop {P : Pgm} {S : Tks} {hp : List Ob} {i : Nat × Nat × Nat} {lo : List Vl} {ops : List (Bool × Vl)} {E : EnvV} {k v w : Nat} {s : Bool} {l : List Nat} {xs : List Xi} {ks : List Si} (h50 : k ≠ 50) (h51 : k ≠ 51) (h : FT P S hp (i, lo, ops, E, .inl (k, v, w, s, l) :: xs, ks) []) : ∃ a0 t, OT P hp ops (popT k s l ++ a0) ∧ P.opT i.1 E k w l = some [t] ∧ kOk k v l ∧ FT P S hp (i, lo, ops.drop l.length, E, xs, ks) [mk3 t] := by
  obtain ⟨h1, h2, h3, h4, h5, h6, ⟨a, a', h7, h8, h9⟩, h10, h11⟩ := h
  dsimp only at h1 h2 h3 h4 h5 h6 h7 h8 h9 h10 h11
  rw [List.nil_append, XT_p h50 h51] at h8
  obtain ⟨a0, t, q1, q2, q3, q4⟩ := h8
  subst q1
  have hpl := popT_len k s l
  have hdr := (OT.app h7).2
  rw [hpl] at hdr
  refine ⟨a0, t, h7, q2, q3, h1, h2, h3, h4, h5, h6, ⟨a0, a', hdr, q4, h9⟩, ?_, by show xw xs ≤ 3000; have : 1 + xw xs ≤ 3000 := h11; omega⟩
  have h10 : 0 + ops.length ≤ 1999 ∧ if k = 50 then XH xs (0 + ops.length + 1) 1999 else if k = 51 then XH xs (0 + ops.length) 1999 else XH xs (0 + ops.length - l.length + 1) 1999 := h10
  rw [if_neg h50, if_neg h51] at h10
  show XH xs (1 + (ops.drop l.length).length) 1999
  rw [List.length_drop, show 1 + (ops.length - l.length) = 0 + ops.length - l.length + 1 by omega]
  exact h10.2
/-- a new object is pushed -/
theorem mkO_good {P : Pgm} {S : Tks} {G : Gs} {i : Nat × Nat × Nat} {lo : List Vl} {ops : List (Bool × Vl)} {E : EnvV} {xs : List Xi} {ks : List Si} {fs : List Fm} {ob : Ob} {t : Nat} (ho : HO P G.1) (hf : FT P S G.1 (i, lo, ops, E, xs, ks) [mk3 t]) (hfs : FsT P S G.1 fs [mk3 (P.mty i.2.1)]) (hl : fs.length + 1 ≤ 100) (hH : G.2.2.2.2 ≤ 10900) (ht : t ≠ 3) (hob : match ob.1 with
    | some c => c < P.n ∧ ob.2.length = P.nf c ∧ ∀ (j t : Nat) (v : Vl), (P.fts c)[j]? = some t → ob.2[j]? = some v → VT P G.1 v t
    | none => ∀ v, v ∈ ob.2 → ∃ n, v = .inl n) (hv : VT P (G.1 ++ [ob]) (.inr (some G.1.length)) t) : GdM P S (mkO G i lo ops E xs ks fs ob) := by
  unfold mkO
  split
  · rename_i hr
    have g := HpL.app G.1 ob
    refine ⟨ho.app (by omega) hob, ⟨(hf.mono g).push hv (by show false = decide (t = 3); rw [decide_eq_false ht]), hfs.mono g⟩, List.cons_ne_nil _ _, hl, hH⟩
  · exact ho
theorem app_get (hp : List Ob) (ob : Ob) : (hp ++ [ob])[hp.length]? = some ob := by
  rw [List.getElem?_append_right (Nat.le_refl _), Nat.sub_self]
  rfl
theorem e0i_get (P : Pgm) (b : Mb) : ∀ (n i : Nat), i < n → (P.e0i b n).1[i]? = some (P.1 (px b i).2, P.rt (px b i).1) ∧ (P.e0i b n).2.1 = false
  | 0, i, h => by omega
  | n + 1, i, h => by
    have hl := Pgm.e0i_len P b n
    refine ⟨?_, ?_⟩
    · show ((P.e0i b n).1 ++ [(P.1 (px b n).2, P.rt (px b n).1)])[i]? = _
      rcases Nat.lt_or_ge i n with z | z
      · rw [List.getElem?_append_left (by omega)]
        exact (e0i_get P b n i z).1
      · obtain rfl : i = n := by omega
        rw [List.getElem?_append_right (by omega), hl, Nat.sub_self]
        rfl
    · show (P.e0i b n).2.1 = false
      cases n with
      | zero => rfl
      | succ n => exact (e0i_get P b (n + 1) 0 (by omega)).2
/-- a method opens -/
theorem newF_good {P : Pgm} {S : Tks} (hP : PgF P S) {hp : List Ob} {m o d : Nat} {fl : List Vl} {b : Mb} {as : List Vl} (hb : P.ms[m]? = some b) (hbm : b.1 = true) (hob : hp[o]? = some (some d, fl)) (hu : P.und d (P.ow m) = true) (hl : as.length = mbP b) (ht : ∀ i v, as[i]? = some v → VT P hp v (P.rt (px b i).1)) : FT P S hp (P.newF m o as) [] := by
  obtain ⟨ha, hB, p5, p3, _, _, hall⟩ := hP
  obtain ⟨⟨n, g1⟩, g2, g3, g4, g5, g6⟩ := hall m b hb hbm
  unfold Pgm.newF
  rw [hb]
  have hel := Pgm.e0i_len P b (mbP b)
  have hmt : P.mty m = P.rt b.2.1 := by unfold Pgm.mty; rw [hb]
  have hge : GE P (P.e0 b) := by
    intro i x hx
    have hi := (List.getElem?_eq_some_iff.mp hx).1
    have hi : i < mbP b := by rw [← hel]; exact hi
    have := (e0i_get P b (mbP b) i hi).1
    have hx : (P.e0i b (mbP b)).1[i]? = some x := hx
    rw [this] at hx
    obtain rfl := Option.some.inj hx
    have h5 := p5 m b i hb hi
    have h3 := p3.1 m b i hb hi
    have := rt_le P (px b i).1
    show tyV P (P.rt (px b i).1)
    unfold tyV
    omega
  have hdead : (P.e0 b).2.1 = false := by
    show (P.e0i b (mbP b)).2.1 = false
    rcases hz : mbP b with _ | k
    · rfl
    · exact (e0i_get P b (k + 1) 0 (by omega)).2
  have hlo : LoT P hp (P.e0 b) as := by
    refine ⟨by rw [hl]; exact hel.symm, hdead, fun i x v hx hv => Or.inl ?_⟩
    have hi := (List.getElem?_eq_some_iff.mp hx).1
    have hi : i < mbP b := by rw [← hel]; exact hi
    have e := (e0i_get P b (mbP b) i hi).1
    have hx : (P.e0i b (mbP b)).1[i]? = some x := hx
    rw [e] at hx
    obtain rfl := Option.some.inj hx
    exact ht i v hv
  unfold Pgm.chkM at g6
  rcases hc : P.chk (P.ow m) (P.rt b.2.1) (mbB b) (P.e0 b) with p | E'
  · rw [hc] at g6; cases g6
  · rw [hc] at g6
    dsimp only at g6
    have hend : E'.2.1 = true ∨ P.mty m = 3 := by
      rw [hmt]
      split at g6
      · rename_i z; exact z.symm
      · cases g6
    rw [← hmt] at hc
    have k0 : KT P S (P.ow m) (P.mty m) [(0, P.e0 b, mbB b, false)] (P.e0 b) := KT_0 g1 ⟨by show (P.e0i b (mbP b)).1.length + _ ≤ 899; rw [hel]; exact g3, g4, by show 3 * dp (mbB b) + 0 ≤ 100; omega, by show dp (mbB b) + 0 ≤ 50; omega⟩ hc hend
    exact ⟨⟨b, hb, hbm⟩, rfl, ⟨d, fl, hob, hu⟩, hge, hlo, by show TyL P hp as [(0, P.e0 b, _)] (P.e0 b); rw [TyL_p (by omega)]; trivial, ⟨[], [], trivial, rfl, k0.kh⟩, Nat.zero_le _, Nat.zero_le _⟩
theorem OT.mapv {P : Pgm} {hp : List Ob} : ∀ (l : List Nat) (o : List (Bool × Vl)), OT P hp o (l.map mk3) → ∀ (i : Nat) (v : Vl), (o.map Prod.snd)[i]? = some v → ∃ t, l[i]? = some t ∧ VT P hp v t
  | [], [], _, i, v, h => by cases h
  | t :: l, x :: o, ⟨h1, h2, h3⟩, 0, v, h => by
    obtain rfl : x.2 = v := Option.some.inj h
    exact ⟨t, rfl, h2⟩
  | t :: l, x :: o, ⟨h1, h2, h3⟩, i + 1, v, h => by
    rw [List.map_cons, List.getElem?_cons_succ] at h
    rw [List.getElem?_cons_succ]
    exact OT.mapv l o h3 i v h
  | [], _ :: _, h, _, _, _ => h.elim
  | _ :: _, [], h, _, _, _ => h.elim
theorem rev_get {α : Type} (l : List α) {i : Nat} (h : i < l.length) : l.reverse[i]? = l[l.length - 1 - i]? := by
  rw [List.getElem?_reverse h]
theorem callT_some {P : Pgm} {w : List Int32} {r t : Nat} {l : List Nat} (h : P.callT w (r :: l) = some [t]) : ∃ m b, P.had true w (r - 10) = some m ∧ P.ms[m]? = some b ∧ P.argT b l = true ∧ t = P.rt b.2.1 := by
  unfold Pgm.callT at h
  dsimp only at h
  split at h
  · cases h
  · split at h
    · cases h
    · rename_i m hm
      split at h
      · cases h
      · rename_i b hb
        split at h
        · rename_i ha
          obtain ⟨h1, _⟩ := tS_one h
          exact ⟨m, b, hm, hb, ha, (List.cons.inj h1).1⟩
        · cases h
theorem argT_of {P : Pgm} {b : Mb} {l : List Nat} (h : P.argT b l = true) : mbP b = l.length ∧ ∀ i t, l[i]? = some t → P.sub t (P.rt (px b i).1) = true := by
  unfold Pgm.argT at h
  obtain ⟨h1, h2⟩ := Bool.and_eq_true_iff.mp h
  have h1 := of_decide_eq_true h1
  refine ⟨h1, fun i t ht => ?_⟩
  have hi := (List.getElem?_eq_some_iff.mp ht).1
  rcases hn : fstN (fun i => !P.sub (lget l i) (P.rt (px b i).1)) (mbP b) 0 with _ | x
  · have := fstN_none hn i (Nat.zero_le _) (by omega)
    rw [lget_of ht] at this
    cases q : P.sub t (P.rt (px b i).1) with
    | true => rfl
    | false => rw [q] at this; cases this
  · rw [hn] at h2; cases h2
/-- a call -/
theorem cal_good {P : Pgm} {S : Tks} (hP : PgF P S) {G : Gs} {i : Nat × Nat × Nat} {lo : List Vl} {ops : List (Bool × Vl)} {E : EnvV} {xs : List Xi} {ks : List Si} {fs : List Fm} {v w t : Nat} {s : Bool} {l : List Nat} {a0 : List (Bool × Nat)} (ho : HO P G.1) (hops : OT P G.1 ops (popT 30 s l ++ a0)) (ht : P.opT i.1 E 30 w l = some [t]) (hk : kOk 30 v l) (hf : FT P S G.1 (i, lo, ops.drop l.length, E, xs, ks) [mk3 t]) (hfs : FsT P S G.1 fs [mk3 (P.mty i.2.1)]) (hl : fs.length + 1 ≤ 100) (hH : G.2.2.2.2 ≤ 10900) : GdM P S (P.calM G w ((ops.take v).map Prod.snd).reverse (opV ops v) ((i, lo, ops, E, xs, ks) :: fs) ((i, lo, ops.drop (v + 1), E, xs, ks) :: fs)) := by
  obtain ⟨ha, hB, p5, p3, hrest⟩ := id hP
  rw [opT_30] at ht
  have hlen : l.length = v + 1 := by rw [hk.2.1]; unfold arK; rw [if_pos rfl]
  match l, hlen, hops, ht, hf with
  | r :: as, hlen, hops, ht, hf =>
    have hv : as.length = v := by rw [List.length_cons] at hlen; omega
    have h10 := callT_10 ht
    obtain ⟨m, b, hm, hb, harg, ht'⟩ := callT_some ht
    obtain ⟨n1, n2⟩ := argT_of harg
    have hpo : popT 30 s (r :: as) ++ a0 = as.reverse.map mk3 ++ ((s, r) :: a0) := by
      show (as.reverse.map mk3 ++ [(s, r)]) ++ a0 = _
      rw [List.append_assoc]; rfl
    rw [hpo] at hops
    have hrl : (as.reverse.map mk3).length = v := by rw [List.length_map, List.length_reverse, hv]
    have hrec : VT P G.1 (opV ops v) r := by
      refine (hops.get (j := v) (x := (s, r)) ?_).1
      rw [List.getElem?_append_right (by omega), hrl, Nat.sub_self]
      rfl
    have hargs := (OT.app hops).1
    rw [hrl] at hargs
    have hol := hops.len
    rw [List.length_append, hrl, List.length_cons] at hol
    have fk : FK P S G.1 (i, lo, ops, E, xs, ks) := hf.fk
    unfold Pgm.calM
    rcases hrec.obj h10 with z | ⟨o, d, fl, z, z1, z2⟩
    · rw [z]
      exact thr_good hP ho (ho.1 0 (by omega)) fk hfs hl hH
    · rw [z]
      dsimp only
      by_cases h100 : ((i, lo, ops.drop (v + 1), E, xs, ks) :: fs).length = 100
      · rw [if_pos h100]; exact ho
      · rw [if_neg h100]
        have hdn := (ho.2 o _ z1).2.1
        have hrn := Pgm.und_lt ha hdn z2
        obtain ⟨m', hm', b1, b', s1, s2, s3, s4, s5, s6, s7⟩ := Pgm.had_same ha hB hrn hm hdn z2
        have hc : (obC G.1 o).getD 0 = d := by unfold obC; rw [z1]; rfl
        rw [hc, hm']
        have hbb : b1 = b := by rw [hb] at s1; exact (Option.some.inj s1).symm
        subst hbb
        obtain ⟨hu, _, _⟩ := Pgm.had_ow ha _ d rfl hdn hm'
        have hlr : ((ops.take v).map Prod.snd).length = v := by
          rw [List.length_map, List.length_take]; omega
        have hnew := newF_good hP (hp := G.1) (o := o) (as := ((ops.take v).map Prod.snd).reverse) s2 s4 z1 hu (by rw [List.length_reverse, hlr]; omega) (fun j u hu => by
          have hj := (List.getElem?_eq_some_iff.mp hu).1
          rw [List.length_reverse, hlr] at hj
          rw [rev_get _ (by omega), hlr] at hu
          obtain ⟨t1, q1, q2⟩ := OT.mapv _ _ hargs _ u hu
          rw [rev_get _ (by omega), hv, show v - 1 - (v - 1 - j) = j by omega] at q1
          have := n2 j t1 q1
          rw [s7 j (by omega)] at this
          exact q2.sub ha ho this)
        have hf' : FT P S G.1 (i, lo, ops.drop (v + 1), E, xs, ks) [mk3 t] := by
          have e : (r :: as).length = v + 1 := hlen
          rw [e] at hf
          exact hf
        have hmt : P.mty m' = t := by unfold Pgm.mty; rw [s2, ht']; exact s5.symm
        have hnm : (P.newF m' o ((ops.take v).map Prod.snd).reverse).1.2.1 = m' := by unfold Pgm.newF; rw [s2]
        refine ⟨ho, ⟨hnew, ?_⟩, List.cons_ne_nil _ _, ?_, hH⟩
        · show FsT P S G.1 ((i, lo, ops.drop (v + 1), E, xs, ks) :: fs) [mk3 (P.mty (P.newF m' o _).1.2.1)]
          rw [hnm, hmt]
          exact ⟨hf', hfs⟩
        · rw [List.length_cons] at h100 ⊢
          rw [List.length_cons]
          omega
