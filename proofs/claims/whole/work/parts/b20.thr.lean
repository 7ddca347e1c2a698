/-! ===== THE CLASS throws ===== -/
theorem KT_cty {P : Pgm} {S : Tks} {c mt : Nat} : ∀ {ks : List Si} {E : EnvV}, KT P S c mt ks E → cty ks ≤ 51
  | [], E, _ => Nat.zero_le _
  | (k, E', b, z) :: ks, E, h => by
    unfold KT at h
    have e : cty ((k, E', b, z) :: ks) = (if k = 4 then 1 else 0) + cty ks := rfl
    rw [e]
    by_cases c0 : k = 0
    · rw [if_pos c0] at h
      obtain ⟨-, -, -, E2, -, h⟩ := h
      have := KT_cty h
      rw [if_neg (by omega)]; omega
    rw [if_neg c0] at h
    by_cases c2 : k = 2
    · rw [if_pos c2] at h
      have := KT_cty h.2
      rw [if_neg (by omega)]; omega
    rw [if_neg c2] at h
    by_cases c3 : k = 3
    · rw [if_pos c3] at h
      have := KT_cty h.2.2.2.2.2
      rw [if_neg (by omega)]; omega
    rw [if_neg c3] at h
    by_cases c4 : k = 4
    · rw [if_pos c4] at h
      have := h.2.2.2.1.2.2.2
      rw [if_pos c4]; omega
    rw [if_neg c4] at h
    exact h.elim
/-- a frame that may catch -/
def AtT (P : Pgm) (C : Cx) (U : Nat) (g : pH) (A : Nat → Nat) (L : List Nat) (h : pH) (f : Fm) (fs : List Fm) : Prop := ∃ b M X q o s, FrK A L h g fs.length (f.1, f.2.1, [], f.2.2.2.1, [], f.2.2.2.2.2) b (b + M) M X 0 ∧ rd h 133 fs.length = Int32.ofNat q ∧ q < U ∧ rd g 45 q = o ∧ KC P C f.1.1 (P.mty f.1.2.1) M X U g f.2.2.2.2.2 s o ∧ LwC P C U g A L h fs (b - 1) f.1.2.2
theorem FrK.bare {A : Nat → Nat} {L : List Nat} {h g : pH} {n : Nat} {f : Fm} {b t M X pre : Nat} (k : FrK A L h g n f b t M X pre) : FrK A L h g n (f.1, f.2.1, [], f.2.2.2.1, [], f.2.2.2.2.2) b (b + M) M X 0 := by
  obtain ⟨i, lo, ops, E, xs, ks⟩ := f
  have k9 : t = b + M + ops.length := k.2.2.2.2.2.2.2.2.1
  have := k.drop (E' := E) (xs' := []) (ks' := ks) (pre' := 0) ops.length (Nat.le_refl _) (by show _ ≤ X; omega)
  rw [List.drop_length, show t - ops.length = b + M by omega] at this
  exact this
theorem LwC.at {P : Pgm} {C : Cx} {U : Nat} {g : pH} {A : Nat → Nat} {L : List Nat} {h : pH} {f : Fm} {fs : List Fm} {t se : Nat} (k : LwC P C U g A L h (f :: fs) t se) : AtT P C U g A L h f fs := by
  obtain ⟨b, M, X, q, o, k1, k2, k3, ⟨s, x1, x2⟩, k5, k6⟩ := k
  exact ⟨b, M, X, q, o, s, k1.bare, k3.1, k5, k3.2.2, x2, k6⟩
theorem i_m1 (n : Nat) : Int32.ofNat (n + 1) + (-1 : Int32) = Int32.ofNat n := by
  rw [← i_add1, Int32.add_assoc, show (1 : Int32) + -1 = 0 by decide, Int32.add_zero]
/-- the class lands in a try -/
theorem land_cls {P : Pgm} {C : Cx} {U N : Nat} {g h : pH} {G : Gs} {A : Nat → Nat} {L : List Nat} {i : Nat × Nat × Nat} {lo : List Vl} {E E' : EnvV} {ks ks' : List Si} {fs : List Fm} {b M X p9 e : Nat} {w : Int64} {v : Vl} (hm : i.2.1 < 1000) (hb : Bse g G A L h) (h13 : rd h 128 13 = 0) (h14 : rd h 128 14 = 0) (hF : FrK A L h g fs.length (i, lo, [], E, [], ks) b (b + M) M X 0) (hL : LwC P C U g A L h fs (b - 1) i.2.2) (hn : fs.length < 100) (hp9 : p9 < 3100) (h41 : rd g 41 p9 = Int32.ofNat e) (he : e < M) (hle : (lo.take e).length = e) (hw : Ww A L w v) (hk : ∃ o s, XC P C i.1 E' g o [] (p9 + 1) s ∧ KC P C i.1 (P.mty i.2.1) M X U g ks' s o) : ∃ h', fX5_land N 128 (Int32.ofNat fs.length) (Int32.ofNat p9) w h = some h' ∧ (∃ t, CRn P C U g h' G (i, lo.take e ++ [v], [], E', [], ks') fs t (p9 + 1)) ∧ Out h h' := by
  have sg := hb.1.1
  obtain ⟨j1, j2, j3, j4, j5, j6, j7, j8, j9, j10, j11, j12, j13, j14⟩ := hF
  have j2 : rd h 135 fs.length = Int32.ofNat i.2.1 := j2
  have hpn := sg.pile.2.2.2.2
  have hap := sg.apart
  have c1 : Cg (fun k => k = 6 ∨ k = 11 ∨ k = 12) (fun _ => False) (fun k => k = b + e) h (wr h 128 11 (Int32.ofNat (fs.length + 1))) := Cg.wr h 11 _ (by omega)
  have s1 := c1.sg sg
  have c2 := c1.trans (Cg.wr (Z := fun _ => False) (T := fun k => k = b + e) (wr h 128 11 (Int32.ofNat (fs.length + 1))) 6 (Int32.ofNat (b + M)) (Or.inl rfl))
  have s2 := c2.sg sg
  have c3 : Cg (fun k => k = 6 ∨ k = 11 ∨ k = 12) (fun _ => False) (fun k => k = b + e) (wr (wr h 128 11 (Int32.ofNat (fs.length + 1))) 128 6 (Int32.ofNat (b + M))) (wrJ (wr (wr h 128 11 (Int32.ofNat (fs.length + 1))) 128 6 (Int32.ofNat (b + M))) (pileR h) (b + e) w) := ⟨fun b => sh_wrJ _ _ _ _ b, wrJ_len _ _ _ _, fun a k _ _ => rd_wrJ _ _ _ _ _ _, fun a k n => rdJ_wrJ_ne _ _ (fun z => n ⟨by rw [pileR_wr, pileR_wr]; exact z.1.symm, z.2.symm⟩)⟩
  have c3 := c2.trans c3
  have s3 := c3.sg sg
  have c4 := c3.trans (Cg.wr (Z := fun _ => False) (T := fun k => k = b + e) (wrJ (wr (wr h 128 11 (Int32.ofNat (fs.length + 1))) 128 6 (Int32.ofNat (b + M))) (pileR h) (b + e) w) 12 (Int32.ofNat (p9 + 1)) (Or.inr (Or.inr rfl)))
  have s4 := c4.sg sg
  refine ⟨_, ?_, ⟨b + M, ?_, ?_, A, L, c4.bse (fun k z => by unfold QF; omega) hb, b, M, X, hk.choose, ?_, hk.choose_spec, ?_, ?_, ?_, w_128_12 s3 _⟩, c4.out⟩
  · unfold fX5_land
    rw [if_pos (o_128 sg), i_add1, p_128_11 sg, Option.bind_some, R_128_8 s1, Option.bind_some, L_134 s1 hn, Option.bind_some, R_128_1 s1, Option.bind_some, R_25_9 s1, Option.bind_some, R_128_9 s1, Option.bind_some, L_135 s1 hn, Option.bind_some, rd_wr_ne _ _ (by omega), rd_wr_ne _ _ (by omega), j1, j2, L_34 s1 hm, Option.bind_some, rd_wr_ne _ _ (by omega), hb.1.2 34 _ (by omega) (by omega), j6, ← Int32.ofNat_add, p_128_6 s1, Option.bind_some, R_128_5 s2, Option.bind_some, R_128_2 s2, Option.bind_some, R_38_2 s2, Option.bind_some, L_41 s2 hp9, Option.bind_some, rd_wr_ne _ _ (by omega), rd_wr_ne _ _ (by omega), hb.1.2 41 _ (by omega) (by omega), h41, e5_slot (b := b) (n := fs.length) s2 (by rw [rd_wr_ne _ _ (by omega), w_128_11 sg]) hn (by rw [rd_wr_ne _ _ (by omega), rd_wr_ne _ _ (by omega)]; exact j1) (by rw [pileN_wr, pileN_wr]; omega), Option.bind_some, T_p s2 (by rw [pileN_wr, pileN_wr]; omega), Option.bind_some, pileR_wr, pileR_wr, i_add1, p_128_12 s3, Option.bind_some]
  · rw [c4.2.2.1 _ _ (by omega) (by omega)]; exact h13
  · rw [c4.2.2.1 _ _ (by omega) (by omega)]; exact h14
  · have er : ∀ k, k ≠ b + e → rdJ (wr (wrJ (wr (wr h 128 11 (Int32.ofNat (fs.length + 1))) 128 6 (Int32.ofNat (b + M))) (pileR h) (b + e) w) 128 12 (Int32.ofNat (p9 + 1))) (pileR h) k = rdJ h (pileR h) k := fun k hk => c4.2.2.2 _ _ (fun z => hk z.2)
    refine ⟨by rw [c4.2.2.1 _ _ (by omega) (by omega)]; exact j1, by rw [c4.2.2.1 _ _ (by omega) (by omega)]; exact j2, by rw [c4.2.2.2 _ _ (by omega)]; exact j3, j4, j5, j6, j7, j8, rfl, ?_, by rw [pileN_of c4.1]; exact j11, ?_, (fun j x hj => by cases hj), (by show _ ≤ X; exact Nat.zero_le _)⟩
    · show (lo.take e ++ [v]).length ≤ M
      rw [List.length_append, hle]
      exact he
    · intro j v' hj
      have hj : (lo.take e ++ [v])[j]? = some v' := hj
      rw [pileR_of c4.1]
      by_cases hjl : j < e
      · rw [List.getElem?_append_left (by omega), List.getElem?_take, if_pos hjl] at hj
        rw [er _ (by omega)]
        exact j12 j v' hj
      · rw [List.getElem?_append_right (by omega), hle] at hj
        have : j - e = 0 := by
          have := (List.getElem?_eq_some_iff.mp hj).1
          have h1 : ([v] : List Vl).length = 1 := rfl
          omega
        rw [this] at hj
        obtain rfl : v = v' := Option.some.inj hj
        rw [show b + j = b + e by omega, rdJ_wr]
        have := W_p s2 (b + e) w
        rw [pileR_wr, pileR_wr] at this
        rw [this]
        exact hw
  · exact hL.ag (n := fs.length) (T := b) (c4.pg (fun _ z => z.elim) (fun k z => by omega) sg) (Nat.le_refl _) (by omega)
  · rw [rd_wr_ne _ _ (by omega), rd_wrJ, w_128_6 s1]
  · rw [rd_wr_ne _ _ (by omega), rd_wrJ, rd_wr_ne _ _ (by omega), w_128_11 sg]
/-- the tries of one frame, from the inmost on -/
theorem thr_52 {P : Pgm} {S : Tks} {C : Cx} {D : List Int32 → Prop} {num : List Int32 → Nat} {U N : Nat} {g h : pH} {G : Gs} {A : Nat → Nat} {L : List Nat} {i : Nat × Nat × Nat} {lo : List Vl} {E : EnvV} {ks0 : List Si} {fs : List Fm} {b M X d o : Nat} {k27 : Nat → Int64 → Int32 → Int32 → pH → Option pH} (hm : i.2.1 < 1000) (hN : 1100 ≤ N) (hct : CT P D num g) (hcp : CPr P g) (hU : Cde U g) (hb : Bse g G A L h) (h13 : rd h 128 13 = 0) (h14 : rd h 128 14 = 0) (hF : FrK A L h g fs.length (i, lo, [], E, [], ks0) b (b + M) M X 0) (hL : LwC P C U g A L h fs (b - 1) i.2.2) (hn : fs.length < 100) (hd : d < P.n) (ho : o ∈ L ∨ o < 5) : ∀ (ks : List Si) (E1 E0 : EnvV) (s fu v6 : Nat) (oo : Int32), KT P S i.1 (P.mty i.2.1) ks E1 → TyL P G.1 lo ks E0 → KC P C i.1 (P.mty i.2.1) M X U g ks s oo → v6 + cty ks < 3100 → cty ks < fu → match P.thK d ks with
    | none => fX5_throwObject_52 N k27 fu 128 (wO (A o)) (Int32.ofNat d) (Int32.ofNat fs.length) oo (Int32.ofNat v6) h = k27 128 (wO (A o)) (Int32.ofNat d) (Int32.ofNat fs.length + (-1 : Int32)) h
    | some x => ∃ h', fX5_throwObject_52 N k27 fu 128 (wO (A o)) (Int32.ofNat d) (Int32.ofNat fs.length) oo (Int32.ofNat v6) h = some h' ∧ (∃ t pc, CRn P C U g h' G (P.lnd o i lo x.1 x.2.1 x.2.2) fs t pc) ∧ Out h h'
  | [], E1, E0, s, fu, v6, oo, hk, hy, hc, h6, hf => by
    obtain ⟨fu, rfl⟩ : ∃ f', fu = f' + 1 := ⟨fu - 1, by omega⟩
    show fX5_throwObject_52 N k27 (fu + 1) 128 (wO (A o)) (Int32.ofNat d) (Int32.ofNat fs.length) oo (Int32.ofNat v6) h = k27 128 (wO (A o)) (Int32.ofNat d) (Int32.ofNat fs.length + (-1 : Int32)) h
    have e0 : cty [] = 0 := rfl
    rw [fX5_throwObject_52, show (3100 : Int32) = Int32.ofNat 3100 from rfl, if_neg (by rw [iLe (by omega) (by omega)]; omega), if_pos hc.2.2]
    rfl
  | (k, E', bb, z) :: ks, E1, E0, s, fu, v6, oo, hk, hy, hc, h6, hf => by
    have ec : cty ((k, E', bb, z) :: ks) = (if k = 4 then 1 else 0) + cty ks := rfl
    rw [ec] at h6 hf
    have hrec := thr_52 (S := S) (k27 := k27) hm hN hct hcp hU hb h13 h14 hF hL hn hd ho ks
    have et : P.thK d ((k, E', bb, z) :: ks) = if k = 4 then (match P.fnd (P.1 (tryI bb).1) with
      | some e => if P.und d e = true then some (E', bb, ks) else P.thK d ks
      | none => P.thK d ks) else P.thK d ks := rfl
    rw [et]
    unfold KT at hk
    by_cases c0 : k = 0
    · subst c0
      rw [if_pos rfl] at hk
      rw [if_neg (by omega)] at h6 hf ⊢
      obtain ⟨-, -, -, E2, -, hk⟩ := hk
      rw [KC_0] at hc
      rw [TyL_p (by omega)] at hy
      exact hrec E2 E0 _ fu v6 oo hk hy hc.2 (by omega) (by omega)
    rw [if_neg c0] at hk
    by_cases c2 : k = 2
    · subst c2
      rw [if_pos rfl] at hk
      rw [if_neg (by omega)] at h6 hf ⊢
      rw [KC_2] at hc
      obtain ⟨s', -, hc⟩ := hc
      rw [TyL_b (by omega)] at hy
      exact hrec E' E' _ fu v6 oo hk.2 hy.2.2 hc (by omega) (by omega)
    rw [if_neg c2] at hk
    by_cases c3 : k = 3
    · subst c3
      rw [if_pos rfl] at hk
      rw [if_neg (by omega)] at h6 hf ⊢
      rw [KC_3] at hc
      obtain ⟨s', -, -, -, -, hc⟩ := hc
      rw [TyL_b (by omega)] at hy
      exact hrec _ E' _ fu v6 oo hk.2.2.2.2.2 hy.2.2 hc (by omega) (by omega)
    rw [if_neg c3] at hk
    by_cases c4 : k = 4
    · subst c4
      rw [if_pos rfl] at hk h6 hf
      rw [if_pos rfl]
      obtain ⟨hE, ⟨p, a, cw, w, cb', r, rfl⟩, -, -, ⟨E2, hck⟩, hk⟩ := hk
      rw [KC_4] at hc
      obtain ⟨s0, o', hoo, hs, htc, hc⟩ := hc
      rw [TyL_b (by omega)] at hy
      obtain ⟨hpx, hlt, hy⟩ := hy
      have hlt := hlt rfl
      obtain ⟨E3, e, E0', E4, i1, i2, i3, i4, i5, i6, i7⟩ := inv_try hck
      rw [TC_try] at htc
      obtain ⟨⟨y1, y2, y3⟩, t1, t2⟩ := htc
      obtain ⟨u1, u2, u3, u4, u5, u6, u7⟩ := t2 e E0' i2 i3
      have hsU := hc.lt
      have hU2 := hU.2
      have esl : slL (bTry p a cw w cb' r) = 1 + cb a + 1 + cb cb' + 1 := rfl
      have he := (Pgm.fnd_lt i2).1
      have etr : (tryI (bTry p a cw w cb' r)).1 = cw := rfl
      rw [etr, i2]
      dsimp only
      obtain ⟨fu, rfl⟩ : ∃ f', fu = f' + 1 := ⟨fu - 1, by omega⟩
      have hun : ∀ (x : Option pH), (fX5_land N 128 (Int32.ofNat fs.length) (Int32.ofNat (s0 + 1 + cb a)) (wO (A o)) h).bind (fun h15 => some h15) = x → fX5_throwObject_52 N k27 (fu + 1) 128 (wO (A o)) (Int32.ofNat d) (Int32.ofNat fs.length) oo (Int32.ofNat v6) h = if P.und d e = true then x else fX5_throwObject_52 N k27 fu 128 (wO (A o)) (Int32.ofNat d) (Int32.ofNat fs.length) o' (Int32.ofNat (v6 + 1)) h := fun x hx => by
        have sg := hb.1.1
        have ei := CT.isSub (N := N) (t := 10 + d) (u := 10 + e) (hct.st hb.1) (hcp.st hb.1) hN (Or.inr ⟨by omega, by omega⟩) (Or.inr ⟨by omega, by omega⟩) (by omega) (by omega)
        rw [ctI_cls (by omega), ctI_cls (by omega), show 10 + d - 10 = d by omega, show 10 + e - 10 = e by omega, sub_und] at ei
        rw [fX5_throwObject_52, show (3100 : Int32) = Int32.ofNat 3100 from rfl, if_neg (by rw [iLe (by omega) (by omega)]; omega), hoo, if_neg (i_ne_neg (by omega) (by decide)), R_128_2 sg, Option.bind_some, R_38_1 sg, Option.bind_some, L_40 sg (by omega), Option.bind_some, R_128_0 sg, Option.bind_some, Option.bind_some, (R_38_1 sg), Option.bind_some, hb.1.2 40 s0 (by omega) (by omega), y2, L_40 sg (by omega), Option.bind_some, hb.1.2 40 _ (by omega) (by omega), u2, ei, Option.bind_some]
        dsimp only
        cases P.und d e with
        | true =>
          rw [if_neg (by decide), if_pos rfl]
          exact hx
        | false =>
          rw [if_pos (by decide), if_neg (by decide), R_128_2 sg, Option.bind_some, R_38_6 sg, Option.bind_some, L_45 sg (by omega), Option.bind_some, hb.1.2 45 s0 (by omega) (by omega), y3, i_add1]
      by_cases q : P.und d e = true
      · rw [if_pos q]
        dsimp only
        obtain ⟨h', e1, ⟨t, e2⟩, e3⟩ := land_cls (P := P) (C := C) (U := U) (N := N) (E' := E0') (ks' := (0, E0', cb', false) :: (2, P.nxE i.1 (P.mty i.2.1) (bTry p a cw w cb' r) E', nl, false) :: ks) (p9 := s0 + 1 + cb a) (e := E'.1.length) (w := wO (A o)) (v := .inr (some o)) hm hb h13 h14 hF hL hn (by omega) u3 u4 hlt.1 ⟨rfl, okV_ob ho⟩ (by
          refine ⟨o', s0 + 1 + cb a + 1, rfl, ?_⟩
          rw [KC_0, KC_2]
          refine ⟨u5, s, Or.inl ⟨Or.inr (Or.inr u6.1), ?_⟩, hc⟩
          rw [hs, esl]; omega)
        refine ⟨h', ?_, ⟨t, s0 + 1 + cb a + 1, ?_⟩, e3⟩
        · rw [hun (some h') (by rw [e1]; rfl), if_pos q]
        · have el : P.lnd o i lo E' (bTry p a cw w cb' r) ks = (i, lo.take E'.1.length ++ [.inr (some o)], [], E0', [], (0, E0', cb', false) :: (2, P.nxE i.1 (P.mty i.2.1) (bTry p a cw w cb' r) E', nl, false) :: ks) := by
            unfold Pgm.lnd
            rw [show (tryI (bTry p a cw w cb' r)).1 = cw from rfl, show (tryI (bTry p a cw w cb' r)).2.1 = w from rfl, show (tryI (bTry p a cw w cb' r)).2.2 = cb' from rfl, i3]
            rfl
          rw [el]
          exact e2
      · rw [if_neg q]
        have := hrec _ E' _ fu (v6 + 1) o' hk hy hc (by omega) (by omega)
        rw [hun _ rfl, if_neg q]
        exact this
    rw [if_neg c4] at hk
    exact hk.elim
theorem KH.tr {P : Pgm} {S : Tks} {C : Cx} {c mt M X U s d : Nat} {g : pH} {hp : List Ob} {lo : List Vl} {ks : List Si} {E E0 : EnvV} {a : List (Bool × Nat)} {o : Int32} (hk : KH P S c mt ks E a) (hy : TyL P hp lo ks E0) (hc : KC P C c mt M X U g ks s o) : ∃ ks' E1 s', P.thK d ks = P.thK d ks' ∧ KT P S c mt ks' E1 ∧ TyL P hp lo ks' E0 ∧ KC P C c mt M X U g ks' s' o := by
  match ks, hk, hy, hc with
  | [], hk, hy, hc => exact ⟨[], E, s, rfl, hk.2, hy, hc⟩
  | (k, E', b, z) :: ks, hk, hy, hc =>
    by_cases c1 : k = 1
    · subst c1
      rw [TyL_p (by omega)] at hy
      rw [KC_1] at hc
      obtain ⟨s0, -, -, -, hc⟩ := hc
      exact ⟨ks, _, _, rfl, hk.2.2.2.2.2.2, hy, hc⟩
    · by_cases c5 : k = 5
      · subst c5
        rw [TyL_p (by omega)] at hy
        rw [KC_5] at hc
        exact ⟨ks, _, _, rfl, hk.2, hy, hc.2⟩
      · unfold KH at hk
        dsimp only at hk
        rw [if_neg c1, if_neg c5] at hk
        exact ⟨(k, E', b, z) :: ks, E, s, rfl, hk.2, hy, hc⟩
def ThR (P : Pgm) (C : Cx) (U : Nat) (g h' : pH) (G : Gs) (d pc : Nat) : Option (List Fm) → Prop
  | some (f :: fs) => ∃ t, CRn P C U g h' G f fs t pc
  | some [] => False
  | none => StC g h' ∧ FtC h' ∧ CnC G h' ∧ rd h' 128 13 = 2 ∧ rd h' 128 14 = Int32.ofNat d
theorem thr_27 {P : Pgm} {S : Tks} {C : Cx} {D : List Int32 → Prop} {num : List Int32 → Nat} {U N : Nat} {g h : pH} {G : Gs} {A : Nat → Nat} {L : List Nat} {d o : Nat} (hN : 1100 ≤ N) (hct : CT P D num g) (hcp : CPr P g) (hU : Cde U g) (hb : Bse g G A L h) (h13 : rd h 128 13 = 0) (h14 : rd h 128 14 = 0) (hd : d < P.n) (ho : o ∈ L ∨ o < 5) : ∀ (fs : List Fm) (f : Fm) (fu : Nat), AtT P C U g A L h f fs → FK P S G.1 f → (∃ pre, FsT P S G.1 fs pre) → fs.length < 100 → fs.length + 1 < fu → ∃ h' pc, fX5_throwObject_27 N fu 128 (wO (A o)) (Int32.ofNat d) (Int32.ofNat fs.length) h = some h' ∧ Out h h' ∧ ThR P C U g h' G d pc (P.thF d o (f :: fs))
  | fs, (i, lo, ops, E, xs, ks), fu, ha, hk, hfs, hn, hf => by
    obtain ⟨fu, rfl⟩ : ∃ f', fu = f' + 1 := ⟨fu - 1, by omega⟩
    have sg := hb.1.1
    have hU2 := hU.2
    obtain ⟨b, M, X, q, oo, s, k1, k2, k3, k4, k5, k6⟩ := ha
    obtain ⟨⟨bb, hbb, -⟩, -, -, -, hy, E1, a, hkh⟩ := hk
    have hm : i.2.1 < 1000 := by
      have := (List.getElem?_eq_some_iff.mp hbb).1
      have := hct.2.2.2.2.2.2.2.2.2.1
      have hbb : i.2.1 < P.ms.length := (List.getElem?_eq_some_iff.mp hbb).1
      omega
    obtain ⟨ks', E2, s', j1, j2, j3, j4⟩ := KH.tr (d := d) hkh hy k5
    have hcty := KT_cty j2
    have := thr_52 (k27 := fX5_throwObject_27 N fu) hm hN hct hcp hU hb h13 h14 k1 k6 hn hd ho ks' E2 _ s' N 0 oo j2 j3 j4 (by omega) (by omega)
    have etf : P.thF d o ((i, lo, ops, E, xs, ks) :: fs) = match P.thK d ks' with
      | some (E, b, ks') => some (P.lnd o i lo E b ks' :: fs)
      | none => P.thF d o fs := by rw [← j1]; rfl
    have e27 : fX5_throwObject_27 N (fu + 1) 128 (wO (A o)) (Int32.ofNat d) (Int32.ofNat fs.length) h = fX5_throwObject_52 N (fX5_throwObject_27 N fu) N 128 (wO (A o)) (Int32.ofNat d) (Int32.ofNat fs.length) oo (Int32.ofNat 0) h := by
      rw [fX5_throwObject_27, if_neg (i_nneg (by omega)), R_128_2 sg, Option.bind_some, R_38_6 sg, Option.bind_some, R_128_7 sg, Option.bind_some, L_133 sg hn, Option.bind_some, k2, L_45 sg (by omega), Option.bind_some, hb.1.2 45 _ (by omega) (by omega), k4]
      rfl
    rw [e27, etf]
    cases hq : P.thK d ks' with
    | some x =>
      rw [hq] at this
      obtain ⟨h', e1, ⟨t, pc, e2⟩, e3⟩ := this
      exact ⟨h', pc, e1, e3, t, e2⟩
    | none =>
      rw [hq] at this
      dsimp only at this ⊢
      rw [this]
      match fs, hfs, hn, hf, k6 with
      | [], hfs, hn, hf, k6 =>
        obtain ⟨fu, rfl⟩ : ∃ f', fu = f' + 1 := ⟨fu - 1, by have e : ([] : List Fm).length = 0 := rfl; omega⟩
        have c1 : Cg QF (fun _ => False) (fun _ => False) h (wr h 128 13 2) := Cg.wr h 13 _ (by unfold QF; omega)
        have c2 := c1.trans (Cg.wr (Z := fun _ => False) (T := fun _ => False) (wr h 128 13 2) 14 (Int32.ofNat d) (by unfold QF; omega))
        refine ⟨_, 0, ?_, c2.out, c2.st hb.1, c2.ft sg hb.2.1, c2.cn (fun _ z => z) hb.2.2.1, ?_, w_128_14 (c1.sg sg) _⟩
        · rw [show Int32.ofNat ([] : List Fm).length + (-1 : Int32) = -1 by decide, fX5_throwObject_27, if_pos (by decide), p_128_13 sg, Option.bind_some, p_128_14 (c1.sg sg), Option.bind_some]
        · rw [rd_wr_ne _ _ (by omega), w_128_13 sg]
      | f' :: fs, ⟨pre, hfs⟩, hn, hf, k6 =>
        rw [List.length_cons] at hn hf
        rw [List.length_cons, i_m1]
        exact thr_27 hN hct hcp hU hb h13 h14 hd ho fs f' fu k6.at hfs.1.fk ⟨_, hfs.2⟩ (by omega) (by omega)
theorem thr_cls {P : Pgm} {S : Tks} {C : Cx} {D : List Int32 → Prop} {num : List Int32 → Nat} {U N : Nat} {g h : pH} {G : Gs} {A : Nat → Nat} {L : List Nat} {d o : Nat} {fl : List Vl} {f : Fm} {fs : List Fm} (hN : 1100 ≤ N) (hct : CT P D num g) (hcp : CPr P g) (hU : Cde U g) (hb : Bse g G A L h) (h13 : rd h 128 13 = 0) (h14 : rd h 128 14 = 0) (h11 : rd h 128 11 = Int32.ofNat (fs.length + 1)) (hho : HO P G.1) (hob : G.1[o]? = some (some d, fl)) (ho : o ∈ L ∨ o < 5) (ha : AtT P C U g A L h f fs) (hk : FK P S G.1 f) (hfs : ∃ pre, FsT P S G.1 fs pre) (hn : fs.length < 100) : ∃ h' pc, fX5_throwObject N 128 (wO (A o)) h = some h' ∧ CRs P C U g h' (P.thr G o (f :: fs)) pc ∧ Out h h' := by
  have sg := hb.1.1
  have hd := hho.cls hob
  have s1 : Sg (wr h 128 17 (Int32.ofNat (G.2.2.2.1.2.2 + 1))) := sg.wr _ _ _
  have c1 : Cg (fun k => k = 17) (fun _ => False) (fun _ => False) h (wr h 128 17 (Int32.ofNat (G.2.2.2.1.2.2 + 1))) := Cg.wr h 17 _ rfl
  have hb1 : Bse g (G.1, G.2.1, G.2.2.1, (G.2.2.2.1.1, G.2.2.2.1.2.1, G.2.2.2.1.2.2 + 1), G.2.2.2.2) A L (wr h 128 17 (Int32.ofNat (G.2.2.2.1.2.2 + 1))) := by
    refine ⟨c1.st hb.1, c1.ft sg hb.2.1, ?_, c1.hp sg hb.2.2.2⟩
    obtain ⟨b1, b2, b3, b4, b5, z, b6, b7, b8, b9, b10⟩ := hb.2.2.1
    exact ⟨by rw [rd_wr_ne _ _ (by omega)]; exact b1, by rw [rd_wr_ne _ _ (by omega)]; exact b2, w_128_17 sg _, by rw [rd_wr_ne _ _ (by omega)]; exact b4, fun j x h1 h2 => by rw [rd_wr_ne _ _ (by omega)]; exact b5 j x h1 h2, z, by rw [rd_wr_ne _ _ (by omega)]; exact b6, b7, by rw [rd_wr_ne _ _ (by omega)]; exact b8, b9, fun j x h1 => by rw [rd_wr_ne _ _ (by omega)]; exact b10 j x h1⟩
  have pg : PgA (fs.length + 1) 500000 h (wr h 128 17 (Int32.ofNat (G.2.2.2.1.2.2 + 1))) := c1.pg (fun _ z => z.elim) (fun _ z => z.elim) sg
  have hpn := sg.pile.2.2.2.2
  have ha1 : AtT P C U g A L (wr h 128 17 (Int32.ofNat (G.2.2.2.1.2.2 + 1))) f fs := by
    obtain ⟨b, M, X, q, oo, s, k1, k2, k3, k4, k5, k6⟩ := ha
    have := k1.2.2.2.2.2.2.2.2.2.2.1
    exact ⟨b, M, X, q, oo, s, k1.ag pg (by omega), by rw [rd_wr_ne _ _ (by omega)]; exact k2, k3, k4, k5, k6.ag pg (by omega) (by omega)⟩
  obtain ⟨h', pc, e1, e2, e3⟩ := thr_27 (N := N) (o := o) hN hct hcp hU hb1 (by rw [rd_wr_ne _ _ (by omega)]; exact h13) (by rw [rd_wr_ne _ _ (by omega)]; exact h14) hd ho fs f N ha1 hk hfs hn (by omega)
  refine ⟨h', pc, ?_, ?_, c1.out.trans e2⟩
  · unfold fX5_throwObject
    rw [if_pos (o_128 sg), g_128_17 sg, Option.bind_some, hb.2.2.1.2.2.1, i_add1, p_128_17 sg, Option.bind_some, R_128_4 s1, Option.bind_some, e3_cls (P := P) (G := (G.1, G.2.1, G.2.2.1, (G.2.2.2.1.1, G.2.2.2.1.2.1, G.2.2.2.1.2.2 + 1), G.2.2.2.2)) hho hb1 ho hob, Option.bind_some]
    dsimp only
    rw [g_128_11 s1, Option.bind_some, rd_wr_ne _ _ (by omega), h11, i_sub1, clW_to]
    exact e1
  · unfold Pgm.thr
    have eo : (obC G.1 o).getD 0 = d := by unfold obC; rw [hob]; rfl
    rw [eo]
    cases hq : P.thF d o (f :: fs) with
    | none =>
      rw [hq] at e3
      obtain ⟨r1, r2, r3, r4, r5⟩ := e3
      exact ⟨r1, r2, r3, r4, r5, by omega, by omega⟩
    | some r =>
      rw [hq] at e3
      match r, e3 with
      | [], e3 => exact e3.elim
      | f' :: fs', e3 => exact e3
