/-! ===== THE CLASS settles ===== -/
def hdK : List Si → Nat
  | [] => 0
  | s :: _ => s.1
def muF (pc : Nat) (xs : List Xi) (ks : List Si) (n : Nat) : Nat := if hdK ks = 1 then xw xs else 3200 - pc + 3000 + 3200 * n
def muS (pc : Nat) : Mst → Nat
  | (_, .inl ((_, _, _, _, xs, ks) :: fs)) => muF pc xs ks fs.length
  | _ => 0
def CRn (P : Pgm) (C : Cx) (U : Nat) (g h : pH) (G : Gs) (f : Fm) (fs : List Fm) (t pc : Nat) : Prop := rd h 128 13 = 0 ∧ rd h 128 14 = 0 ∧ ∃ A L, Bse g G A L h ∧ TpK P C U g A L h f fs t pc
def CRs (P : Pgm) (C : Cx) (U : Nat) (g h : pH) (σ : Mst) (pc : Nat) : Prop := match σ with
  | (_, .inl []) => False
  | (G, .inl (f :: fs)) => ∃ t, CRn P C U g h G f fs t pc
  | (G, .inr (k, a)) => StC g h ∧ FtC h ∧ CnC G h ∧ rd h 128 13 = Int32.ofNat k ∧ rd h 128 14 = a ∧ 1 ≤ k ∧ k ≤ 4
theorem mu_le {pc n : Nat} {xs : List Xi} {ks : List Si} (hx : xw xs ≤ 3000) : muF pc xs ks n ≤ 3200 - pc + 3000 + 3200 * n := by
  unfold muF
  split <;> omega
theorem LwC.base {P : Pgm} {C : Cx} {U : Nat} {g : pH} {A : Nat → Nat} {L : List Nat} {h : pH} {fs : List Fm} {t se : Nat} (k : LwC P C U g A L h fs t se) (hf : fs = []) : t = 0 := by
  subst hf
  exact k
/-- a method gives a word back -/
theorem ret_cls {P : Pgm} {C : Cx} {U N b se : Nat} {g h : pH} {G : Gs} {A : Nat → Nat} {L : List Nat} {fs : List Fm} (hs : Bse g G A L h) (h13 : rd h 128 13 = 0) (h14 : rd h 128 14 = 0) (hb : rd h 134 fs.length = Int32.ofNat b) (hb1 : 1 ≤ b) (hL : LwC P C U g A L h fs (b - 1) se) (h11 : rd h 128 11 = Int32.ofNat (fs.length + 1)) (hn : fs.length < 100) {w : Int64} {v : Vl} {z : Bool} (hw : Ww A L w v) (hw' : fs = [] → w.toInt32 = vI v) (hx : ∀ f, f ∈ fs → xw f.2.2.2.2.1 ≤ 3000) : ∃ h' pc', fX5_closeMethod N 128 w h = some h' ∧ CRs P C U g h' (retM G z v fs) pc' ∧ Out h h' ∧ muS pc' (retM G z v fs) ≤ 3000 + 3200 * fs.length := by
  have sg := hs.1.1
  match fs, hL, hx with
  | [], hL, hx =>
    obtain ⟨h', e1, e2, e3, e4⟩ := e5_close0 (N := N) sg h11 hb w
    exact ⟨h', 0, e1, ⟨e2.st hs.1, e2.ft sg hs.2.1, e2.cn (fun _ z => z) hs.2.2.1, e3, e4.trans (hw' rfl), Nat.le_refl _, by omega⟩, e2.out, Nat.zero_le _⟩
  | (i, lo, ops, E, xs, ks) :: fs, hL, hx =>
    obtain ⟨b1, M, X, q, o, k1, k2, k3, k4, k5, k6⟩ := hL
    rw [List.length_cons] at h11 hb hn
    have ht := k1.top
    have k9 : b - 1 = b1 + M + ops.length := k1.2.2.2.2.2.2.2.2.1
    have hb1' := k1.2.2.2.1
    obtain ⟨h', e1, e2, e3, e4, e5, e6⟩ := e5_close (N := N) (b := b - 1) (n := fs.length) (q := q) sg h11 (by omega) (by rw [hb, show b - 1 + 1 = b by omega]) k3.1 (by omega) w
    have pg : PgA fs.length (b - 1) h h' := e2.pg (fun _ z => z.elim) (fun k z => Nat.le_of_eq z.symm) sg
    have hq : ∀ k, (k = 6 ∨ k = 11 ∨ k = 12) → QF k := fun k z => by unfold QF; omega
    refine ⟨h', q + 1, e1, ⟨b - 1 + 1, ?_, ?_, A, L, e2.bse hq hs, b1, M, X, o, ?_, k4, ?_, e3, e4, e5⟩, e2.out, ?_⟩
    · rw [e2.2.2.1 _ _ (by omega) (by omega)]; exact h13
    · rw [e2.2.2.1 _ _ (by omega) (by omega)]; exact h14
    · refine (k1.ag pg (Nat.le_refl _)).push ?_ ?_
      · rw [pileR_of e2.1, e6]; exact hw
      · have := k1.2.2.2.2.2.2.2.2.2.2.2.2.2
        rw [show 0 + (ops.length + 1) = 1 + ops.length by omega]
        exact this
    · exact k6.ag pg (Nat.le_refl _) (by omega)
    · show muF (q + 1) xs ks fs.length ≤ _
      have := mu_le (pc := q + 1) (n := fs.length) (xs := xs) (ks := ks) (hx _ (List.mem_cons_self ..))
      rw [List.length_cons]
      omega
theorem FsT.xw {P : Pgm} {S : Tks} {hp : List Ob} : ∀ {fs : List Fm} {pre : List (Bool × Nat)}, FsT P S hp fs pre → ∀ f, f ∈ fs → xw f.2.2.2.2.1 ≤ 3000
  | [], _, _, f, hf => by cases hf
  | f0 :: fs, _, h, f, hf => by
    rcases List.mem_cons.mp hf with rfl | hf
    · exact h.1.2.2.2.2.2.2.2.2
    · exact FsT.xw h.2 f hf
theorem OT.nil {P : Pgm} {hp : List Ob} {o : List (Bool × Vl)} (h : OT P hp o []) : o = [] := by
  have := h.len
  exact List.length_eq_zero_iff.mp this
/-- one move that is no step -/
theorem csil {P : Pgm} {S : Tks} {C : Cx} {U N : Nat} {g h : pH} {G : Gs} {f : Fm} {fs : List Fm} {t pc : Nat} {σ : Mst} (hU : Cde U g) (hg : GdM P S (G, .inl (f :: fs))) (hr : CRn P C U g h G f fs t pc) (hsil : P.sil G f fs = some σ) : ∃ m h' pc', CRs P C U g h' σ pc' ∧ muS pc' σ + m ≤ muS pc (G, .inl (f :: fs)) ∧ Out h h' ∧ ∀ d v, v + m ≤ 1000000 → fX5_settle_2 N (d + m) 128 (Int32.ofNat v) h = fX5_settle_2 N d 128 (Int32.ofNat (v + m)) h' := by
  have hgσ := sil_good hg hsil
  obtain ⟨i, lo, ops, E, xs, ks⟩ := f
  obtain ⟨h13, h14, A, L, hb, b, M, X, o, k1, ⟨s, x1, x2⟩, k3, k4, k5, k6⟩ := hr
  have x1 : XC P C i.1 E g o xs pc s := x1
  have x2 : KC P C i.1 (P.mty i.2.1) M X U g ks s o := x2
  have hU2 := hU.2
  have sg := hb.1.1
  have st := hb.1
  obtain ⟨ho, hfs, -, hlen, hH⟩ := hg
  have hxw := hfs.xw
  obtain ⟨hft, hrs⟩ := hfs
  obtain ⟨-, -, -, hge, hlo, hty, ⟨a, a', ot, xt, kh⟩, -, hw3⟩ := hft
  have hw3 : xw xs ≤ 3000 := hw3
  have hlo : LoT P G.1 E lo := hlo
  have ot : OT P G.1 ops a := ot
  have xt : XT P S i.1 E xs a a' := xt
  have kh : KH P S i.1 (P.mty i.2.1) ks E a' := kh
  rw [List.length_cons] at hlen
  have htop := k1.top
  have k9 : t = b + M + ops.length := k1.2.2.2.2.2.2.2.2.1
  have kx : XH xs (0 + ops.length) X := k1.2.2.2.2.2.2.2.2.2.2.2.2.2
  have kb := k1.2.2.2.1
  have hl2 := x1.le
  have hl3 := x2.lt
  have hpU : pc < U := by omega
  have nx : ∀ {h' : pH} {Q T : Nat → Prop}, Cg Q (fun _ => False) T h h' → (∀ k, Q k → k = 6 ∨ k = 12) → rd h' 128 13 = 0 ∧ rd h' 128 14 = 0 ∧ rd h' 128 11 = Int32.ofNat (fs.length + 1) ∧ Bse g G A L h' := fun {h'} {Q T} q hq => ⟨by rw [q.2.2.1 _ _ (fun z => by have := hq _ z.2; omega) (by omega)]; exact h13, by rw [q.2.2.1 _ _ (fun z => by have := hq _ z.2; omega) (by omega)]; exact h14, by rw [q.2.2.1 _ _ (fun z => by have := hq _ z.2; omega) (by omega)]; exact k5, q.bse (fun k z => by have := hq _ z; unfold QF; omega) hb⟩
  have pgl : ∀ {h' : pH} {Q T : Nat → Prop}, Cg Q (fun _ => False) T h h' → (∀ k, T k → b ≤ k) → LwC P C U g A L h' fs (b - 1) i.2.2 := fun {h'} {Q T} q hT => k3.ag (n := fs.length) (T := b) (q.pg (fun _ z => z.elim) hT sg) (Nat.le_refl _) (by omega)
  have stp : ∀ {h' : pH} {pc' : Nat} {k : Int32}, rd g 39 pc' = k → ¬ k < 50 → ∀ {h1 : pH}, StC g h1 → rd h1 128 13 = 0 → rd h1 128 12 = Int32.ofNat pc' → pc' < U → fX5_actSilent N 128 k (Int32.ofNat pc') h1 = some h' → ∀ d v, v + 1 ≤ 1000000 → fX5_settle_2 N (d + 1) 128 (Int32.ofNat v) h1 = fX5_settle_2 N d 128 (Int32.ofNat (v + 1)) h' := fun {h' pc' k} e1 e2 {h1} e3 e4 e5 e6 e7 d v hv => settle_go e3 hU e6 e4 e5 e1 e2 hv e7
  match xs, x1, xt, kx, hsil, hl2, hw3 with
  | .inr (k, e) :: xs, x1, xt, kx, hsil, hl2, hw3 => cases hsil
  | .inl (k, v, w, z, l) :: xs, x1, xt, kx, hsil, hl2, hw3 =>
    rw [List.length_cons] at hl2
    obtain ⟨y1, y2, y3⟩ := x1
    obtain ⟨w1, w2⟩ := kx
    by_cases hk : k = 50
    · subst hk
      have hsil : some (G, Sum.inl ((i, lo, (true, .inr (some i.2.2)) :: ops, E, xs, ks) :: fs)) = some σ := hsil
      obtain rfl := Option.some.inj hsil
      rw [if_pos rfl] at w2
      obtain ⟨h', e1, e2, e3, e4, e5⟩ := sil_self (pc := pc) (N := N) sg k5 (by omega) k4 (by omega)
      obtain ⟨n1, n2, n3, n4⟩ := nx e2 (fun _ z => z)
      refine ⟨1, h', pc + 1, ⟨t + 1, n1, n2, A, L, n4, b, M, X, o, ?_, ⟨s, y3, x2⟩, pgl e2 (fun k z => by omega), e4, n3, e3⟩, ?_, e2.out, fun d v hv => stp (k := 50) (y1.1.trans rfl) (by decide) st h13 k6 hpU e1 d v hv⟩
      · refine (k1.ag (e2.pg (n := fs.length) (t := t) (fun _ z => z.elim) (fun k z => Nat.le_of_eq z.symm) sg) (Nat.le_refl _)).push ?_ ?_
        · rw [pileR_of e2.1, e5]; exact k1.2.2.1
        · rw [show 0 + (ops.length + 1) = 0 + ops.length + 1 by omega]; exact w2
      · show muF (pc + 1) xs ks fs.length + 1 ≤ muF pc (_ :: xs) ks fs.length
        unfold muF
        have : xw (Sum.inl (50, v, w, z, l) :: xs) = 1 + xw xs := rfl
        rw [this]
        split <;> omega
    · by_cases hk2 : k = 51
      · subst hk2
        have hsil : some (G, Sum.inl ((i, lo, ops, E, xs, ks) :: fs)) = some σ := hsil
        obtain rfl := Option.some.inj hsil
        rw [if_neg (by omega), if_pos rfl] at w2
        have e2 : Cg (fun k => k = 12) (fun _ => False) (fun _ => False) h (wr h 128 12 (Int32.ofNat (pc + 1))) := Cg.wr h 12 _ rfl
        obtain ⟨n1, n2, n3, n4⟩ := nx e2 (fun _ z => Or.inr z)
        refine ⟨1, _, pc + 1, ⟨t, n1, n2, A, L, n4, b, M, X, o, ?_, ⟨s, y3, x2⟩, pgl e2 (fun k z => z.elim), ?_, n3, w_128_12 sg _⟩, ?_, e2.out, fun d v hv => stp (k := 51) (y1.1.trans rfl) (by decide) st h13 k6 hpU (sil_nop sg (Or.inl rfl)) d v hv⟩
        · exact (k1.ag (e2.pg (n := fs.length) (t := t) (fun _ z => z.elim) (fun k z => z.elim) sg) (Nat.le_refl _)).same w2
        · rw [e2.2.2.1 _ _ (by omega) (by omega)]; exact k4
        · show muF (pc + 1) xs ks fs.length + 1 ≤ muF pc (_ :: xs) ks fs.length
          unfold muF
          have : xw (Sum.inl (51, v, w, z, l) :: xs) = 1 + xw xs := rfl
          rw [this]
          split <;> omega
      · have hsil : (if k = 50 then some (G, Sum.inl ((i, lo, (true, .inr (some i.2.2)) :: ops, E, xs, ks) :: fs)) else if k = 51 then some (G, Sum.inl ((i, lo, ops, E, xs, ks) :: fs)) else none) = some σ := hsil
        rw [if_neg hk, if_neg hk2] at hsil
        cases hsil
  | [], x1, xt, kx, hsil, hl2, hw3 =>
    have x1 : pc = s := x1
    subst x1
    have xt : a = a' := xt
    subst xt
    have x0 : ∀ x, XH [] x X = (x ≤ X) := fun _ => rfl
    match ks, x2, kh, hsil, hty with
    | [], x2, kh, hsil, hty =>
      have hsil : some (retM G true (.inl 0) fs) = some σ := hsil
      obtain rfl := Option.some.inj hsil
      have e2 : Cg (fun k => k = 12) (fun _ => False) (fun _ => False) h (wr h 128 12 (Int32.ofNat (pc + 1))) := Cg.wr h 12 _ rfl
      obtain ⟨n1, n2, n3, n4⟩ := nx e2 (fun _ z => Or.inr z)
      obtain ⟨h', pc', f1, f2, f3, f4⟩ := ret_cls (P := P) (C := C) (U := U) (N := N) (b := b) (w := 0) (v := .inl 0) (z := true) n4 n1 n2 (by rw [e2.2.2.1 _ _ (by omega) (by omega)]; exact k1.1) kb (pgl e2 (fun _ z => z.elim)) n3 (by omega) ⟨wN_0.symm, okV_inl _ _⟩ (fun _ => rfl) (fun f hf => hxw f (List.mem_cons_of_mem _ hf))
      refine ⟨1, h', pc', f2, ?_, e2.out.trans f3, fun d v hv => stp x2.1 (by decide) st h13 k6 hpU ?_ d v hv⟩
      · show muS pc' _ + 1 ≤ 3200 - pc + 3000 + 3200 * fs.length
        omega
      · unfold fX5_actSilent
        rw [if_pos (o_128 sg), i_add1, p_128_12 sg, Option.bind_some]
        show ((fX5_closeMethod N 128 (0 : Int64) _).bind fun h29 => some h29) = some h'
        rw [f1, Option.bind_some]
    | (k, E', bb, z) :: ks, x2, kh, hsil, hty =>
      by_cases c0 : k = 0
      · subst c0
        have hsil : some (G, Sum.inl ((i, (P.stU i.1 (P.mty i.2.1) bb E' lo ks).1, ops, (P.stU i.1 (P.mty i.2.1) bb E' lo ks).2) :: fs)) = some σ := hsil
        obtain rfl := Option.some.inj hsil
        have kh : a = [] ∧ E = E' ∧ (∃ n, GK S n bb) ∧ CapB 100 E bb ks ∧ ∃ E2, P.chk i.1 (P.mty i.2.1) bb E = .inr E2 ∧ KT P S i.1 (P.mty i.2.1) ks E2 := kh
        obtain ⟨rfl, rfl, ⟨n, hgk⟩, hcap, E2, hck, hkt⟩ := kh
        obtain rfl := ot.nil
        rw [KC_0] at x2
        have sx : xw (P.stU i.1 (P.mty i.2.1) bb E lo ks).2.2.1 ≤ 3000 := by
          exact hgσ.2.1.1.2.2.2.2.2.2.2.2
        obtain ⟨o', s', s2, hs', y1, y2, y3⟩ := st_cls lo hgk hck x2.1 x2.2
        have hmu : ∀ pc', pc ≤ pc' → muS pc' (G, Sum.inl ((i, (P.stU i.1 (P.mty i.2.1) bb E lo ks).1, ([] : List (Bool × Vl)), (P.stU i.1 (P.mty i.2.1) bb E lo ks).2) :: fs)) + (pc' - pc) ≤ muS pc (G, Sum.inl ((i, lo, ([] : List (Bool × Vl)), E, [], (0, E, bb, z) :: ks) :: fs)) ∨ 3200 ≤ pc' := fun pc' hp => by
          show muF pc' (P.stU i.1 (P.mty i.2.1) bb E lo ks).2.2.1 (P.stU i.1 (P.mty i.2.1) bb E lo ks).2.2.2 fs.length + (pc' - pc) ≤ 3200 - pc + 3000 + 3200 * fs.length ∨ _
          have := mu_le (pc := pc') (n := fs.length) (ks := (P.stU i.1 (P.mty i.2.1) bb E lo ks).2.2.2) sx
          omega
        have hll := y1.le
        have hlt := y2.lt
        rcases hs' with ⟨rfl, hlo'⟩ | ⟨rfl, h58, hlo'⟩ | ⟨rfl, h53, h40, hM, hlo'⟩
        · refine ⟨0, h, s', ⟨t, h13, h14, A, L, hb, b, M, X, o', ?_, ⟨s2, y1, y2⟩, k3, k4, k5, k6⟩, ?_, Out.refl h, fun d v _ => rfl⟩
          · rw [hlo']
            exact k1.same y3
          · have := hmu s' (Nat.le_refl _)
            omega
        · have e2 : Cg (fun k => k = 12) (fun _ => False) (fun _ => False) h (wr h 128 12 (Int32.ofNat (pc + 1))) := Cg.wr h 12 _ rfl
          obtain ⟨n1, n2, n3, n4⟩ := nx e2 (fun _ z => Or.inr z)
          refine ⟨1, _, pc + 1, ⟨t, n1, n2, A, L, n4, b, M, X, o', ?_, ⟨s2, y1, y2⟩, pgl e2 (fun k z => z.elim), ?_, n3, w_128_12 sg _⟩, ?_, e2.out, fun d v hv => stp h58 (by decide) st h13 k6 hpU (sil_nop sg (by right; right; right; left; rfl)) d v hv⟩
          · rw [hlo']
            exact (k1.ag (e2.pg (n := fs.length) (t := t) (fun _ z => z.elim) (fun k z => z.elim) sg) (Nat.le_refl _)).same y3
          · rw [e2.2.2.1 _ _ (by omega) (by omega)]; exact k4
          · have := hmu (pc + 1) (by omega)
            omega
        · have hlE : lo.length = E.1.length := hlo.1
          obtain ⟨h', e1, e2, e3, e4⟩ := sil_tell (N := N) (b := b) st (by omega) h40 k5 (by omega) k1.1 (by have := k1.2.2.2.2.2.2.2.2.2.2.1; omega)
          obtain ⟨n1, n2, n3, n4⟩ := nx e2 (fun _ z => Or.inr z)
          refine ⟨1, h', pc + 1, ⟨t, n1, n2, A, L, n4, b, M, X, o', ?_, ⟨s2, y1, y2⟩, pgl e2 (fun k z => by omega), ?_, n3, e3⟩, ?_, e2.out, fun d v hv => stp h53 (by decide) st h13 k6 hpU e1 d v hv⟩
          · rw [hlo']
            obtain ⟨j1, j2, j3, j4, j5, j6, j7, j8, j9, j10, j11, j12, j13, j14⟩ := k1
            have er : ∀ k, k ≠ b + E.1.length → rdJ h' (pileR h) k = rdJ h (pileR h) k := fun k hk => e2.2.2.2 _ _ (fun z => hk z.2)
            refine ⟨by rw [e2.2.2.1 _ _ (by omega) (by omega)]; exact j1, by rw [e2.2.2.1 _ _ (by omega) (by omega)]; exact j2, by rw [e2.2.2.2 _ _ (by have := sg.apart; omega)]; exact j3, j4, j5, j6, j7, j8, j9, ?_, by rw [pileN_of e2.1]; exact j11, ?_, ?_, y3⟩
            · show (lo ++ [Sum.inl 0]).length ≤ M
              rw [List.length_append, hlE]
              exact hM
            · intro j v hj
              have hj : (lo ++ [Sum.inl 0])[j]? = some v := hj
              rw [pileR_of e2.1]
              by_cases hjl : j < lo.length
              · rw [List.getElem?_append_left hjl] at hj
                rw [er _ (by omega)]
                exact j12 j v hj
              · rw [List.getElem?_append_right (by omega)] at hj
                have : j - lo.length = 0 := by
                  have := (List.getElem?_eq_some_iff.mp hj).1
                  have h1 : ([Sum.inl 0] : List Vl).length = 1 := rfl
                  omega
                rw [this] at hj
                obtain rfl : Sum.inl 0 = v := Option.some.inj hj
                rw [show b + j = b + E.1.length by omega, e4]
                exact ⟨wN_0.symm, okV_inl _ _⟩
            · intro j x hj
              cases hj
          · rw [e2.2.2.1 _ _ (by omega) (by omega)]; exact k4
          · have := hmu (pc + 1) (by omega)
            omega
      · by_cases c2 : k = 2
        · subst c2
          have hsil : some (G, Sum.inl ((i, lo.take E'.1.length, ops, E', [], ks) :: fs)) = some σ := hsil
          obtain rfl := Option.some.inj hsil
          rw [KC_2] at x2
          obtain ⟨s', j1, j2⟩ := x2
          have hlt := j2.lt
          rcases j1 with ⟨j1, rfl⟩ | ⟨u, j1, j3, j4, j5, rfl⟩
          · have e2 : Cg (fun k => k = 12) (fun _ => False) (fun _ => False) h (wr h 128 12 (Int32.ofNat (pc + 1))) := Cg.wr h 12 _ rfl
            obtain ⟨n1, n2, n3, n4⟩ := nx e2 (fun _ z => Or.inr z)
            refine ⟨1, _, pc + 1, ⟨t, n1, n2, A, L, n4, b, M, X, o, ?_, ⟨pc + 1, rfl, j2⟩, pgl e2 (fun k z => z.elim), ?_, n3, w_128_12 sg _⟩, ?_, e2.out, fun d v hv => stp rfl (by rcases j1 with j | j | j <;> rw [j] <;> decide) st h13 k6 hpU (sil_nop sg (by rcases j1 with j | j | j <;> rw [j] <;> simp)) d v hv⟩
            · exact (k1.ag (e2.pg (n := fs.length) (t := t) (fun _ z => z.elim) (fun k z => z.elim) sg) (Nat.le_refl _)).take _ kx
            · rw [e2.2.2.1 _ _ (by omega) (by omega)]; exact k4
            · show muF (pc + 1) [] ks fs.length + 1 ≤ 3200 - pc + 3000 + 3200 * fs.length
              have := mu_le (pc := pc + 1) (n := fs.length) (ks := ks) (xs := []) (Nat.zero_le _)
              omega
          · obtain ⟨h1, e1, e2, e3⟩ := sil_jmp (N := N) (k := rd g 39 pc) st (by omega) j3 (by rcases j1 with j | j <;> rw [j] <;> simp)
            obtain ⟨n1, n2, n3, n4⟩ := nx e2 (fun _ z => Or.inr z)
            have e4 : Cg (fun k => k = 12) (fun _ => False) (fun _ => False) h1 (wr h1 128 12 (Int32.ofNat (u + 1))) := Cg.wr h1 12 _ rfl
            have e5 := e2.trans e4
            obtain ⟨m1, m2, m3, m4⟩ := nx e5 (fun _ z => Or.inr z)
            refine ⟨2, _, u + 1, ⟨t, m1, m2, A, L, m4, b, M, X, o, ?_, ⟨u + 1, rfl, j2⟩, pgl e5 (fun k z => z.elim), ?_, m3, w_128_12 n4.1.1 _⟩, ?_, e5.out, fun d v hv => ?_⟩
            · exact (k1.ag (e5.pg (n := fs.length) (t := t) (fun _ z => z.elim) (fun k z => z.elim) sg) (Nat.le_refl _)).take _ kx
            · rw [e5.2.2.1 _ _ (by omega) (by omega)]; exact k4
            · show muF (u + 1) [] ks fs.length + 2 ≤ 3200 - pc + 3000 + 3200 * fs.length
              have := mu_le (pc := u + 1) (n := fs.length) (ks := ks) (xs := []) (Nat.zero_le _)
              omega
            · rw [show d + 2 = (d + 1) + 1 by omega, stp rfl (by rcases j1 with j | j <;> rw [j] <;> decide) st h13 k6 hpU e1 (d + 1) v (by omega), stp rfl (by rcases j4 with j | j <;> rw [j] <;> decide) n4.1 n1 e3 (by omega) (sil_nop n4.1.1 (by rcases j4 with j | j <;> rw [j] <;> simp)) d (v + 1) (by omega)]
        · by_cases c3 : k = 3
          · subst c3
            have hsil : some (G, Sum.inl ((i, lo.take E'.1.length, ops, E', P.flX i.1 E' (whlE bb), (1, E', bb, false) :: ks) :: fs)) = some σ := hsil
            obtain rfl := Option.some.inj hsil
            have kh : a = [] ∧ Rf E E' ∧ isW bb ∧ (∃ n, GK S n bb) ∧ CapB 101 E' bb ks ∧ (∃ E2, P.chk i.1 (P.mty i.2.1) bb E' = .inr E2) ∧ KT P S i.1 (P.mty i.2.1) ks (P.nxE i.1 (P.mty i.2.1) bb E') := kh
            obtain ⟨rfl, hrf, ⟨p, e, aa, r, rfl⟩, ⟨n, hgk⟩, hcap, ⟨E2, hck⟩, hkt⟩ := kh
            obtain rfl := ot.nil
            have hoe : Ox S e := by
              match n, hgk with
              | 0, hgk => cases hgk
              | n + 1, hgk =>
                rcases hgk with z | ⟨p', y', w', r', z, _⟩ | ⟨p', y', w', e', r', z, _⟩ | ⟨p', k', e', r', z, hkk, _⟩ | ⟨p', x', e', r', z, _⟩ | ⟨p', e', a', f', b', r', z, _⟩ | ⟨p', e', a', r', z, g1, _⟩ | ⟨p', a', cw', w', b', r', z, _⟩
                · cases z
                · cases z
                · cases z
                · have := GKk hkk
                  cases z
                  omega
                · cases z
                · cases z
                · cases z
                  exact g1
                · cases z
            rw [KC_3] at x2
            obtain ⟨s0, j1, j2, j3, j4, j5⟩ := x2
            have j4' := j4
            rw [TC_whil] at j4
            obtain ⟨⟨x1, x2, x3⟩, t1, t2, t3, t4⟩ := j4
            obtain ⟨i1, E3, i2, i3, i4⟩ := inv_whil hck
            have hx := XC.fl e s0 (s0 + cl e) [] x1 x2 rfl
            rw [List.append_nil] at hx
            have hcl : cl e ≤ 3000 := by
              have := hcap.2.1.1
              have := cl_wt e
              omega
            obtain ⟨h1, e1, e2, e3⟩ := sil_jmp (N := N) (k := 57) st (by omega) j2 (Or.inr (Or.inl rfl))
            obtain ⟨n1, n2, n3, n4⟩ := nx e2 (fun _ z => Or.inr z)
            refine ⟨1, h1, s0, ⟨t, n1, n2, A, L, n4, b, M, X, o, ?_, ⟨s0 + cl e, hx, ?_⟩, pgl e2 (fun k z => z.elim), ?_, n3, e3⟩, ?_, e2.out, fun d v hv => stp j1 (by decide) st h13 k6 hpU e1 d v hv⟩
            · exact (k1.ag (e2.pg (n := fs.length) (t := t) (fun _ z => z.elim) (fun k z => z.elim) sg) (Nat.le_refl _)).take _ (XH.bg hoe i1 x3)
            · show KC P C i.1 (P.mty i.2.1) M X U g ((1, E', bWhil p e aa r, false) :: ks) (s0 + cl e) o
              rw [KC_1]
              refine ⟨s0, rfl, j4', ?_, j5⟩
              show s0 + cl e < s0 + (cl e + 1 + cb aa + 1)
              omega
            · rw [e2.2.2.1 _ _ (by omega) (by omega)]; exact k4
            · show muF s0 (P.flX i.1 E' e) ((1, E', bWhil p e aa r, false) :: ks) fs.length + 1 ≤ 3200 - pc + 3000 + 3200 * fs.length
              have : muF s0 (P.flX i.1 E' e) ((1, E', bWhil p e aa r, false) :: ks) fs.length = xw (P.flX i.1 E' e) := rfl
              rw [this, xw_fl]
              omega
          · by_cases c4 : k = 4
            · subst c4
              have hsil : some (G, Sum.inl ((i, lo, ops, E, [], ks) :: fs)) = some σ := hsil
              obtain rfl := Option.some.inj hsil
              rw [KC_4] at x2
              obtain ⟨s0, o', j1, j2, j3, j4⟩ := x2
              refine ⟨0, h, pc, ⟨t, h13, h14, A, L, hb, b, M, X, o', k1.same kx, ⟨pc, rfl, j4⟩, k3, k4, k5, k6⟩, ?_, Out.refl h, fun d v _ => rfl⟩
              show muF pc [] ks fs.length + 0 ≤ 3200 - pc + 3000 + 3200 * fs.length
              have := mu_le (pc := pc) (n := fs.length) (ks := ks) (xs := []) (Nat.zero_le _)
              omega
            · by_cases c5 : k = 5
              · subst c5
                have hsil : some (G, Sum.inl ((i, lo, ops.drop 1, E, [], ks) :: fs)) = some σ := hsil
                obtain rfl := Option.some.inj hsil
                have kh : (∃ t, a = [mk3 t] ∧ z = decide (t = 3)) ∧ KT P S i.1 (P.mty i.2.1) ks E := kh
                obtain ⟨⟨t0, rfl, -⟩, -⟩ := kh
                have hol : ops.length = 1 := ot.len
                rw [KC_5] at x2
                obtain ⟨h', e1, e2, e3, e4⟩ := sil_drop (pc := pc) (N := N) (t := t - 1) sg (by rw [k4, show t - 1 + 1 = t by omega]) (by omega)
                obtain ⟨n1, n2, n3, n4⟩ := nx e2 (fun _ z => z)
                have hlt := x2.2.lt
                refine ⟨1, h', pc + 1, ⟨t - 1, n1, n2, A, L, n4, b, M, X, o, ?_, ⟨pc + 1, rfl, x2.2⟩, pgl e2 (fun k z => z.elim), e4, n3, e3⟩, ?_, e2.out, fun d v hv => stp x2.1 (by decide) st h13 k6 hpU e1 d v hv⟩
                · refine (k1.ag (e2.pg (n := fs.length) (t := t) (fun _ z => z.elim) (fun k z => z.elim) sg) (Nat.le_refl _)).drop 1 (by omega) ?_
                  rw [x0] at kx ⊢
                  omega
                · show muF (pc + 1) [] ks fs.length + 1 ≤ 3200 - pc + 3000 + 3200 * fs.length
                  have := mu_le (pc := pc + 1) (n := fs.length) (ks := ks) (xs := []) (Nat.zero_le _)
                  omega
              · unfold Pgm.sil at hsil
                dsimp only at hsil
                rw [if_neg c0, if_neg c2, if_neg c3, if_neg c4, if_neg c5] at hsil
                cases hsil
