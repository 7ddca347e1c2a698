/-! ===== THE REFERENCE'S TYPER: a place and its value ===== -/
/-- what the place is -/
def Pgm.plR (P : Pgm) (c : Nat) (E : EnvV) : Tr → Option (List Nat)
  | .op (.op (.var k) (.op (.var _) (.var w))) (.op a b) => (P.te c E a).bind fun x => (P.te c E b).bind fun y => if k = 6 then P.pnT c E (P.1 w) else P.opT c E k w (x ++ y)
  | _ => none
theorem Pgm.plR_nd (P : Pgm) (c : Nat) (E : EnvV) (k v w : Nat) (a b : Tr) : P.plR c E (nd k v w a b) = (P.te c E a).bind fun x => (P.te c E b).bind fun y => if k = 6 then P.pnT c E (P.1 w) else P.opT c E k w (x ++ y) := rfl
theorem EnvV.tyv_no3 {E : EnvV} (h3 : E.no3) {w : List Int32} {i : Nat} (h : E.fnd w = some i) : E.tyv i ≠ 3 := by
  have hi := (EnvV.fnd_lt h).1
  have hx : E.1[i]? = some (E.1[i]'hi) := List.getElem?_eq_getElem hi
  rw [(EnvV.nm_get hx).2]
  exact h3 i _ hx
theorem Pgm.fT_no3 {P : Pgm} (p3 : P.P3) {w : List Int32} {t : Nat} {r : List Nat} (h : P.fT (P.fldT w t) = some r) : 3 ∉ r := by
  rcases hd : P.fldT w t with _ | m
  · rw [hd] at h; cases h
  · rw [hd] at h
    obtain ⟨e1, e2⟩ := tS_one h
    rw [e1]
    obtain ⟨f1, f2⟩ := Pgm.fldT_at hd
    refine one3 ?_
    have hb : P.ms[m]? = some (P.ms[m]'f1) := List.getElem?_eq_getElem f1
    have e : P.mty m = P.rt (P.ms[m]'f1).2.1 := by unfold Pgm.mty; rw [hb]
    rw [e]
    refine p3.2 m _ hb ?_
    unfold Pgm.isF at f2
    rw [hb] at f2
    cases hz : (P.ms[m]'f1).1 with
    | false => rfl
    | true =>
      have f2 : (!(P.ms[m]'f1).1) = true := f2
      rw [hz] at f2; cases f2
theorem Pgm.plR_no3 {P : Pgm} (p3 : P.P3) {S : Tks} {c : Nat} {E : EnvV} (h3 : E.no3) {x : Tr} (ox : Ox S x) (hp : isPlaceE x = true) {r : List Nat} (h : P.plR c E x = some r) : ∃ u, r = [u] ∧ u ≠ 3 ∧ u ≠ 5 := by
  obtain ⟨k, v, w, a, b, rfl, hx⟩ := placeOf ox hp
  rw [Pgm.plR_nd] at h
  obtain ⟨xa, ha, h0⟩ := Option.bind_eq_some_iff.mp h
  clear h
  obtain ⟨xb, hb, h⟩ := Option.bind_eq_some_iff.mp h0
  clear h0
  rcases hx with ⟨rfl, rfl, rfl, hw⟩ | ⟨rfl, rfl, oa, hw⟩ | ⟨rfl, oa, ob⟩
  · rw [if_pos rfl] at h
    unfold Pgm.pnT at h
    rcases hf : E.fnd (P.1 w) with _ | i
    · rw [hf] at h
      obtain ⟨t, ht, h5⟩ := Pgm.fT_one h
      have := Pgm.fT_no3 p3 h
      rw [ht] at this
      exact ⟨t, ht, fun z => this (by rw [z]; exact List.mem_singleton.mpr rfl), h5⟩
    · rw [hf] at h
      obtain ⟨e1, e2⟩ := tS_one h
      exact ⟨_, e1, EnvV.tyv_no3 h3 hf, e2⟩
  · rw [if_neg (by omega)] at h
    obtain ⟨t, rfl, _⟩ := oa.te_one ha
    obtain rfl : [] = xb := Option.some.inj hb
    have h : P.dotT (P.1 w) t = some r := h
    unfold Pgm.dotT at h
    split at h
    · exact ⟨0, (Option.some.inj h).symm, by omega, by omega⟩
    · obtain ⟨t, ht, h5⟩ := Pgm.fT_one h
      have := Pgm.fT_no3 p3 h
      rw [ht] at this
      exact ⟨t, ht, fun z => this (by rw [z]; exact List.mem_singleton.mpr rfl), h5⟩
  · rw [if_neg (by omega)] at h
    have h : eqT (xa ++ xb) [2, 0] 0 = some r := h
    exact ⟨0, (eqT_one h).1, by omega, by omega⟩
theorem RunN.place {S : Tks} {P : Pgm} {D : List Int32 → Prop} {num : List Int32 → Nat} {c N s fr to n l f : Nat} {E : EnvV} {x : Tr} {h : pH} (hN : 1100 ≤ N) (ha : Acy P) (hc : c < P.n) (hsl : s < 1600) (hto : to < 3200) (p3 : P.P3) (ox : Ox S x) (hp : isPlaceE x = true) (q : RS P D num c E h) (rn : RN P D num h x n l) (hs : n + sz x ≤ to + 1) (hl : l + ls x ≤ 3200) (h151 : rd h 151 s = 8) (h155 : rd h 155 s = Int32.ofNat (n + sz x - 1)) : match P.plR c E x with
  | none => ∃ h', fX12_checkNodes_6 N (f + 1 + sz x) 138 (Int32.ofNat s) (Int32.ofNat fr) (Int32.ofNat to) 1 (Int32.ofNat n) h = some (0, h') ∧ Chg (ndA n (n + sz x)) h h'
  | some r => ∃ h' u, r = [u] ∧ fX12_checkNodes_6 N (f + 1 + sz x) 138 (Int32.ofNat s) (Int32.ofNat fr) (Int32.ofNat to) 1 (Int32.ofNat n) h = fX12_checkNodes_6 N (f + 1) 138 (Int32.ofNat s) (Int32.ofNat fr) (Int32.ofNat to) 1 (Int32.ofNat (n + sz x)) h' ∧ rd h' 148 (n + sz x - 1) = Int32.ofNat u ∧ P.tOk u ∧ RXn P num c E h' x n l ∧ (∀ m, n ≤ m → m < n + sz x → rd h' 148 m ≠ 3) ∧ Chg (ndA n (n + sz x)) h h' := by
  have n3 := fun r hr => Pgm.plR_no3 p3 (c := c) (r := r) q.2.2.2.2 ox hp hr
  obtain ⟨k, v, w, a, b, rfl, hx⟩ := placeOf ox hp
  have hz : sz (nd k v w a b) = sz a + sz b + 1 := by rw [sz_nd, if_neg (by omega)]
  have hll : ls (nd k v w a b) = ls a + ls b := by rw [ls_nd, if_neg (by omega)]; omega
  rw [hz] at hs h155
  rw [hll] at hl
  rw [RN_nd] at rn
  obtain ⟨rn1, rn2, rn3⟩ := rn
  have rox : ∀ {e : Tr}, Ox S e → RunN P D num c E N s fr to e := fun ⟨m, oe⟩ => RunN.all hN ha hc hsl hto p3 m _ oe
  have ra : RunN P D num c E N s fr to a := by
    rcases hx with ⟨_, rfl, _, _⟩ | ⟨_, _, oa, _⟩ | ⟨_, oa, _⟩
    · exact RunN.zero
    · exact rox oa
    · exact rox oa
  have rb : RunN P D num c E N s fr to b := by
    rcases hx with ⟨_, _, rfl, _⟩ | ⟨_, rfl, _, _⟩ | ⟨_, _, ob⟩
    · exact RunN.zero
    · exact RunN.zero
    · exact rox ob
  have A := RunN.two (f := f + 1) ra rb q rn1 rn2 (by omega) (by omega) (fun m m1 m2 z => by
    rw [h155] at z
    have := (iEq (by omega) (by omega)).mp z.2
    omega)
  rw [hz, show f + 1 + (sz a + sz b + 1) = f + 1 + 1 + sz b + sz a by omega, show n + (sz a + sz b + 1) = n + sz a + sz b + 1 by omega, Pgm.plR_nd]
  rw [Pgm.plR_nd] at n3
  cases hxa : P.te c E a with
  | none =>
    rw [hxa] at A
    obtain ⟨h', e1, e2⟩ := A
    exact ⟨h', e1, e2.mono (fun a k z => z.mono (Nat.le_refl _) (by omega))⟩
  | some xa =>
    rw [hxa, Option.bind_some] at A
    rw [hxa, Option.bind_some] at n3
    rw [Option.bind_some]
    cases hxb : P.te c E b with
    | none =>
      rw [hxb] at A
      obtain ⟨h', e1, e2⟩ := A
      exact ⟨h', e1, e2.mono (fun a k z => z.mono (Nat.le_refl _) (by omega))⟩
    | some xb =>
      rw [hxb] at A
      rw [hxb, Option.bind_some] at n3
      rw [Option.bind_some]
      obtain ⟨h1, e1, e2, e3, e4, e5, e6, v1, v2, g⟩ := A
      obtain ⟨r1, r2, r3, r4, r5, r6⟩ := (rn3.resolve_left (by omega)).resolve_left (by omega)
      have g1 : ∀ a' , rd h1 a' (n + sz a + sz b) = rd h a' (n + sz a + sz b) := fun a' => g.2.2.1 _ _ (by unfold ndA; omega)
      have hr : ∀ a, a = 151 ∨ a = 155 → rd h1 a s = rd h a s := fun a ha => g.2.2.1 _ _ (by unfold ndA; omega)
      have hm : n + sz a + sz b < 3200 := by omega
      have nd1 : NdR P (P.rnK num c E k v w a (xa ++ xb)).1 (P.rnK num c E k v w a (xa ++ xb)).2 (n + sz a + sz b) (if k = 6 then P.pnT c E (P.1 w) else P.opT c E k w (xa ++ xb)) (fX12_checkNode N 138 (Int32.ofNat s) (Int32.ofNat (n + sz a + sz b)) h1) h1 := by
        rcases hx with ⟨rfl, rfl, rfl, hw⟩ | ⟨rfl, rfl, oa, hw⟩ | ⟨rfl, oa, ob⟩
        · have nm := nd_name (N := N) (z := true) hN ha hc e2 hm hsl (r5 (Or.inl rfl)) (by rw [g1]; exact r1) (by rw [g1]; exact r4) (by
            rw [hr _ (Or.inl rfl), hr _ (Or.inr rfl)]
            exact (decide_eq_true ⟨h151, by rw [h155]; congr 1⟩).symm)
          rw [if_pos rfl] at nm
          rw [if_pos rfl]
          exact nm
        · obtain ⟨t, rfl, _⟩ := oa.te_one hxa
          obtain rfl : [] = xb := Option.some.inj hxb
          obtain ⟨t1, t2, t3⟩ := TyT.root oa e3
          have hz0 : sz nl = 0 := rfl
          rw [if_neg (by omega)]
          exact nd_dot (N := N) hN ha e2 hm (by omega) (r5 (by unfold nmK2; omega)) (by rw [g1]; exact r1) (by rw [g1, r2, n1_of (by omega) t3]) (by rw [g1]; exact r4) t1 t2
        · obtain ⟨t, rfl, _⟩ := oa.te_one hxa
          obtain ⟨u, rfl, _⟩ := ob.te_one hxb
          obtain ⟨t1, t2, t3⟩ := TyT.root oa e3
          obtain ⟨u1, u2, u3⟩ := TyT.root ob e4
          rw [if_neg (by omega), Pgm.rnK_else (by omega)]
          show NdR P (nK 12 a) (ofN P num 12 v w) _ _ _ h1
          rw [← r4, ← g1 147]
          exact nd_bin (N := N) (v := 0) (Or.inl rfl) e2 hm (by omega) (by omega) (by rw [g1]; exact r1) (by rw [g1, r2, n1_of (by omega) t3]) (by rw [g1, r3, n2_of (by omega) u3]) t1 t2 u1 u2
      have no3 : ∀ r, (if k = 6 then P.pnT c E (P.1 w) else P.opT c E k w (xa ++ xb)) = some r → 3 ∉ xa ++ xb := by
        intro r hr
        rcases hx with ⟨rfl, rfl, rfl, hw⟩ | ⟨rfl, rfl, oa, hw⟩ | ⟨rfl, oa, ob⟩
        · rw [← Option.some.inj hxa, ← Option.some.inj hxb]; exact List.not_mem_nil
        · obtain ⟨t, rfl, _⟩ := oa.te_one hxa
          obtain rfl : [] = xb := Option.some.inj hxb
          refine one3 (fun z => ?_)
          subst z
          cases hr
        · rw [if_neg (by omega)] at hr
          exact eqT_no3 hr (by decide)
      rw [e1, lp_step (by omega) hto]
      cases ho : (if k = 6 then P.pnT c E (P.1 w) else P.opT c E k w (xa ++ xb)) with
      | none =>
        rw [ho] at nd1
        obtain ⟨h2, f1, g2⟩ := nd1
        refine ⟨h2, ?_, (g.mono (fun a k z => z.mono (Nat.le_refl _) (by omega))).trans (g2.mono (fun a k z => z.mono (by omega) (Nat.le_refl _)))⟩
        rw [f1, Option.bind_some]
        exact lp_bad (by omega)
      | some r =>
        rw [ho] at nd1
        obtain ⟨h2, t, f0, f1, f2, f3, f4, f5, g2⟩ := nd1
        obtain ⟨u, u1, u2, u3⟩ := n3 r ho
        have hut : t = u := by rw [f0] at u1; injection u1
        have nn := no3 r ho
        refine ⟨h2, t, f0, ?_, ?_, f3, ?_, fun m m1 m2 m3 => ?_, (g.mono (fun a k z => z.mono (Nat.le_refl _) (by omega))).trans (g2.mono (fun a k z => z.mono (by omega) (Nat.le_refl _)))⟩
        · rw [f1, Option.bind_some]
        · rw [show n + sz a + sz b + 1 - 1 = n + sz a + sz b by omega]; exact f2
        · rw [RXn_nd, hxa, hxb]
          refine ⟨e5.nd g2 (Or.inr (by omega)), e6.nd g2 (Or.inr (by omega)), Or.inr (Or.inr ⟨f4, ?_, ?_, f5, fun h30 => by omega⟩)⟩
          · rw [g2.2.2.1 _ _ (by unfold ndA; omega), g1]; exact r2
          · rw [g2.2.2.1 _ _ (by unfold ndA; omega), g1]; exact r3
        · by_cases zm : m = n + sz a + sz b
          · rw [zm, f2] at m3
            exact u2 (by rw [← hut]; exact (i_is3 (RT.n400 q.1.1) f3).mp m3)
          · rw [g2.2.2.1 _ _ (by unfold ndA; omega)] at m3
            rcases Nat.lt_or_ge m (n + sz a) with z | z
            · exact absurd (List.mem_append_left _ (v1 m m1 z m3).1) nn
            · exact absurd (List.mem_append_right _ (v2 m z (by omega) m3).1) nn
/-- place and value -/
theorem RS.setNodes {S : Tks} {P : Pgm} {D : List Int32 → Prop} {num : List Int32 → Nat} {c N s n l : Nat} {E : EnvV} {x y : Tr} {h : pH} (hN : 5000 ≤ N) (ha : Acy P) (hc : c < P.n) (p3 : P.P3) (ox : Ox S x) (hp : isPlaceE x = true) (oy : Ox S y) (q : RS P D num c E h) (rx : RN P D num h x n l) (ry : RN P D num h y (n + sz x) (l + ls x)) (hsl : s < 1600) (hn : n + sz x + sz y ≤ 3200) (hl : l + ls x + ls y ≤ 3200) (h151 : rd h 151 s = 8) (h155 : rd h 155 s = Int32.ofNat (n + sz x - 1)) : match (P.plR c E x).bind fun r => (P.vlT c E y false).bind fun t => some (r, t) with
    | none => ∃ h', fX12_checkNodes N 138 (Int32.ofNat s) (Int32.ofNat n) (Int32.ofNat (n + sz x + sz y - 1)) h = some (0, h') ∧ Chg (ndA n (n + sz x + sz y)) h h'
    | some v => ∃ h' u, v.1 = [u] ∧ fX12_checkNodes N 138 (Int32.ofNat s) (Int32.ofNat n) (Int32.ofNat (n + sz x + sz y - 1)) h = some (1, h') ∧ rd h' 148 (n + sz x - 1) = Int32.ofNat u ∧ P.tOk u ∧ P.te c E y = some [v.2] ∧ rd h' 148 (n + sz x + sz y - 1) = Int32.ofNat v.2 ∧ P.tOk v.2 ∧ RXn P num c E h' x n l ∧ RXn P num c E h' y (n + sz x) (l + ls x) ∧ Chg (ndA n (n + sz x + sz y)) h h' := by
  have hs := q.1.1.1
  have hn4 := q.1.1.n400
  have z1 := ox.sz1
  have z2 := oy.sz1
  obtain ⟨ny, oy'⟩ := id oy
  obtain ⟨f, hf⟩ : ∃ f, N = f + sz y + 1 + sz x := ⟨N - 1 - sz x - sz y, by omega⟩
  have A := RunN.place (S := S) (N := N) (fr := n) (to := n + sz x + sz y - 1) (n := n) (l := l) (f := f + sz y) (by omega) ha hc hsl (by omega) p3 ox hp q rx (by omega) (by omega) h151 h155
  rw [← hf] at A
  have hck : fX12_checkNodes N 138 (Int32.ofNat s) (Int32.ofNat n) (Int32.ofNat (n + sz x + sz y - 1)) h = fX12_checkNodes_6 N N 138 (Int32.ofNat s) (Int32.ofNat n) (Int32.ofNat (n + sz x + sz y - 1)) 1 (Int32.ofNat n) h := by
    unfold fX12_checkNodes
    rw [if_pos (o_138 hs)]
  rw [hck]
  cases hx : P.plR c E x with
  | none =>
    rw [hx] at A
    obtain ⟨h', e1, e2⟩ := A
    exact ⟨h', e1, e2.mono (fun a k z => z.mono (Nat.le_refl _) (by omega))⟩
  | some r =>
    rw [hx] at A
    obtain ⟨h1, u, e0, e1, e2, e3, e4, e5, g⟩ := A
    rw [Option.bind_some, e1]
    have hr : ∀ a, a = 151 ∨ a = 155 → rd h1 a s = rd h a s := fun a ha => g.2.2.1 _ _ (by unfold ndA; omega)
    have B := RunN.all (S := S) (N := N) (fr := n) (to := n + sz x + sz y - 1) (by omega) ha hc hsl (by omega) p3 ny y oy' (n + sz x) (l + ls x) f h1 (q.nd g) (ry.nd g (Or.inl (Nat.le_refl _))) (by omega) (by omega) (fun m m1 m2 z => by
      rw [hr _ (Or.inr rfl), h155] at z
      have := (iEq (by omega) (by omega)).mp z.2
      omega)
    rw [show f + sz y + 1 = f + 1 + sz y by omega]
    unfold Pgm.vlT
    cases hy : P.te c E y with
    | none =>
      rw [hy] at B
      obtain ⟨h', f1, f2⟩ := B
      exact ⟨h', f1, (g.mono (fun a k z => z.mono (Nat.le_refl _) (by omega))).trans (f2.mono (fun a k z => z.mono (by omega) (Nat.le_refl _)))⟩
    | some m =>
      rw [hy] at B
      obtain ⟨t, rfl, _⟩ := oy.te_one hy
      obtain ⟨h2, f1, f2, f3, v3, g2⟩ := B
      obtain ⟨t1, t2, _⟩ := TyT.root oy f2
      have hs2 : Sg h2 := (hs.of g.1).of g2.1
      have G : Chg (ndA n (n + sz x + sz y)) h h2 := (g.mono (fun a k z => z.mono (Nat.le_refl _) (by omega))).trans (g2.mono (fun a k z => z.mono (by omega) (Nat.le_refl _)))
      have r151 : rd h2 151 s = 8 := by rw [G.2.2.1 _ _ (by unfold ndA; omega)]; exact h151
      have E1 := lp_end (N := N) (f := f) (fr := n) (to := n + sz x + sz y - 1) hs2 hN hsl (by omega) (by omega)
      rw [show n + sz x + sz y - 1 + 1 = n + sz x + sz y by omega] at E1
      rw [f1, E1]
      show match (if t = 3 ∧ false = false then none else some t).bind fun t => some (r, t) with
        | none => _
        | some v => _
      by_cases z : t = 3
      · rw [if_pos ⟨z, rfl⟩]
        have hne : (fstN (fun m => decide (rd h2 148 m = 3 ∧ ¬ (rd h2 151 s = 7 ∧ Int32.ofNat m = rd h2 154 s))) (n + sz x + sz y - n) n).isNone = false := by
          rcases hfs : fstN (fun m => decide (rd h2 148 m = 3 ∧ ¬ (rd h2 151 s = 7 ∧ Int32.ofNat m = rd h2 154 s))) (n + sz x + sz y - n) n with _ | m
          · have k1 := fstN_none hfs (n + sz x + sz y - 1) (by omega) (by omega)
            have k2 : decide (rd h2 148 (n + sz x + sz y - 1) = 3 ∧ ¬ (rd h2 151 s = 7 ∧ Int32.ofNat (n + sz x + sz y - 1) = rd h2 154 s)) = true := by
              refine decide_eq_true ⟨by rw [t1, z]; rfl, fun u => ?_⟩
              rw [r151] at u
              exact absurd u.1 (by decide)
            rw [k2] at k1
            cases k1
          · rfl
        exact ⟨h2, by rw [hne]; rfl, G⟩
      · rw [if_neg (fun u => z u.1)]
        have hne : (fstN (fun m => decide (rd h2 148 m = 3 ∧ ¬ (rd h2 151 s = 7 ∧ Int32.ofNat m = rd h2 154 s))) (n + sz x + sz y - n) n).isNone = true := by
          rcases hfs : fstN (fun m => decide (rd h2 148 m = 3 ∧ ¬ (rd h2 151 s = 7 ∧ Int32.ofNat m = rd h2 154 s))) (n + sz x + sz y - n) n with _ | m
          · rfl
          · exfalso
            obtain ⟨m1, m2, m3, m4⟩ := fstN_some hfs
            obtain ⟨d1, d2⟩ := of_decide_eq_true m3
            rcases Nat.lt_or_ge m (n + sz x) with y1 | y1
            · rw [g2.2.2.1 _ _ (by unfold ndA; omega)] at d1
              exact e5 m m1 y1 d1
            · exact z (List.mem_singleton.mp (v3 m y1 (by omega) d1).1).symm
        refine ⟨h2, u, e0, by rw [hne]; rfl, ?_, e3, rfl, t1, t2, e4.nd g2 (Or.inr (Nat.le_refl _)), f3, G⟩
        rw [g2.2.2.1 _ _ (by unfold ndA; omega)]
        exact e2
