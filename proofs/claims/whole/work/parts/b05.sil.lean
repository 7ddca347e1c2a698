/-! ===== WHAT IS NO STEP keeps all typed ===== -/
theorem HXwtS {Y : Nat} {Q : Tr → Prop} (hQ : ∀ e, Q e → 1 ≤ wt e ∧ ln e = 1 ∧ ∀ n, 2 * n + wt e + 1 ≤ 2 * Y → HX e n Y) : ∀ (m : Nat) (s : Tr), OkSp Q m s → 2 * m + 1 ≤ wt s ∧ ln s = m + 1 ∧ ∀ n, 2 * n + wt s + 1 ≤ 2 * Y → HX s n Y
  | 0, s, hs => by
    rcases hs with rfl | hs
    · refine ⟨Nat.le_refl _, rfl, fun n hn => ?_⟩
      have hn : 2 * n + 1 + 1 ≤ 2 * Y := hn
      show HX (nd 50 0 0 nl nl) n Y
      rw [HX_nd, if_neg (by omega)]
      exact ⟨by show n ≤ Y; omega, by show n + 0 ≤ Y; omega, fun _ => by omega⟩
    · obtain ⟨h1, h2, h3⟩ := hQ s hs
      exact ⟨by omega, h2, h3⟩
  | m + 1, s, ⟨a, b, hs, ha, hb⟩ => by
    subst hs
    obtain ⟨i1, i2, i3⟩ := HXwtS hQ m a ha
    obtain ⟨h1, h2, h3⟩ := hQ b hb
    have hw := wt_arg a b
    refine ⟨by omega, by show ln a + ln b = _; omega, fun n hn => ?_⟩
    show HX (nd 70 0 0 a b) n Y
    rw [HX_nd, if_neg (by omega)]
    exact ⟨i3 n (by omega), h3 _ (by omega), fun z => absurd rfl z⟩
theorem HXwt {S : Tks} {Y : Nat} : ∀ (m : Nat) (e : Tr), OkE S m e → 1 ≤ wt e ∧ ln e = 1 ∧ ∀ n, 2 * n + wt e + 1 ≤ 2 * Y → HX e n Y
  | 0, e, h => h.elim
  | m + 1, e, h => by
    have IH := fun e he => HXwt (S := S) (Y := Y) m e he
    refine ⟨?_, OkE.ln h, ?_⟩
    · obtain ⟨k, v, w, a, b, rfl, _, _⟩ := Ox.nd (S := S) ⟨m + 1, h⟩
      rw [wt_nd]
      split <;> omega
    · intro n hn
      have one : ∀ k v w x, k ≠ 28 → k ≠ 29 → OkE S m x → 2 * n + (wt x + 1) + 1 ≤ 2 * Y → HX (nd k v w x nl) n Y := fun k v w x h1 h2 hx hw => by
        obtain ⟨i1, i2, i3⟩ := IH x hx
        rw [HX_nd, if_neg (by omega)]
        exact ⟨i3 n (by omega), by show n + ln x ≤ Y; omega, fun _ => by omega⟩
      have lf : ∀ k v w, k ≠ 28 → k ≠ 29 → HX (nd k v w nl nl) n Y := fun k v w h1 h2 => by
        have h1' : 1 ≤ wt e := by
          obtain ⟨k, v, w, a, b, rfl, _, _⟩ := Ox.nd (S := S) ⟨m + 1, h⟩
          rw [wt_nd]
          split <;> omega
        rw [HX_nd, if_neg (by omega)]
        exact ⟨by show n ≤ Y; omega, by show n + 0 ≤ Y; omega, fun _ => by omega⟩
      rcases h with ⟨k, v, rfl, h2⟩ | ⟨k, w, rfl, h2, h3⟩ | ⟨k, x, rfl, h2, h3⟩ | ⟨k, w, x, rfl, h2, h3, h4⟩ | ⟨k, x, y, rfl, h2, h3, h4⟩ | ⟨v, w, s, rfl, h2, h3⟩
      · exact lf k v 0 (by omega) (by omega)
      · exact lf k 0 w (by omega) (by omega)
      · rw [wt_un 0 0 x (by omega)] at hn
        exact one k 0 0 x (by omega) (by omega) h3 hn
      · rw [wt_un 0 w x (by omega)] at hn
        exact one k 0 w x (by omega) (by omega) h4 hn
      · obtain ⟨i1, i2, i3⟩ := IH x h3
        obtain ⟨j1, j2, j3⟩ := IH y h4
        have hw : wt (eBin k x y) = wt x + wt y + (if k = 28 ∨ k = 29 then 2 else 1) := rfl
        rw [hw] at hn
        show HX (nd k 0 0 x y) n Y
        rw [HX_nd]
        split
        · rename_i hk
          rw [if_pos hk] at hn
          exact ⟨i3 n (by omega), j3 n (by omega), by omega⟩
        · rename_i hk
          rw [if_neg hk] at hn
          exact ⟨i3 n (by omega), j3 _ (by omega), fun _ => by omega⟩
      · obtain ⟨i1, i2, i3⟩ := HXwtS (Y := Y) (Q := OkE S m) (fun e he => IH e he) v s h3
        rw [wt_call] at hn
        show HX (nd 30 v w s nl) n Y
        rw [HX_nd, if_neg (by omega)]
        exact ⟨i3 n (by omega), by show n + ln s ≤ Y; omega, fun _ => by omega⟩
theorem cl_wt (e : Tr) : cl e ≤ wt e := by
  induction e using Tr.rec2 with
  | h2 e he => rw [cl_no he]; exact Nat.zero_le _
  | h1 k v w a b iha ihb =>
    rw [cl_nd, wt_nd]
    split
    · omega
    · split <;> omega
/-- an expression begins -/
theorem fl_begin {P : Pgm} {S : Tks} {c : Nat} {E : EnvV} {e : Tr} {t : Nat} (he : Ox S e) (ht : P.te c E e = some [t]) (hw : wt e ≤ 3000) : XT P S c E (P.flX c E e) [] [mk3 t] ∧ XH (P.flX c E e) 0 1999 ∧ xw (P.flX c E e) ≤ 3000 := by
  obtain ⟨n, he⟩ := he
  have a1 := XT.fl (P := P) (c := c) (E := E) n e he t ht [] [] [mk3 t] rfl
  have a2 := XH.fl (P := P) (c := c) (E := E) (Y := 1999) n e he [t] ht 0 [] ((HXwt (S := S) (Y := 1999) n e he).2.2 0 (by omega)) (by show 1 ≤ 1999; omega)
  rw [List.append_nil] at a1 a2
  refine ⟨a1, a2, ?_⟩
  rw [xw_fl]
  have := cl_wt e
  omega
theorem mk3s (t : Nat) : ([t].reverse.map mk3) = [mk3 t] := rfl
theorem KT_0 {P : Pgm} {S : Tks} {c mt n : Nat} {E E2 : EnvV} {b : Tr} {z : Bool} {ks : List Si} (h1 : GK S n b) (h2 : CapB 100 E b ks) (h3 : P.chk c mt b E = .inr E2) (h4 : KT P S c mt ks E2) : KT P S c mt ((0, E, b, z) :: ks) E := by
  unfold KT
  rw [if_pos rfl]
  exact ⟨rfl, ⟨n, h1⟩, h2, E2, h3, h4⟩
theorem KT_2 {P : Pgm} {S : Tks} {c mt : Nat} {E E' : EnvV} {b : Tr} {z : Bool} {ks : List Si} (h1 : Rf E E') (h2 : KT P S c mt ks E') : KT P S c mt ((2, E', b, z) :: ks) E := by
  unfold KT
  rw [if_neg (by omega), if_pos rfl]
  exact ⟨h1, h2⟩
theorem KT_3 {P : Pgm} {S : Tks} {c mt n : Nat} {E E' E2 : EnvV} {b : Tr} {z : Bool} {ks : List Si} (h1 : Rf E E') (h2 : isW b) (h3 : GK S n b) (h4 : CapB 101 E' b ks) (h5 : P.chk c mt b E' = .inr E2) (h6 : KT P S c mt ks (P.nxE c mt b E')) : KT P S c mt ((3, E', b, z) :: ks) E := by
  unfold KT
  rw [if_neg (by omega), if_neg (by omega), if_pos rfl]
  exact ⟨h1, h2, ⟨n, h3⟩, h4, ⟨E2, h5⟩, h6⟩
theorem KT_4 {P : Pgm} {S : Tks} {c mt n : Nat} {E' E2 : EnvV} {b : Tr} {z : Bool} {ks : List Si} (h2 : isY b) (h3 : GK S n b) (h4 : CapB 101 E' b ks) (h5 : P.chk c mt b E' = .inr E2) (h6 : KT P S c mt ks (P.nxE c mt b E')) : KT P S c mt ((4, E', b, z) :: ks) (P.nxE c mt b E') := by
  unfold KT
  rw [if_neg (by omega), if_neg (by omega), if_neg (by omega), if_pos rfl]
  exact ⟨rfl, h2, ⟨n, h3⟩, h4, ⟨E2, h5⟩, h6⟩
theorem TyL_p {P : Pgm} {hp : List Ob} {lo : List Vl} {k : Nat} {E E' : EnvV} {x : Tr × Bool} {ks : List Si} (hk : ¬ (k = 2 ∨ k = 3 ∨ k = 4)) : TyL P hp lo ((k, E', x) :: ks) E = TyL P hp lo ks E := by
  show (if k = 2 ∨ k = 3 ∨ k = 4 then _ else _) = _
  rw [if_neg hk]
theorem TyL_b {P : Pgm} {hp : List Ob} {lo : List Vl} {k : Nat} {E E' : EnvV} {x : Tr × Bool} {ks : List Si} (hk : k = 2 ∨ k = 3 ∨ k = 4) : TyL P hp lo ((k, E', x) :: ks) E = (Pfx E' E ∧ (k = 4 → LoT P hp E' (lo.take E'.1.length)) ∧ TyL P hp lo ks E') := by
  show (if k = 2 ∨ k = 3 ∨ k = 4 then _ else _) = _
  rw [if_pos hk]
theorem KH_1 {P : Pgm} {S : Tks} {c mt n : Nat} {E E2 : EnvV} {b : Tr} {z : Bool} {ks : List Si} {a : List (Bool × Nat)} (h1 : stK b = true) (h2 : GK S n b) (h3 : CapB 101 E b ks) (h4 : P.chk c mt b E = .inr E2) (h5 : a = P.prT c E b) (h6 : KT P S c mt ks (P.nxE c mt b E)) : KH P S c mt ((1, E, b, z) :: ks) E a := by
  unfold KH
  dsimp only
  rw [if_pos rfl]
  exact ⟨rfl, h1, ⟨n, h2⟩, h3, ⟨E2, h4⟩, h5, h6⟩
theorem KH_5 {P : Pgm} {S : Tks} {c mt t : Nat} {E E' : EnvV} {b : Tr} {ks : List Si} (h6 : KT P S c mt ks E) : KH P S c mt ((5, E', b, decide (t = 3)) :: ks) E [mk3 t] := by
  unfold KH
  dsimp only
  rw [if_neg (by omega), if_pos rfl]
  exact ⟨⟨t, rfl, rfl⟩, h6⟩
theorem KH_n {P : Pgm} {S : Tks} {c mt k : Nat} {E E' : EnvV} {b : Tr} {z : Bool} {ks : List Si} (h1 : k ≠ 1) (h5 : k ≠ 5) (h6 : KT P S c mt ((k, E', b, z) :: ks) E) : KH P S c mt ((k, E', b, z) :: ks) E [] := by
  unfold KH
  dsimp only
  rw [if_neg h1, if_neg h5]
  exact ⟨rfl, h6⟩
/-- statements go on -/
theorem KT.kh {P : Pgm} {S : Tks} {c mt : Nat} {E : EnvV} {ks : List Si} (h : KT P S c mt ks E) : KH P S c mt ks E [] := by
  match ks with
  | [] => exact ⟨rfl, h⟩
  | (k, E', b, z) :: ks =>
    refine KH_n ?_ ?_ h
    · rintro rfl
      unfold KT at h
      rw [if_neg (by omega), if_neg (by omega), if_neg (by omega), if_neg (by omega)] at h
      exact h
    · rintro rfl
      unfold KT at h
      rw [if_neg (by omega), if_neg (by omega), if_neg (by omega), if_neg (by omega)] at h
      exact h
theorem CapB.nx {z : Nat} {E E' : EnvV} {b r : Tr} {ks : List Si} (h : CapB z E b ks) (h1 : E'.1.length + nv r ≤ E.1.length + nv b) (h2 : exW b → exW r) (h3 : dp r ≤ dp b) : CapB z E' r ks := ⟨Nat.le_trans h1 h.1, h2 h.2.1, by have := h.2.2.1; omega, by have := h.2.2.2; omega⟩
theorem CapB.dn {E E' : EnvV} {b r : Tr} {z : Bool} {ks : List Si} (h : CapB 100 E b ks) : CapB 101 E b ((0, E', r, z) :: ks) := ⟨h.1, h.2.1, by have := h.2.2.1; rw [List.length_cons]; omega, by have := h.2.2.2; show dp b + ((if (0 : Nat) = 4 then 1 else 0) + cty ks) ≤ 50; rw [if_neg (by omega)]; omega⟩
theorem rt_V {S : Tks} {P : Pgm} {y : Nat} (h : tyW S y) (h5 : P.rt y ≠ 5) : tyV P (P.rt y) := by
  have h3 : P.rt y ≠ 3 := tyW_no3 h
  unfold Pgm.rt at h3 h5 ⊢
  unfold tyV
  split
  · rename_i z
    rw [if_pos z] at h3
    omega
  · rename_i z
    rw [if_neg z] at h5
    split
    · rename_i c hc
      have := (Pgm.fnd_lt hc).1
      omega
    · rename_i hc
      rw [hc] at h5
      exact absurd rfl h5
/-- statements begin -/
theorem st_good {P : Pgm} {S : Tks} {hp : List Ob} {c mt m se : Nat} {E E2 : EnvV} {lo : List Vl} {b : Tr} {ks : List Si} (hm : ∃ b, P.ms[m]? = some b ∧ b.1 = true) (ho : c = P.ow m) (hse : ∃ d fs, hp[se]? = some (some d, fs) ∧ P.und d c = true) (hmt : mt = P.mty m) (hg : GE P E) (hl : LoT P hp E lo) (hy : TyL P hp lo ks E) (hk : ∃ n, GK S n b) (hc : CapB 100 E b ks) (h : P.chk c mt b E = .inr E2) (hr : KT P S c mt ks E2) : FT P S hp ((c, m, se), (P.stU c mt b E lo ks).1, [], (P.stU c mt b E lo ks).2) [] := by
  subst hmt
  have len := hl.1
  obtain ⟨n, hk⟩ := hk
  have done : KT P S c (P.mty m) ks E → FT P S hp ((c, m, se), lo, [], E, [], ks) [] := fun z => ⟨hm, ho, hse, hg, hl, hy, ⟨[], [], trivial, rfl, z.kh⟩, Nat.zero_le _, Nat.zero_le _⟩
  match n, hk with
  | 0, hk =>
    obtain rfl : b = nl := hk
    injection h with h
    exact done (by rw [h]; exact hr)
  | n + 1, hk =>
    have hk0 : GK S (n + 1) b := hk
    rcases hk with rfl | ⟨p, y, w, r, rfl, g1, g2, hkr⟩ | ⟨p, y, w, e, r, rfl, g1, g2, g3, hkr⟩ | ⟨p, k, e, r, rfl, hkk, hkr⟩ | ⟨p, x, e, r, rfl, g1, g2, g3, hkr⟩ | ⟨p, e, a, f, b, r, rfl, hf, g1, ha, hb, hkr⟩ | ⟨p, e, a, r, rfl, g1, ha, hkr⟩ | ⟨p, a, cw, w, b, r, rfl, g1, g2, ha, hb, hkr⟩
    · injection h with h
      exact done (by rw [h]; exact hr)
    · obtain ⟨i1, i2, i3, i4⟩ := inv_tell h
      have hcr : CapB 100 (P.nxE c (P.mty m) (bTell p y w r) E) r ks := hc.nx (by rw [i3, EnvV.add_len]; show _ ≤ _ + (1 + nv r); omega) (fun z => z) (Nat.le_refl _)
      have k0 := KT_0 (z := false) hkr hcr i4 hr
      show FT P S hp ((c, m, se), lo ++ [.inl 0], [], P.nxE c (P.mty m) (bTell p y w r) E, [], (0, P.nxE c (P.mty m) (bTell p y w r) E, r, false) :: ks) []
      refine ⟨hm, ho, hse, ?_, ?_, ?_, ⟨[], [], trivial, rfl, k0.kh⟩, Nat.zero_le _, Nat.zero_le _⟩
      · rw [i3]; exact hg.add (rt_V g1 i1)
      · rw [i3]; exact hl.add (Or.inr ⟨rfl, rfl⟩)
      · rw [TyL_p (by omega)]
        refine (hy.ap len _).more ?_
        rw [i3]
        exact Pfx.add _ _ _ _
    · obtain ⟨t, i1, i2, i3, i4, i5⟩ := inv_tellv h
      have hx : exW (bTellv p y w e r) := hc.2.1
      obtain ⟨x1, x2, x3⟩ := fl_begin (P := P) (c := c) (E := E) g3 i1 hx.1
      have hcr : CapB 100 (P.nxE c (P.mty m) (bTellv p y w e r) E) r ks := hc.nx (by rw [i4, EnvV.add_len]; show _ ≤ _ + (1 + nv r); omega) (fun z => z.2) (Nat.le_refl _)
      have k0 := KT_0 (z := false) hkr hcr i5 hr
      refine ⟨hm, ho, hse, hg, hl, ?_, ⟨[], [mk3 t], trivial, x1, KH_1 rfl hk0 hc.dn h ?_ k0⟩, x2, x3⟩
      · show TyL P hp lo ((1, E, _) :: (0, _, _) :: ks) E
        rw [TyL_p (by omega), TyL_p (by omega)]; exact hy
      · show [mk3 t] = ((P.te c E e).getD []).reverse.map mk3
        rw [te_getD i1]; rfl
    · have hk5 := GKk hkk
      obtain ⟨i1, i2⟩ := inv_k hk5 h
      have hx := hc.2.1
      rw [exW_k hk5] at hx
      have hnv := nv_k hk5 p e r
      have hnl : (P.nxE c (P.mty m) (nd k p 0 e r) E).1.length = E.1.length := by rw [(Pgm.wkE_some i1).1]
      have hcr : CapB 100 (P.nxE c (P.mty m) (nd k p 0 e r) E) r ks := hc.nx (by rw [hnl, hnv.1]; exact Nat.le_refl _) (fun z => by rw [exW_k hk5] at z; exact z.2) (by rw [hnv.2]; exact Nat.le_refl _)
      have k0 := KT_0 (z := false) hkr hcr i2 hr
      rw [stU_k hk5]
      have hty : ∀ (x : Nat × EnvV × Tr × Bool), x.1 = 1 ∨ x.1 = 5 → TyL P hp lo (x :: (0, P.nxE c (P.mty m) (nd k p 0 e r) E, r, false) :: ks) E := by
        intro x hx
        obtain ⟨x1, x2, x3⟩ := x
        have hx : x1 = 1 ∨ x1 = 5 := hx
        rw [TyL_p (by omega), TyL_p (by omega)]; exact hy
      by_cases h40 : k = 40
      · subst h40
        rcases hkk with ⟨_, he⟩ | ⟨z, _⟩
        · subst he
          refine ⟨hm, ho, hse, hg, hl, hty _ (Or.inl rfl), ⟨[], [], trivial, rfl, KH_1 rfl hk0 hc.dn h rfl k0⟩, Nat.zero_le _, Nat.zero_le _⟩
        · omega
      · have hkk : (k = 41 ∨ k = 42 ∨ k = 43 ∨ (k = 52 ∧ isCallE e = true)) ∧ Ox S e := by
          rcases hkk with ⟨z, _⟩ | z
          · exact absurd z h40
          · exact z
        have hte : ∃ t, P.te c E e = some [t] := by
          unfold Pgm.wkE at i1
          rw [if_neg h40] at i1
          obtain ⟨l, l1, l2⟩ := Option.bind_eq_some_iff.mp i1
          obtain ⟨t, rfl, _⟩ := hdO_some l2
          exact ⟨t, l1⟩
        obtain ⟨t, ht⟩ := hte
        obtain ⟨x1, x2, x3⟩ := fl_begin (P := P) (c := c) (E := E) hkk.2 ht hx.1
        by_cases h52 : k = 52
        · subst h52
          rw [if_pos rfl]
          have hz : decide (P.te c E e = some [3]) = decide (t = 3) := by
            rw [ht]
            exact decide_eq_decide.mpr ⟨fun z => (List.cons.inj (Option.some.inj z)).1, fun z => by rw [z]⟩
          have hE : P.nxE c (P.mty m) (nd 52 p 0 e r) E = E := by
            have : P.wkE c (P.mty m) E 52 e = some E := by
              unfold Pgm.wkE
              rw [if_neg (by omega), ht]
              rfl
            rw [this] at i1
            exact (Option.some.inj i1).symm
          refine ⟨hm, ho, hse, hg, hl, hty _ (Or.inr rfl), ⟨[], [mk3 t], trivial, x1, ?_⟩, x2, x3⟩
          rw [hz]
          rw [hE] at k0 ⊢
          exact KH_5 k0
        · rw [if_neg h52]
          have hst : stK (nd k p 0 e r) = true := by
            rcases hk5 with rfl | rfl | rfl | rfl | rfl
            all_goals first | rfl | omega
          refine ⟨hm, ho, hse, hg, hl, hty _ (Or.inl rfl), ⟨[], [mk3 t], trivial, x1, KH_1 hst hk0 hc.dn h ?_ k0⟩, x2, x3⟩
          rw [prT_k hk5, te_getD ht]; rfl
    · obtain ⟨l, t, i1, i2, i3, i4⟩ := inv_give h
      have hx : exW (bGive p x e r) := hc.2.1
      have hx1 : wt x + wt e ≤ 3000 := hx.1
      have hnl : (P.nxE c (P.mty m) (bGive p x e r) E).1.length = E.1.length := by rw [(Pgm.gvX_some i3).1]
      have hcr : CapB 100 (P.nxE c (P.mty m) (bGive p x e r) E) r ks := hc.nx (by rw [hnl]; exact Nat.le_refl _) (fun z => z.2) (Nat.le_refl _)
      have k0 := KT_0 (z := false) hkr hcr i4 hr
      obtain ⟨q, g3⟩ := g3
      have fe := XT.fl (P := P) (c := c) (E := E) q e g3 t i2 []
      have he := XH.fl (P := P) (c := c) (E := E) (Y := 1999) q e g3 [t] i2
      have hwe := (HXwt (S := S) (Y := 1999) q e g3)
      have hprt : ∀ a, a = (l ++ [t]).reverse.map mk3 → a = P.prT c E (bGive p x e r) := fun a ha => by
        show a = ((P.plT c E x).getD [] ++ (P.te c E e).getD []).reverse.map mk3
        rw [i1, te_getD i2]; exact ha
      have fin : ∀ (xs : List Xi) a, P.flX c E (nd 70 0 0 (pp x) e) = xs → XT P S c E xs [] a → XH xs 0 1999 → a = (l ++ [t]).reverse.map mk3 → FT P S hp ((c, m, se), (P.stU c (P.mty m) (bGive p x e r) E lo ks).1, [], (P.stU c (P.mty m) (bGive p x e r) E lo ks).2) [] := fun xs a hxs h1 h2 h3 => by
        have hw : xw xs ≤ 3000 := by
          rw [← hxs, xw_fl]
          have := cl_wt (nd 70 0 0 (pp x) e)
          have e1 : wt (nd 70 0 0 (pp x) e) = wt (pp x) + wt e + 1 := rfl
          have c1 : cl (nd 70 0 0 (pp x) e) = cl (pp x) + cl e + 0 := rfl
          have c2 := cl_wt e
          have c3 : cl (pp x) ≤ wt x := by
            obtain ⟨k', v', w', a', b', rfl, _, _⟩ := g2.nd
            have d1 : cl (pp (nd k' v' w' a' b')) = cl a' + cl b' + 0 := rfl
            have d2 := cl_wt a'
            have d3 := cl_wt b'
            rw [wt_nd]
            split <;> omega
          omega
        refine ⟨hm, ho, hse, hg, hl, ?_, ⟨[], a, trivial, ?_, KH_1 rfl hk0 hc.dn h (hprt a h3) k0⟩, ?_, ?_⟩
        · show TyL P hp lo ((1, E, _) :: (0, _, _) :: ks) E
          rw [TyL_p (by omega), TyL_p (by omega)]; exact hy
        · show XT P S c E (P.flX c E (nd 70 0 0 (pp x) e)) [] a
          rw [hxs]; exact h1
        · show XH (P.flX c E (nd 70 0 0 (pp x) e)) 0 1999
          rw [hxs]; exact h2
        · show xw (P.flX c E (nd 70 0 0 (pp x) e)) ≤ 3000
          rw [hxs]; exact hw
      obtain ⟨q2, g2⟩ := g2
      match q2, g2 with
      | q2 + 1, g2 =>
        rcases g2 with ⟨k, v, rfl, h2⟩ | ⟨k, w', rfl, h2, h3⟩ | ⟨k, x', rfl, h2, h3⟩ | ⟨k, w', x', rfl, h2, h3, h4⟩ | ⟨k, x', y', rfl, h2, h3, h4⟩ | ⟨v, w', s', rfl, h2, h3⟩
        · exact absurd g1 (by
            have : isPlaceE (eLeaf k v 0) = (k == 6 || k == 9 || k == 12) := rfl
            rw [this]
            rcases h2 with rfl | ⟨rfl, _⟩ | ⟨rfl | rfl | rfl, _⟩ <;> decide)
        · obtain rfl : [] = l := Option.some.inj i1
          refine fin (P.flX c E e) [mk3 t] rfl ?_ ?_ rfl
          · have := fe [] [mk3 t] rfl
            rw [List.append_nil] at this; exact this
          · have := he 0 [] (hwe.2.2 0 (by omega)) (by show 1 ≤ 1999; omega)
            rw [List.append_nil] at this; exact this
        · exact absurd g1 (by
            have : isPlaceE (eUn k 0 0 x') = (k == 6 || k == 9 || k == 12) := rfl
            rw [this]
            rcases h2 with rfl | rfl | rfl <;> decide)
        · have hw1 : wt (eUn k 0 w' x') = wt x' + 1 := wt_un 0 w' x' (by omega)
          obtain ⟨u, hu⟩ : ∃ u, P.te c E x' = some [u] := by
            have i1 : ((P.te c E x').bind fun a => (some []).bind fun b => some (a ++ b)) = some l := i1
            obtain ⟨l', l1, _⟩ := Option.bind_eq_some_iff.mp i1
            obtain ⟨u, rfl, _⟩ := Ox.te_one (S := S) ⟨q2, h4⟩ l1
            exact ⟨u, l1⟩
          have hl' : l = [u] := by
            have i1 : ((P.te c E x').bind fun a => (some []).bind fun b => some (a ++ b)) = some l := i1
            rw [hu] at i1
            exact (Option.some.inj i1).symm
          subst hl'
          have fx := XT.fl (P := P) (c := c) (E := E) q2 x' h4 u hu
          have hx' := XH.fl (P := P) (c := c) (E := E) (Y := 1999) q2 x' h4 [u] hu
          refine fin (P.flX c E x' ++ P.flX c E e) [mk3 t, mk3 u] ?_ ?_ ?_ rfl
          · show (P.flX c E x' ++ []) ++ P.flX c E e = _
            rw [List.append_nil]
          · refine fx _ [] _ ?_
            have := fe [mk3 u] [mk3 t, mk3 u] rfl
            rw [List.append_nil] at this; exact this
          · refine hx' 0 _ ((HXwt (S := S) (Y := 1999) q2 x' h4).2.2 0 (by omega)) ?_
            have := he 1 [] (hwe.2.2 1 (by omega)) (by show 2 ≤ 1999; omega)
            rw [List.append_nil] at this; exact this
        · have hw1 : wt (eBin k x' y') = wt x' + wt y' + (if k = 28 ∨ k = 29 then 2 else 1) := rfl
          have i1 : ((P.te c E x').bind fun a => (P.te c E y').bind fun b => some (a ++ b)) = some l := i1
          obtain ⟨l', l1, i1⟩ := Option.bind_eq_some_iff.mp i1
          obtain ⟨l'', l2, i1⟩ := Option.bind_eq_some_iff.mp i1
          obtain ⟨u, rfl, _⟩ := Ox.te_one (S := S) ⟨q2, h3⟩ l1
          obtain ⟨u', rfl, _⟩ := Ox.te_one (S := S) ⟨q2, h4⟩ l2
          obtain rfl := Option.some.inj i1
          have hw2 : wt x' + wt y' + 1 ≤ wt (eBin k x' y') := by rw [hw1]; split <;> omega
          have fx := XT.fl (P := P) (c := c) (E := E) q2 x' h3 u l1
          have fy := XT.fl (P := P) (c := c) (E := E) q2 y' h4 u' l2
          have hx' := XH.fl (P := P) (c := c) (E := E) (Y := 1999) q2 x' h3 [u] l1
          have hy' := XH.fl (P := P) (c := c) (E := E) (Y := 1999) q2 y' h4 [u'] l2
          refine fin (P.flX c E x' ++ (P.flX c E y' ++ P.flX c E e)) [mk3 t, mk3 u', mk3 u] ?_ ?_ ?_ rfl
          · show (P.flX c E x' ++ P.flX c E y') ++ P.flX c E e = _
            rw [List.append_assoc]
          · refine fx _ [] _ (fy _ _ _ ?_)
            have := fe [mk3 u', mk3 u] [mk3 t, mk3 u', mk3 u] rfl
            rw [List.append_nil] at this; exact this
          · refine hx' 0 _ ((HXwt (S := S) (Y := 1999) q2 x' h3).2.2 0 (by omega)) (hy' 1 _ ((HXwt (S := S) (Y := 1999) q2 y' h4).2.2 1 (by omega)) ?_)
            have := he 2 [] (hwe.2.2 2 (by omega)) (by show 3 ≤ 1999; omega)
            rw [List.append_nil] at this; exact this
        · exact absurd g1 (by
            have : isPlaceE (eCall v w' s') = false := rfl
            rw [this]; decide)
    · obtain ⟨i1, E3, i2, i3, i4, i5⟩ := inv_ite h
      have hx : exW (bIte p e a f b r) := hc.2.1
      obtain ⟨x1, x2, x3⟩ := fl_begin (P := P) (c := c) (E := E) g1 i1 hx.1
      have hnl : (P.nxE c (P.mty m) (bIte p e a f b r) E).1.length = E.1.length := by
        by_cases hf1 : f = 1
        · obtain ⟨E4, _, j2⟩ := i3 hf1
          rw [j2]; rfl
        · rw [i4 hf1]
      have hcr : CapB 100 (P.nxE c (P.mty m) (bIte p e a f b r) E) r ks := hc.nx (by rw [hnl]; show _ ≤ _ + (nv a + nv b + nv r); omega) (fun z => z.2.2.2) (by show dp r ≤ max (max (dp a) (dp b) + 1) (dp r); omega)
      have k0 := KT_0 (z := false) hkr hcr i5 hr
      refine ⟨hm, ho, hse, hg, hl, ?_, ⟨[], [mk3 1], trivial, x1, KH_1 rfl hk0 hc.dn h ?_ k0⟩, x2, x3⟩
      · show TyL P hp lo ((1, E, _) :: (0, _, _) :: ks) E
        rw [TyL_p (by omega), TyL_p (by omega)]; exact hy
      · show [mk3 1] = ((P.te c E e).getD []).reverse.map mk3
        rw [te_getD i1]; rfl
    · obtain ⟨i1, E3, i2, i3, i5⟩ := inv_whil h
      have hx : exW (bWhil p e a r) := hc.2.1
      obtain ⟨x1, x2, x3⟩ := fl_begin (P := P) (c := c) (E := E) g1 i1 hx.1
      have hcr : CapB 100 (P.nxE c (P.mty m) (bWhil p e a r) E) r ks := hc.nx (by rw [i3]; show _ ≤ _ + (nv a + nv r); omega) (fun z => z.2.2) (by show dp r ≤ max (dp a + 1) (dp r); omega)
      have k0 := KT_0 (z := false) hkr hcr (by rw [i3]; exact i5) hr
      refine ⟨hm, ho, hse, hg, hl, ?_, ⟨[], [mk3 1], trivial, x1, KH_1 rfl hk0 hc.dn h ?_ k0⟩, x2, x3⟩
      · show TyL P hp lo ((1, E, _) :: (0, _, _) :: ks) E
        rw [TyL_p (by omega), TyL_p (by omega)]; exact hy
      · show [mk3 1] = ((P.te c E e).getD []).reverse.map mk3
        rw [te_getD i1]; rfl
    · obtain ⟨E3, d, E0, E4, i1, i2, i3, i4, i5, i6, i7⟩ := inv_try h
      have hx : exW (bTry p a cw w b r) := hc.2.1
      have hnl : (P.nxE c (P.mty m) (bTry p a cw w b r) E).1 = E.1 := by rw [i6]; rfl
      have hcr : CapB 100 (P.nxE c (P.mty m) (bTry p a cw w b r) E) r ks := hc.nx (by rw [hnl]; show _ ≤ _ + (1 + nv a + nv b + nv r); omega) (fun z => z.2.2) (by show dp r ≤ max (max (dp a) (dp b) + 1) (dp r); omega)
      have k0 := KT_0 (z := false) hkr hcr i7 hr
      have pe := (Pgm.chk_pfx n a E E3 ha i1).1
      have k4 := KT_4 (z := false) (mt := P.mty m) (c := c) ⟨p, a, cw, w, b, r, rfl⟩ hk0 (hc.dn (E' := P.nxE c (P.mty m) (bTry p a cw w b r) E) (r := r) (z := false)) h k0
      have k2 : KT P S c (P.mty m) ((2, P.nxE c (P.mty m) (bTry p a cw w b r) E, nl, false) :: (4, E, bTry p a cw w b r, false) :: (0, P.nxE c (P.mty m) (bTry p a cw w b r) E, r, false) :: ks) E3 := KT_2 (by rw [i6]; exact Rf.join1 pe) k4
      have hd : dp (bTry p a cw w b r) = max (max (dp a) (dp b) + 1) (dp r) := rfl
      have hnv : nv (bTry p a cw w b r) = 1 + nv a + nv b + nv r := rfl
      have ka := KT_0 (z := false) (E := E) (b := a) ha ⟨by have := hc.1; omega, hx.1, by have := hc.2.2.1; simp only [List.length_cons]; omega, by
        have := hc.2.2.2
        show dp a + ((if (2 : Nat) = 4 then 1 else 0) + ((if (4 : Nat) = 4 then 1 else 0) + ((if (0 : Nat) = 4 then 1 else 0) + cty ks))) ≤ 50
        rw [if_neg (by omega), if_pos rfl, if_neg (by omega)]
        omega⟩ i1 k2
      refine ⟨hm, ho, hse, hg, hl, ?_, ⟨[], [], trivial, rfl, ka.kh⟩, Nat.zero_le _, Nat.zero_le _⟩
      show TyL P hp lo ((0, E, _) :: (2, P.nxE c (P.mty m) (bTry p a cw w b r) E, _) :: (4, E, _) :: (0, _, _) :: ks) E
      rw [TyL_p (by omega), TyL_b (by omega), TyL_b (by omega), TyL_p (by omega)]
      refine ⟨Pfx.same hnl.symm, fun z => by omega, Pfx.same hnl, fun _ => ?_, hy⟩
      rw [List.take_of_length_le (by omega)]
      exact hl
