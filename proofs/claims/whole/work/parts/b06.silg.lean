/-! ===== WHAT IS NO STEP, all of it ===== -/
theorem FT.push {P : Pgm} {S : Tks} {hp : List Ob} {i : Nat × Nat × Nat} {lo : List Vl} {ops : List (Bool × Vl)} {E : EnvV} {xs : List Xi} {ks : List Si} {s : Bool × Nat} {z : Bool} {v : Vl} (h : FT P S hp (i, lo, ops, E, xs, ks) [s]) (hv : VT P hp v s.2) (hz : z = s.1) : FT P S hp (i, lo, (z, v) :: ops, E, xs, ks) [] := by
  obtain ⟨h1, h2, h3, h4, h5, h6, ⟨a, a', h7, h8, h9⟩, h10, h11⟩ := h
  refine ⟨h1, h2, h3, h4, h5, h6, ⟨s :: a, a', ⟨hz, hv, h7⟩, h8, h9⟩, ?_, h11⟩
  have h10 : XH xs (1 + ops.length) 1999 := h10
  show XH xs (0 + (ops.length + 1)) 1999
  rw [show 0 + (ops.length + 1) = 1 + ops.length by omega]
  exact h10
theorem FT.mono {P : Pgm} {S : Tks} {hp hp' : List Ob} (g : HpL hp hp') {f : Fm} {pre : List (Bool × Nat)} (h : FT P S hp f pre) : FT P S hp' f pre := by
  obtain ⟨h1, h2, ⟨d, fs, h3, h3'⟩, h4, h5, h6, ⟨a, a', h7, h8, h9⟩, h10, h11⟩ := h
  obtain ⟨fs', g1, _⟩ := g _ _ h3
  exact ⟨h1, h2, ⟨d, fs', g1, h3'⟩, h4, h5.mono g, h6.mono g, ⟨a, a', h7.mono g, h8, h9⟩, h10, h11⟩
theorem FsT.mono {P : Pgm} {S : Tks} {hp hp' : List Ob} (g : HpL hp hp') : ∀ {fs : List Fm} {pre : List (Bool × Nat)}, FsT P S hp fs pre → FsT P S hp' fs pre
  | [], pre, h => h
  | f :: fs, pre, h => ⟨h.1.mono g, FsT.mono g h.2⟩
theorem OT_nil {P : Pgm} {hp : List Ob} {o : List (Bool × Vl)} (h : OT P hp o []) : o = [] := by
  cases o with
  | nil => rfl
  | cons x o => exact h.elim
/-- a method returns a word -/
theorem ret_good {P : Pgm} {S : Tks} {G : Gs} {z : Bool} {v : Vl} {t : Nat} {fs : List Fm} (ho : HO P G.1) (h : FsT P S G.1 fs [mk3 t]) (hl : fs.length ≤ 100) (hH : G.2.2.2.2 ≤ 10900) (hz : z = decide (t = 3)) (hv : VT P G.1 v t) : GdM P S (retM G z v fs) := by
  match fs with
  | [] => exact ho
  | (i, lo, ops, E, xs, ks) :: fs => exact ⟨ho, ⟨h.1.push hv hz, h.2⟩, List.cons_ne_nil _ _, hl, hH⟩
theorem sil_good {P : Pgm} {S : Tks} {G : Gs} {f : Fm} {fs : List Fm} {σ : Mst} (h : GdM P S (G, .inl (f :: fs))) (hs : P.sil G f fs = some σ) : GdM P S σ := by
  obtain ⟨ho, ⟨hf, hfs⟩, _, hlen, hH⟩ := h
  obtain ⟨⟨c, m, se⟩, lo, ops, E, xs, ks⟩ := f
  have good : ∀ f', FT P S G.1 f' [] → f'.1.2.1 = m → GdM P S (G, .inl (f' :: fs)) := fun f' h1 h2 => ⟨ho, ⟨h1, by rw [h2]; exact hfs⟩, List.cons_ne_nil _ _, hlen, hH⟩
  obtain ⟨h1, h2, h3, h4, h5, h6, ⟨a, a', h7, h8, h9⟩, h10, h11⟩ := hf
  dsimp only at h1 h2 h3 h4 h5 h6 h7 h8 h9 h10 h11
  match xs, h8, h10, h11, hs with
  | .inl (k, v, w, s, l) :: xs, h8, h10, h11, hs =>
    have h10 : 0 + ops.length ≤ 1999 ∧ if k = 50 then XH xs (0 + ops.length + 1) 1999 else if k = 51 then XH xs (0 + ops.length) 1999 else XH xs (0 + ops.length - l.length + 1) 1999 := h10
    have h11 : 1 + xw xs ≤ 3000 := h11
    have hs : (if k = 50 then some (G, Sum.inl (((c, m, se), lo, (true, Sum.inr (some se)) :: ops, E, xs, ks) :: fs)) else if k = 51 then some (G, Sum.inl (((c, m, se), lo, ops, E, xs, ks) :: fs)) else none) = some σ := hs
    by_cases k50 : k = 50
    · subst k50
      rw [if_pos rfl] at hs
      obtain rfl := Option.some.inj hs
      obtain ⟨d, fl, s1, s2⟩ := h3
      have h8 : XT P S c E xs ((true, 10 + c) :: a) a' := h8
      refine good _ ⟨h1, h2, ⟨d, fl, s1, s2⟩, h4, h5, h6, ⟨(true, 10 + c) :: a, a', ⟨rfl, VT.ob (by show 10 ≤ 10 + c; omega) s1 (by show P.und d (10 + c - 10) = true; rw [show 10 + c - 10 = c by omega]; exact s2), h7⟩, h8, h9⟩, ?_, by show xw xs ≤ 3000; omega⟩ rfl
      have := h10.2
      rw [if_pos rfl] at this
      show XH xs (0 + (ops.length + 1)) 1999
      rw [← Nat.add_assoc]; exact this
    · rw [if_neg k50] at hs
      by_cases k51 : k = 51
      · subst k51
        rw [if_pos rfl] at hs
        obtain rfl := Option.some.inj hs
        refine good _ ⟨h1, h2, h3, h4, h5, h6, ⟨a, a', h7, h8, h9⟩, ?_, by show xw xs ≤ 3000; omega⟩ rfl
        have := h10.2
        rw [if_neg (by omega), if_pos rfl] at this
        exact this
      · rw [if_neg k51] at hs
        cases hs
  | .inr _ :: xs, h8, h10, h11, hs => cases hs
  | [], h8, h10, h11, hs =>
    obtain rfl : a = a' := h8
    match ks, h6, h9, hs with
    | [], h6, h9, hs =>
      obtain ⟨_, g9⟩ : a = [] ∧ (E.2.1 = true ∨ P.mty m = 3) := h9
      have hmt : P.mty m = 3 := by
        rcases g9 with z | z
        · rw [h5.2.1] at z; cases z
        · exact z
      obtain rfl := Option.some.inj hs
      have hfs' : FsT P S G.1 fs [mk3 (P.mty m)] := hfs
      rw [hmt] at hfs'
      have hl2 : fs.length ≤ 100 := by rw [List.length_cons] at hlen; omega
      exact ret_good ho hfs' hl2 hH rfl (Or.inr (Or.inr (Or.inl ⟨rfl, rfl⟩)))
    | (k, E', b, z) :: ks, h6, h9, hs =>
      unfold KH at h9
      dsimp only at h9
      unfold Pgm.sil at hs
      dsimp only at hs
      by_cases k0 : k = 0
      · subst k0
        rw [if_pos rfl] at hs
        obtain rfl := Option.some.inj hs
        rw [if_neg (by omega), if_neg (by omega)] at h9
        obtain ⟨ha, g9⟩ := h9
        subst ha
        obtain rfl := OT_nil h7
        unfold KT at g9
        rw [if_pos rfl] at g9
        obtain ⟨rfl, q1, q2, E2, q3, q4⟩ := g9
        rw [TyL_p (by omega)] at h6
        exact good _ (st_good h1 h2 h3 rfl h4 h5 h6 q1 q2 q3 q4) rfl
      · rw [if_neg k0] at hs
        by_cases k2 : k = 2
        · subst k2
          rw [if_pos rfl] at hs
          obtain rfl := Option.some.inj hs
          rw [if_neg (by omega), if_neg (by omega)] at h9
          obtain ⟨ha, g9⟩ := h9
          subst ha
          obtain rfl := OT_nil h7
          unfold KT at g9
          rw [if_neg (by omega), if_pos rfl] at g9
          rw [TyL_b (by omega)] at h6
          exact good _ ⟨h1, h2, h3, h4.pfx g9.1.1, h5.cut g9.1, h6.2.2.tk, ⟨[], [], trivial, rfl, g9.2.kh⟩, Nat.zero_le _, Nat.zero_le _⟩ rfl
        · rw [if_neg k2] at hs
          by_cases k3 : k = 3
          · subst k3
            rw [if_pos rfl] at hs
            obtain rfl := Option.some.inj hs
            rw [if_neg (by omega), if_neg (by omega)] at h9
            obtain ⟨ha, g9⟩ := h9
            subst ha
            obtain rfl := OT_nil h7
            unfold KT at g9
            rw [if_neg (by omega), if_neg (by omega), if_pos rfl] at g9
            obtain ⟨q1, ⟨p, e, a, r, rfl⟩, ⟨n, q2⟩, q3, ⟨E2, q4⟩, q5⟩ := g9
            rw [TyL_b (by omega)] at h6
            obtain ⟨i1, E3, i2, i3, i5⟩ := inv_whil q4
            have hx : exW (bWhil p e a r) := q3.2.1
            have he : Ox S e := by
              match n, q2 with
              | 0, q2 => cases q2
              | n + 1, q2 =>
                rcases q2 with z | ⟨_, _, _, _, z, _⟩ | ⟨_, _, _, _, _, z, _⟩ | ⟨_, k, _, _, z, hkk, _⟩ | ⟨_, _, _, _, z, _⟩ | ⟨_, _, _, _, _, _, z, _⟩ | ⟨_, _, _, _, z, g1, _⟩ | ⟨_, _, _, _, _, _, z, _⟩
                · cases z
                · cases z
                · cases z
                · have := GKk hkk
                  unfold bWhil nd at z
                  injection z with z1 z2
                  injection z1 with z3 z4
                  injection z3 with z5
                  omega
                · cases z
                · cases z
                · unfold bWhil nd at z
                  injection z with z1 z2
                  injection z2 with z3 z4
                  rw [z3]; exact g1
                · cases z
            obtain ⟨x1, x2, x3⟩ := fl_begin (P := P) (c := c) (E := E') he i1 hx.1
            refine good _ ⟨h1, h2, h3, h4.pfx q1.1, h5.cut q1, ?_, ⟨[], [mk3 1], trivial, x1, KH_1 rfl q2 q3 q4 ?_ q5⟩, x2, x3⟩ rfl
            · show TyL P G.1 (lo.take E'.1.length) ((1, E', _) :: ks) E'
              rw [TyL_p (by omega)]
              exact h6.2.2.tk
            · show [mk3 1] = ((P.te c E' e).getD []).reverse.map mk3
              rw [te_getD i1]; rfl
          · rw [if_neg k3] at hs
            by_cases k4 : k = 4
            · subst k4
              rw [if_pos rfl] at hs
              obtain rfl := Option.some.inj hs
              rw [if_neg (by omega), if_neg (by omega)] at h9
              obtain ⟨ha, g9⟩ := h9
              subst ha
              obtain rfl := OT_nil h7
              unfold KT at g9
              rw [if_neg (by omega), if_neg (by omega), if_neg (by omega), if_pos rfl] at g9
              obtain ⟨q1, q2, q3, q4, q5, q6⟩ := g9
              rw [TyL_b (by omega)] at h6
              exact good _ ⟨h1, h2, h3, h4, h5, h6.2.2.more h6.1, ⟨[], [], trivial, rfl, q6.kh⟩, Nat.zero_le _, Nat.zero_le _⟩ rfl
            · rw [if_neg k4] at hs
              by_cases k5 : k = 5
              · subst k5
                rw [if_pos rfl] at hs
                obtain rfl := Option.some.inj hs
                rw [if_neg (by omega), if_pos rfl] at h9
                obtain ⟨⟨t, ha, _⟩, g9⟩ := h9
                subst ha
                rw [TyL_p (by omega)] at h6
                match ops, h7 with
                | [o], h7 => exact good _ ⟨h1, h2, h3, h4, h5, h6, ⟨[], [], trivial, rfl, g9.kh⟩, Nat.zero_le _, Nat.zero_le _⟩ rfl
              · rw [if_neg k5] at hs
                cases hs
