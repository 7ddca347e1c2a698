/-! ===== THE REFERENCE: what is no step ===== -/
theorem FrR.re {B : Nat → Nat} {L : List Nat} {h : pH} {n : Nat} {i : Nat × Nat × Nat} {lo : List Vl} {ops : List (Bool × Vl)} {E E' : EnvV} {xs xs' : List Xi} {ks ks' : List Si} {lb pb : Nat} (q : FrR B L h n (i, lo, ops, E, xs, ks) lb pb) (h1 : ks'.length ≤ 104) (h2 : cty ks' ≤ 51) : FrR B L h n (i, lo, ops, E', xs', ks') lb pb := by
  obtain ⟨q1, q2, q3, q4, q5, q6, q7, q8, q9, q10, q11, q12, q13, q14⟩ := q
  exact ⟨q1, q2, q3, q4, q5, q6, q7, q8, q9, h1, h2, q12, q13, q14⟩
/-- a part that the reference does not keep -/
theorem FrR.mk {B : Nat → Nat} {L : List Nat} {h : pH} {n : Nat} {i : Nat × Nat × Nat} {lo : List Vl} {ops : List (Bool × Vl)} {E : EnvV} {xs xs' : List Xi} {ks : List Si} {lb pb : Nat} {v : Vl} (q : FrR B L h n (i, lo, ops, E, xs, ks) lb pb) (h1 : ops.length + 1 ≤ 1999) (hv : v = .inl 0 ∨ v = .inr (some i.2.2)) : FrR B L h n (i, lo, (true, v) :: ops, E, xs', ks) lb pb := by
  obtain ⟨q1, q2, q3, q4, q5, q6, q7, q8, q9, q10, q11, q12, q13, q14⟩ := q
  refine ⟨q1, q2, q3, q4, q5, q6, q7, q8, h1, q10, q11, q12, q13, fun u hu => ?_⟩
  rcases List.mem_cons.mp hu with z | z
  · injection z with _ z
    rw [z]; exact hv
  · exact q14 u z
theorem set_3 {g h : pH} {N s : Nat} {T : List It} (st : StV g h) (h70 : rd h 138 70 = 0) (ht : TdH ((3, Int32.ofNat s) :: T) h) (hl : T.length + 20 < 400000) (hs : s < 1600) : ∃ h1, (∀ d, fX12_settle_0 N (d + 1) 138 h = (fX12_begins N 138 (Int32.ofNat s) h1).bind fun h2 => fX12_settle_0 N d 138 h2) ∧ TdH ((3, rd g 161 s) :: T) h1 ∧ Chg (tdB T.length) h h1 := by
  have hns : fX12_isStep N 138 h = some (0, h) := by
    rw [r_isStep st ht (by omega) (show 3 ≤ 8 by omega)]
    dsimp only
    rw [if_neg (by omega), if_neg (by omega)]
  have c1 : Chg (fun a k => a = 138 ∧ k = 103) h (wr h 138 103 (Int32.ofNat T.length)) := Chg.wr h 138 103 _ ⟨rfl, rfl⟩
  have st1 : StV g (wr h 138 103 (Int32.ofNat T.length)) := st.chg c1 (fun a k z => by omega)
  obtain ⟨h1, f1, f2, f3⟩ := r_todo (N := N) (k := 3) (y := rd g 161 s) st1.1 (ht.pop st.1).1 (by omega)
  have f1 : fX12_todo N 138 3 (rd g 161 s) (wr h 138 103 (Int32.ofNat T.length)) = some h1 := f1
  refine ⟨h1, fun d => ?_, f2, (c1.mono (fun a k z => by unfold tdB; omega)).trans (f3.mono (fun a k z => z.b (Nat.le_refl _)))⟩
  rw [set_go st h70 ht (by omega) hns]
  dsimp only
  rw [if_neg (by decide), if_neg (by decide), if_neg (by decide), if_pos (by decide), if_pos (i_nn0 (by omega)), R_138_36 st1.1, Option.bind_some, L_161 st1.1 hs, Option.bind_some, st1.2.1 161 s (by omega) (by omega), f1, Option.bind_some]
theorem set_5 {g h : pH} {N n : Nat} {x : Int32} {T : List It} (st : StV g h) (h70 : rd h 138 70 = 0) (ht : TdH ((5, x) :: T) h) (hl : T.length + 20 < 400000) (hn : n < 100) (h93 : rd h 138 93 = Int32.ofNat (n + 1)) (d : Nat) : fX12_settle_0 N (d + 1) 138 h = fX12_settle_0 N d 138 (wr (wr h 138 103 (Int32.ofNat T.length)) 195 n x) := by
  have hns : fX12_isStep N 138 h = some (0, h) := by
    rw [r_isStep st ht (by omega) (show 5 ≤ 8 by omega)]
    dsimp only
    rw [if_neg (by omega), if_neg (by omega)]
  have s1 := st.1.wr 138 103 (Int32.ofNat T.length)
  rw [set_go st h70 ht (by omega) hns]
  dsimp only
  rw [if_neg (by decide), if_neg (by decide), if_neg (by decide), if_neg (by decide), if_neg (by decide), if_pos (by decide), R_138_96 s1, Option.bind_some, g_138_93 s1, Option.bind_some, rd_wr_ne _ _ (by omega), h93, i_sub1, T_195 s1 (by omega), Option.bind_some]
/-- variables are left behind -/
theorem FrR.tk {B : Nat → Nat} {L : List Nat} {h h' : pH} {n m : Nat} {i : Nat × Nat × Nat} {lo : List Vl} {ops : List (Bool × Vl)} {E E' : EnvV} {xs xs' : List Xi} {ks ks' : List Si} {lb pb : Nat} (q : FrR B L h n (i, lo, ops, E, xs, ks) lb pb) (c : Chg (fun a k => (a = 138 ∧ k = 103) ∨ (a = 195 ∧ k = n)) h h') (hm : m ≤ lo.length) (e : rd h' 195 n = Int32.ofNat m) (h1 : ks'.length ≤ 104) (h2 : cty ks' ≤ 51) : FrR B L h' n (i, lo.take m, ops, E', xs', ks') lb pb := by
  obtain ⟨q1, q2, q3, q4, q5, q6, q7, q8, q9, q10, q11, q12, q13, q14⟩ := q
  have hl : (lo.take m).length = m := by rw [List.length_take]; omega
  refine ⟨(c.2.2.1 _ _ (by omega)).trans q1, q2, (c.2.2.1 _ _ (by omega)).trans q3, ?_, (c.2.2.1 _ _ (by omega)).trans q5, q6, q7, ?_, q9, h1, h2, fun j v hj => ?_, fun j v hj => ?_, q14⟩
  · show rd h' 195 n = Int32.ofNat (lo.take m).length
    rw [hl]; exact e
  · show (lo.take m).length ≤ 899
    have : lo.length ≤ 899 := q8
    omega
  · have hj : (lo.take m)[j]? = some v := hj
    have := (List.getElem?_eq_some_iff.mp hj).1
    rw [List.getElem?_take_of_lt (by omega)] at hj
    rw [c.2.2.1 _ _ (by omega), c.2.2.1 _ _ (by omega)]
    exact q12 j v hj
  · rw [c.2.2.1 _ _ (by omega), c.2.2.1 _ _ (by omega)]
    exact q13 j v hj
theorem TdX.nil {P : Pgm} {S : Tks} {num : List Int32 → Nat} {c : Nat} {E : EnvV} {g : pH} {its : List It} (h : TdX P S num c E g its []) : its = [] := by
  have := h.len
  exact List.length_eq_zero_iff.mp (Nat.le_zero.mp this)
theorem gk_whil {S : Tks} {n p : Nat} {e a r : Tr} (q2 : GK S n (bWhil p e a r)) : Ox S e ∧ ∃ m, GK S m a := by
  match n, q2 with
  | 0, q2 => cases q2
  | n + 1, q2 =>
    rcases q2 with z | ⟨_, _, _, _, z, _⟩ | ⟨_, _, _, _, _, z, _⟩ | ⟨_, k, _, _, z, hkk, _⟩ | ⟨_, _, _, _, z, _⟩ | ⟨_, _, _, _, _, _, z, _⟩ | ⟨_, _, _, _, z, g1, g2, _⟩ | ⟨_, _, _, _, _, _, z, _⟩
    · cases z
    · cases z
    · cases z
    · have := GKk hkk
      unfold bWhil nd at z
      injection z with z1 z2
      injection z1 with z3 z4
      injection z3 with z5
      omega
    · cases z
    · cases z
    · unfold bWhil nd at z
      injection z with z1 z2
      injection z2 with z3 z4
      injection z4 with z5 z6
      injection z6 with z7 z8
      rw [z3, z7]; exact ⟨g1, n, g2⟩
    · cases z
theorem rsil {P : Pgm} {S : Tks} {num : List Int32 → Nat} {N : Nat} {g h : pH} {G : Gs} {f : Fm} {fs : List Fm} {t : List It} {σ : Mst} (hn : P.n ≤ 400) (hg : GdM P S (G, .inl (f :: fs))) (hr : RRn P S num g h G (f :: fs) t) (hsil : P.sil G f fs = some σ) : ∃ m h', m ≤ 1 ∧ (RRs P S num g h' σ ∧ Chg fmA h h') ∧ ∀ d, fX12_settle_0 N (d + m) 138 h = fX12_settle_0 N d 138 h' := by
  have hgσ := sil_good hg hsil
  obtain ⟨i, lo, ops, E, xs, ks⟩ := f
  obtain ⟨h70, h77, B, O, L, lt, pt, trs, hb, hlw, h100, h93, htd, hth, htr⟩ := hr
  have hbd := hlw.bd
  have htl := htd.len hlw
  obtain ⟨lb, pb, tr', q1, q2, q3, q4, q5⟩ := hlw
  obtain ⟨t1, t2, t3, rfl, x1, x2, x3, x4⟩ := htd
  have st := hb.1
  have sg := st.1
  obtain ⟨ho, ⟨hft, hrs⟩, -, hlen, hH⟩ := hg
  obtain ⟨-, -, -, hge, hlo, hty, ⟨a, a', ot, xt, kh⟩, -, hw3⟩ := hft
  dsimp only at hlo hty ot xt kh hw3 x1 x3 q2 q3 q4
  rw [List.length_cons] at hlen hbd h93 htl
  dsimp only at htl hth
  have htl : (t1 ++ (t2 ++ (8, Int32.ofNat i.2.1) :: t3)).length ≤ 332000 := by omega
  have fin : ∀ (h' : pH) (A : Nat → Nat → Prop) (lo' : List Vl) (ops' : List (Bool × Vl)) (E' : EnvV) (xs' : List Xi) (ks' : List Si) (t1' t2' : List It), Chg A h h' → (∀ a k, A a k → (a = 138 ∧ (k = 100 ∨ k = 103 ∨ k = 106)) ∨ (a = 195 ∧ k = fs.length) ∨ ((a = 197 ∨ a = 198) ∧ lb ≤ k) ∨ ((a = 199 ∨ a = 200) ∧ pb ≤ k) ∨ (201 ≤ a ∧ a ≤ 204)) → FrR B L h' fs.length (i, lo', ops', E', xs', ks') lb pb → rd h' 138 100 = Int32.ofNat (pb + (um ops').length) → TdX P S num i.1 E' g t1' (nx xs') → t1'.length ≤ 3000 → TdK P num i.1 (P.mty i.2.1) g ks' t2' → TdH (t1' ++ (t2' ++ (8, Int32.ofNat i.2.1) :: t3)) h' → TrH (tyE pb ks' ++ tr') h' → RRs P S num g h' (G, .inl ((i, lo', ops', E', xs', ks') :: fs)) ∧ Chg fmA h h' := fun h' A lo' ops' E' xs' ks' t1' t2' c hA fr e100 y1 y2 y3 y4 y5 => by
    have n : ∀ a k, ¬ ((a = 138 ∧ (k = 100 ∨ k = 103 ∨ k = 106)) ∨ (a = 195 ∧ k = fs.length) ∨ ((a = 197 ∨ a = 198) ∧ lb ≤ k) ∨ ((a = 199 ∨ a = 200) ∧ pb ≤ k) ∨ (201 ≤ a ∧ a ≤ 204)) → ¬ A a k := fun a k z y => z (hA a k y)
    have hfm : ∀ a k, A a k → fmA a k := fun a k z => by
      have := hA a k z
      unfold fmA
      omega
    refine ⟨⟨_, (c.2.2.1 _ _ (n _ _ (by omega))).trans h70, (c.2.2.1 _ _ (n _ _ (by omega))).trans h77, B, O, L, lb + lo'.length, pb + (um ops').length, tyE pb ks' ++ tr', hb.chg c hfm, ⟨lb, pb, tr', fr, rfl, rfl, rfl, q5.chg c (fun a k _ _ hk => n _ _ (by omega)) (fun a k _ hk => n _ _ (by omega)) (fun a k _ hk => n _ _ (by omega))⟩, e100, ?_, ⟨t1', t2', t3, rfl, y1, y2, y3, x4⟩, y4, y5⟩, c.mono hfm⟩
    rw [List.length_cons]
    exact (c.2.2.1 _ _ (n _ _ (by omega))).trans h93
  have q1c := q1
  have hlb := q1.2.2.2.2.2.1
  have hl8 := q1.2.2.2.2.2.2.2.1
  have hk10 := q1.2.2.2.2.2.2.2.2.2.1
  have hk11 := q1.2.2.2.2.2.2.2.2.2.2.1
  have h194 := q1.2.2.1
  have h195 := q1.2.2.2.1
  dsimp only at hl8 hk10 hk11 h195
  rw [q3] at h100
  rw [q4] at htr
  match xs, xt, hsil, x1, hw3 with
  | .inr (k, e) :: xs, xt, hsil, x1, hw3 => cases hsil
  | .inl (k, v, w, z, l) :: xs, xt, hsil, x1, hw3 =>
    by_cases hk : k = 50
    · subst hk
      have hsil : some (G, Sum.inl ((i, lo, (true, .inr (some i.2.2)) :: ops, E, xs, ks) :: fs)) = some σ := hsil
      obtain rfl := Option.some.inj hsil
      have hx : XH xs (0 + (ops.length + 1)) 1999 := hgσ.2.1.1.2.2.2.2.2.2.2.1
      have := hx.le
      exact ⟨0, h, by omega, fin h (fun _ _ => False) lo _ E xs ks t1 t2 (Chg.refl _ _) (fun _ _ z => z.elim) (q1.mk (by omega) (Or.inr rfl)) h100 x1 x2 x3 hth htr, fun d => rfl⟩
    · by_cases hk2 : k = 51
      · subst hk2
        have hsil : some (G, Sum.inl ((i, lo, ops, E, xs, ks) :: fs)) = some σ := hsil
        obtain rfl := Option.some.inj hsil
        exact ⟨0, h, by omega, fin h (fun _ _ => False) lo _ E xs ks t1 t2 (Chg.refl _ _) (fun _ _ z => z.elim) (q1.re hk10 hk11) h100 x1 x2 x3 hth htr, fun d => rfl⟩
      · have hsil : (if k = 50 then some (G, Sum.inl ((i, lo, (true, .inr (some i.2.2)) :: ops, E, xs, ks) :: fs)) else if k = 51 then some (G, Sum.inl ((i, lo, ops, E, xs, ks) :: fs)) else none) = some σ := hsil
        rw [if_neg hk, if_neg hk2] at hsil
        cases hsil
  | [], xt, hsil, x1, hw3 =>
    have xt : a = a' := xt
    subst xt
    obtain rfl := TdX.nil x1
    rw [List.nil_append] at hth htl
    match ks, kh, hsil, hty, x3, q1, q1c, hth, htr, htl, hk10, hk11 with
    | [], kh, hsil, hty, x3, q1, q1c, hth, htr, htl, hk10, hk11 =>
      have x3 : t2 = [] := x3
      subst x3
      rw [List.nil_append] at hth htl
      rw [List.length_cons] at htl
      have hsil : some (retM G true (.inl 0) fs) = some σ := hsil
      obtain rfl := Option.some.inj hsil
      obtain ⟨rfl, kt⟩ : a = [] ∧ (E.2.1 = true ∨ P.mty i.2.1 = 3) := kh
      obtain rfl := ot.nil
      have hmt : P.mty i.2.1 = 3 := by
        rcases kt with z | z
        · rw [hlo.2.1] at z; cases z
        · exact z
      have hns : fX12_isStep N 138 h = some (0, h) := by
        rw [r_isStep st hth (by omega) (show 8 ≤ 8 by omega)]
        dsimp only
        rw [if_neg (by omega), if_neg (by omega)]
      have hp := (hth.pop sg).1
      have s1 := sg.wr 138 103 (Int32.ofNat t3.length)
      match fs, hrs, hgσ, q1, q5, x4, h93, hlen, fin with
      | [], hrs, hgσ, q1, q5, x4, h93, hlen, fin =>
        have hrs : [mk3 (P.mty i.2.1)] = [mk3 0] := hrs
        rw [hmt] at hrs
        have : mk3 3 = mk3 0 := List.head_eq_of_cons_eq hrs
        have := congrArg Prod.snd this
        cases this
      | (i2, lo2, ops2, E2, xs2, ks2) :: fs2, hrs, hgσ, q1, q5, x4, h93, hlen, fin =>
        have c : Chg (fun a k => a = 138 ∧ (k = 103 ∨ k = 93)) h (wr (wr h 138 103 (Int32.ofNat t3.length)) 138 93 (Int32.ofNat (fs2.length + 1))) := (Chg.wr h 138 103 _ (by omega)).trans (Chg.wr _ 138 93 _ (by omega))
        have hfm : ∀ a k, (fun a k => a = 138 ∧ (k = 103 ∨ k = 93)) a k → fmA a k := fun a k z => by
          have z : a = 138 ∧ (k = 103 ∨ k = 93) := z
          unfold fmA
          omega
        obtain ⟨lb2, pb2, tr2, w1, w2, w3, w4, w5⟩ := q5.chg c (fun a k _ _ hk => by omega) (fun a k _ hk => by omega) (fun a k _ hk => by omega)
        have hx : XH xs2 (0 + (ops2.length + 1)) 1999 := hgσ.2.1.1.2.2.2.2.2.2.2.1
        have := hx.le
        refine ⟨1, _, Nat.le_refl _, ⟨⟨t3, (c.2.2.1 _ _ (by omega)).trans h70, (c.2.2.1 _ _ (by omega)).trans h77, B, O, L, lb, pb, tr', hb.chg c hfm, ⟨lb2, pb2, tr2, w1.mk (by omega) (Or.inl rfl), w2, w3, w4, w5⟩, (c.2.2.1 _ _ (by omega)).trans h100, w_138_93 s1 _, x4, ?_, htr.chg c (by omega) (fun a k z _ => by omega)⟩, c.mono hfm⟩, fun d => ?_⟩
        · exact hp.chg (Chg.wr (A := fun a k => a = 138 ∧ k = 93) _ 138 93 _ ⟨rfl, rfl⟩) (by omega) (fun a k z _ => by omega)
        · rw [set_go st h70 hth (by omega) hns]
          dsimp only
          rw [if_neg (by decide), if_neg (by decide), if_neg (by decide), if_neg (by decide), if_neg (by decide), if_neg (by decide), if_neg (by decide), if_neg (by decide), if_pos (by decide), g_138_93 s1, Option.bind_some, rd_wr_ne _ _ (by omega), h93, i_sub1, p_138_93 s1, Option.bind_some]
          rfl
    | (k, E', bb, z) :: ks, kh, hsil, hty, x3, q1, q1c, hth, htr, htl, hk10, hk11 =>
      obtain ⟨u1, u2, rfl, y1, y2⟩ := x3
      rw [List.append_assoc] at hth htl
      rw [List.length_cons] at hk10
      have hc11 : cty ((k, E', bb, z) :: ks) = (if k = 4 then 1 else 0) + cty ks := rfl
      rw [hc11] at hk11
      have hk12 : cty ks ≤ 51 := by omega
      rw [KtI_eq] at y1
      by_cases c0 : k = 0
      · subst c0
        rw [if_pos rfl] at y1
        obtain ⟨o, s, n, l, r1, rfl⟩ := y1
        have hsil : some (G, Sum.inl ((i, (P.stU i.1 (P.mty i.2.1) bb E' lo ks).1, ops, (P.stU i.1 (P.mty i.2.1) bb E' lo ks).2) :: fs)) = some σ := hsil
        obtain rfl := Option.some.inj hsil
        have kh : a = [] ∧ E = E' ∧ (∃ n, GK S n bb) ∧ CapB 100 E bb ks ∧ ∃ E2, P.chk i.1 (P.mty i.2.1) bb E = .inr E2 ∧ KT P S i.1 (P.mty i.2.1) ks E2 := kh
        obtain ⟨rfl, rfl, ⟨m, hgk⟩, hcap, E2, hck, hkt⟩ := kh
        obtain rfl := ot.nil
        obtain ⟨cp1, cp2, cp3, cp4⟩ := hcap
        have sx : xw (P.stU i.1 (P.mty i.2.1) bb E lo ks).2.2.1 ≤ 3000 := hgσ.2.1.1.2.2.2.2.2.2.2.2
        have htr : TrH (tyE pb ks ++ tr') h := htr
        have h100 : rd h 138 100 = Int32.ofNat pb := h100
        have hlE : lo.length = E.1.length := hlo.1
        rw [List.cons_append, List.nil_append] at hth htl
        rw [List.length_cons] at htl
        rcases beg_st (N := N) hn lo ks hgk hck r1 with rfl | ⟨j1, j2, r, j3, j4⟩
        · have hns : fX12_isStep N 138 h = some (0, h) := by
            rw [r_isStep st hth (by omega) (show 3 ≤ 8 by omega)]
            dsimp only
            rw [if_neg (by omega), if_neg (by omega)]
          have c : Chg (fun a k => a = 138 ∧ k = 103) h (wr h 138 103 (Int32.ofNat (u2 ++ (8, Int32.ofNat i.2.1) :: t3).length)) := Chg.wr h 138 103 _ ⟨rfl, rfl⟩
          refine ⟨1, _, Nat.le_refl _, fin _ _ lo [] E [] ks [] u2 c (fun a k z => by omega) ((q1.re (by omega) hk12).chg c (fun a _ _ => by omega) (fun a k _ _ _ => by omega) (fun a k _ _ _ => by omega)) ((c.2.2.1 _ _ (by omega)).trans h100) rfl (Nat.zero_le _) y2 (hth.pop sg).1 (htr.chg c (by omega) (fun a k z _ => by omega)), fun d => ?_⟩
          rw [set_go st h70 hth (by omega) hns]
          dsimp only
          rw [if_neg (by decide), if_neg (by decide), if_neg (by decide), if_pos (by decide), if_neg (show ¬ (0 : Int32) ≤ fsB nl s by
            show ¬ (0 : Int32) ≤ -1
            decide)]
        · rw [j1] at hth
          obtain ⟨h1, v1, v2, v3⟩ := set_3 (N := N) st h70 hth (by omega) j2
          have st1 : StV g h1 := st.chg v3 (fun a k z => by unfold tdB; omega)
          rcases j4 with ⟨p1, p2, p3, p4, p5⟩ | ⟨p1, p2, aa, p3, p4, p5⟩ | ⟨xs', hd, p1, p2, p3⟩
          · rw [p4]
            obtain ⟨h2, w1, w2, w3, w4, w5⟩ := beg_5 (N := N) (n := fs.length) (lb := lb) (j := E.1.length) st1 j2 (by omega) ((v3.2.2.1 _ _ (by unfold tdB; omega)).trans h93) ((v3.2.2.1 _ _ (by unfold tdB; omega)).trans h194) (by omega) p1 p2 p3
            have c : Chg (fun a k => tdB (u2 ++ (8, Int32.ofNat i.2.1) :: t3).length a k ∨ tlR fs.length (lb + E.1.length) a k) h h2 := (v3.mono (fun a k z => Or.inl z)).trans (w2.mono (fun a k z => Or.inr z))
            have e : ∀ a k, ¬ (tdB (u2 ++ (8, Int32.ofNat i.2.1) :: t3).length a k ∨ tlR fs.length (lb + E.1.length) a k) → rd h2 a k = rd h a k := c.2.2.1
            refine ⟨1, h2, Nat.le_refl _, fin h2 _ _ [] _ [] _ [] ([(3, rd g 161 s)] ++ u2) c (fun a k z => by unfold tdB tlR at z; omega) ?_ ((e _ _ (by unfold tdB tlR; omega)).trans h100) rfl (Nat.zero_le _) ⟨_, _, rfl, j3, y2⟩ ?_ (htr.chg c (by unfold tdB tlR; omega) (fun a k z _ => by unfold tdB tlR; omega)), fun d => ?_⟩
            · obtain ⟨q1, q2, q3, q4, q5, q6, q7, q8, q9, q10, q11, q12, q13, q14⟩ := q1
              refine ⟨(e _ _ (by unfold tdB tlR; omega)).trans q1, q2, (e _ _ (by unfold tdB tlR; omega)).trans q3, ?_, (e _ _ (by unfold tdB tlR; omega)).trans q5, q6, q7, ?_, q9, ?_, (by show 0 + cty ks ≤ 51; omega), fun j v hj => ?_, fun j v hj => ?_, q14⟩
              · rw [w3]
                show Int32.ofNat (E.1.length + 1) = Int32.ofNat (lo ++ [Sum.inl 0]).length
                rw [List.length_append, hlE]; rfl
              · show (lo ++ [Sum.inl 0]).length ≤ 899
                rw [List.length_append, hlE]
                show E.1.length + 1 ≤ 899
                omega
              · show ks.length + 1 ≤ 104
                omega
              · have hj : (lo ++ [Sum.inl 0])[j]? = some v := hj
                by_cases hjl : j < lo.length
                · rw [List.getElem?_append_left hjl] at hj
                  rw [e _ _ (by unfold tdB tlR; omega), e _ _ (by unfold tdB tlR; omega)]
                  exact q12 j v hj
                · rw [List.getElem?_append_right (by omega)] at hj
                  have hj0 : j - lo.length = 0 := by
                    have := (List.getElem?_eq_some_iff.mp hj).1
                    have e1 : [(Sum.inl 0 : Vl)].length = 1 := rfl
                    omega
                  rw [hj0] at hj
                  obtain rfl : (Sum.inl 0 : Vl) = v := Option.some.inj hj
                  rw [show j = E.1.length by omega]
                  exact ⟨w4, w5⟩
              · cases hj
            · have := v2.chg w2 (by unfold tlR; omega) (fun a k z _ => by unfold tlR; omega)
              exact this
            · rw [v1, w1, Option.bind_some]
          · rw [p3]
            obtain ⟨h2, w1, w2, w3, w4⟩ := beg_6 (N := N) (n := fs.length) (pt := pb) (j := lo.length) (trs := tyE pb ks ++ tr') st1 v2 (by rw [List.length_cons]; omega) j2 (by omega) ((v3.2.2.1 _ _ (by unfold tdB; omega)).trans h93) ((v3.2.2.1 _ _ (by unfold tdB; omega)).trans h100) ((v3.2.2.1 _ _ (by unfold tdB; omega)).trans h195) (htr.chg v3 (by unfold tdB; omega) (fun a k z _ => by unfold tdB; omega)) (by
              have b3 := hbd.2.2
              rw [q4] at b3
              have b3 : (tyE pb ks ++ tr').length ≤ 51 * (fs.length + 1) := b3
              omega) p1
            have c : Chg (fun a k => tdB (u2 ++ (8, Int32.ofNat i.2.1) :: t3).length a k ∨ ((a = 203 ∨ a = 204) ∨ (a = 138 ∧ k = 106))) h h2 := (v3.mono (fun a k z => Or.inl z)).trans (w2.mono (fun a k z => by
              unfold tyA tdB at z
              unfold tdB
              rw [List.length_cons] at z
              omega))
            refine ⟨1, h2, Nat.le_refl _, fin h2 _ lo [] E [] _ [] ([(3, rd g 159 s)] ++ ([(5, Int32.ofNat (P.nxE i.1 (P.mty i.2.1) bb E).1.length)] ++ ([(7, Int32.ofNat s)] ++ ([(3, rd g 161 s)] ++ u2)))) c (fun a k z => by unfold tdB at z; omega) ((q1.re ?_ ?_).chg c (fun a _ _ => by unfold tdB; omega) (fun a k _ _ _ => by unfold tdB; omega) (fun a k _ _ _ => by unfold tdB; omega)) ((c.2.2.1 _ _ (by unfold tdB; omega)).trans h100) rfl (Nat.zero_le _) ⟨_, _, rfl, p4, _, _, rfl, ?_, _, _, rfl, ?_, _, _, rfl, j3, y2⟩ ?_ ?_, fun d => ?_⟩
            · show ks.length + 1 + 1 + 1 + 1 ≤ 104
              omega
            · show 0 + (0 + (1 + (0 + cty ks))) ≤ 51
              omega
            · rw [KtI_eq, if_neg (by omega), if_neg (by omega), if_pos rfl]
            · rw [KtI_eq, if_neg (by omega), if_neg (by omega), if_neg (by omega), if_neg (by omega), if_pos rfl]
              exact ⟨o, s, n, l, r1, rfl⟩
            · rw [p5, ← hlE]
              exact w4
            · rw [hlE] at w3
              exact w3
            · rw [v1, w1, Option.bind_some]
          · rw [p1]
            rw [p1] at sx
            obtain ⟨h2, us, ts, w1, w2, w3, w4, w5⟩ := p3 h1 _ st1 v2 (by rw [List.length_cons]; omega)
            have c : Chg (tdB (u2 ++ (8, Int32.ofNat i.2.1) :: t3).length) h h2 := v3.trans (w3.mono (fun a k z => by unfold tdB at z ⊢; rw [List.length_cons] at z; omega))
            have hul := w4.len
            have hxl := nx_len xs'
            have hxw := xw_len xs'
            have sx : xw xs' ≤ 3000 := sx
            have hcd : cty (hd :: (0, P.nxE i.1 (P.mty i.2.1) bb E, r, false) :: ks) = cty ks := by
              obtain ⟨hd1, hd2⟩ := hd
              show (if hd1 = 4 then 1 else 0) + ((if 0 = 4 then 1 else 0) + cty ks) = cty ks
              have p2 : hd1 = 1 ∨ hd1 = 5 := p2
              rw [if_neg (by omega), if_neg (by omega)]
              omega
            have hty' : tyE pb (hd :: (0, P.nxE i.1 (P.mty i.2.1) bb E, r, false) :: ks) = tyE pb ks := by
              obtain ⟨hd1, hd2, hd3⟩ := hd
              have p2 : hd1 = 1 ∨ hd1 = 5 := p2
              show (if hd1 = 4 then _ else (if 0 = 4 then _ else tyE pb ks)) = tyE pb ks
              rw [if_neg (by omega), if_neg (by omega)]
            refine ⟨1, h2, Nat.le_refl _, fin h2 _ lo [] E xs' _ us (ts ++ ([(3, rd g 161 s)] ++ u2)) c (fun a k z => by unfold tdB at z; omega) ((q1.re ?_ ?_).chg c (fun a _ _ => by unfold tdB; omega) (fun a k _ _ _ => by unfold tdB; omega) (fun a k _ _ _ => by unfold tdB; omega)) ((c.2.2.1 _ _ (by unfold tdB; omega)).trans h100) w4 (by omega) ⟨_, _, rfl, w5, _, _, rfl, j3, y2⟩ ?_ ?_, fun d => ?_⟩
            · show ks.length + 1 + 1 ≤ 104
              omega
            · rw [hcd]; exact hk12
            · rw [List.append_assoc]
              exact w2
            · rw [hty']
              exact htr.chg c (by unfold tdB; omega) (fun a k z _ => by unfold tdB; omega)
            · rw [v1, w1, Option.bind_some]
      · have hsil : (if k = 0 then _ else if k = 2 then some (G, Sum.inl ((i, lo.take E'.1.length, ops, E', [], ks) :: fs)) else if k = 3 then some (G, Sum.inl ((i, lo.take E'.1.length, ops, E', P.flX i.1 E' (whlE bb), (1, E', bb, false) :: ks) :: fs)) else if k = 4 then some (G, Sum.inl ((i, lo, ops, E, [], ks) :: fs)) else if k = 5 then some (G, Sum.inl ((i, lo, ops.drop 1, E, [], ks) :: fs)) else none) = some σ := hsil
        rw [if_neg c0] at hsil y1
        by_cases c1 : k = 1
        · rw [if_neg (by omega), if_neg (by omega), if_neg (by omega), if_neg (by omega)] at hsil
          cases hsil
        rw [if_neg c1] at y1
        by_cases c2 : k = 2
        · subst c2
          rw [if_pos rfl] at hsil y1
          subst y1
          obtain rfl := Option.some.inj hsil
          have kh : a = [] ∧ Rf E E' ∧ KT P S i.1 (P.mty i.2.1) ks E' := kh
          obtain ⟨rfl, hrf, hkt⟩ := kh
          obtain rfl := ot.nil
          have hle := hrf.1.le
          have hlE : lo.length = E.1.length := hlo.1
          have htr : TrH (tyE pb ks ++ tr') h := htr
          have h100 : rd h 138 100 = Int32.ofNat pb := h100
          rw [List.cons_append, List.nil_append] at hth htl
          rw [List.length_cons] at htl
          have s1 := sg.wr 138 103 (Int32.ofNat (u2 ++ (8, Int32.ofNat i.2.1) :: t3).length)
          have c : Chg (fun a k => (a = 138 ∧ k = 103) ∨ (a = 195 ∧ k = fs.length)) h (wr (wr h 138 103 (Int32.ofNat (u2 ++ (8, Int32.ofNat i.2.1) :: t3).length)) 195 fs.length (Int32.ofNat E'.1.length)) := (Chg.wr h 138 103 _ (by omega)).trans (Chg.wr _ 195 _ _ (by omega))
          exact ⟨1, _, Nat.le_refl _, fin _ _ _ [] E' [] ks [] u2 c (fun a k z => by omega) (q1.tk c (by omega) (W_195 s1 _ _) (by omega) hk12) ((c.2.2.1 _ _ (by omega)).trans h100) rfl (Nat.zero_le _) y2 ((hth.pop sg).1.chg (Chg.wr (A := fun a k => a = 195 ∧ k = fs.length) _ 195 _ _ ⟨rfl, rfl⟩) (by omega) (fun a k z _ => by omega)) (htr.chg c (by omega) (fun a k z _ => by omega)), fun d => set_5 st h70 hth (by omega) (by omega) h93 d⟩
        rw [if_neg c2] at hsil y1
        by_cases c3 : k = 3
        · subst c3
          rw [if_pos rfl] at hsil y1
          obtain ⟨o, s, n, l, r1, rfl⟩ := y1
          obtain rfl := Option.some.inj hsil
          have kh : a = [] ∧ Rf E E' ∧ isW bb ∧ (∃ n, GK S n bb) ∧ CapB 101 E' bb ks ∧ (∃ E2, P.chk i.1 (P.mty i.2.1) bb E' = .inr E2) ∧ KT P S i.1 (P.mty i.2.1) ks (P.nxE i.1 (P.mty i.2.1) bb E') := kh
          obtain ⟨rfl, hrf, ⟨p, e, a, r, rfl⟩, ⟨m, hgk⟩, hcap, ⟨E2, hck⟩, hkt⟩ := kh
          obtain rfl := ot.nil
          have hle := hrf.1.le
          have hlE : lo.length = E.1.length := hlo.1
          have htr : TrH (tyE pb ks ++ tr') h := htr
          have h100 : rd h 138 100 = Int32.ofNat pb := h100
          have he : Ox S e := (gk_whil hgk).1
          obtain ⟨i1, E3, i2, i3, i5⟩ := inv_whil hck
          have r1' := r1
          obtain ⟨r2, b1, b2, b3⟩ := r1'
          obtain ⟨z1, z2, z3⟩ := sz_whil p e a r
          rw [z1] at b1; rw [z2] at b2; rw [z3] at b3
          rw [RTc_whil] at r2
          obtain ⟨-, ⟨-, r3⟩, r4, -⟩ := r2
          rw [List.cons_append, List.cons_append, List.cons_append, List.nil_append] at hth htl
          rw [List.length_cons] at htl
          have s1 := sg.wr 138 103 (Int32.ofNat ((0, rd g 154 s) :: (4, Int32.ofNat s) :: (u2 ++ (8, Int32.ofNat i.2.1) :: t3)).length)
          have c : Chg (fun a k => (a = 138 ∧ k = 103) ∨ (a = 195 ∧ k = fs.length)) h (wr (wr h 138 103 (Int32.ofNat ((0, rd g 154 s) :: (4, Int32.ofNat s) :: (u2 ++ (8, Int32.ofNat i.2.1) :: t3)).length)) 195 fs.length (Int32.ofNat E'.1.length)) := (Chg.wr h 138 103 _ (by omega)).trans (Chg.wr _ 195 _ _ (by omega))
          refine ⟨1, _, Nat.le_refl _, fin _ _ _ [] E' (P.flX i.1 E' e) _ [(0, rd g 154 s)] ([(4, Int32.ofNat s)] ++ u2) c (fun a k z => by omega) (q1.tk c (by omega) (W_195 s1 _ _) (by show ks.length + 1 ≤ 104; omega) (by show 0 + cty ks ≤ 51; omega)) ((c.2.2.1 _ _ (by omega)).trans h100) ?_ (by show 1 ≤ 3000; omega) ⟨_, _, rfl, ?_, y2⟩ ((hth.pop sg).1.chg (Chg.wr (A := fun a k => a = 195 ∧ k = fs.length) _ 195 _ _ ⟨rfl, rfl⟩) (by omega) (fun a k z _ => by omega)) (htr.chg c (by omega) (fun a k z _ => by omega)), fun d => set_5 st h70 hth (by omega) (by omega) h93 d⟩
          · rw [r3]
            exact TdX.one (It0 he i1 r4 (by omega) (by omega))
          · rw [KtI_eq, if_neg (by omega), if_pos rfl]
            exact ⟨o, s, n, l, r1, rfl⟩
        rw [if_neg c3] at hsil y1
        by_cases c4 : k = 4
        · subst c4
          rw [if_pos rfl] at hsil y1
          obtain ⟨o, s, n, l, r1, rfl⟩ := y1
          obtain rfl := Option.some.inj hsil
          have htr : TrH ((pb, E'.1.length) :: (tyE pb ks ++ tr')) h := htr
          rw [List.cons_append, List.nil_append] at hth htl
          rw [List.length_cons] at htl
          have hns : fX12_isStep N 138 h = some (0, h) := by
            rw [r_isStep st hth (by omega) (show 7 ≤ 8 by omega)]
            dsimp only
            rw [if_neg (by omega), if_neg (by omega)]
          have s1 := sg.wr 138 103 (Int32.ofNat (u2 ++ (8, Int32.ofNat i.2.1) :: t3).length)
          have c : Chg (fun a k => a = 138 ∧ (k = 103 ∨ k = 106)) h (wr (wr h 138 103 (Int32.ofNat (u2 ++ (8, Int32.ofNat i.2.1) :: t3).length)) 138 106 (Int32.ofNat (tyE pb ks ++ tr').length)) := (Chg.wr h 138 103 _ (by omega)).trans (Chg.wr _ 138 106 _ (by omega))
          refine ⟨1, _, Nat.le_refl _, fin _ _ lo ops E [] ks [] u2 c (fun a k z => by omega) ((q1.re (by omega) hk12).chg c (fun a _ _ => by omega) (fun a k _ _ _ => by omega) (fun a k _ _ _ => by omega)) ((c.2.2.1 _ _ (by omega)).trans h100) rfl (Nat.zero_le _) y2 ((hth.pop sg).1.chg (Chg.wr (A := fun a k => a = 138 ∧ k = 106) _ 138 106 _ ⟨rfl, rfl⟩) (by omega) (fun a k z _ => by omega)) ⟨w_138_106 s1 _, fun j x hj => ?_⟩, fun d => ?_⟩
          · have := htr.2 (j + 1) x hj
            have hjl := (List.getElem?_eq_some_iff.mp hj).1
            rw [List.length_cons, show (tyE pb ks ++ tr').length + 1 - 1 - (j + 1) = (tyE pb ks ++ tr').length - 1 - j by omega] at this
            rw [c.2.2.1 _ _ (by omega), c.2.2.1 _ _ (by omega)]
            exact this
          · rw [set_go st h70 hth (by omega) hns]
            dsimp only
            rw [if_neg (by decide), if_neg (by decide), if_neg (by decide), if_neg (by decide), if_neg (by decide), if_neg (by decide), if_neg (by decide), if_pos (by decide), g_138_106 s1, Option.bind_some, rd_wr_ne _ _ (by omega), htr.1, List.length_cons, i_sub1, p_138_106 s1, Option.bind_some]
        rw [if_neg c4] at hsil y1
        by_cases c5 : k = 5
        · subst c5
          rw [if_pos rfl] at hsil y1
          obtain rfl := Option.some.inj hsil
          have kh : (∃ t, a = [mk3 t] ∧ z = decide (t = 3)) ∧ KT P S i.1 (P.mty i.2.1) ks E := kh
          obtain ⟨⟨t, rfl, hz⟩, hkt⟩ := kh
          have htr : TrH (tyE pb ks ++ tr') h := htr
          match ops, ot, q1, h100 with
          | [(z', v)], ot, q1, h100 =>
            have hz' : z' = z := by
              have : z' = decide (t = 3) := ot.1
              rw [this, hz]
            subst hz'
            have q1' : FrR B L h fs.length (i, lo, [], E, [], ks) lb pb := by
              obtain ⟨q1, q2, q3, q4, q5, q6, q7, q8, q9, q10, q11, q12, q13, q14⟩ := q1
              exact ⟨q1, q2, q3, q4, q5, q6, q7, q8, Nat.zero_le _, by show ks.length ≤ 104; omega, hk12, q12, fun j v hj => (by cases hj), fun v hv => (by cases hv)⟩
            cases z' with
            | true =>
              rw [if_pos rfl] at y1
              subst y1
              rw [List.nil_append] at hth
              exact ⟨0, h, by omega, fin h (fun _ _ => False) lo [] E [] ks [] u2 (Chg.refl _ _) (fun _ _ z => z.elim) q1' h100 rfl (Nat.zero_le _) y2 hth htr, fun d => rfl⟩
            | false =>
              rw [if_neg (by decide)] at y1
              subst y1
              rw [List.cons_append, List.nil_append] at hth htl
              rw [List.length_cons] at htl
              have h100 : rd h 138 100 = Int32.ofNat (pb + 1) := h100
              have hns : fX12_isStep N 138 h = some (0, h) := by
                rw [r_isStep st hth (by omega) (show 6 ≤ 8 by omega)]
                dsimp only
                rw [if_neg (by omega), if_neg (by omega)]
              have s1 := sg.wr 138 103 (Int32.ofNat (u2 ++ (8, Int32.ofNat i.2.1) :: t3).length)
              have c : Chg (fun a k => a = 138 ∧ (k = 103 ∨ k = 100)) h (wr (wr h 138 103 (Int32.ofNat (u2 ++ (8, Int32.ofNat i.2.1) :: t3).length)) 138 100 (Int32.ofNat pb)) := (Chg.wr h 138 103 _ (by omega)).trans (Chg.wr _ 138 100 _ (by omega))
              refine ⟨1, _, Nat.le_refl _, fin _ _ lo [] E [] ks [] u2 c (fun a k z => by omega) (q1'.chg c (fun a _ _ => by omega) (fun a k _ _ _ => by omega) (fun a k _ _ _ => by omega)) (w_138_100 s1 _) rfl (Nat.zero_le _) y2 ((hth.pop sg).1.chg (Chg.wr (A := fun a k => a = 138 ∧ k = 100) _ 138 100 _ ⟨rfl, rfl⟩) (by omega) (fun a k z _ => by omega)) (htr.chg c (by omega) (fun a k z _ => by omega)), fun d => ?_⟩
              rw [set_go st h70 hth (by omega) hns]
              dsimp only
              rw [if_neg (by decide), if_neg (by decide), if_neg (by decide), if_neg (by decide), if_neg (by decide), if_neg (by decide), if_pos (by decide), g_138_100 s1, Option.bind_some, rd_wr_ne _ _ (by omega), h100, i_sub1, p_138_100 s1, Option.bind_some]
          | [], ot, q1, h100 => exact ot.elim
          | _ :: _ :: _, ot, q1, h100 => exact ot.2.2.elim
        rw [if_neg c5] at hsil
        cases hsil
