/-- || -/
theorem expr_loop {T : Txt} {N j r : Nat} {op : Nat → Pr Tr} (hop : RunE T N j 258 op r) (hA : (tkS T).Adv op) (hN : 3200 ≤ N) : ∀ (f m : Nat) (x : Tr) (t t0 n l q : Nat) (h : pH), T.2 ≤ t + f → f < m → n ≤ tkP T t0 → At T t r (n + sz x) (l + ls x) q h → NE T h x n l → 1 ≤ sz x → sz x + tkP T t0 ≤ tkP T t → ls x + tkP T t0 ≤ tkP T t → PostE T ((tkS T).lp op 1 f x t) t0 r n l q h (fX12_expression_5 N (gX12_sum N j) m 138 (Int32.ofNat (n + sz x - 1)) h)
  | 0, m + 1, x, t, t0, n, l, q, h, hf, hm, hn, a, hx, sx, b1, b2 => by
    have hK : tkK T t = 0 := tk_end0 T t (by omega)
    rw [fX12_expression_5, r_isSign a.1 (k := 132) (by unfold isSK isSgn; simp) (by decide), if_neg (by rw [hK]; decide), Option.bind_some]
    exact stay_post a hx sx b1 b2
  | f + 1, m + 1, x, t, t0, n, l, q, h, hf, hm, hn, a, hx, sx, b1, b2 => by
    rw [fX12_expression_5, r_isSign a.1 (k := 132) (by unfold isSK isSgn; simp) (by decide), Option.bind_some, Tks.lp_succ]
    show PostE T (if lvl (tkK T t) ≠ 1 then ok x t else _) t0 r n l q h _
    by_cases hK : tkK T t = 132
    · rw [if_pos hK, if_neg (show ¬ (1 : Int32) = 0 by decide), if_neg (show ¬ lvl (tkK T t) ≠ 1 from fun z => z (by rw [hK]; decide))]
      show PostE T (if tkK T t = 21 then _ else Pr.bind (op (t + 1)) fun y t' => if onceL 1 = true then _ else (tkS T).lp op 1 f (mk2 (tkK T t) x y) t') t0 r n l q h _
      rw [if_neg (show ¬ tkK T t = 21 by rw [hK]; decide)]
      obtain ⟨h1, e1, a1, f1⟩ := a.next hN (by rw [hK]; decide) (by rw [hK]; decide)
      dsimp only
      rw [e1, Option.bind_some, a1.isO, Option.bind_some]
      have hm1 := tk_mono T t (by rw [hK]; decide)
      have j1 := join_post (N := N) (t := t) (t0 := t0) (k := 29) (K := 17) (c := 0) hx sx b1 b2 hm1 hn (by omega) rfl rfl f1 (hop (t + 1) _ _ _ h1 a1)
      have j2 := then_post (g := fun y t' => (tkS T).lp op 1 f y t') (G := fun v h => fX12_expression_5 N (gX12_sum N j) m 138 v h) j1 (fun y t' h2 ey a2 ny sy c1 c2 => expr_loop hop hA hN f m y t' t0 n l q h2 (by
        obtain ⟨y1, t1, z1, z2⟩ := Pr.bind_eq_ok ey
        have := hA _ _ _ z1
        have := (ok_inj z2).2
        omega) (by omega) hn a2 ny sy c1 c2) (fun w n' l' v h2 a2 hn' => by
        obtain ⟨m', rfl⟩ : ∃ m', m = m' + 1 := ⟨m - 1, by omega⟩
        show fX12_expression_5 N (gX12_sum N j) (m' + 1) 138 v h2 = some (v, h2)
        rw [fX12_expression_5, e_isSign _ a2.1, Option.bind_some, if_pos rfl]) hn
      rw [Pr.bind_assoc] at j2
      rw [hK]
      simp only [Option.bind_assoc] at j2
      exact j2
    · rw [if_neg hK, if_pos rfl, if_pos (fun z => hK (lvl_1 z))]
      exact stay_post a hx sx b1 b2
/-- which method reads to the right of a sign -/
def sgM (c : Int32) : Nat := if c = 317 then 260 else if c = 289 then 260 else if c = 60 then 261 else if c = 316 then 261 else if c = 43 then 262 else if c = 45 then 262 else 263
theorem signed_eq {N : Nat} {rc : Nat → List Value → pH → Option (Option Value × pH)} {x c : Int32} {h h1 : pH} (hs : Sg h) (hs1 : Sg h1) (e8 : rd h 138 8 = c) (e1 : fX12_next N 138 h = some h1) : fX12_signed N rc 138 x h = (rcI rc (sgM c) [.ref 138] h1).bind fun z => fX12_node N 138 15 x z.1 c z.2 := by
  have fin : ∀ z : Int32 × pH, fX12_signed_73 N rc 138 x c z.1 z.2 = fX12_node N 138 15 x z.1 c z.2 := by
    intro z
    unfold fX12_signed_73
    cases fX12_node N 138 15 x z.1 c z.2 <;> rfl
  have hO : (if isO h1 138 12 = true then some () else none) = some () := if_pos (o_138 hs1)
  unfold fX12_signed sgM fX12_signed_23 fX12_signed_43 fX12_signed_62
  rw [if_pos (o_138 hs), g_138_8 hs, Option.bind_some, e8, e1, Option.bind_some]
  by_cases c1 : c = 317
  · rw [if_pos c1, if_pos c1, hO, Option.bind_some]
    simp only [fin]
  rw [if_neg c1, if_neg c1]
  by_cases c2 : c = 289
  · rw [if_pos c2, if_pos c2, hO, Option.bind_some]
    simp only [fin]
  rw [if_neg c2, if_neg c2]
  by_cases c3 : c = 60
  · rw [if_pos c3, if_pos c3, hO, Option.bind_some]
    simp only [fin]
  rw [if_neg c3, if_neg c3]
  by_cases c4 : c = 316
  · rw [if_pos c4, if_pos c4, hO, Option.bind_some]
    simp only [fin]
  rw [if_neg c4, if_neg c4]
  by_cases c5 : c = 43
  · rw [if_pos c5, if_pos c5, hO, Option.bind_some]
    simp only [fin]
  rw [if_neg c5, if_neg c5]
  by_cases c6 : c = 45
  · rw [if_pos c6, if_pos c6, hO, Option.bind_some]
    simp only [fin]
  rw [if_neg c6, if_neg c6, hO, Option.bind_some]
  simp only [fin]
/-- the signs that signed() reads -/
def isS9 (K : Int32) : Prop := K = 128 ∨ K = 129 ∨ K = 60 ∨ K = 130 ∨ K = 43 ∨ K = 45 ∨ K = 42 ∨ K = 47 ∨ K = 37
theorem s9_row {K : Int32} (h : isS9 K) : isSK K ∧ wcode K = 4 ∧ K ≠ 21 ∧ K ≠ 0 ∧ K ≠ 24 ∧ (19 ≤ opc K ∧ opc K ≤ 27) ∧ sgC (opc K) = sgV K := by
  unfold isS9 at h
  rcases h with h | h | h | h | h | h | h | h | h <;> subst h <;> refine ⟨?_, by decide, by decide, by decide, by decide, by decide, by decide⟩ <;> unfold isSK isSgn <;> simp
theorem nK_sign {k : Nat} (h : 19 ≤ k ∧ k ≤ 27) (x : Tr) : nK k x = 15 := by
  unfold nK
  repeat rw [if_neg (by omega)]
theorem signed_post {T : Txt} {N j t t0 r n l q : Nat} {h : pH} {x : Tr} {op : Nat → Pr Tr} {K : Int32} (a : At T t r (n + sz x) (l + ls x) q h) (hK : tkK T t = K) (h9 : isS9 K) (hop : RunE T N j (sgM (sgV K)) op r) (hN : 3200 ≤ N) (hx : NE T h x n l) (sx : 1 ≤ sz x) (b1 : sz x + tkP T t0 ≤ tkP T t) (b2 : ls x + tkP T t0 ≤ tkP T t) (hn0 : n ≤ tkP T t0) : PostE T (Pr.bind (op (t + 1)) fun y t' => ok (mk2 K x y) t') t0 r n l q h (rcI (gX12_sum N (j + 1)) 268 [.ref 138, .int (Int32.ofNat (n + sz x - 1))] h) := by
  obtain ⟨r1, r2, r3, r4, r5, r6, r7⟩ := s9_row h9
  obtain ⟨h1, e1, a1, f1⟩ := a.next hN (by rw [hK]; exact r4) (by rw [hK]; exact r5)
  obtain ⟨id, hw, hwn⟩ := a.1.2.2.2.2.2.2.1
  have e8 : rd h 138 8 = sgV K := by rw [← hK]; exact (hw.sign (by rw [hK]; exact r2)).1
  rw [rc_268, signed_eq a.sg a1.sg e8 e1]
  have hm1 := tk_mono T t (by rw [hK]; exact r4)
  exact join_post (N := N) (t := t) (t0 := t0) (k := opc K) (K := 15) (c := sgV K) hx sx b1 b2 hm1 hn0 (by omega) (nK_sign r6 x).symm r7.symm f1 (hop (t + 1) _ _ _ h1 a1)
theorem lvl_6 {k : Int32} (h : lvl k = 6) : k = 42 ∨ k = 47 ∨ k = 37 := by
  unfold lvl at h
  by_cases h1 : k = 42 ∨ k = 47 ∨ k = 37
  · exact h1
  · rw [if_neg h1] at h
    exfalso
    revert h
    repeat' split
    all_goals decide
theorem lvl_5 {k : Int32} (h : lvl k = 5) : k = 43 ∨ k = 45 := by
  unfold lvl at h
  by_cases h1 : k = 43 ∨ k = 45
  · exact h1
  · rw [if_neg h1] at h
    exfalso
    revert h
    repeat' split
    all_goals decide
theorem lvl_4 {k : Int32} (h : lvl k = 4) : k = 60 ∨ k = 130 ∨ k = 21 := by
  unfold lvl at h
  by_cases h1 : k = 60 ∨ k = 130 ∨ k = 21
  · exact h1
  · rw [if_neg h1] at h
    exfalso
    revert h
    repeat' split
    all_goals decide
theorem lvl_3 {k : Int32} (h : lvl k = 3) : k = 128 ∨ k = 129 := by
  unfold lvl at h
  by_cases h1 : k = 128 ∨ k = 129
  · exact h1
  · rw [if_neg h1] at h
    exfalso
    revert h
    repeat' split
    all_goals decide
/-- one more sign on a level that has many, and the rest -/
theorem loop_post {T : Txt} {N j t t0 r n l q f lev : Nat} {h : pH} {x : Tr} {op : Nat → Pr Tr} {K : Int32} {F : Nat → Int32 → pH → Option (Int32 × pH)} (hA : (tkS T).Adv op) (a : At T t r (n + sz x) (l + ls x) q h) (hK : tkK T t = K) (h9 : isS9 K) (hlv : lvl K = lev) (ho : onceL lev = false) (hop : RunE T N j (sgM (sgV K)) op r) (hN : 3200 ≤ N) (hx : NE T h x n l) (sx : 1 ≤ sz x) (b1 : sz x + tkP T t0 ≤ tkP T t) (b2 : ls x + tkP T t0 ≤ tkP T t) (hn0 : n ≤ tkP T t0)
    (ih : ∀ (y : Tr) (t' : Nat) (h2 : pH), t < t' → At T t' r (n + sz y) (l + ls y) q h2 → NE T h2 y n l → 1 ≤ sz y → sz y + tkP T t0 ≤ tkP T t' → ls y + tkP T t0 ≤ tkP T t' → PostE T ((tkS T).lp op lev f y t') t0 r n l q h2 (F 138 (Int32.ofNat (n + sz y - 1)) h2))
    (he : ∀ w n' l' v h1, Er w n' l' q h1 → n' < 3200 → F 138 v h1 = some (v, h1)) :
    PostE T ((tkS T).lp op lev (f + 1) x t) t0 r n l q h ((if isO h 138 12 = true then some () else none).bind fun _ => (rcI (gX12_sum N (j + 1)) 268 [.ref 138, .int (Int32.ofNat (n + sz x - 1))] h).bind fun z => F 138 z.1 z.2) := by
  obtain ⟨r1, r2, r3, r4, r5, r6, r7⟩ := s9_row h9
  rw [Tks.lp_succ, a.isO, Option.bind_some]
  show PostE T (if lvl (tkK T t) ≠ lev then ok x t else if tkK T t = 21 then _ else Pr.bind (op (t + 1)) fun y t' => if onceL lev = true then _ else (tkS T).lp op lev f (mk2 (tkK T t) x y) t') t0 r n l q h _
  rw [hK, if_neg (show ¬ lvl K ≠ lev from fun z => z hlv), if_neg r3, ho]
  have j1 := signed_post a hK h9 hop hN hx sx b1 b2 hn0
  have j2 := then_post (g := fun y t' => (tkS T).lp op lev f y t') (G := fun v h => F 138 v h) j1 (fun y t' h2 ey a2 ny sy c1 c2 => ih y t' h2 (by
    obtain ⟨y1, t1, z1, z2⟩ := Pr.bind_eq_ok ey
    have := hA _ _ _ z1
    have := (ok_inj z2).2
    omega) a2 ny sy c1 c2) he hn0
  rw [Pr.bind_assoc] at j2
  exact j2
/-- * / % -/
theorem product_loop {T : Txt} {N j r : Nat} {op : Nat → Pr Tr} (hop : RunE T N j 263 op r) (hA : (tkS T).Adv op) (hN : 3200 ≤ N) : ∀ (f m : Nat) (x : Tr) (t t0 n l q : Nat) (h : pH), T.2 ≤ t + f → f < m → n ≤ tkP T t0 → At T t r (n + sz x) (l + ls x) q h → NE T h x n l → 1 ≤ sz x → sz x + tkP T t0 ≤ tkP T t → ls x + tkP T t0 ≤ tkP T t → PostE T ((tkS T).lp op 6 f x t) t0 r n l q h (fX12_product_5 N (gX12_sum N (j + 1)) m 138 (Int32.ofNat (n + sz x - 1)) h)
  | 0, m + 1, x, t, t0, n, l, q, h, hf, hm, hn, a, hx, sx, b1, b2 => by
    have hK : tkK T t = 0 := tk_end0 T t (by omega)
    rw [fX12_product_5, r_isSign a.1 (k := 42) (by unfold isSK isSgn; simp) (by decide), if_neg (by rw [hK]; decide), Option.bind_some]
    dsimp only
    rw [if_pos rfl, r_isSign a.1 (k := 47) (by unfold isSK isSgn; simp) (by decide), if_neg (by rw [hK]; decide), Option.bind_some]
    dsimp only
    rw [if_pos rfl, r_isSign a.1 (k := 37) (by unfold isSK isSgn; simp) (by decide), if_neg (by rw [hK]; decide), Option.bind_some]
    dsimp only
    rw [if_pos rfl]
    exact stay_post a hx sx b1 b2
  | f + 1, m + 1, x, t, t0, n, l, q, h, hf, hm, hn, a, hx, sx, b1, b2 => by
    have go : ∀ K, tkK T t = K → (K = 42 ∨ K = 47 ∨ K = 37) → PostE T ((tkS T).lp op 6 (f + 1) x t) t0 r n l q h (fX12_product_32 N (gX12_sum N (j + 1)) (fX12_product_5 N (gX12_sum N (j + 1)) m) 138 (Int32.ofNat (n + sz x - 1)) h) := by
      intro K hK hs
      refine loop_post (lev := 6) (F := fX12_product_5 N (gX12_sum N (j + 1)) m) hA a hK ?_ ?_ rfl ?_ hN hx sx b1 b2 hn (fun y t' h2 lt a2 ny sy c1 c2 => product_loop hop hA hN f m y t' t0 n l q h2 (by omega) (by omega) hn a2 ny sy c1 c2) (fun w n' l' v h2 a2 hn' => ?_)
      · unfold isS9; rcases hs with z | z | z <;> simp [z]
      · rcases hs with z | z | z <;> rw [z] <;> decide
      · rcases hs with z | z | z <;> rw [z] <;> exact hop
      · obtain ⟨m', rfl⟩ : ∃ m', m = m' + 1 := ⟨m - 1, by omega⟩
        rw [fX12_product_5, e_isSign _ a2.1, Option.bind_some, if_pos rfl, e_isSign _ a2.1, Option.bind_some, if_pos rfl, e_isSign _ a2.1, Option.bind_some, if_pos rfl]
    rw [fX12_product_5, r_isSign a.1 (k := 42) (by unfold isSK isSgn; simp) (by decide), Option.bind_some]
    dsimp only
    by_cases k1 : tkK T t = 42
    · rw [if_pos k1, if_neg (by decide)]
      exact go 42 k1 (by simp)
    rw [if_neg k1, if_pos rfl, r_isSign a.1 (k := 47) (by unfold isSK isSgn; simp) (by decide), Option.bind_some]
    dsimp only
    by_cases k2 : tkK T t = 47
    · rw [if_pos k2, if_neg (by decide)]
      exact go 47 k2 (by simp)
    rw [if_neg k2, if_pos rfl, r_isSign a.1 (k := 37) (by unfold isSK isSgn; simp) (by decide), Option.bind_some]
    dsimp only
    by_cases k3 : tkK T t = 37
    · rw [if_pos k3, if_neg (by decide)]
      exact go 37 k3 (by simp)
    rw [if_neg k3, if_pos rfl, Tks.lp_succ, if_pos (show lvl ((tkS T).K t) ≠ 6 from fun z => (lvl_6 (k := tkK T t) z).elim k1 (fun z => z.elim k2 k3))]
    exact stay_post a hx sx b1 b2
/-- + - -/
theorem sum_loop {T : Txt} {N j r : Nat} {op : Nat → Pr Tr} (hop : RunE T N j 262 op r) (hA : (tkS T).Adv op) (hN : 3200 ≤ N) : ∀ (f m : Nat) (x : Tr) (t t0 n l q : Nat) (h : pH), T.2 ≤ t + f → f < m → n ≤ tkP T t0 → At T t r (n + sz x) (l + ls x) q h → NE T h x n l → 1 ≤ sz x → sz x + tkP T t0 ≤ tkP T t → ls x + tkP T t0 ≤ tkP T t → PostE T ((tkS T).lp op 5 f x t) t0 r n l q h (fX12_sum_5 N (gX12_sum N (j + 1)) m 138 (Int32.ofNat (n + sz x - 1)) h)
  | 0, m + 1, x, t, t0, n, l, q, h, hf, hm, hn, a, hx, sx, b1, b2 => by
    have hK : tkK T t = 0 := tk_end0 T t (by omega)
    rw [fX12_sum_5, r_isSign a.1 (k := 43) (by unfold isSK isSgn; simp) (by decide), if_neg (by rw [hK]; decide), Option.bind_some]
    dsimp only
    rw [if_pos rfl, r_isSign a.1 (k := 45) (by unfold isSK isSgn; simp) (by decide), if_neg (by rw [hK]; decide), Option.bind_some]
    dsimp only
    rw [if_pos rfl]
    exact stay_post a hx sx b1 b2
  | f + 1, m + 1, x, t, t0, n, l, q, h, hf, hm, hn, a, hx, sx, b1, b2 => by
    have go : ∀ K, tkK T t = K → (K = 43 ∨ K = 45) → PostE T ((tkS T).lp op 5 (f + 1) x t) t0 r n l q h (fX12_sum_23 N (gX12_sum N (j + 1)) (fX12_sum_5 N (gX12_sum N (j + 1)) m) 138 (Int32.ofNat (n + sz x - 1)) h) := by
      intro K hK hs
      refine loop_post (lev := 5) (F := fX12_sum_5 N (gX12_sum N (j + 1)) m) hA a hK ?_ ?_ rfl ?_ hN hx sx b1 b2 hn (fun y t' h2 lt a2 ny sy c1 c2 => sum_loop hop hA hN f m y t' t0 n l q h2 (by omega) (by omega) hn a2 ny sy c1 c2) (fun w n' l' v h2 a2 hn' => ?_)
      · unfold isS9; rcases hs with z | z <;> simp [z]
      · rcases hs with z | z <;> rw [z] <;> decide
      · rcases hs with z | z <;> rw [z] <;> exact hop
      · obtain ⟨m', rfl⟩ : ∃ m', m = m' + 1 := ⟨m - 1, by omega⟩
        rw [fX12_sum_5, e_isSign _ a2.1, Option.bind_some, if_pos rfl, e_isSign _ a2.1, Option.bind_some, if_pos rfl]
    rw [fX12_sum_5, r_isSign a.1 (k := 43) (by unfold isSK isSgn; simp) (by decide), Option.bind_some]
    dsimp only
    by_cases k1 : tkK T t = 43
    · rw [if_pos k1, if_neg (by decide)]
      exact go 43 k1 (by simp)
    rw [if_neg k1, if_pos rfl, r_isSign a.1 (k := 45) (by unfold isSK isSgn; simp) (by decide), Option.bind_some]
    dsimp only
    by_cases k2 : tkK T t = 45
    · rw [if_pos k2, if_neg (by decide)]
      exact go 45 k2 (by simp)
    rw [if_neg k2, if_pos rfl, Tks.lp_succ, if_pos (show lvl ((tkS T).K t) ≠ 5 from fun z => (lvl_5 (k := tkK T t) z).elim k1 k2)]
    exact stay_post a hx sx b1 b2
