/-! ===== THE LEVELS OF AN EXPRESSION ===== -/
theorem sz_bin {k : Nat} (x y : Tr) (hk : k = 12 ∨ (19 ≤ k ∧ k ≤ 29)) : sz (eBin k x y) = sz x + sz y + 1 := by
  unfold eBin
  rw [sz_nd, if_neg (by omega)]
theorem ls_bin {k : Nat} (x y : Tr) (hk : k = 12 ∨ (19 ≤ k ∧ k ≤ 29)) : ls (eBin k x y) = ls x + ls y := by
  unfold eBin
  rw [ls_nd, if_neg (by omega)]
  omega
/-- a fork of two parts -/
theorem NE_mk {T : Txt} {h : pH} (hs : Sg h) {k n l : Nat} {x y : Tr} (h1 : NE T h x n l) (h2 : NE T h y (n + sz x) (l + ls x)) (sx : 1 ≤ sz x) (sy : 1 ≤ sz y) (hk : k = 12 ∨ (19 ≤ k ∧ k ≤ 29)) : NE T (ndH h (n + sz x + sz y) (nK k x) (Int32.ofNat (n + sz x - 1)) (Int32.ofNat (n + sz x + sz y - 1)) (sgC k)) (eBin k x y) n l := by
  obtain ⟨r1, r2, r3, r4, r5⟩ := ndH_rd hs (n + sz x + sz y) (nK k x) (Int32.ofNat (n + sz x - 1)) (Int32.ofNat (n + sz x + sz y - 1)) (sgC k)
  have f := ndH_fr h (n + sz x + sz y) (l + ls x + ls y) 0 (nK k x) (Int32.ofNat (n + sz x - 1)) (Int32.ofNat (n + sz x + sz y - 1)) (sgC k)
  unfold eBin
  rw [NE_nd]
  refine ⟨NE.fr f x n l (by omega) (by omega) h1, NE.fr f y _ _ (by omega) (by omega) h2, Or.inr (Or.inr ⟨r1, ?_, ?_, ?_, fun z => absurd z (by omega)⟩)⟩
  · rw [r2]
    unfold n1
    rw [if_neg (by omega), if_neg (by omega)]
  · rw [r3]
    unfold n2
    rw [if_neg (by omega), if_neg (by omega)]
  · rw [r4]
    unfold ofOk
    rw [if_neg (by omega), if_neg (by omega)]
/-- a sign's operand was read: the node of both -/
theorem join_post {T : Txt} {N t t0 t1 r n l q : Nat} {h h1 : pH} {x : Tr} {p : Pr Tr} {k : Nat} {K c : Int32} {res : Option (Int32 × pH)} (hx : NE T h x n l) (sx : 1 ≤ sz x) (b1 : sz x + tkP T t0 ≤ tkP T t) (b2 : ls x + tkP T t0 ≤ tkP T t) (ht1 : tkP T t + 1 ≤ tkP T t1) (hn0 : n ≤ tkP T t0)
    (hk : k = 12 ∨ (19 ≤ k ∧ k ≤ 29)) (hK : K = nK k x) (hc : c = sgC k) (f1 : Fr (n + sz x) (l + ls x) q h h1) (hp : PostE T p t1 r (n + sz x) (l + ls x) q h1 res) : PostE T (Pr.bind p fun y t' => ok (eBin k x y) t') t0 r n l q h (res.bind fun z => fX12_node N 138 K (Int32.ofNat (n + sz x - 1)) z.1 c z.2) := by
  rcases p with ⟨y, t'⟩ | w
  · rw [PostE_ok] at hp
    obtain ⟨h2, e, a2, ny, f2, sy, b3, b4⟩ := hp
    show PostE T (ok (eBin k x y) t') t0 r n l q h _
    rw [PostE_ok, e, Option.bind_some, sz_bin x y hk, ls_bin x y hk]
    dsimp only
    obtain ⟨e3, a3⟩ := a2.node (N := N) (by omega) K (Int32.ofNat (n + sz x - 1)) (Int32.ofNat (n + sz x + sz y - 1)) c
    have f12 := f1.trans f2
    rw [show n + (sz x + sz y + 1) - 1 = n + sz x + sz y by omega, show n + (sz x + sz y + 1) = n + sz x + sz y + 1 by omega, show l + (ls x + ls y) = l + ls x + ls y by omega]
    refine ⟨_, e3, a3, ?_, ?_, by omega, by omega, by omega⟩
    · rw [hK, hc]
      exact NE_mk a2.sg (NE.fr f12 x n l (Nat.le_refl _) (Nat.le_refl _) hx) ny sx sy hk
    · exact (f12.mono (by omega) (by omega) (Nat.le_refl _)).trans ((ndH_fr h2 _ (l + ls x + ls y) q _ _ _ _).mono (by omega) (by omega) (Nat.le_refl _))
  · rw [PostE_no] at hp
    obtain ⟨v, h2, n', l', e, a2, f2, b3, b4, b5, b6, b7⟩ := hp
    show PostE T (no w) t0 r n l q h _
    have hw := a2.1.2.1
    rw [PostE_no, e, Option.bind_some]
    dsimp only
    obtain ⟨e3, a3⟩ := a2.node (N := N) (by omega) K (Int32.ofNat (n + sz x - 1)) v c
    have f12 := f1.trans f2
    exact ⟨_, _, n' + 1, l', e3, a3, (f12.mono (by omega) (by omega) (Nat.le_refl _)).trans ((ndH_fr h2 n' l' q _ _ _ _).mono (by omega) (by omega) (Nat.le_refl _)), by omega, by omega, by omega, by omega, by omega⟩
/-- from an earlier heap, an earlier word -/
theorem PostE_back {T : Txt} {p : Pr Tr} {t r n l q : Nat} {h h1 : pH} {res : Option (Int32 × pH)} (hp : PostE T p t r n l q h1 res) (f : Fr n l q h h1) : PostE T p t r n l q h res := by
  rcases p with ⟨x, t'⟩ | w
  · rw [PostE_ok] at hp ⊢
    obtain ⟨h2, e, a, nx, f2, c⟩ := hp
    exact ⟨h2, e, a, nx, f.trans f2, c⟩
  · rw [PostE_no] at hp ⊢
    obtain ⟨v, h2, n', l', e, a, f2, c⟩ := hp
    exact ⟨v, h2, n', l', e, a, f.trans f2, c⟩
theorem PostE_from {T : Txt} {p : Pr Tr} {t0 t r n l q : Nat} {h : pH} {res : Option (Int32 × pH)} (hp : PostE T p t r n l q h res) (ht : tkP T t0 ≤ tkP T t) : PostE T p t0 r n l q h res := by
  rcases p with ⟨x, t'⟩ | w
  · rw [PostE_ok] at hp ⊢
    obtain ⟨h2, e, a, nx, f2, c1, c2, c3⟩ := hp
    exact ⟨h2, e, a, nx, f2, c1, by omega, by omega⟩
  · rw [PostE_no] at hp ⊢
    obtain ⟨v, h2, n', l', e, a, f2, c1, c2, c3, c4, c5⟩ := hp
    exact ⟨v, h2, n', l', e, a, f2, by omega, by omega, by omega, c4, c5⟩
theorem lvl_2 {k : Int32} (h : lvl k = 2) : k = 131 := by
  unfold lvl at h
  by_cases h1 : k = 131
  · exact h1
  · rw [if_neg h1] at h
    exfalso
    revert h
    repeat' split
    all_goals decide
theorem lvl_1 {k : Int32} (h : lvl k = 1) : k = 132 := by
  unfold lvl at h
  by_cases h1 : k = 132
  · exact h1
  · rw [if_neg h1] at h
    exfalso
    revert h
    repeat' split
    all_goals decide
/-- nothing more on this level -/
theorem stay_post {T : Txt} {t0 t r n l q : Nat} {h : pH} {x : Tr} (a : At T t r (n + sz x) (l + ls x) q h) (hx : NE T h x n l) (sx : 1 ≤ sz x) (b1 : sz x + tkP T t0 ≤ tkP T t) (b2 : ls x + tkP T t0 ≤ tkP T t) : PostE T (ok x t) t0 r n l q h (some (Int32.ofNat (n + sz x - 1), h)) := by
  rw [PostE_ok]
  exact ⟨h, rfl, a, hx, Fr.refl _ _ _ _, sx, b1, b2⟩
/-- a step and then the rest -/
theorem then_post {T : Txt} {t0 r n l q : Nat} {h : pH} {p : Pr Tr} {g : Tr → Nat → Pr Tr} {res : Option (Int32 × pH)} {G : Int32 → pH → Option (Int32 × pH)} (hp : PostE T p t0 r n l q h res)
    (hg : ∀ x t h1, p = ok x t → At T t r (n + sz x) (l + ls x) q h1 → NE T h1 x n l → 1 ≤ sz x → sz x + tkP T t0 ≤ tkP T t → ls x + tkP T t0 ≤ tkP T t → PostE T (g x t) t0 r n l q h1 (G (Int32.ofNat (n + sz x - 1)) h1))
    (he : ∀ w n' l' v h1, Er w n' l' q h1 → n' < 3200 → G v h1 = some (v, h1)) (hn : n ≤ tkP T t0) : PostE T (Pr.bind p g) t0 r n l q h (res.bind fun z => G z.1 z.2) := by
  rcases p with ⟨x, t⟩ | w
  · rw [PostE_ok] at hp
    obtain ⟨h1, e, a, nx, f, sx, b1, b2⟩ := hp
    show PostE T (g x t) t0 r n l q h _
    rw [e, Option.bind_some]
    have := hg x t h1 rfl a nx sx b1 b2
    rcases hq : g x t with ⟨y, t'⟩ | w
    · rw [hq, PostE_ok] at this
      rw [PostE_ok]
      obtain ⟨h2, e2, a2, ny, f2, c⟩ := this
      exact ⟨h2, e2, a2, ny, f.trans f2, c⟩
    · rw [hq, PostE_no] at this
      rw [PostE_no]
      obtain ⟨v, h2, n', l', e2, a2, f2, c⟩ := this
      exact ⟨v, h2, n', l', e2, a2, f.trans f2, c⟩
  · rw [PostE_no] at hp
    obtain ⟨v, h2, n', l', e, a2, f2, b3, b4, b5, b6, b7⟩ := hp
    have hw := a2.1.2.1
    show PostE T (no w) t0 r n l q h _
    rw [e, Option.bind_some, PostE_no]
    dsimp only
    rw [he w n' l' v h2 a2 (by omega)]
    exact ⟨v, h2, n', l', rfl, a2, f2, b3, b4, b5, b6, b7⟩
theorem At.isO {T : Txt} {t r n l q : Nat} {h : pH} (a : At T t r n l q h) : (if isO h 138 12 = true then some () else none) = some () := if_pos (o_138 a.sg)
/-- && -/
theorem both_loop {T : Txt} {N j r : Nat} {op : Nat → Pr Tr} (hop : RunE T N j 259 op r) (hA : (tkS T).Adv op) (hN : 3200 ≤ N) : ∀ (f m : Nat) (x : Tr) (t t0 n l q : Nat) (h : pH), T.2 ≤ t + f → f < m → n ≤ tkP T t0 → At T t r (n + sz x) (l + ls x) q h → NE T h x n l → 1 ≤ sz x → sz x + tkP T t0 ≤ tkP T t → ls x + tkP T t0 ≤ tkP T t → PostE T ((tkS T).lp op 2 f x t) t0 r n l q h (fX12_both_5 N (gX12_sum N j) m 138 (Int32.ofNat (n + sz x - 1)) h)
  | 0, m + 1, x, t, t0, n, l, q, h, hf, hm, hn, a, hx, sx, b1, b2 => by
    have hK : tkK T t = 0 := tk_end0 T t (by omega)
    rw [fX12_both_5, r_isSign a.1 (k := 131) (by unfold isSK; simp) (by decide), if_neg (by rw [hK]; decide), Option.bind_some]
    exact stay_post a hx sx b1 b2
  | f + 1, m + 1, x, t, t0, n, l, q, h, hf, hm, hn, a, hx, sx, b1, b2 => by
    rw [fX12_both_5, r_isSign a.1 (k := 131) (by unfold isSK; simp) (by decide), Option.bind_some, Tks.lp_succ]
    show PostE T (if lvl (tkK T t) ≠ 2 then ok x t else _) t0 r n l q h _
    by_cases hK : tkK T t = 131
    · rw [if_pos hK, if_neg (show ¬ (1 : Int32) = 0 by decide), if_neg (show ¬ lvl (tkK T t) ≠ 2 from fun z => z (by rw [hK]; decide))]
      show PostE T (if tkK T t = 21 then _ else Pr.bind (op (t + 1)) fun y t' => if onceL 2 = true then _ else (tkS T).lp op 2 f (mk2 (tkK T t) x y) t') t0 r n l q h _
      rw [if_neg (show ¬ tkK T t = 21 by rw [hK]; decide)]
      obtain ⟨h1, e1, a1, f1⟩ := a.next hN (by rw [hK]; decide) (by rw [hK]; decide)
      dsimp only
      rw [e1, Option.bind_some, a1.isO, Option.bind_some]
      have hm1 := tk_mono T t (by rw [hK]; decide)
      have j1 := join_post (N := N) (t := t) (t0 := t0) (k := 28) (K := 16) (c := 0) hx sx b1 b2 hm1 hn (by omega) rfl rfl f1 (hop (t + 1) _ _ _ h1 a1)
      have j2 := then_post (g := fun y t' => (tkS T).lp op 2 f y t') (G := fun v h => fX12_both_5 N (gX12_sum N j) m 138 v h) j1 (fun y t' h2 ey a2 ny sy c1 c2 => both_loop hop hA hN f m y t' t0 n l q h2 (by
        obtain ⟨y1, t1, z1, z2⟩ := Pr.bind_eq_ok ey
        have := hA _ _ _ z1
        have := (ok_inj z2).2
        omega) (by omega) hn a2 ny sy c1 c2) (fun w n' l' v h2 a2 hn' => by
        obtain ⟨m', rfl⟩ : ∃ m', m = m' + 1 := ⟨m - 1, by omega⟩
        show fX12_both_5 N (gX12_sum N j) (m' + 1) 138 v h2 = some (v, h2)
        rw [fX12_both_5, e_isSign _ a2.1, Option.bind_some, if_pos rfl]) hn
      rw [Pr.bind_assoc] at j2
      rw [hK]
      simp only [Option.bind_assoc] at j2
      exact j2
    · rw [if_neg hK, if_pos rfl, if_pos (fun z => hK (lvl_2 z))]
      exact stay_post a hx sx b1 b2
