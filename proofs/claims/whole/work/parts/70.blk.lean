def lastV (o : Option Nat) : Int32 := match o with
  | some j => Int32.ofNat j
  | none => -1
/-- a block's end where all has gone wrong -/
theorem blk66_er {N w n l q : Nat} {rc : Nat → List Value → pH → Option (Option Value × pH)} {v : Int32} {h : pH} (he : Er w n l q h) : ∃ h', fX12_block_66 N rc 138 v h = some (v, h') ∧ Er w n l q h' ∧ ∀ s, FrS s n l q h h' := by
  have c1 : ∀ s, Chg (stA s) h (wr h 138 57 (rd h 138 6)) := fun s => Chg.wr h _ _ _ (Or.inl ⟨rfl, Or.inr rfl⟩)
  have a1 := he.sta (c1 0)
  obtain ⟨h2, e2, a2, f2⟩ := a1.closes (N := N) 125
  refine ⟨h2, ?_, a2, fun s => (stA_fr (c1 s)).trans f2.toS⟩
  unfold fX12_block_66
  rw [g_138_6 he.sg, Option.bind_some, p_138_57 he.sg, Option.bind_some, e2, Option.bind_some]
theorem stms_loop {T : Txt} {N r : Nat} {rc : Nat → List Value → pH → Option (Option Value × pH)} {bk : Nat → Pr (Tr × Nat)} (hS : ∀ t s n l q h, At2 T t r s n l q h → PostS T ((tkS T).stm r bk t) t r s n l q h (rcI rc 254 [.ref 138] h)) (hA : (tkS T).Adv bk) (hN : 3200 ≤ N) (hr : r + 1 ≤ 30) : ∀ (f m t s n l q : Nat) (h : pH) (o : Option Nat) (v1 : Int32), T.2 < t + f → t ≤ T.2 → f < m → At2 T t r s n l q h → (∀ j, o = some j → j < s ∧ rd h 161 j = -1) → (o = none → v1 = -1) → (o ≠ none → 0 ≤ v1) →
    match (tkS T).stms r bk f t with
    | Sum.inl (z, t') => ∃ h', fX12_block_19 N rc m 138 v1 (lastV o) h = some (if o = none then fsB z s else v1, h') ∧ At2 T (t' + 1) (r + 1) (s + stB z) (n + szB z) (l + lsB z) q h' ∧ RB T h' z o s n l ∧ rd h' 138 57 = Int32.ofNat (tkP T t') ∧ FrL o s n l q h h' ∧ 2 * stB z + 1 + tkP T t ≤ tkP T (t' + 1) ∧ szB z + tkP T t ≤ tkP T (t' + 1) ∧ lsB z + tkP T t ≤ tkP T (t' + 1)
    | Sum.inr w => ∃ v h' n' l' q', fX12_block_19 N rc m 138 v1 (lastV o) h = some (v, h') ∧ Er w n' l' q' h' ∧ FrL o s n l q h h' ∧ tkP T t ≤ w ∧ n ≤ n' ∧ l ≤ l' ∧ q ≤ q'
  | 0, m, t, s, n, l, q, h, o, v1, hf, ht, hm, a, ho, hv0, hv1 => by omega
  | f + 1, m + 1, t, s, n, l, q, h, o, v1, hf, ht, hm, a, ho, hv0, hv1 => by
    have hs := a.1.sg
    have hP := a.1.P_le
    have e9 := a.1.1.2.2.2.2.2.2.2.2.2.2
    have e6 := a.1.1.2.2.2.2.2.2.2.2.1
    have hs0 := a.2.2
    have spec : (tkS T).stms r bk (f + 1) t = if tkK T t = 125 then ok nl t else Pr.bind ((tkS T).stm r bk t) fun a t' => Pr.bind ((tkS T).stms r bk f t') fun b t'' => ok (bSeq a b) t'' := rfl
    rw [spec, fX12_block_19, g_138_9 hs, Option.bind_some, e9, if_neg (show ¬ (0 : Int32) ≤ -1 by decide), r_isSign a.1.1 (k := 125) (by unfold isSK isSgn; simp) (by decide), Option.bind_some]
    dsimp only
    by_cases k125 : tkK T t = 125
    · rw [if_pos k125, if_pos k125, if_neg (show ¬ (1 : Int32) = 0 by decide)]
      have c1 : Chg (stA s) h (wr h 138 57 (rd h 138 6)) := Chg.wr h _ _ _ (Or.inl ⟨rfl, Or.inr rfl⟩)
      have a1 := a.1.sta c1
      obtain ⟨h2, e2, a2, f2⟩ := a1.closes1 (N := N) (k := 125) (c := 125) hr (by unfold isSK isSgn; simp) (by decide) hN k125
      have hm1 := tk_mono T t (by rw [k125]; decide)
      have f12 : FrS s n l q h h2 := (stA_fr c1).trans f2.toS
      refine ⟨h2, ?_, ⟨?_, ?_, by rw [stB_nl]; omega⟩, ?_, ?_, f12.toL, by rw [stB_nl]; omega, by rw [szB_nl]; omega, by rw [lsB_nl]; omega⟩
      · unfold fX12_block_66
        rw [g_138_6 hs, Option.bind_some, p_138_57 hs, Option.bind_some, e2, Option.bind_some]
        by_cases hon : o = none
        · rw [if_pos hon, hv0 hon]; rfl
        · rw [if_neg hon]
      · rw [szB_nl, lsB_nl]; exact a2
      · rw [stB_nl, f2.f25, rd_wr_ne _ _ (by omega)]; exact a.2.1
      · rw [RB_nl]
        cases o with
        | none => trivial
        | some j =>
          obtain ⟨j1, j2⟩ := ho j rfl
          show rd h2 161 j = -1
          rw [f12.st (by omega) j1]
          exact j2
      · rw [f2.1.2.2.1 138 57 (fun z => by
          rcases z with z | z | z | z | z
          · rcases z with z | z | z
            · exact absurd z.2 (by decide)
            · omega
            · omega
          · omega
          · omega
          · omega
          · omega), w_138_57 hs, e6]
    · rw [if_neg k125, if_neg k125, if_pos rfl, a.1.isO, Option.bind_some]
      have hp := hS t s n l q h a
      rcases hq : (tkS T).stm r bk t with ⟨e, t1⟩ | w
      · rw [hq, PostS_ok] at hp
        obtain ⟨h1, e1, a1, sr, e161, f1, b1, b2, b3⟩ := hp
        have hadv := Tks.stm_adv hA _ _ _ hq
        have hadv : t < t1 ∧ t1 ≤ T.2 := hadv
        obtain ⟨-, -, -, st1⟩ := SR_cnt nl sr
        rw [e1, Option.bind_some, Pr.bind_ok]
        dsimp only
        -- the heap behind the link
        obtain ⟨h2, eq2, a2, sr2, e1612, f2, lk⟩ : ∃ h2, (if lastV o < 0 then fX12_block_51 N rc (fX12_block_19 N rc m) 138 v1 (Int32.ofNat s) h1 else (getR h1 138 12 36).bind fun t12 => (stI h1 t12 (lastV o) (Int32.ofNat s)).bind fun h13 => fX12_block_51 N rc (fX12_block_19 N rc m) 138 v1 (Int32.ofNat s) h13) = fX12_block_51 N rc (fX12_block_19 N rc m) 138 v1 (Int32.ofNat s) h2 ∧ At2 T t1 r (s + stB e) (n + szB e) (l + lsB e) q h2 ∧ SR T h2 e s n l ∧ rd h2 161 s = -1 ∧ FrL o s n l q h h2 ∧ lnk h2 o (Int32.ofNat s) := by
          cases o with
          | none => exact ⟨h1, if_pos (by decide), a1, sr, e161, f1.toL, trivial⟩
          | some j =>
            obtain ⟨j1, j2⟩ := ho j rfl
            have cw : Chg (stA j) h1 (wr h1 161 j (Int32.ofNat s)) := stA_wr h1 161 j (Int32.ofNat s) (by omega) (Nat.le_refl _)
            have nm := (stA_fr (n := 0) (l := 0) (q := 0) cw).2
            refine ⟨wr h1 161 j (Int32.ofNat s), ?_, ⟨a1.1.sta cw, by rw [rd_wr_ne _ _ (by omega)]; exact a1.2.1, a1.2.2⟩, sr.keep ⟨fun a' k' _ _ h3 _ => rd_wr_ne _ _ (by omega), fun a' k' _ h2 _ _ => rd_wr_ne _ _ (by omega), fun k' _ _ => rd_wr_ne _ _ (by omega), nm⟩ (fun a' _ h2 => rd_wr_ne _ _ (by omega)), by rw [rd_wr_ne _ _ (by omega)]; exact e161, f1.toL.trans ⟨Chg.wr h1 161 j _ (Or.inr ⟨rfl, rfl⟩), nm⟩, W_161 a1.1.sg _ _⟩
            rw [if_neg (show ¬ lastV (some j) < 0 from fun z => by
              have z : Int32.ofNat j < Int32.ofNat 0 := z
              rw [iLt (by omega) (by decide)] at z
              omega), R_138_36 a1.1.sg, Option.bind_some]
            show ((stI h1 161 (Int32.ofNat j) (Int32.ofNat s)).bind _) = _
            rw [T_161 a1.1.sg (by omega), Option.bind_some]
        rw [eq2]
        have v1' : fX12_block_51 N rc (fX12_block_19 N rc m) 138 v1 (Int32.ofNat s) h2 = fX12_block_19 N rc m 138 (if o = none then Int32.ofNat s else v1) (lastV (some s)) h2 := by
          unfold fX12_block_51 fX12_block_60
          by_cases hon : o = none
          · rw [if_pos hon, hv0 hon, if_neg (show ¬ (0 : Int32) ≤ -1 by decide)]
            rfl
          · rw [if_neg hon, if_pos (hv1 hon)]
            rfl
        rw [v1']
        have ih := stms_loop hS hA hN hr f m t1 (s + stB e) (n + szB e) (l + lsB e) q h2 (some s) (if o = none then Int32.ofNat s else v1) (by omega) (by omega) (by omega) a2 (fun j hj => by
          have := Option.some.inj hj
          subst this
          exact ⟨by omega, e1612⟩) (fun z => by cases z) (fun _ => by
          by_cases hon : o = none
          · rw [if_pos hon]; exact i_nonneg (by omega)
          · rw [if_neg hon]; exact hv1 hon)
        rcases hq2 : (tkS T).stms r bk f t1 with ⟨z, t2⟩ | w
        · rw [hq2] at ih
          obtain ⟨h', e', a', rb', e57, f', d1, d2, d3⟩ := ih
          obtain ⟨c1, c2, c3, -⟩ := SR_cnt z sr2
          rw [Pr.bind_ok]
          have sr' : SR T h' e s n l := sr2.keep ((f'.ag (s + 1) n l (fun j hj => by have := Option.some.inj hj; omega)).sub (Nat.le_refl _) (Nat.le_refl _) (Nat.le_refl _) (Nat.le_refl _) (Nat.le_refl _) (Nat.le_refl _)) (fun a' h1' h2' => f'.st ⟨h1', by omega⟩ (by omega) (fun z => by omega))
          have lk' : lnk h' o (Int32.ofNat s) := lk.keep (fun j hj => f'.st (by omega) (by have := (ho j hj).1; omega) (fun _ z => by have := Option.some.inj z; have := (ho j hj).1; omega))
          have rbF := SR_seq sr' lk' rb'
          refine ⟨h', ?_, ?_, rbF, e57, f2.trans (f'.next (by omega) (by omega) (by omega)), by rw [c1]; omega, by rw [c2]; omega, by rw [c3]; omega⟩
          · rw [e', if_neg (by simp)]
            by_cases hon : o = none
            · rw [if_pos hon, if_pos hon]
              unfold fsB
              rw [c1, if_neg (by omega)]
            · rw [if_neg hon, if_neg hon]
          · rw [c1, c2, c3, show s + (stB e + stB z) = s + stB e + stB z by omega, show n + (szB e + szB z) = n + szB e + szB z by omega, show l + (lsB e + lsB z) = l + lsB e + lsB z by omega]
            exact a'
        · rw [hq2] at ih
          obtain ⟨v, h', n', l', q', e', a', f', d1, d2, d3, d4⟩ := ih
          rw [Pr.bind_no]
          exact ⟨v, h', n', l', q', e', a', f2.trans (f'.next (by omega) (by omega) (by omega)), by omega, by omega, by omega, d4⟩
      · rw [hq, PostS_no] at hp
        obtain ⟨v, h1, n', l', q', e1, a1, f1, b1, b2, b3, b4⟩ := hp
        rw [e1, Option.bind_some, Pr.bind_no]
        dsimp only
        obtain ⟨h2, eq2, a2, f2⟩ : ∃ h2, (if lastV o < 0 then fX12_block_51 N rc (fX12_block_19 N rc m) 138 v1 v h1 else (getR h1 138 12 36).bind fun t12 => (stI h1 t12 (lastV o) v).bind fun h13 => fX12_block_51 N rc (fX12_block_19 N rc m) 138 v1 v h13) = fX12_block_51 N rc (fX12_block_19 N rc m) 138 v1 v h2 ∧ Er w n' l' q' h2 ∧ FrL o s n l q h h2 := by
          cases o with
          | none => exact ⟨h1, if_pos (by decide), a1, f1.toL⟩
          | some j =>
            obtain ⟨j1, j2⟩ := ho j rfl
            have cw : Chg (stA j) h1 (wr h1 161 j v) := stA_wr h1 161 j v (by omega) (Nat.le_refl _)
            have nm := (stA_fr (n := 0) (l := 0) (q := 0) cw).2
            refine ⟨wr h1 161 j v, ?_, a1.sta cw, f1.toL.trans ⟨Chg.wr h1 161 j _ (Or.inr ⟨rfl, rfl⟩), nm⟩⟩
            rw [if_neg (show ¬ lastV (some j) < 0 from fun z => by
              have z : Int32.ofNat j < Int32.ofNat 0 := z
              rw [iLt (by omega) (by decide)] at z
              omega), R_138_36 a1.sg, Option.bind_some]
            show ((stI h1 161 (Int32.ofNat j) v).bind _) = _
            rw [T_161 a1.sg (by omega), Option.bind_some]
        rw [eq2]
        obtain ⟨m', rfl⟩ : ∃ m', m = m' + 1 := ⟨m - 1, by omega⟩
        have fin : ∀ x y, ∃ h', fX12_block_19 N rc (m' + 1) 138 x y h2 = some (x, h') ∧ Er w n' l' q' h' ∧ ∀ s, FrS s n' l' q' h2 h' := by
          intro x y
          obtain ⟨h', e', a', f'⟩ := blk66_er (N := N) (rc := rc) (v := x) a2
          refine ⟨h', ?_, a', f'⟩
          rw [fX12_block_19, g_138_9 a2.sg, Option.bind_some, a2.1.2.2.1, if_pos (i_nonneg (by have := a2.1.2.1; omega))]
          exact e'
        unfold fX12_block_51 fX12_block_60
        by_cases hv : 0 ≤ v1
        · rw [if_pos hv]
          obtain ⟨h', e', a', f'⟩ := fin v1 v
          exact ⟨_, h', n', l', q', e', a', f2.trans ((f' s).mono (Nat.le_refl _) b2 b3 b4).toL, b1, b2, b3, b4⟩
        · rw [if_neg hv]
          obtain ⟨h', e', a', f'⟩ := fin v v
          exact ⟨_, h', n', l', q', e', a', f2.trans ((f' s).mono (Nat.le_refl _) b2 b3 b4).toL, b1, b2, b3, b4⟩
/-- a block -/
theorem block_post {T : Txt} {N t r s n l q : Nat} {rc : Nat → List Value → pH → Option (Option Value × pH)} {h : pH} (hS : ∀ r', r = r' + 1 → ∀ t s n l q h, At2 T t r' s n l q h → PostS T ((tkS T).stm r' ((tkS T).blk r') t) t r' s n l q h (rcI rc 254 [.ref 138] h)) (a : At2 T t r s n l q h) (hN : 3200 ≤ N) : PostB T ((tkS T).blk r t) t r s n l q h (fX12_block N rc 138 h) := by
  have hs := a.1.sg
  have hP := a.1.P_le
  have hs0 := a.2.2
  unfold fX12_block
  rw [if_pos (o_138 hs), r_isSign a.1.1 (k := 123) (by unfold isSK isSgn; simp) (by decide), Option.bind_some]
  dsimp only
  have bad : (tkK T t ≠ 123 ∨ r = 0) → PostB T (no (tkP T t)) t r s n l q h ((fX12_opens N 138 (if tkK T t = 123 then 1 else 0) h).bind fun q15 => if q15.1 = 0 then some (-1, q15.2) else fX12_block_19 N rc N 138 (-1) (-1) q15.2) := by
    intro hc
    obtain ⟨h1, e1, a1, f1⟩ := a.1.opens0 (N := N) (if tkK T t = 123 then 1 else 0) (hc.imp (fun z => if_neg z) (fun z => z))
    rw [e1, Option.bind_some]
    dsimp only
    rw [if_pos rfl, PostB_no]
    exact ⟨_, h1, n, l, q, rfl, a1, f1.toS, Nat.le_refl _, Nat.le_refl _, Nat.le_refl _, Nat.le_refl _⟩
  rcases r with _ | r
  · exact bad (Or.inr rfl)
  · show PostB T (if tkK T t ≠ 123 then no (tkP T t) else Pr.bind ((tkS T).stms r ((tkS T).blk r) (T.2 - t) (t + 1)) fun b t' => ok (b, tkP T t') (t' + 1)) t (r + 1) s n l q h _
    by_cases k123 : tkK T t = 123
    · rw [if_neg (fun z => z k123), if_pos k123]
      have hr := a.1.2.1
      obtain ⟨h1, e1, a1, f1⟩ := a.1.opens1 (N := N) (g := 1) (by decide) hN (by rw [k123]; decide) (by rw [k123]; decide)
      have hm := tk_mono T t (by rw [k123]; decide)
      have hlt : t < T.2 := Tks.lt_of (S := tkS T) (t := t) (by show tkK T t ≠ 0; rw [k123]; decide)
      rw [e1, Option.bind_some]
      dsimp only
      rw [if_neg (show ¬ (1 : Int32) = 0 by decide)]
      have lp := stms_loop (rc := rc) (hS r rfl) (Tks.blk_adv (tkS T) r) hN hr (T.2 - t) N (t + 1) s n l q h1 none (-1) (by omega) (by omega) (by omega) ⟨a1, f1.r25 a.2.1, by omega⟩ (fun j hj => by cases hj) (fun _ => rfl) (fun z => absurd rfl z)
      rcases hq : (tkS T).stms r ((tkS T).blk r) (T.2 - t) (t + 1) with ⟨z, t'⟩ | w
      · rw [hq] at lp
        obtain ⟨h', e', a', rb', e57, f', d1, d2, d3⟩ := lp
        rw [Pr.bind_ok, PostB_ok]
        refine ⟨h', ?_, a', rb', e57, f1.toS.trans f'.none, ?_, ?_, ?_⟩
        · exact e'
        · show 2 * stB z + 2 + tkP T t ≤ tkP T (t' + 1); omega
        · show szB z + tkP T t ≤ tkP T (t' + 1); omega
        · show lsB z + tkP T t ≤ tkP T (t' + 1); omega
      · rw [hq] at lp
        obtain ⟨v, h', n', l', q', e', a', f', d1, d2, d3, d4⟩ := lp
        rw [Pr.bind_no, PostB_no]
        exact ⟨v, h', n', l', q', e', a', f1.toS.trans f'.none, by omega, d2, d3, d4⟩
    · rw [if_pos k123]
      exact bad (Or.inl k123)
theorem rs_254 (N j : Nat) (h : pH) : rcI (gX12_statement N (j + 1)) 254 [.ref 138] h = fX12_statement N (gX12_statement N j) 138 h := by
  have e : gX12_statement N (j + 1) 254 [.ref 138] h = (fX12_statement N (gX12_statement N j) 138 h).map (fun q => (some (.int q.1), q.2)) := by
    rw [gX12_statement]
    dsimp only
    rw [if_pos rfl]
  rw [rcI, e]
  exact rcI_map
theorem rs_253 (N j : Nat) (h : pH) : rcI (gX12_statement N (j + 1)) 253 [.ref 138] h = fX12_block N (gX12_statement N j) 138 h := by
  have e : gX12_statement N (j + 1) 253 [.ref 138] h = (fX12_block N (gX12_statement N j) 138 h).map (fun q => (some (.int q.1), q.2)) := by
    rw [gX12_statement]
    dsimp only
    rw [if_neg (by decide), if_pos rfl]
  rw [rcI, e]
  exact rcI_map
theorem blkE_all (N j : Nat) : BlkE (gX12_statement N (j + 1)) := by
  intro w n l q h he
  obtain ⟨h1, e1, a1, f1⟩ := he.opens (N := N) 0
  refine ⟨-1, h1, ?_, a1, f1⟩
  rw [rs_253]
  unfold fX12_block
  rw [if_pos (o_138 he.sg), e_isSign _ he.1, Option.bind_some]
  dsimp only
  rw [e1, Option.bind_some]
  dsimp only
  rw [if_pos rfl]
/-- the reference reads blocks as the text means them -/
theorem block_all {T : Txt} {N : Nat} (hN : 3200 ≤ N) : ∀ (r j : Nat), 2 * r + 2 ≤ j → ∀ t s n l q h, At2 T t r s n l q h → PostB T ((tkS T).blk r t) t r s n l q h (rcI (gX12_statement N j) 253 [.ref 138] h)
  | 0, j, hj, t, s, n, l, q, h, a => by
    obtain ⟨i, rfl⟩ : ∃ i, j = i + 1 := ⟨j - 1, by omega⟩
    rw [rs_253]
    exact block_post (fun r' z => by omega) a hN
  | r + 1, j, hj, t, s, n, l, q, h, a => by
    obtain ⟨i, rfl⟩ : ∃ i, j = i + 3 := ⟨j - 3, by omega⟩
    rw [rs_253]
    refine block_post (fun r' z => ?_) a hN
    obtain rfl : r = r' := by omega
    intro t s n l q h a
    rw [rs_254]
    exact stm_post (fun t s n l q h a => block_all hN r (i + 1) (by omega) t s n l q h a) (blkE_all N i) a hN
