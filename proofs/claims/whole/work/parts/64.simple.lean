theorem cnt_simple {k p v : Nat} {e : Tr} (hk : k < 80) : stB (nd k p v e nl) = 1 ∧ szB (nd k p v e nl) = sz e ∧ lsB (nd k p v e nl) = ls e := by
  rw [stB_nd, szB_nd, lsB_nd, if_pos hk, if_neg (by omega), if_neg (by omega), if_neg (by omega), stB_nl, szB_nl, lsB_nl]
  exact ⟨rfl, rfl, rfl⟩
/-- a statement with at most one expression -/
theorem SR_simple {T : Txt} {h : pH} {k p s n l : Nat} {e : Tr} (hk : k < 80 ∧ k ≠ 31 ∧ k ≠ 38 ∧ k ≠ 53 ∧ k ≠ 37) (r1 : rd h 151 s = sK k) (r2 : rd h 152 s = Int32.ofNat p) (r3 : rd h 153 s = Int32.ofNat n) (r4 : rd h 154 s = if sz e = 0 then -1 else Int32.ofNat (n + sz e - 1)) (r5 : rd h 155 s = -1) (he : NE T h e n l) : SR T h (nd k p 0 e nl) s n l := by
  rw [SR_nd]
  refine ⟨hk.1, ⟨r1, r2, r3, fun _ => r4, ?_, fun z => ?_⟩, he, MR_nl _ _ _ _ _ _⟩
  · rw [r5, if_neg hk.2.1, if_neg hk.2.2.1]
  · omega
theorem rd_st {h : pH} {a b s : Nat} (x : Int32) (hab : a ≠ b) : rd (wr h a s x) b s = rd h b s := rd_wr_ne _ _ (by omega)
/-- an expression's value for the statement s -/
theorem val_post {T : Txt} {N t1 r s n l q : Nat} {h2 : pH} (a : At T t1 r n l q h2) (hN : 3200 ≤ N) (hs : s < 1600) (G : pH → Option (Int32 × pH)) : match (tkS T).expr r t1 with
    | Sum.inl (e, t2) => ∃ h3, ((getR h2 138 12 29).bind fun t4 => (if isO h2 138 12 = true then some () else none).bind fun _ => (rcI (gX12_sum N 600) 257 [.ref 138] h2).bind fun q5 => (stI q5.2 t4 (Int32.ofNat s) q5.1).bind fun h7 => G h7) = G (wr h3 154 s (Int32.ofNat (n + sz e - 1))) ∧ At T t2 r (n + sz e) (l + ls e) q h3 ∧ NE T h3 e n l ∧ Fr n l q h2 h3 ∧ 1 ≤ sz e ∧ sz e + tkP T t1 ≤ tkP T t2 ∧ ls e + tkP T t1 ≤ tkP T t2
    | Sum.inr w => ∃ v h3 n' l', ((getR h2 138 12 29).bind fun t4 => (if isO h2 138 12 = true then some () else none).bind fun _ => (rcI (gX12_sum N 600) 257 [.ref 138] h2).bind fun q5 => (stI q5.2 t4 (Int32.ofNat s) q5.1).bind fun h7 => G h7) = G (wr h3 154 s v) ∧ Er w n' l' q h3 ∧ Fr n l q h2 h3 ∧ tkP T t1 ≤ w ∧ n ≤ n' ∧ l ≤ l' := by
  have hp := e12_expression (N := N) hN a
  rcases hq : (tkS T).expr r t1 with ⟨e, t2⟩ | w
  · rw [hq, PostE_ok] at hp
    obtain ⟨h3, e3, a3, ne, f3, se, b1, b2⟩ := hp
    refine ⟨h3, ?_, a3, ne, f3, se, b1, b2⟩
    rw [R_138_29 a.sg, Option.bind_some, a.isO, Option.bind_some, e3, Option.bind_some, T_154 a3.sg hs, Option.bind_some]
  · rw [hq, PostE_no] at hp
    obtain ⟨v, h3, n', l', e3, a3, f3, c1, c2, c3, c4, c5⟩ := hp
    refine ⟨v, h3, n', l', ?_, a3, f3, c3, c4, c5⟩
    rw [R_138_29 a.sg, Option.bind_some, a.isO, Option.bind_some, e3, Option.bind_some, T_154 a3.sg hs, Option.bind_some]
/-- return EXPRESSION, throw, print: from the expression on -/
theorem work_post {T : Txt} {N t r s n l q k : Nat} {rc : Nat → List Value → pH → Option (Option Value × pH)} {h h2 : pH} (a : At T (t + 1) r n l q h2) (e25 : rd h2 138 25 = Int32.ofNat (s + 1)) (bg : Bg h2 s (sK k) (tkP T t) n) (f : FrS s n l q h h2) (hN : 3200 ≤ N) (hk : k = 41 ∨ k = 42 ∨ k = 43) (hs0 : 2 * s ≤ tkP T t) (h0 : tkK T t ≠ 0) : PostS T ((tkS T).workS r k t) t r s n l q h (fX12_statement_403 N rc 138 (Int32.ofNat s) h2) := by
  have hP := a.P_le
  have hm := tk_mono T t h0
  have hP0 := (tkP_le T t).1
  have hs : s < 1600 := by omega
  have vp := val_post (s := s) a hN hs (fun h7 => fX12_statement_413 N rc 138 (Int32.ofNat s) h7)
  show PostS T (Pr.bind ((tkS T).expr r (t + 1)) fun e t' => (tkS T).semi (bWork (tkP T t) k e nl) t') t r s n l q h _
  unfold fX12_statement_403
  obtain ⟨g1, g2, g3, g4, g5, g6, g7, g8⟩ := bg
  rcases hq : (tkS T).expr r (t + 1) with ⟨e, t2⟩ | w
  · rw [hq] at vp
    obtain ⟨h3, e3, a3, ne, f3, se, b1, b2⟩ := vp
    rw [e3, Pr.bind_ok]
    have cw := stA_wr (s := s) h3 154 s (Int32.ofNat (n + sz e - 1)) (by omega) (Nat.le_refl _)
    obtain ⟨c1, c2, c3⟩ := cnt_simple (k := k) (p := tkP T t) (v := 0) (e := e) (by omega)
    have st : ∀ b, b ≠ 154 → 151 ≤ b → b ≤ 161 → rd (wr h3 154 s (Int32.ofNat (n + sz e - 1))) b s = rd h2 b s := fun b hb hb1 hb2 => by rw [rd_st _ (Ne.symm hb), f3.st ⟨hb1, hb2⟩]
    refine semi_post (e := bWork (tkP T t) k e nl) hN ?_ ?_ ?_ ?_ (f.trans (f3.toS.trans (stA_fr cw))) ?_ ?_ ?_ hs0 ?_
    · unfold bWork; rw [c2, c3]; exact a3.sta cw
    · unfold bWork; rw [c1, rd_wr_ne _ _ (by omega), f3.f25]; exact e25
    · exact SR_simple (by omega) ((st 151 (by decide) (by decide) (by decide)).trans g1) ((st 152 (by decide) (by decide) (by decide)).trans g2) ((st 153 (by decide) (by decide) (by decide)).trans g3) (by rw [W_154 a3.sg, if_neg (by omega)]) ((st 155 (by decide) (by decide) (by decide)).trans g5) (NE.keep e n l s s ((stA_fr (n := n + sz e) (l := l + ls e) (q := q) cw).ag _ _ _) ne)
    · exact (st 161 (by decide) (by decide) (by decide)).trans g8
    · unfold bWork; rw [c1]; omega
    · unfold bWork; rw [c2]; omega
    · unfold bWork; rw [c3]; omega
    · unfold bWork; rw [c1]; omega
  · rw [hq] at vp
    obtain ⟨v, h3, n', l', e3, a3, f3, b1, b2, b3⟩ := vp
    rw [e3, Pr.bind_no, PostS_no]
    have cw := stA_wr (s := s) h3 154 s v (by omega) (Nat.le_refl _)
    obtain ⟨h4, e4, a4, f4⟩ := semi_er (N := N) (v := Int32.ofNat s) (a3.sta cw)
    exact ⟨_, h4, n', l', q, e4, a4, (f.trans (f3.toS.trans (stA_fr cw))).trans (f4.toS.mono (Nat.le_refl _) b2 b3 (Nat.le_refl _)), by omega, b2, b3, Nat.le_refl _⟩
/-- return, throw, print -/
theorem ret_post {T : Txt} {N t r s n l q : Nat} {rc : Nat → List Value → pH → Option (Option Value × pH)} {h : pH} {K : Int32} {k : Nat} (a : At2 T t r s n l q h) (hN : 3200 ≤ N) (hK : tkK T t = K) (hk : (K = 9 ∧ k = 41) ∨ (K = 10 ∧ k = 42) ∨ (K = 13 ∧ k = 43)) : PostS T (if K = 9 ∧ tkK T (t + 1) = 59 then ok (bRet (tkP T t) nl) (t + 2) else (tkS T).workS r k t) t r s n l q h (fX12_statement_357 N rc 138 K h) := by
  have hP := a.1.P_le
  have hs0 := a.2.2
  have h0 : tkK T t ≠ 0 := fun z => by rw [hK] at z; rcases hk with y | y | y <;> rw [y.1] at z <;> exact absurd z (by decide)
  have h24 : tkK T t ≠ 24 := fun z => by rw [hK] at z; rcases hk with y | y | y <;> rw [y.1] at z <;> exact absurd z (by decide)
  have hm := tk_mono T t h0
  have e357 : fX12_statement_357 N rc 138 K h = fX12_statement_380 N rc 138 K 138 (sK k) h := by
    unfold fX12_statement_357
    rcases hk with y | y | y
    · rw [y.1, y.2, if_pos rfl]; rfl
    · rw [y.1, y.2, if_neg (by decide), if_pos rfl]; rfl
    · rw [y.1, y.2, if_neg (by decide), if_neg (by decide)]; rfl
  obtain ⟨h1, e1, a1, e25, f1, bg⟩ := a.begun (N := N) (sK k)
  obtain ⟨h2, e2, a2, f2⟩ := a1.next hN h0 h24
  have bg2 : Bg h2 s (sK k) (tkP T t) n := bg.keep (fun b h1 h2 => f2.st ⟨h1, h2⟩)
  have e25' : rd h2 138 25 = Int32.ofNat (s + 1) := f2.r25 e25
  have f12 : FrS s n l q h h2 := f1.trans f2.toS
  rw [e357]
  unfold fX12_statement_380
  rw [e1, Option.bind_some]
  dsimp only
  rw [e2, Option.bind_some]
  have wk := work_post (rc := rc) a2 e25' bg2 f12 hN (by omega) hs0 h0
  by_cases k9 : K = 9
  · have hk41 : k = 41 := by
      rcases hk with y | y | y
      · exact y.2
      · rw [y.1] at k9; exact absurd k9 (by decide)
      · rw [y.1] at k9; exact absurd k9 (by decide)
    rw [if_pos k9, r_isSign a2.1 (k := 59) (by unfold isSK isSgn; simp) (by decide), Option.bind_some]
    dsimp only
    by_cases k59 : tkK T (t + 1) = 59
    · rw [if_pos k59, if_pos ⟨k9, k59⟩, if_neg (show ¬ (1 : Int32) = 0 by decide)]
      obtain ⟨g1, g2, g3, g4, g5, g6, g7, g8⟩ := bg2
      obtain ⟨c1, c2, c3⟩ := cnt_simple (k := 40) (p := tkP T t) (v := 0) (e := nl) (by omega)
      have sp := semi_post (N := N) (t0 := t) (e := bRet (tkP T t) nl) hN (by unfold bRet; rw [c2, c3, sz_nl, ls_nl]; exact a2) (by unfold bRet; rw [c1]; exact e25') (SR_simple (by omega) (g1.trans (by rw [hk41]; rfl)) g2 g3 (by rw [g4, if_pos sz_nl]) g5 (NE_nl _ _ _ _)) g8 f12 (by unfold bRet; rw [c1]; omega) (by unfold bRet; rw [c2, sz_nl]; omega) (by unfold bRet; rw [c3, ls_nl]; omega) hs0 (by unfold bRet; rw [c1]; omega)
      have e : (tkS T).semi (bRet (tkP T t) nl) (t + 1) = ok (bRet (tkP T t) nl) (t + 2) := if_pos k59
      rw [e] at sp
      exact sp
    · rw [if_neg k59, if_neg (fun z => k59 z.2), if_pos rfl]
      exact wk
  · rw [if_neg k9, if_neg (fun z => k9 z.1)]
    exact wk
