theorem chain_run {T : Txt} {N J r : Nat} {sub : Nat → Pr Tr} (hop : ∀ r', r = r' + 1 → RunA T N J 257 sub r') (hA : (tkS T).Adv sub) (hV : (tkS T).NV sub) (hN : 3200 ≤ N) : RunA T N (J + 3) 264 ((tkS T).chain r sub) r := by
  intro j hj t n l q h a
  obtain ⟨i, rfl⟩ : ∃ i, j = i + 3 := ⟨j - 3, by omega⟩
  have hP := a.P_le
  rw [rc_264 N (i + 2) h]
  unfold fX12_chain
  rw [if_pos (o_138 a.sg), a.isO, Option.bind_some]
  refine then_post (g := fun x t' => (tkS T).chn r sub (T.2 - t') x t') (G := fun v h => fX12_chain_5 N (gX12_sum N (i + 2)) N 138 v h) (first_run hop hA hN (i + 2) (by omega) t n l q h a) (fun x t' h1 ex a1 nx sx b1 b2 => chain_loop (j := i + 1) (fun r' z => ⟨hop r' z (i + 1) (by omega), hop r' z (i + 2) (by omega)⟩) hA hN (T.2 - t') N x t' t n l q h1 (by omega) (by omega) a.2.2.2.2.2.2.1 a.2.2.2.2.2.2.2.1 (Tks.first_nv hV r _ _ _ ex) a1 nx sx b1 b2) (fun w n' l' v h2 a2 hn' => ?_) a.2.2.2.2.2.2.1
  obtain ⟨m', hm'⟩ : ∃ m', N = m' + 1 := ⟨N - 1, by omega⟩
  show fX12_chain_5 N (gX12_sum N (i + 2)) N 138 v h2 = some (v, h2)
  rw [show fX12_chain_5 N (gX12_sum N (i + 2)) N = fX12_chain_5 N (gX12_sum N (i + 2)) (m' + 1) from congrArg _ hm']
  rw [fX12_chain_5, g_138_9 a2.sg, Option.bind_some, a2.1.2.2.1, if_pos (i_nonneg (by have := a2.1.2.1; omega))]
/-- no - and no ! : a chain -/
theorem single_chain {T : Txt} {N j r t n l q : Nat} {p : Pr Tr} {h : pH} (a : At T t r n l q h) (k45 : tkK T t ≠ 45) (k33 : tkK T t ≠ 33) (hp : PostE T p t r n l q h (rcI (gX12_sum N j) 264 [.ref 138] h)) : PostE T p t r n l q h (fX12_single N (gX12_sum N j) 138 h) := by
  unfold fX12_single
  rw [if_pos (o_138 a.sg), r_isSign a.1 (k := 45) (by unfold isSK isSgn; simp) (by decide), if_neg k45, Option.bind_some]
  dsimp only
  rw [if_pos rfl, r_isSign a.1 (k := 33) (by unfold isSK isSgn; simp) (by decide), if_neg k33, Option.bind_some]
  dsimp only
  rw [if_pos rfl, a.isO, Option.bind_some, bind_pair]
  exact hp
theorem single_sign {T : Txt} {N j r t n l q : Nat} {h : pH} (a : At T t r n l q h) (hk : tkK T t = 45 ∨ tkK T t = 33) : fX12_single N (gX12_sum N j) 138 h = fX12_single_23 N (gX12_sum N j) 138 h := by
  unfold fX12_single
  rw [if_pos (o_138 a.sg), r_isSign a.1 (k := 45) (by unfold isSK isSgn; simp) (by decide), Option.bind_some]
  dsimp only
  by_cases k45 : tkK T t = 45
  · rw [if_pos k45, if_neg (show ¬ (1 : Int32) = 0 by decide)]
  · rw [if_neg k45, if_pos rfl, r_isSign a.1 (k := 33) (by unfold isSK isSgn; simp) (by decide), if_pos (hk.resolve_left k45), Option.bind_some]
    dsimp only
    rw [if_neg (show ¬ (1 : Int32) = 0 by decide)]
theorem single_run0 {T : Txt} {N : Nat} (hN : 3200 ≤ N) : RunA T N 4 263 ((tkS T).sgl 0) 0 := by
  intro j hj t n l q h a
  obtain ⟨i, rfl⟩ : ∃ i, j = i + 1 := ⟨j - 1, by omega⟩
  rw [rc_263 N i h]
  show PostE T (if tkK T t = 45 ∨ tkK T t = 33 then no (tkP T t) else (tkS T).chain 0 (fun t => no (tkP T t)) t) t 0 n l q h _
  by_cases hk : tkK T t = 45 ∨ tkK T t = 33
  · rw [if_pos hk, single_sign a hk]
    unfold fX12_single_23
    obtain ⟨h1, e1, a1, f1⟩ := a.opens0 (N := N) 1 (Or.inr rfl)
    rw [r_isSign a.1 (k := 45) (by unfold isSK isSgn; simp) (by decide), Option.bind_some]
    dsimp only
    rw [e1, Option.bind_some]
    dsimp only
    rw [if_pos rfl]
    exact fail_post a1 f1 (Nat.le_refl _)
  · rw [if_neg hk]
    exact single_chain a (fun z => hk (Or.inl z)) (fun z => hk (Or.inr z)) (chain_run (J := 0) (r := 0) (sub := fun t => no (tkP T t)) (fun r' z => by omega) (fun t x t' h => (no_ok h).elim) (fun t x t' h => (no_ok h).elim) hN i (by omega) t n l q h a)
theorem single_runS {T : Txt} {N J r : Nat} (hN : 3200 ≤ N) (hs : RunA T N (J + 3) 263 ((tkS T).sgl r) r) (he : RunA T N J 257 ((tkS T).expr r) r) : RunA T N (J + 4) 263 ((tkS T).sgl (r + 1)) (r + 1) := by
  intro j hj t n l q h a
  obtain ⟨i, rfl⟩ : ∃ i, j = i + 1 := ⟨j - 1, by omega⟩
  rw [rc_263 N i h]
  show PostE T (if tkK T t = 45 ∨ tkK T t = 33 then Pr.bind ((tkS T).sgl r (t + 1)) fun x t' => ok (eUn (if tkK T t = 45 then 17 else 18) 0 0 x) t' else (tkS T).chain (r + 1) ((tkS T).expr r) t) t (r + 1) n l q h _
  by_cases hk : tkK T t = 45 ∨ tkK T t = 33
  · rw [if_pos hk, single_sign a hk]
    have hr := a.2.1
    have h0 : tkK T t ≠ 0 := fun z => by rcases hk with y | y <;> rw [z] at y <;> exact absurd y (by decide)
    have h24 : tkK T t ≠ 24 := fun z => by rcases hk with y | y <;> rw [z] at y <;> exact absurd y (by decide)
    obtain ⟨h1, e1, a1, f1⟩ := a.opens1 (N := N) (g := 1) (by decide) hN h0 h24
    have hm := tk_mono T t h0
    have hp := hs i (by omega) (t + 1) n l q h1 a1
    unfold fX12_single_23
    rw [r_isSign a.1 (k := 45) (by unfold isSK isSgn; simp) (by decide), Option.bind_some]
    dsimp only
    rw [e1, Option.bind_some]
    dsimp only
    rw [if_neg (show ¬ (1 : Int32) = 0 by decide), a1.isO, Option.bind_some]
    refine PostE_back ?_ f1
    -- the level is closed again
    have hp2 : PostE T ((tkS T).sgl r (t + 1)) (t + 1) (r + 1) n l q h1 ((rcI (gX12_sum N i) 263 [.ref 138] h1).bind fun q7 => (getI q7.2 138 12 9).bind fun t8 => if 0 ≤ t8 then some (q7.1, q7.2) else (getI q7.2 138 12 10).bind fun t10 => (putI q7.2 138 12 10 (t10 - (1 : Int32))).bind fun h11 => some (q7.1, h11)) := by
      rcases hq : (tkS T).sgl r (t + 1) with ⟨x, t'⟩ | w
      · rw [hq, PostE_ok] at hp
        obtain ⟨h2, e2, a2, nx, f2, sx, b1, b2⟩ := hp
        have hs2 := a2.sg
        have e9 := a2.1.2.2.2.2.2.2.2.2.2.2
        have c1 : Chg (Fl [10]) h2 (wr h2 138 10 (Int32.ofNat (30 - (r + 1)))) := Chg.wr h2 _ _ _ ⟨rfl, by simp⟩
        have f : ∀ k, k ∉ [10] → rd (wr h2 138 10 (Int32.ofNat (30 - (r + 1)))) 138 k = rd h2 138 k := fun k hk => c1.2.2.1 _ _ (Fl_ne (Or.inr hk))
        have f3 : Fr (n + sz x) (l + ls x) q h2 (wr h2 138 10 (Int32.ofNat (30 - (r + 1)))) := fr_fl c1 (by decide)
        obtain ⟨hp0, hr1, e10, e15, e21, e23, d1, d2, d3⟩ := a2
        rw [PostE_ok, e2, Option.bind_some]
        dsimp only
        rw [g_138_9 hs2, Option.bind_some, e9, if_neg (show ¬ (0 : Int32) ≤ -1 by decide), g_138_10 hs2, Option.bind_some, e10, show Int32.ofNat (30 - r) - 1 = Int32.ofNat (30 - (r + 1)) from by
          rw [show 30 - r = (30 - (r + 1)) + 1 by omega, ← i_add1, Int32.add_sub_cancel], p_138_10 hs2, Option.bind_some]
        exact ⟨_, rfl, ⟨hp0.chg c1 ⟨fun k hk => Fl_ne (Or.inr (fun z => by rw [List.mem_singleton.mp z] at hk; exact absurd hk (by decide))), fl_rest⟩, hr, w_138_10 hs2 _, by rw [f 15 (by decide)]; exact e15, by rw [f 21 (by decide)]; exact e21, by rw [f 23 (by decide)]; exact e23, d1, d2, d3⟩, NE.fr f3 x n l (Nat.le_refl _) (Nat.le_refl _) nx, f2.trans (f3.mono (by omega) (by omega) (Nat.le_refl _)), sx, b1, b2⟩
      · rw [hq, PostE_no] at hp
        obtain ⟨v, h2, n', l', e2, a2, f2, c⟩ := hp
        rw [PostE_no, e2, Option.bind_some]
        dsimp only
        rw [g_138_9 a2.sg, Option.bind_some, a2.1.2.2.1, if_pos (i_nonneg (by have := a2.1.2.1; omega))]
        exact ⟨v, h2, n', l', rfl, a2, f2, c⟩
    have e : ∀ (c : Prop) [Decidable c] (u v : Option (Int32 × pH)) (G : Int32 × pH → Option (Int32 × pH)), (if c then u else v).bind G = if c then u.bind G else v.bind G := fun c _ u v G => by split <;> rfl
    unfold fX12_single_62 fX12_single_74
    by_cases k45 : tkK T t = 45
    · have j2 := un_post (N := N) (t0 := t) (k := 17) (kk := 13) hp2 (by omega) a.2.2.2.2.2.2.1 (by omega) (fun x => rfl)
      simp only [e, Option.bind_assoc, Option.bind_some] at j2
      simp only [if_pos k45, bind_pair]
      exact j2
    · have j2 := un_post (N := N) (t0 := t) (k := 18) (kk := 14) hp2 (by omega) a.2.2.2.2.2.2.1 (by omega) (fun x => rfl)
      simp only [e, Option.bind_assoc, Option.bind_some] at j2
      simp only [if_neg k45, bind_pair]
      exact j2
  · rw [if_neg hk]
    refine single_chain a (fun z => hk (Or.inl z)) (fun z => hk (Or.inr z)) (chain_run (J := J) (r := r + 1) (sub := (tkS T).expr r) (fun r' z => ?_) (Tks.expr_adv _ r) (Tks.expr_nv _ r) hN i (by omega) t n l q h a)
    obtain rfl : r = r' := by omega
    exact he
/-- from ONES to the whole -/
theorem levels_run {T : Txt} {N J r : Nat} (hN : 3200 ≤ N) (hs : RunA T N J 263 ((tkS T).sgl r) r) : RunA T N (J + 10) 257 ((tkS T).expr r) r := by
  have hA := Tks.sgl_adv (tkS T) r
  have l1 : RunA T N (J + 2) 262 ((tkS T).lv ((tkS T).sgl r) 1) r := product_run hs hA hN
  have l2 : RunA T N (J + 2 + 2) 261 ((tkS T).lv ((tkS T).sgl r) 2) r := sum_run l1 (Tks.lv_adv hA 1) hN
  have l3 : RunA T N (J + 2 + 2 + 2) 260 ((tkS T).lv ((tkS T).sgl r) 3) r := related_run l2 (Tks.lv_adv hA 2) hN
  have l4 : RunA T N (J + 2 + 2 + 2 + 2) 259 ((tkS T).lv ((tkS T).sgl r) 4) r := equal_run l3 (Tks.lv_adv hA 3) hN
  have l5 : RunA T N (J + 2 + 2 + 2 + 2 + 1) 258 ((tkS T).lv ((tkS T).sgl r) 5) r := both_run l4 (Tks.lv_adv hA 4) hN
  have l6 : RunA T N (J + 2 + 2 + 2 + 2 + 1 + 1) 257 ((tkS T).lv ((tkS T).sgl r) 6) r := expr_run l5 (Tks.lv_adv hA 5) hN
  exact l6
theorem expr_all {T : Txt} {N : Nat} (hN : 3200 ≤ N) : ∀ r, RunA T N (14 * r + 4) 263 ((tkS T).sgl r) r ∧ RunA T N (14 * r + 14) 257 ((tkS T).expr r) r
  | 0 => ⟨single_run0 hN, levels_run hN (single_run0 hN)⟩
  | r + 1 => by
    obtain ⟨h1, h2⟩ := expr_all hN r
    have h3 : RunA T N (14 * r + 14 + 4) 263 ((tkS T).sgl (r + 1)) (r + 1) := single_runS (J := 14 * r + 14) hN (h1.mono (by omega)) h2
    exact ⟨h3.mono (by omega), (levels_run hN h3).mono (by omega)⟩
/-- the reference reads an expression as the text means it -/
theorem e12_expression {T : Txt} {N r t n l q : Nat} {h : pH} (hN : 3200 ≤ N) (a : At T t r n l q h) : PostE T ((tkS T).expr r t) t r n l q h (rcI (gX12_sum N 600) 257 [.ref 138] h) := (expr_all hN r).2 600 (by have := a.2.1; omega) t n l q h a
