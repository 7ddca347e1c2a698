def RunA (T : Txt) (N J mn : Nat) (p : Nat → Pr Tr) (r : Nat) : Prop := ∀ j, J ≤ j → RunE T N j mn p r
theorem RunA.mono {T : Txt} {N J J' mn r : Nat} {p : Nat → Pr Tr} (h : RunA T N J mn p r) (hJ : J ≤ J') : RunA T N J' mn p r := fun j hj => h j (Nat.le_trans hJ hj)
theorem bind_pair (x : Option (Int32 × pH)) : (x.bind fun q => some (q.1, q.2)) = x := by cases x <;> rfl
theorem product_run {T : Txt} {N J r : Nat} {op : Nat → Pr Tr} (hop : RunA T N J 263 op r) (hA : (tkS T).Adv op) (hN : 3200 ≤ N) : RunA T N (J + 2) 262 (fun t => Pr.bind (op t) fun x t' => (tkS T).lp op 6 (T.2 - t') x t') r := by
  intro j hj t n l q h a
  obtain ⟨i, rfl⟩ : ∃ i, j = i + 2 := ⟨j - 2, by omega⟩
  have hp := a.P_le
  rw [rc_262 N (i + 1) h]
  unfold fX12_product
  rw [if_pos (o_138 a.sg), a.isO, Option.bind_some]
  refine then_post (g := fun x t' => (tkS T).lp op 6 (T.2 - t') x t') (G := fun v h => fX12_product_5 N (gX12_sum N (i + 1)) N 138 v h) (hop (i + 1) (by omega) t n l q h a) (fun x t' h1 ex a1 nx sx b1 b2 => product_loop (hop i (by omega)) hA hN (T.2 - t') N x t' t n l q h1 (by omega) (by omega) a.2.2.2.2.2.2.1 a1 nx sx b1 b2) (fun w n' l' v h2 a2 hn' => ?_) a.2.2.2.2.2.2.1
  obtain ⟨m', hm'⟩ : ∃ m', N = m' + 1 := ⟨N - 1, by omega⟩
  show fX12_product_5 N (gX12_sum N (i + 1)) N 138 v h2 = some (v, h2)
  rw [show fX12_product_5 N (gX12_sum N (i + 1)) N = fX12_product_5 N (gX12_sum N (i + 1)) (m' + 1) from congrArg _ hm']
  rw [fX12_product_5, e_isSign _ a2.1, Option.bind_some, if_pos rfl, e_isSign _ a2.1, Option.bind_some, if_pos rfl, e_isSign _ a2.1, Option.bind_some, if_pos rfl]
theorem sum_run {T : Txt} {N J r : Nat} {op : Nat → Pr Tr} (hop : RunA T N J 262 op r) (hA : (tkS T).Adv op) (hN : 3200 ≤ N) : RunA T N (J + 2) 261 (fun t => Pr.bind (op t) fun x t' => (tkS T).lp op 5 (T.2 - t') x t') r := by
  intro j hj t n l q h a
  obtain ⟨i, rfl⟩ : ∃ i, j = i + 2 := ⟨j - 2, by omega⟩
  have hp := a.P_le
  rw [rc_261 N (i + 1) h]
  unfold fX12_sum
  rw [if_pos (o_138 a.sg), a.isO, Option.bind_some]
  refine then_post (g := fun x t' => (tkS T).lp op 5 (T.2 - t') x t') (G := fun v h => fX12_sum_5 N (gX12_sum N (i + 1)) N 138 v h) (hop (i + 1) (by omega) t n l q h a) (fun x t' h1 ex a1 nx sx b1 b2 => sum_loop (hop i (by omega)) hA hN (T.2 - t') N x t' t n l q h1 (by omega) (by omega) a.2.2.2.2.2.2.1 a1 nx sx b1 b2) (fun w n' l' v h2 a2 hn' => ?_) a.2.2.2.2.2.2.1
  obtain ⟨m', hm'⟩ : ∃ m', N = m' + 1 := ⟨N - 1, by omega⟩
  show fX12_sum_5 N (gX12_sum N (i + 1)) N 138 v h2 = some (v, h2)
  rw [show fX12_sum_5 N (gX12_sum N (i + 1)) N = fX12_sum_5 N (gX12_sum N (i + 1)) (m' + 1) from congrArg _ hm']
  rw [fX12_sum_5, e_isSign _ a2.1, Option.bind_some, if_pos rfl, e_isSign _ a2.1, Option.bind_some, if_pos rfl]
theorem both_run {T : Txt} {N J r : Nat} {op : Nat → Pr Tr} (hop : RunA T N J 259 op r) (hA : (tkS T).Adv op) (hN : 3200 ≤ N) : RunA T N (J + 1) 258 (fun t => Pr.bind (op t) fun x t' => (tkS T).lp op 2 (T.2 - t') x t') r := by
  intro j hj t n l q h a
  obtain ⟨i, rfl⟩ : ∃ i, j = i + 1 := ⟨j - 1, by omega⟩
  have hp := a.P_le
  rw [rc_258 N i h]
  unfold fX12_both
  rw [if_pos (o_138 a.sg), a.isO, Option.bind_some]
  refine then_post (g := fun x t' => (tkS T).lp op 2 (T.2 - t') x t') (G := fun v h => fX12_both_5 N (gX12_sum N i) N 138 v h) (hop i (by omega) t n l q h a) (fun x t' h1 ex a1 nx sx b1 b2 => both_loop (hop i (by omega)) hA hN (T.2 - t') N x t' t n l q h1 (by omega) (by omega) a.2.2.2.2.2.2.1 a1 nx sx b1 b2) (fun w n' l' v h2 a2 hn' => ?_) a.2.2.2.2.2.2.1
  obtain ⟨m', hm'⟩ : ∃ m', N = m' + 1 := ⟨N - 1, by omega⟩
  show fX12_both_5 N (gX12_sum N i) N 138 v h2 = some (v, h2)
  rw [show fX12_both_5 N (gX12_sum N i) N = fX12_both_5 N (gX12_sum N i) (m' + 1) from congrArg _ hm']
  rw [fX12_both_5, e_isSign _ a2.1, Option.bind_some, if_pos rfl]
theorem expr_run {T : Txt} {N J r : Nat} {op : Nat → Pr Tr} (hop : RunA T N J 258 op r) (hA : (tkS T).Adv op) (hN : 3200 ≤ N) : RunA T N (J + 1) 257 (fun t => Pr.bind (op t) fun x t' => (tkS T).lp op 1 (T.2 - t') x t') r := by
  intro j hj t n l q h a
  obtain ⟨i, rfl⟩ : ∃ i, j = i + 1 := ⟨j - 1, by omega⟩
  have hp := a.P_le
  rw [rc_257 N i h]
  unfold fX12_expression
  rw [if_pos (o_138 a.sg), a.isO, Option.bind_some]
  refine then_post (g := fun x t' => (tkS T).lp op 1 (T.2 - t') x t') (G := fun v h => fX12_expression_5 N (gX12_sum N i) N 138 v h) (hop i (by omega) t n l q h a) (fun x t' h1 ex a1 nx sx b1 b2 => expr_loop (hop i (by omega)) hA hN (T.2 - t') N x t' t n l q h1 (by omega) (by omega) a.2.2.2.2.2.2.1 a1 nx sx b1 b2) (fun w n' l' v h2 a2 hn' => ?_) a.2.2.2.2.2.2.1
  obtain ⟨m', hm'⟩ : ∃ m', N = m' + 1 := ⟨N - 1, by omega⟩
  show fX12_expression_5 N (gX12_sum N i) N 138 v h2 = some (v, h2)
  rw [show fX12_expression_5 N (gX12_sum N i) N = fX12_expression_5 N (gX12_sum N i) (m' + 1) from congrArg _ hm']
  rw [fX12_expression_5, e_isSign _ a2.1, Option.bind_some, if_pos rfl]
theorem Tks.lp_unf (S : Tks) (s : Nat → Pr Tr) {l : Nat} (f : Nat) (x : Tr) (t : Nat) (hl : l ≠ 0) (hf : S.E ≤ t + f) : S.lp s l f x t = if lvl (S.K t) ≠ l then ok x t
    else if S.K t = 21 then (if S.K (t + 1) = 22 then ok (eUn 16 0 (t + 1) x) (t + 2) else no (S.P (t + 1)))
    else Pr.bind (s (t + 1)) fun y t' => if onceL l then ok (mk2 (S.K t) x y) t' else Tks.lp S s l (f - 1) (mk2 (S.K t) x y) t' := by
  cases f with
  | zero => rw [if_pos (by rw [S.end0 t (by omega), lvl_0]; exact fun z => hl z.symm)]; rfl
  | succ f => exact Tks.lp_succ S s l f x t
theorem equal_run {T : Txt} {N J r : Nat} {op : Nat → Pr Tr} (hop : RunA T N J 260 op r) (hA : (tkS T).Adv op) (hN : 3200 ≤ N) : RunA T N (J + 2) 259 (fun t => Pr.bind (op t) fun x t' => (tkS T).lp op 3 (T.2 - t') x t') r := by
  intro j hj t n l q h a
  obtain ⟨i, rfl⟩ : ∃ i, j = i + 2 := ⟨j - 2, by omega⟩
  have hp := a.P_le
  rw [rc_259 N (i + 1) h]
  unfold fX12_equal
  rw [if_pos (o_138 a.sg), a.isO, Option.bind_some]
  refine then_post (g := fun x t' => (tkS T).lp op 3 (T.2 - t') x t') (G := fun v h => (fX12_isSign N 138 317 h).bind fun q5 => if q5.1 = 0 then ((fX12_isSign N 138 289 q5.2).bind fun q7 => if q7.1 = 0 then some (v, q7.2) else fX12_equal_25 N (gX12_sum N (i + 1)) 138 v q7.2) else fX12_equal_25 N (gX12_sum N (i + 1)) 138 v q5.2) (hop (i + 1) (by omega) t n l q h a) (fun x t' h1 ex a1 nx sx b1 b2 => ?_) (fun w n' l' v h2 a2 hn' => ?_) a.2.2.2.2.2.2.1
  · have go : ∀ K, tkK T t' = K → (K = 128 ∨ K = 129) → PostE T ((tkS T).lp op 3 (T.2 - t') x t') t r n l q h1 (fX12_equal_25 N (gX12_sum N (i + 1)) 138 (Int32.ofNat (n + sz x - 1)) h1) := by
      intro K hK hs
      have h9 : isS9 K := by unfold isS9; rcases hs with z | z <;> simp [z]
      have hl : lvl K = 3 := by rcases hs with z | z <;> rw [z] <;> decide
      have hM : sgM (sgV K) = 260 := by rcases hs with z | z <;> rw [z] <;> decide
      rw [Tks.lp_unf (tkS T) op _ x t' (by decide) (by show T.2 ≤ t' + (T.2 - t'); omega)]
      show PostE T (if lvl (tkK T t') ≠ 3 then ok x t' else if tkK T t' = 21 then _ else Pr.bind (op (t' + 1)) fun y u => ok (mk2 (tkK T t') x y) u) t r n l q h1 _
      rw [hK, if_neg (show ¬ lvl K ≠ 3 from fun z => z hl), if_neg (s9_row h9).2.2.1]
      unfold fX12_equal_25
      rw [a1.isO, Option.bind_some, bind_pair]
      exact signed_post a1 hK h9 (by rw [hM]; exact hop i (by omega)) hN nx sx b1 b2 a.2.2.2.2.2.2.1
    show PostE T _ t r n l q h1 ((fX12_isSign N 138 317 h1).bind _)
    rw [r_isSign a1.1 (k := 128) (by unfold isSK isSgn; simp) (by decide), Option.bind_some]
    dsimp only
    by_cases k1 : tkK T t' = 128
    · rw [if_pos k1, if_neg (by decide)]
      exact go 128 k1 (by simp)
    rw [if_neg k1, if_pos rfl, r_isSign a1.1 (k := 129) (by unfold isSK isSgn; simp) (by decide), Option.bind_some]
    dsimp only
    by_cases k2 : tkK T t' = 129
    · rw [if_pos k2, if_neg (by decide)]
      exact go 129 k2 (by simp)
    rw [if_neg k2, if_pos rfl, Tks.lp_unf (tkS T) op _ x t' (by decide) (by show T.2 ≤ t' + (T.2 - t'); omega), if_pos (show lvl ((tkS T).K t') ≠ 3 from fun z => (lvl_3 (k := tkK T t') z).elim k1 k2)]
    exact stay_post a1 nx sx b1 b2
  · show (fX12_isSign N 138 317 h2).bind _ = some (v, h2)
    rw [e_isSign _ a2.1, Option.bind_some, if_pos rfl, e_isSign _ a2.1, Option.bind_some, if_pos rfl]
/-- a fork of one part -/
theorem sz_un {k : Nat} (v w : Nat) (x : Tr) (hk : k ≠ 50 ∧ k ≠ 70) : sz (eUn k v w x) = sz x + 1 := by
  unfold eUn
  rw [sz_nd, if_neg (by omega), sz_nl]
theorem ls_un {k : Nat} (v w : Nat) (x : Tr) (hk : k ≠ 30) : ls (eUn k v w x) = ls x := by
  unfold eUn
  rw [ls_nd, if_neg hk, ls_nl]
  omega
theorem NE_un {T : Txt} {h : pH} (hs : Sg h) {k v w n l : Nat} {x : Tr} {kk c : Int32} (h1 : NE T h x n l) (sx : 1 ≤ sz x) (hk : k ≠ 30 ∧ k ≠ 50 ∧ k ≠ 70) (hkk : kk = nK k x) (hc : ofOk T h k v w c) : NE T (ndH h (n + sz x) kk (Int32.ofNat (n + sz x - 1)) 0 c) (eUn k v w x) n l := by
  obtain ⟨r1, r2, r3, r4, r5⟩ := ndH_rd hs (n + sz x) kk (Int32.ofNat (n + sz x - 1)) 0 c
  have f := ndH_fr h (n + sz x) (l + ls x) 0 kk (Int32.ofNat (n + sz x - 1)) 0 c
  unfold eUn
  rw [NE_nd]
  refine ⟨NE.fr f x n l (by omega) (by omega) h1, NE_nl _ _ _ _, Or.inr (Or.inr ⟨?_, ?_, ?_, ?_, fun z => absurd z hk.1⟩)⟩
  · rw [sz_nl, Nat.add_zero, r1, hkk]
  · rw [sz_nl, Nat.add_zero, r2]
    unfold n1
    rw [if_neg hk.1, if_neg (by omega)]
  · rw [sz_nl, Nat.add_zero, r3]
    unfold n2
    rw [if_neg hk.1, if_pos sz_nl]
  · rw [sz_nl, Nat.add_zero, r4]
    exact hc.le f.2
/-- behind is, as: a name, and the node -/
theorem nameun_post {T : Txt} {N t0 t1 r n l q k : Nat} {h h1 : pH} {x : Tr} {kk : Int32} (a1 : At T t1 r (n + sz x) (l + ls x) q h1) (f1 : Fr (n + sz x) (l + ls x) q h h1) (hx : NE T h x n l) (sx : 1 ≤ sz x) (b1 : sz x + tkP T t0 + 1 ≤ tkP T t1) (b2 : ls x + tkP T t0 ≤ tkP T t1) (hn0 : n ≤ tkP T t0) (hN : 3200 ≤ N) (hk : k = 15 ∨ k = 16) (hkk : kk = nK k x) : PostE T (if tkK T t1 = 22 then ok (eUn k 0 t1 x) (t1 + 1) else no (tkP T t1)) t0 r n l q h ((fX12_name N 138 h1).bind fun z => fX12_node N 138 kk (Int32.ofNat (n + sz x - 1)) 0 z.1 z.2) := by
  by_cases hK : tkK T t1 = 22
  · obtain ⟨h2, v, e2, nm, a2, f2⟩ := a1.name1 hN hK
    have hm := tk_mono T t1 (by rw [hK]; decide)
    rw [if_pos hK, PostE_ok, e2, Option.bind_some, sz_un 0 t1 x (by omega), ls_un 0 t1 x (by omega)]
    dsimp only
    obtain ⟨e3, a3⟩ := a2.node (N := N) (by omega) kk (Int32.ofNat (n + sz x - 1)) 0 v
    have f12 := f1.trans f2
    rw [show n + (sz x + 1) - 1 = n + sz x by omega, show n + (sz x + 1) = n + sz x + 1 by omega]
    refine ⟨_, e3, a3, ?_, ?_, by omega, by omega, by omega⟩
    · refine NE_un a2.sg (NE.fr f12 x n l (Nat.le_refl _) (Nat.le_refl _) hx) sx (by omega) hkk ?_
      unfold ofOk
      rw [if_neg (by omega), if_pos (by omega)]
      exact nm.le f2.2
    · exact (f12.mono (by omega) (by omega) (Nat.le_refl _)).trans ((ndH_fr h2 _ (l + ls x) q _ _ _ _).mono (by omega) (by omega) (Nat.le_refl _))
  · obtain ⟨h2, e2, a2, f2⟩ := a1.name0 (N := N) hK
    have hw := a2.1.2.1
    have hb := a1.2.2.2.2.2.2
    rw [if_neg hK, PostE_no, e2, Option.bind_some]
    dsimp only
    obtain ⟨e3, a3⟩ := a2.node (N := N) (by omega) kk (Int32.ofNat (n + sz x - 1)) 0 (-1)
    have f12 := f1.trans f2
    exact ⟨_, _, n + sz x + 1, l + ls x, e3, a3, (f12.mono (by omega) (by omega) (Nat.le_refl _)).trans ((ndH_fr h2 _ (l + ls x) q _ _ _ _).mono (by omega) (by omega) (Nat.le_refl _)), by omega, by omega, by omega, by omega, by omega⟩
theorem related_run {T : Txt} {N J r : Nat} {op : Nat → Pr Tr} (hop : RunA T N J 261 op r) (hA : (tkS T).Adv op) (hN : 3200 ≤ N) : RunA T N (J + 2) 260 (fun t => Pr.bind (op t) fun x t' => (tkS T).lp op 4 (T.2 - t') x t') r := by
  intro j hj t n l q h a
  obtain ⟨i, rfl⟩ : ∃ i, j = i + 2 := ⟨j - 2, by omega⟩
  have hp := a.P_le
  rw [rc_260 N (i + 1) h]
  unfold fX12_related
  rw [if_pos (o_138 a.sg), a.isO, Option.bind_some]
  refine then_post (g := fun x t' => (tkS T).lp op 4 (T.2 - t') x t') (G := fun v h => (fX12_isSign N 138 60 h).bind fun q5 => if q5.1 = 0 then ((fX12_isSign N 138 316 q5.2).bind fun q7 => if q7.1 = 0 then ((fX12_isKey N 138 21 q7.2).bind fun q9 => if q9.1 = 0 then some (v, q9.2) else (fX12_next N 138 q9.2).bind fun h11 => (fX12_name N 138 h11).bind fun q12 => (fX12_node N 138 11 v 0 q12.1 q12.2).bind fun q13 => some (q13.1, q13.2)) else fX12_related_24 N (gX12_sum N (i + 1)) 138 v q7.2) else fX12_related_24 N (gX12_sum N (i + 1)) 138 v q5.2) (hop (i + 1) (by omega) t n l q h a) (fun x t' h1 ex a1 nx sx b1 b2 => ?_) (fun w n' l' v h2 a2 hn' => ?_) a.2.2.2.2.2.2.1
  · have go : ∀ K, tkK T t' = K → (K = 60 ∨ K = 130) → PostE T ((tkS T).lp op 4 (T.2 - t') x t') t r n l q h1 (fX12_related_24 N (gX12_sum N (i + 1)) 138 (Int32.ofNat (n + sz x - 1)) h1) := by
      intro K hK hs
      have h9 : isS9 K := by unfold isS9; rcases hs with z | z <;> simp [z]
      have hl : lvl K = 4 := by rcases hs with z | z <;> rw [z] <;> decide
      have hM : sgM (sgV K) = 261 := by rcases hs with z | z <;> rw [z] <;> decide
      rw [Tks.lp_unf (tkS T) op _ x t' (by decide) (by show T.2 ≤ t' + (T.2 - t'); omega)]
      show PostE T (if lvl (tkK T t') ≠ 4 then ok x t' else if tkK T t' = 21 then _ else Pr.bind (op (t' + 1)) fun y u => ok (mk2 (tkK T t') x y) u) t r n l q h1 _
      rw [hK, if_neg (show ¬ lvl K ≠ 4 from fun z => z hl), if_neg (s9_row h9).2.2.1]
      unfold fX12_related_24
      rw [a1.isO, Option.bind_some, bind_pair]
      exact signed_post a1 hK h9 (by rw [hM]; exact hop i (by omega)) hN nx sx b1 b2 a.2.2.2.2.2.2.1
    show PostE T _ t r n l q h1 ((fX12_isSign N 138 60 h1).bind _)
    rw [r_isSign a1.1 (k := 60) (by unfold isSK isSgn; simp) (by decide), Option.bind_some]
    dsimp only
    by_cases k1 : tkK T t' = 60
    · rw [if_pos k1, if_neg (by decide)]
      exact go 60 k1 (by simp)
    rw [if_neg k1, if_pos rfl, r_isSign a1.1 (k := 130) (by unfold isSK isSgn; simp) (by decide), Option.bind_some]
    dsimp only
    by_cases k2 : tkK T t' = 130
    · rw [if_pos k2, if_neg (by decide)]
      exact go 130 k2 (by simp)
    rw [if_neg k2, if_pos rfl, show (21 : Int32) = Int32.ofNat 21 from rfl, r_isKey a1.1 (by decide) (by decide), Option.bind_some, Tks.lp_unf (tkS T) op _ x t' (by decide) (by show T.2 ≤ t' + (T.2 - t'); omega)]
    dsimp only
    by_cases k3 : tkK T t' = 21
    · rw [if_pos (show tkK T t' = Int32.ofNat 21 from k3), if_neg (show ¬ (1 : Int32) = 0 by decide)]
      obtain ⟨h2, e2, a2, f2⟩ := a1.next hN (by rw [k3]; decide) (by rw [k3]; decide)
      have hm := tk_mono T t' (by rw [k3]; decide)
      show PostE T (if lvl (tkK T t') ≠ 4 then ok x t' else if tkK T t' = 21 then (if tkK T (t' + 1) = 22 then ok (eUn 16 0 (t' + 1) x) (t' + 1 + 1) else no (tkP T (t' + 1))) else _) t r n l q h1 _
      rw [if_neg (show ¬ lvl (tkK T t') ≠ 4 from fun z => z (by rw [k3]; decide)), if_pos k3, e2, Option.bind_some]
      simp only [bind_pair]
      exact nameun_post a2 f2 nx sx (by omega) (by omega) a.2.2.2.2.2.2.1 hN (by omega) rfl
    · rw [if_neg (show ¬ tkK T t' = Int32.ofNat 21 from k3), if_pos rfl, if_pos (show lvl ((tkS T).K t') ≠ 4 from fun z => (lvl_4 (k := tkK T t') z).elim k1 (fun z => z.elim k2 k3))]
      exact stay_post a1 nx sx b1 b2
  · show (fX12_isSign N 138 60 h2).bind _ = some (v, h2)
    rw [e_isSign _ a2.1, Option.bind_some, if_pos rfl, e_isSign _ a2.1, Option.bind_some, if_pos rfl, e_isKey _ a2.1, Option.bind_some, if_pos rfl]
