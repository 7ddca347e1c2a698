/-! ===== CHAINS, ONES, AND THE WHOLE EXPRESSION ===== -/
/-- no bare part of a call -/
def vK (x : Tr) : Prop := kd x ≠ 50 ∧ kd x ≠ 70
def Tks.NV (_ : Tks) (p : Nat → Pr Tr) : Prop := ∀ t x t', p t = ok x t' → vK x
theorem vK_nd {k v w : Nat} {a b : Tr} (h : k ≠ 50 ∧ k ≠ 70) : vK (nd k v w a b) := h
theorem opc_row (k : Int32) : opc k ≠ 50 ∧ opc k ≠ 70 := by
  unfold opc
  repeat' split
  all_goals decide
theorem Tks.lp_nv {S : Tks} {s : Nat → Pr Tr} (l : Nat) : ∀ (f : Nat) (x : Tr) (t : Nat) (y : Tr) (t' : Nat), vK x → S.lp s l f x t = ok y t' → vK y
  | 0, x, t, y, t', hx, h => by
    obtain ⟨h1, h2⟩ := ok_inj (show ok x t = ok y t' from h)
    exact h1 ▸ hx
  | f + 1, x, t, y, t', hx, h => by
    rw [Tks.lp_succ] at h
    split at h
    · obtain ⟨h1, h2⟩ := ok_inj h
      exact h1 ▸ hx
    · split at h
      · split at h
        · obtain ⟨h1, h2⟩ := ok_inj h
          exact h1 ▸ vK_nd (by decide)
        · exact (no_ok h).elim
      · obtain ⟨a, u, h1, h2⟩ := Pr.bind_eq_ok h
        split at h2
        · obtain ⟨h3, h4⟩ := ok_inj h2
          exact h3 ▸ vK_nd (opc_row _)
        · exact Tks.lp_nv l f _ u y t' (vK_nd (opc_row _)) h2
theorem Tks.lv_nv {S : Tks} {s : Nat → Pr Tr} (hs : S.NV s) : ∀ i, S.NV (S.lv s i)
  | 0 => hs
  | i + 1 => by
    intro t x t' h
    obtain ⟨a, u, h1, h2⟩ := Pr.bind_eq_ok (show (S.lv s i t).bind _ = _ from h)
    exact Tks.lp_nv _ _ _ _ _ _ (Tks.lv_nv hs i _ _ _ h1) h2
theorem Tks.brk_nv {S : Tks} {sub : Nat → Pr Tr} (hs : S.NV sub) (r : Nat) (a b : Int32) : S.NV (S.brk r sub a b) := by
  intro t x t' h
  unfold Tks.brk at h
  split at h
  · exact (no_ok h).elim
  · obtain ⟨y, u, h1, h2⟩ := Pr.bind_eq_ok h
    split at h2
    · obtain ⟨h6, h7⟩ := ok_inj h2
      exact h6 ▸ hs _ _ _ h1
    · exact (no_ok h2).elim
theorem Tks.first_nv {S : Tks} {sub : Nat → Pr Tr} (hs : S.NV sub) (r : Nat) : S.NV (S.first r sub) := by
  intro t x t' h
  unfold Tks.first at h
  repeat' split at h
  all_goals first
    | (exact (no_ok h).elim)
    | (obtain ⟨h6, h7⟩ := ok_inj h; exact h6 ▸ vK_nd (by decide))
    | skip
  · obtain ⟨y, u, h1, h2⟩ := Pr.bind_eq_ok h
    obtain ⟨h6, h7⟩ := ok_inj h2
    exact h6 ▸ vK_nd (by decide)
  · exact Tks.brk_nv hs _ _ _ _ _ _ h
  · obtain ⟨y, u, h1, h2⟩ := Pr.bind_eq_ok h
    obtain ⟨h6, h7⟩ := ok_inj h2
    exact h6 ▸ vK_nd (by decide)
theorem Tks.chn_nv {S : Tks} {sub : Nat → Pr Tr} (r : Nat) : ∀ (f : Nat) (x : Tr) (t : Nat) (y : Tr) (t' : Nat), vK x → S.chn r sub f x t = ok y t' → vK y
  | 0, x, t, y, t', hx, h => by
    obtain ⟨h1, h2⟩ := ok_inj (show ok x t = ok y t' from h)
    exact h1 ▸ hx
  | f + 1, x, t, y, t', hx, h => by
    unfold Tks.chn at h
    split at h
    · split at h
      · exact (no_ok h).elim
      · split at h
        · obtain ⟨a, u, h3, h4⟩ := Pr.bind_eq_ok h
          exact Tks.chn_nv r f _ u y t' (vK_nd (by decide)) h4
        · exact Tks.chn_nv r f _ _ y t' (vK_nd (by decide)) h
    · split at h
      · obtain ⟨a, u, h3, h4⟩ := Pr.bind_eq_ok h
        exact Tks.chn_nv r f _ u y t' (vK_nd (by decide)) h4
      · split at h
        · split at h
          · exact (no_ok h).elim
          · exact Tks.chn_nv r f _ _ y t' (vK_nd (by decide)) h
        · obtain ⟨h1, h2⟩ := ok_inj h
          exact h1 ▸ hx
theorem Tks.chain_nv {S : Tks} {sub : Nat → Pr Tr} (hs : S.NV sub) (r : Nat) : S.NV (S.chain r sub) := by
  intro t x t' h
  obtain ⟨y, u, h1, h2⟩ := Pr.bind_eq_ok h
  exact Tks.chn_nv _ _ _ _ _ _ (Tks.first_nv hs _ _ _ _ h1) h2
theorem Tks.sgl_nv (S : Tks) : ∀ r, S.NV (S.sgl r)
  | 0 => by
    intro t x t' h
    unfold Tks.sgl at h
    split at h
    · exact (no_ok h).elim
    · exact Tks.chain_nv (fun t x t' h => (no_ok h).elim) 0 _ _ _ h
  | r + 1 => by
    intro t x t' h
    unfold Tks.sgl at h
    split at h
    · obtain ⟨y, u, h1, h2⟩ := Pr.bind_eq_ok h
      obtain ⟨h6, h7⟩ := ok_inj h2
      refine h6 ▸ vK_nd ?_
      split <;> decide
    · exact Tks.chain_nv (Tks.lv_nv (Tks.sgl_nv S r) 6) _ _ _ _ h
theorem Tks.expr_nv (S : Tks) (r : Nat) : S.NV (S.expr r) := Tks.lv_nv (Tks.sgl_nv S r) 6
theorem vK.row {x : Tr} (h : vK x) (hs : 1 ≤ sz x) (n : Nat) : hdR x n = Int32.ofNat (n + sz x - 1) ∧ argR x n = [] ∧ nK 30 x = 8 := by
  revert h hs
  refine Tr.rec2 (P := fun x => vK x → 1 ≤ sz x → hdR x n = Int32.ofNat (n + sz x - 1) ∧ argR x n = [] ∧ nK 30 x = 8) ?_ ?_ x
  · intro k v w a b _ _ h hs
    have hk : k ≠ 50 ∧ k ≠ 70 := h
    rw [hdR_nd, argR_nd, sz_nd, if_neg hk.2, if_neg hk.1, if_neg hk.2, if_neg (by omega)]
    refine ⟨by rw [show n + (sz a + sz b + 1) - 1 = n + sz a + sz b by omega], rfl, ?_⟩
    unfold nK
    rw [ownT_nd, if_neg hk.2, show (k == 50) = false from by simp [hk.1]]
    rfl
  · intro e he _ hs
    exfalso
    unfold sz at hs
    split at hs
    · exact he _ _ _ _ _ rfl
    · omega
/-- one more behind a FIRST, and the rest -/
theorem chain_loop {T : Txt} {N j r : Nat} {sub : Nat → Pr Tr} (hop : ∀ r', r = r' + 1 → RunE T N j 257 sub r' ∧ RunE T N (j + 1) 257 sub r') (hA : (tkS T).Adv sub) (hN : 3200 ≤ N) : ∀ (f m : Nat) (x : Tr) (t t0 n l q : Nat) (h : pH), T.2 ≤ t + f → f < m → n ≤ tkP T t0 → l ≤ tkP T t0 → vK x → At T t r (n + sz x) (l + ls x) q h → NE T h x n l → 1 ≤ sz x → sz x + tkP T t0 ≤ tkP T t → ls x + tkP T t0 ≤ tkP T t → PostE T ((tkS T).chn r sub f x t) t0 r n l q h (fX12_chain_5 N (gX12_sum N (j + 1)) m 138 (Int32.ofNat (n + sz x - 1)) h)
  | 0, m + 1, x, t, t0, n, l, q, h, hf, hm, hn, hl, vx, a, hx, sx, b1, b2 => by
    have hK : tkK T t = 0 := tk_end0 T t (by omega)
    have e9 := a.1.2.2.2.2.2.2.2.2.2.2
    rw [fX12_chain_5, g_138_9 a.sg, Option.bind_some, e9, if_neg (show ¬ (0 : Int32) ≤ -1 by decide), r_isSign a.1 (k := 46) (by unfold isSK isSgn; simp) (by decide), if_neg (by rw [hK]; decide), Option.bind_some]
    dsimp only
    rw [if_pos rfl, r_isSign a.1 (k := 91) (by unfold isSK isSgn; simp) (by decide), if_neg (by rw [hK]; decide), Option.bind_some]
    dsimp only
    rw [if_pos rfl, show (20 : Int32) = Int32.ofNat 20 from rfl, r_isKey a.1 (by decide) (by decide), if_neg (by rw [hK]; decide), Option.bind_some]
    dsimp only
    rw [if_pos rfl]
    exact stay_post a hx sx b1 b2
  | f + 1, m + 1, x, t, t0, n, l, q, h, hf, hm, hn, hl, vx, a, hx, sx, b1, b2 => by
    have hP := a.P_le
    have hb3 := a.2.2.2.2.2.2.2.2
    have e9 := a.1.2.2.2.2.2.2.2.2.2.2
    have fin : ∀ (p : Pr Tr) (res : Option (Int32 × pH)), PostE T p t0 r n l q h res → (∀ y t', p = ok y t' → t < t' ∧ vK y) → PostE T (Pr.bind p fun y t' => (tkS T).chn r sub f y t') t0 r n l q h (res.bind fun z => fX12_chain_5 N (gX12_sum N (j + 1)) m 138 z.1 z.2) := by
      intro p res hp hv
      refine then_post (g := fun y t' => (tkS T).chn r sub f y t') (G := fun v h => fX12_chain_5 N (gX12_sum N (j + 1)) m 138 v h) hp (fun y t' h2 ey a2 ny sy c1 c2 => chain_loop hop hA hN f m y t' t0 n l q h2 (by have := (hv y t' ey).1; omega) (by omega) hn hl (hv y t' ey).2 a2 ny sy c1 c2) (fun w n' l' v h2 a2 hn' => ?_) hn
      obtain ⟨m', rfl⟩ : ∃ m', m = m' + 1 := ⟨m - 1, by omega⟩
      show fX12_chain_5 N (gX12_sum N (j + 1)) (m' + 1) 138 v h2 = some (v, h2)
      rw [fX12_chain_5, g_138_9 a2.sg, Option.bind_some, a2.1.2.2.1, if_pos (i_nonneg (by have := a2.1.2.1; omega))]
    have un : ∀ (k : Nat) (kk v : Int32) (t1 : Nat) (h2 : pH), (k = 9 ∨ k = 15) → kk = nK k x → At T (t1 + 1) r (n + sz x) (l + ls x) q h2 → Fr (n + sz x) (l + ls x) q h h2 → NmIs T h2 t1 v → tkP T t + 2 ≤ tkP T (t1 + 1) → PostE T (ok (eUn k 0 t1 x) (t1 + 1)) t0 r n l q h (fX12_node N 138 kk (Int32.ofNat (n + sz x - 1)) 0 v h2) := by
      intro k kk v t1 h2 hk hkk a2 f2 nm hb
      obtain ⟨e3, a3⟩ := a2.node (N := N) (by omega) kk (Int32.ofNat (n + sz x - 1)) 0 v
      rw [PostE_ok, sz_un 0 t1 x (by omega), ls_un 0 t1 x (by omega)]
      rw [show n + (sz x + 1) - 1 = n + sz x by omega, show n + (sz x + 1) = n + sz x + 1 by omega]
      refine ⟨_, e3, a3, NE_un a2.sg (NE.fr f2 x n l (Nat.le_refl _) (Nat.le_refl _) hx) sx (by omega) hkk ?_, (f2.mono (by omega) (by omega) (Nat.le_refl _)).trans ((ndH_fr h2 _ (l + ls x) q _ _ _ _).mono (by omega) (by omega) (Nat.le_refl _)), by omega, by omega, by omega⟩
      unfold ofOk
      rw [if_neg (by omega), if_pos (by omega)]
      exact nm
    have unE : ∀ (kk v : Int32) (t1 : Nat) (h2 : pH), Er (tkP T t1) (n + sz x) (l + ls x) q h2 → Fr (n + sz x) (l + ls x) q h h2 → tkP T t + 1 ≤ tkP T t1 → PostE T (no (tkP T t1)) t0 r n l q h (fX12_node N 138 kk (Int32.ofNat (n + sz x - 1)) 0 v h2) := by
      intro kk v t1 h2 a2 f2 hb
      have hw := a2.1.2.1
      obtain ⟨e3, a3⟩ := a2.node (N := N) (by omega) kk (Int32.ofNat (n + sz x - 1)) 0 v
      rw [PostE_no]
      exact ⟨_, _, n + sz x + 1, l + ls x, e3, a3, (f2.mono (by omega) (by omega) (Nat.le_refl _)).trans ((ndH_fr h2 _ (l + ls x) q _ _ _ _).mono (by omega) (by omega) (Nat.le_refl _)), by omega, by omega, by omega, by omega, by omega⟩
    rw [fX12_chain_5, g_138_9 a.sg, Option.bind_some, e9, if_neg (show ¬ (0 : Int32) ≤ -1 by decide), r_isSign a.1 (k := 46) (by unfold isSK isSgn; simp) (by decide), Option.bind_some]
    dsimp only
    show PostE T (if tkK T t = 46 then (if tkK T (t + 1) ≠ 22 then no (tkP T (t + 1)) else if tkK T (t + 2) = 40 then Pr.bind ((tkS T).args r sub x (t + 2)) fun a t' => (tkS T).chn r sub f (eCall a.2 (t + 1) a.1) t' else (tkS T).chn r sub f (eUn 9 0 (t + 1) x) (t + 2)) else if tkK T t = 91 then Pr.bind ((tkS T).brk r sub 91 93 t) fun y t' => (tkS T).chn r sub f (eBin 12 x y) t' else if tkK T t = 20 then (if tkK T (t + 1) ≠ 22 then no (tkP T (t + 1)) else (tkS T).chn r sub f (eUn 15 0 (t + 1) x) (t + 2)) else ok x t) t0 r n l q h _
    by_cases k46 : tkK T t = 46
    · rw [if_pos k46, if_pos k46, if_neg (show ¬ (1 : Int32) = 0 by decide)]
      unfold fX12_chain_39
      rw [r_isSign a.1 (k := 46) (by unfold isSK isSgn; simp) (by decide), if_pos k46, Option.bind_some]
      dsimp only
      rw [if_neg (show ¬ (1 : Int32) = 0 by decide)]
      obtain ⟨h1, e1, a1, f1⟩ := a.next hN (by rw [k46]; decide) (by rw [k46]; decide)
      have hm1 := tk_mono T t (by rw [k46]; decide)
      rw [e1, Option.bind_some]
      by_cases k22 : tkK T (t + 1) = 22
      · obtain ⟨h2, v, e2, nm, a2, f2⟩ := a1.name1 hN k22
        have hm2 : tkP T (t + 1) < tkP T (t + 2) := tk_mono T (t + 1) (by rw [k22]; decide)
        have hm3 : tkP T (t + 1) < tkP T (t + 1 + 1) := hm2
        have f12 := f1.trans f2
        rw [if_neg (by rw [k22]; simp), e2, Option.bind_some]
        dsimp only
        rw [r_isSign a2.1 (k := 40) (by unfold isSK isSgn; simp) (by decide), Option.bind_some]
        dsimp only
        by_cases k40 : tkK T (t + 1 + 1) = 40
        · rw [if_pos (show tkK T (t + 2) = 40 from k40), if_pos k40, if_neg (show ¬ (1 : Int32) = 0 by decide), a2.isO, Option.bind_some]
          obtain ⟨v1, v2, v3⟩ := vx.row sx n
          have cp := called_post (s := x) (w := t + 1) (kk := 8) (id := v) (t := t + 2) (t0 := t0) (N := N) (j := j) (fun r' z => (hop r' z).1) hA hN hn hl k40 a2 (NE.fr f12 x n l (Nat.le_refl _) (Nat.le_refl _) hx) v2 v3.symm (nm.le f2.2) (by omega) (by omega)
          rw [v1] at cp
          have cp := fin _ _ (PostE_back cp (f12.mono (by omega) (by omega) (Nat.le_refl _))) (fun y t' ey => by
            obtain ⟨y1, u1, z1, z2⟩ := Pr.bind_eq_ok ey
            obtain ⟨z3, z4⟩ := ok_inj z2
            have := Tks.args_adv hA _ _ _ _ _ z1
            exact ⟨by omega, z3 ▸ vK_nd (by decide)⟩)
          rw [Pr.bind_assoc] at cp
          exact cp
        · rw [if_neg (show ¬ tkK T (t + 2) = 40 from k40), if_neg k40, if_pos rfl]
          exact fin _ _ (un 9 6 v (t + 1) h2 (by omega) rfl a2 f12 (nm.le f2.2) (by omega)) (fun y t' ey => by
            obtain ⟨z3, z4⟩ := ok_inj ey
            exact ⟨by omega, z3 ▸ vK_nd (by decide)⟩)
      · obtain ⟨h2, e2, a2, f2⟩ := a1.name0 (N := N) k22
        rw [if_pos k22, e2, Option.bind_some]
        dsimp only
        rw [e_isSign _ a2.1, Option.bind_some]
        dsimp only
        rw [if_pos rfl]
        exact fin _ _ (unE 6 (-1) (t + 1) h2 a2 (f1.trans f2) (by omega)) (fun y t' ey => (no_ok ey).elim)
    rw [if_neg k46, if_neg k46, if_pos rfl, r_isSign a.1 (k := 91) (by unfold isSK isSgn; simp) (by decide), Option.bind_some]
    dsimp only
    by_cases k91 : tkK T t = 91
    · rw [if_pos k91, if_pos k91, if_neg (show ¬ (1 : Int32) = 0 by decide)]
      unfold fX12_chain_39
      rw [r_isSign a.1 (k := 46) (by unfold isSK isSgn; simp) (by decide), if_neg k46, Option.bind_some]
      dsimp only
      rw [if_pos rfl, r_isSign a.1 (k := 91) (by unfold isSK isSgn; simp) (by decide), if_pos k91, Option.bind_some]
      dsimp only
      rw [if_neg (show ¬ (1 : Int32) = 0 by decide)]
      have key : PostE T (Pr.bind ((tkS T).brk r sub 91 93 t) fun y t' => ok (eBin 12 x y) t') t0 r n l q h ((fX12_opens N 138 1 h).bind fun q10 => if q10.1 = 0 then (fX12_closes N 138 93 q10.2).bind fun h1 => fX12_node N 138 7 (Int32.ofNat (n + sz x - 1)) (-1) 0 h1 else (if isO q10.2 138 12 = true then some () else none).bind fun _ => (rcI (gX12_sum N (j + 1)) 257 [.ref 138] q10.2).bind fun q13 => (fX12_closes N 138 93 q13.2).bind fun h1 => fX12_node N 138 7 (Int32.ofNat (n + sz x - 1)) q13.1 0 h1) := by
        show PostE T (Pr.bind (if tkK T t ≠ 91 ∨ r = 0 then no (tkP T t) else Pr.bind (sub (t + 1)) fun x t' => if tkK T t' = 93 then ok x (t' + 1) else no (tkP T t')) fun y t' => ok (eBin 12 x y) t') t0 r n l q h _
        by_cases hc : r = 0
        · rw [if_pos (Or.inr hc), Pr.bind_no]
          obtain ⟨h1, e1, a1, f1⟩ := a.opens0 (N := N) 1 (Or.inr hc)
          obtain ⟨h2, e2, a2, f2⟩ := a1.closes (N := N) 93
          have hw := a2.1.2.1
          obtain ⟨e3, a3⟩ := a2.node (N := N) (by omega) 7 (Int32.ofNat (n + sz x - 1)) (-1) 0
          rw [e1, Option.bind_some]
          dsimp only
          rw [if_pos rfl, e2, Option.bind_some, e3, PostE_no]
          exact ⟨_, _, n + sz x + 1, l + ls x, rfl, a3, ((f1.trans f2).mono (by omega) (by omega) (Nat.le_refl _)).trans ((ndH_fr h2 _ (l + ls x) q _ _ _ _).mono (by omega) (by omega) (Nat.le_refl _)), by omega, by omega, by omega, by omega, by omega⟩
        · obtain ⟨r', rfl⟩ : ∃ r', r = r' + 1 := ⟨r - 1, by omega⟩
          rw [if_neg (by rw [k91]; simp)]
          have hr := a.2.1
          obtain ⟨h1, e1, a1, f1⟩ := a.opens1 (N := N) (g := 1) (by decide) hN (by rw [k91]; decide) (by rw [k91]; decide)
          have hm := tk_mono T t (by rw [k91]; decide)
          rw [e1, Option.bind_some]
          dsimp only
          rw [if_neg (show ¬ (1 : Int32) = 0 by decide), a1.isO, Option.bind_some]
          have j1 := close_post (N := N) (k := 93) (c := 93) ((hop r' rfl).2 (t + 1) _ _ q h1 a1) hr (by unfold isSK isSgn; simp) (by decide) hN
          have j2 := join_post (N := N) (t := t) (t0 := t0) (k := 12) (K := 7) (c := 0) hx sx b1 b2 hm hn (by omega) rfl rfl f1 j1
          simp only [Option.bind_assoc, Option.bind_some] at j2
          exact j2
      have cp := fin _ _ key (fun y t' ey => by
        obtain ⟨y1, u1, z1, z2⟩ := Pr.bind_eq_ok ey
        obtain ⟨z3, z4⟩ := ok_inj z2
        have := Tks.brk_adv hA _ _ _ (by decide) _ _ _ z1
        exact ⟨by omega, z3 ▸ vK_nd (by decide)⟩)
      rw [Pr.bind_assoc] at cp
      unfold fX12_chain_117
      simp only [Option.bind_assoc] at cp
      have e : ∀ (c : Prop) [Decidable c] (u v : Option (Int32 × pH)) (G : Int32 × pH → Option (Int32 × pH)), (if c then u else v).bind G = if c then u.bind G else v.bind G := fun c _ u v G => by split <;> rfl
      simp only [e, Option.bind_assoc] at cp
      exact cp
    rw [if_neg k91, if_neg k91, if_pos rfl, show (20 : Int32) = Int32.ofNat 20 from rfl, r_isKey a.1 (by decide) (by decide), Option.bind_some]
    dsimp only
    by_cases k20 : tkK T t = Int32.ofNat 20
    · rw [if_pos k20, if_pos k20, if_neg (show ¬ (1 : Int32) = 0 by decide)]
      unfold fX12_chain_39
      rw [r_isSign a.1 (k := 46) (by unfold isSK isSgn; simp) (by decide), if_neg k46, Option.bind_some]
      dsimp only
      rw [if_pos rfl, r_isSign a.1 (k := 91) (by unfold isSK isSgn; simp) (by decide), if_neg k91, Option.bind_some]
      dsimp only
      rw [if_pos rfl]
      obtain ⟨h1, e1, a1, f1⟩ := a.next hN (by rw [k20]; decide) (by rw [k20]; decide)
      have hm1 := tk_mono T t (by rw [k20]; decide)
      rw [e1, Option.bind_some]
      by_cases k22 : tkK T (t + 1) = 22
      · obtain ⟨h2, v, e2, nm, a2, f2⟩ := a1.name1 hN k22
        have hm2 : tkP T (t + 1) < tkP T (t + 2) := tk_mono T (t + 1) (by rw [k22]; decide)
        have hm3 : tkP T (t + 1) < tkP T (t + 1 + 1) := hm2
        rw [if_neg (by rw [k22]; simp), e2, Option.bind_some]
        dsimp only
        exact fin _ _ (un 15 10 v (t + 1) h2 (by omega) rfl a2 (f1.trans f2) (nm.le f2.2) (by omega)) (fun y t' ey => by
          obtain ⟨z3, z4⟩ := ok_inj ey
          exact ⟨by omega, z3 ▸ vK_nd (by decide)⟩)
      · obtain ⟨h2, e2, a2, f2⟩ := a1.name0 (N := N) k22
        rw [if_pos k22, e2, Option.bind_some]
        dsimp only
        exact fin _ _ (unE 10 (-1) (t + 1) h2 a2 (f1.trans f2) (by omega)) (fun y t' ey => (no_ok ey).elim)
    · rw [if_neg k20, if_neg k20, if_pos rfl]
      exact stay_post a hx sx b1 b2
