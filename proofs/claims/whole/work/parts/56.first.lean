/-- ( ARGUMENTS ), and the call -/
theorem called_post {T : Txt} {N j r n l q w t t0 : Nat} {kk id : Int32} {sub : Nat → Pr Tr} {h : pH} {s : Tr} (hop : ∀ r', r = r' + 1 → RunE T N j 257 sub r') (hA : (tkS T).Adv sub) (hN : 3200 ≤ N) (hn0 : n ≤ tkP T t0) (hl0 : l ≤ tkP T t0) (hK : tkK T t = 40) (a : At T t r (n + sz s) (l + ls s) q h) (hs : NE T h s n l) (hi : argR s n = []) (hkk : kk = nK 30 s) (hid : NmIs T h w id) (b1 : sz s + tkP T t0 + 1 ≤ tkP T t) (b2 : ls s + tkP T t0 ≤ tkP T t) :
    PostE T (Pr.bind ((tkS T).args r sub s t) fun a t' => ok (eCall a.2 w a.1) t') t0 r n l q h (rcI (gX12_sum N (j + 1)) 267 [.ref 138, .int kk, .int (hdR s n), .int id] h) := by
  have hP := a.P_le
  rw [rc_267]
  unfold fX12_called
  rw [if_pos (o_138 a.sg)]
  show PostE T (Pr.bind (if tkK T t ≠ 40 ∨ r = 0 then no (tkP T t) else if tkK T (t + 1) = 41 then ok (s, 0) (t + 2) else (tkS T).argl sub (T.2 - t) s 0 (t + 1)) fun a t' => ok (eCall a.2 w a.1) t') t0 r n l q h _
  rcases r with _ | r
  · rw [if_pos (Or.inr rfl)]
    obtain ⟨h1, e1, a1, f1⟩ := a.opens0 (N := N) 1 (Or.inr rfl)
    rw [e1, Option.bind_some]
    dsimp only
    rw [if_pos rfl, Pr.bind_no, PostE_no]
    exact ⟨_, h1, _, _, rfl, a1, f1.mono (by omega) (by omega) (Nat.le_refl _), by omega, by omega, by omega, by omega, by omega⟩
  · rw [if_neg (by rw [hK]; simp)]
    have hr := a.2.1
    obtain ⟨h1, e1, a1, f1⟩ := a.opens1 (N := N) (g := 1) (by decide) hN (by rw [hK]; decide) (by rw [hK]; decide)
    have hm := tk_mono T t (by rw [hK]; decide)
    have hlt : t < T.2 := Tks.lt_of (S := tkS T) (t := t) (by show tkK T t ≠ 0; rw [hK]; decide)
    have hs1 := NE.fr f1 s n l (Nat.le_refl _) (Nat.le_refl _) hs
    rw [e1, Option.bind_some]
    dsimp only
    rw [if_neg (show ¬ (1 : Int32) = 0 by decide), g_138_23 a1.sg, Option.bind_some, a1.2.2.2.2.2.1, r_isSign a1.1 (k := 41) (by unfold isSK isSgn; simp) (by decide), Option.bind_some]
    dsimp only
    unfold fX12_called_30
    refine PostE_back ?_ (f1.mono (by omega) (by omega) (Nat.le_refl _))
    by_cases k41 : tkK T (t + 1) = 41
    · rw [if_pos k41, if_pos k41, if_neg (show ¬ (1 : Int32) = 0 by decide), Pr.bind_ok]
      obtain ⟨m', hm'⟩ : ∃ m', N = m' + 1 := ⟨N - 1, by omega⟩
      rw [show fX12_called_32 N (gX12_sum N j) N = fX12_called_32 N (gX12_sum N j) (m' + 1) from congrArg _ hm', fX12_called_32, if_pos rfl]
      have fin := call91_ok (rc := gX12_sum N j) (t0 := t0) (w := w) (kk := kk) (id := id) (i := 0) a1 hr hN hs1 (by rw [hi]; rfl) (fun b j e => by rw [hi] at e; cases e) hkk (hid.le f1.2) (by omega) (by omega) hn0 hl0
      rw [if_pos k41] at fin
      exact fin
    · rw [if_neg k41, if_neg k41, if_pos rfl]
      exact call_loop (hop r rfl) hA hN hr hn0 hl0 (T.2 - t) N s 0 (t + 1) h1 (by omega) (by omega) (by omega) a1 hs1 (by rw [hi]; rfl) (fun b j e => by rw [hi] at e; cases e) hkk (hid.le f1.2) (by omega) (by omega)
theorem sz_leaf {k : Nat} (v w : Nat) (hk : k ≠ 50 ∧ k ≠ 70) : sz (eLeaf k v w) = 1 := by
  unfold eLeaf
  rw [sz_nd, if_neg (by omega), sz_nl]
theorem ls_leaf {k : Nat} (v w : Nat) (hk : k ≠ 30) : ls (eLeaf k v w) = 0 := by
  unfold eLeaf
  rw [ls_nd, if_neg hk, ls_nl]
theorem leaf_post {T : Txt} {N t0 t1 r n l q k v w : Nat} {h h1 : pH} {kk c : Int32} (a1 : At T t1 r n l q h1) (f1 : Fr n l q h h1) (b1 : tkP T t0 + 1 ≤ tkP T t1) (hn0 : n ≤ tkP T t0) (hk : k ≠ 30 ∧ k ≠ 50 ∧ k ≠ 70) (hkk : kk = nK k nl) (hc : ofOk T h1 k v w c) : PostE T (ok (eLeaf k v w) t1) t0 r n l q h (fX12_node N 138 kk 0 0 c h1) := by
  rw [PostE_ok, sz_leaf v w (by omega), ls_leaf v w (by omega)]
  obtain ⟨e3, a3⟩ := a1.node (N := N) (by omega) kk 0 0 c
  obtain ⟨r1, r2, r3, r4, r5⟩ := ndH_rd a1.sg n kk 0 0 c
  have f := ndH_fr h1 n l q kk 0 0 c
  refine ⟨_, e3, a3, ?_, f1.trans f, Nat.le_refl _, by omega, by omega⟩
  unfold eLeaf
  rw [NE_nd]
  refine ⟨NE_nl _ _ _ _, NE_nl _ _ _ _, Or.inr (Or.inr ⟨?_, ?_, ?_, ?_, fun z => absurd z hk.1⟩)⟩
  · rw [sz_nl, Nat.add_zero, r1, hkk]
  · rw [sz_nl, Nat.add_zero, r2]
    unfold n1
    rw [if_neg hk.1, if_pos sz_nl]
  · rw [sz_nl, Nat.add_zero, r3]
    unfold n2
    rw [if_neg hk.1, if_pos sz_nl]
  · rw [sz_nl, Nat.add_zero, r4]
    exact hc.le f.2
/-- a name's leaf, or a wrong word where a name must stand (then the node all the same) -/
theorem fail_post {T : Txt} {t0 t r n l q : Nat} {h h1 : pH} {v : Int32} (a1 : Er (tkP T t) n l q h1) (f1 : Fr n l q h h1) (b : tkP T t0 ≤ tkP T t) : PostE T (no (tkP T t)) t0 r n l q h (some (v, h1)) := by
  rw [PostE_no]
  exact ⟨v, h1, n, l, rfl, a1, f1, by omega, by omega, b, Nat.le_refl _, Nat.le_refl _⟩
/-- what is read is closed -/
theorem close_post {T : Txt} {N t0 r n l q : Nat} {h : pH} {p : Pr Tr} {k c : Int32} {res : Option (Int32 × pH)} (hp : PostE T p t0 r n l q h res) (hr : r + 1 ≤ 30) (hk : isSK k) (hc : sgV k = c) (hN : 3200 ≤ N) : PostE T (Pr.bind p fun x t' => if tkK T t' = k then ok x (t' + 1) else no (tkP T t')) t0 (r + 1) n l q h (res.bind fun z => (fX12_closes N 138 c z.2).bind fun h2 => some (z.1, h2)) := by
  rcases p with ⟨x, t'⟩ | w
  · rw [PostE_ok] at hp
    obtain ⟨h1, e, a, nx, f, sx, b1, b2⟩ := hp
    rw [e, Option.bind_some, Pr.bind_ok]
    dsimp only
    by_cases hK : tkK T t' = k
    · obtain ⟨h2, e2, a2, f2⟩ := a.closes1 (N := N) hr hk hc hN hK
      have hm := tk_mono T t' (by rw [hK]; exact (sk_ne hk).1)
      rw [if_pos hK, PostE_ok, e2, Option.bind_some]
      exact ⟨h2, rfl, a2, NE.fr f2 x n l (Nat.le_refl _) (Nat.le_refl _) nx, f.trans (f2.mono (by omega) (by omega) (Nat.le_refl _)), sx, by omega, by omega⟩
    · obtain ⟨h2, e2, a2, f2⟩ := a.closes0 (N := N) hk hc hK
      rw [if_neg hK, PostE_no, e2, Option.bind_some]
      exact ⟨_, h2, _, _, rfl, a2, f.trans (f2.mono (by omega) (by omega) (Nat.le_refl _)), by omega, by omega, by omega, by omega, by omega⟩
  · rw [PostE_no] at hp
    obtain ⟨v, h1, n', l', e, a, f, c1, c2, c3, c4, c5⟩ := hp
    obtain ⟨h2, e2, a2, f2⟩ := a.closes (N := N) c
    rw [e, Option.bind_some, Pr.bind_no, PostE_no]
    dsimp only
    rw [e2, Option.bind_some]
    exact ⟨v, h2, n', l', rfl, a2, f.trans (f2.mono c4 c5 (Nat.le_refl _)), c1, c2, c3, c4, c5⟩
/-- a part between two signs: the first is at hand -/
theorem brk_post {T : Txt} {N j r n l q t : Nat} {sub : Nat → Pr Tr} {h : pH} {k0 k c : Int32} (hop : ∀ r', r = r' + 1 → RunE T N j 257 sub r') (hN : 3200 ≤ N) (hk0 : isSK k0) (hk : isSK k) (hc : sgV k = c) (hK : tkK T t = k0) (a : At T t r n l q h) :
    PostE T ((tkS T).brk r sub k0 k t) t r n l q h ((fX12_opens N 138 1 h).bind fun q0 => if q0.1 = 0 then some (-1, q0.2) else (if isO q0.2 138 12 = true then some () else none).bind fun _ => (rcI (gX12_sum N j) 257 [.ref 138] q0.2).bind fun z => (fX12_closes N 138 c z.2).bind fun h2 => some (z.1, h2)) := by
  show PostE T (if tkK T t ≠ k0 ∨ r = 0 then no (tkP T t) else Pr.bind (sub (t + 1)) fun x t' => if tkK T t' = k then ok x (t' + 1) else no (tkP T t')) t r n l q h _
  rcases r with _ | r
  · rw [if_pos (Or.inr rfl)]
    obtain ⟨h1, e1, a1, f1⟩ := a.opens0 (N := N) 1 (Or.inr rfl)
    rw [e1, Option.bind_some]
    dsimp only
    rw [if_pos rfl]
    exact fail_post a1 f1 (Nat.le_refl _)
  · rw [if_neg (by rw [hK]; simp)]
    have hr := a.2.1
    obtain ⟨h1, e1, a1, f1⟩ := a.opens1 (N := N) (g := 1) (by decide) hN (by rw [hK]; exact (sk_ne hk0).1) (by rw [hK]; exact (sk_ne hk0).2)
    have hm := tk_mono T t (by rw [hK]; exact (sk_ne hk0).1)
    rw [e1, Option.bind_some]
    dsimp only
    rw [if_neg (by decide), a1.isO, Option.bind_some]
    exact PostE_back (PostE_from (close_post (hop r rfl (t + 1) n l q h1 a1) hr hk hc hN) (by omega)) f1
