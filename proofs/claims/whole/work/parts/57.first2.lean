/-- one part, and its fork -/
theorem un_post {T : Txt} {N t0 t1 r n l q k : Nat} {h : pH} {p : Pr Tr} {kk : Int32} {res : Option (Int32 × pH)} (hp : PostE T p t1 r n l q h res) (b : tkP T t0 + 1 ≤ tkP T t1) (hn0 : n ≤ tkP T t0) (hk : k = 14 ∨ k = 17 ∨ k = 18) (hkk : ∀ x, kk = nK k x) : PostE T (Pr.bind p fun x t' => ok (eUn k 0 0 x) t') t0 r n l q h (res.bind fun z => fX12_node N 138 kk z.1 0 0 z.2) := by
  rcases p with ⟨x, t'⟩ | w
  · rw [PostE_ok] at hp
    obtain ⟨h1, e, a, nx, f, sx, b1, b2⟩ := hp
    rw [e, Option.bind_some, Pr.bind_ok, PostE_ok, sz_un 0 0 x (by omega), ls_un 0 0 x (by omega)]
    dsimp only
    obtain ⟨e3, a3⟩ := a.node (N := N) (by omega) kk (Int32.ofNat (n + sz x - 1)) 0 0
    rw [show n + (sz x + 1) - 1 = n + sz x by omega, show n + (sz x + 1) = n + sz x + 1 by omega]
    refine ⟨_, e3, a3, ?_, f.trans ((ndH_fr h1 _ (l + ls x) q _ _ _ _).mono (by omega) (by omega) (Nat.le_refl _)), by omega, by omega, by omega⟩
    · refine NE_un a.sg nx sx (by omega) (hkk x) ?_
      unfold ofOk
      rw [if_neg (by omega), if_neg (by omega)]
      rcases hk with z | z | z <;> rw [z] <;> decide
  · rw [PostE_no] at hp
    obtain ⟨v, h1, n', l', e, a, f, c1, c2, c3, c4, c5⟩ := hp
    have hw := a.1.2.1
    rw [e, Option.bind_some, Pr.bind_no, PostE_no]
    dsimp only
    obtain ⟨e3, a3⟩ := a.node (N := N) (by omega) kk v 0 0
    exact ⟨_, _, n' + 1, l', e3, a3, f.trans ((ndH_fr h1 n' l' q _ _ _ _).mono (by omega) (by omega) (Nat.le_refl _)), by omega, by omega, by omega, by omega, by omega⟩
theorem first_eq (T : Txt) (r : Nat) (sub : Nat → Pr Tr) (t : Nat) : (tkS T).first r sub t =
  if tkK T t = 23 then ok (eLeaf 1 (i2n (tkV T t)) 0) (t + 1)
  else if tkK T t = 22 then (if tkK T (t + 1) = 40 then Pr.bind ((tkS T).args r sub eSelf (t + 1)) fun a t' => ok (eCall a.2 t a.1) t' else ok (eLeaf 6 0 t) (t + 1))
  else if tkK T t = 40 then (tkS T).brk r sub 40 41 t
  else if tkK T t = 14 then (if tkK T (t + 1) = 4 then Pr.bind ((tkS T).brk r sub 91 93 (t + 2)) fun x t' => ok (eUn 14 0 0 x) t' else if tkK T (t + 1) = 22 then ok (eLeaf 13 0 (t + 1)) (t + 2) else no (tkP T (t + 1)))
  else if tkK T t = 15 then ok (eLeaf 3 0 0) (t + 1)
  else if tkK T t = 16 then ok (eLeaf 2 1 0) (t + 1)
  else if tkK T t = 17 then ok (eLeaf 2 0 0) (t + 1)
  else if tkK T t = 18 then ok (eLeaf 4 0 0) (t + 1)
  else if tkK T t = 19 then ok (eLeaf 5 0 0) (t + 1)
  else no (tkP T t) := rfl
theorem wcode_3 {K : Int32} (h : wcode K = 3) : K = 23 := by
  unfold wcode at h
  by_cases h0 : K = 0
  · rw [if_pos h0] at h; exact absurd h (by decide)
  rw [if_neg h0] at h
  by_cases h1 : K = 22
  · rw [if_pos h1] at h; exact absurd h (by decide)
  rw [if_neg h1] at h
  by_cases h2 : K = 23
  · exact h2
  rw [if_neg h2] at h
  exfalso
  revert h
  repeat' split
  all_goals decide
theorem wcode_2 {K : Int32} (h : wcode K = 2) : K = 22 := by
  unfold wcode at h
  by_cases h0 : K = 0
  · rw [if_pos h0] at h; exact absurd h (by decide)
  rw [if_neg h0] at h
  by_cases h1 : K = 22
  · exact h1
  rw [if_neg h1] at h
  exfalso
  revert h
  repeat' split
  all_goals decide
/-- new ints, from its [ on -/
theorem ints_post {T : Txt} {N j r n l q t0 t : Nat} {sub : Nat → Pr Tr} {h : pH} {rc : Nat → List Value → pH → Option (Option Value × pH)} (hrc : rc = gX12_sum N j) (hop : ∀ r', r = r' + 1 → RunE T N j 257 sub r') (hN : 3200 ≤ N) (a : At T t r n l q h) (b : tkP T t0 + 1 ≤ tkP T t) (hn0 : n ≤ tkP T t0) :
    PostE T (Pr.bind ((tkS T).brk r sub 91 93 t) fun x t' => ok (eUn 14 0 0 x) t') t0 r n l q h ((fX12_opens N 138 (if tkK T t = 91 then 1 else 0) h).bind fun q33 => if q33.1 = 0 then fX12_first_205 N rc 138 (-1) q33.2 else (if isO q33.2 138 12 = true then some () else none).bind fun _ => (rcI rc 257 [.ref 138] q33.2).bind fun q36 => fX12_first_205 N rc 138 q36.1 q36.2) := by
  subst hrc
  show PostE T (Pr.bind (if tkK T t ≠ 91 ∨ r = 0 then no (tkP T t) else Pr.bind (sub (t + 1)) fun x t' => if tkK T t' = 93 then ok x (t' + 1) else no (tkP T t')) fun x t' => ok (eUn 14 0 0 x) t') t0 r n l q h _
  by_cases hc : tkK T t ≠ 91 ∨ r = 0
  · rw [if_pos hc, Pr.bind_no]
    obtain ⟨h1, e1, a1, f1⟩ := a.opens0 (N := N) (if tkK T t = 91 then 1 else 0) (hc.imp (fun z => if_neg z) (fun z => z))
    obtain ⟨h2, e2, a2, f2⟩ := a1.closes (N := N) 93
    have hw := a2.1.2.1
    have hb := a.2.2.2.2.2.2
    obtain ⟨e3, a3⟩ := a2.node (N := N) (by omega) 12 (-1) 0 0
    rw [e1, Option.bind_some]
    dsimp only
    rw [if_pos rfl]
    unfold fX12_first_205
    rw [e2, Option.bind_some, bind_pair, e3, PostE_no]
    exact ⟨_, _, n + 1, l, rfl, a3, (f1.trans f2).trans (ndH_fr h2 n l q _ _ _ _), by omega, by omega, by omega, by omega, by omega⟩
  · rw [if_neg hc]
    have hK : tkK T t = 91 := Decidable.not_not.mp (fun z => hc (Or.inl z))
    obtain ⟨r', rfl⟩ : ∃ r', r = r' + 1 := ⟨r - 1, by have : r ≠ 0 := fun z => hc (Or.inr z); omega⟩
    have hr := a.2.1
    rw [if_pos hK]
    obtain ⟨h1, e1, a1, f1⟩ := a.opens1 (N := N) (g := 1) (by decide) hN (by rw [hK]; decide) (by rw [hK]; decide)
    have hm := tk_mono T t (by rw [hK]; decide)
    rw [e1, Option.bind_some]
    dsimp only
    rw [if_neg (show ¬ (1 : Int32) = 0 by decide), a1.isO, Option.bind_some]
    have j1 := close_post (N := N) (k := 93) (c := 93) (hop r' rfl (t + 1) n l q h1 a1) hr (by unfold isSK isSgn; simp) (by decide) hN
    have j2 := un_post (N := N) (t0 := t0) (k := 14) (kk := 12) j1 (by omega) hn0 (by omega) (fun x => rfl)
    refine PostE_back ?_ f1
    unfold fX12_first_205
    simp only [bind_pair]
    simp only [Option.bind_assoc, Option.bind_some] at j2
    exact j2
theorem sz_self : sz eSelf = 0 := rfl
theorem ls_self : ls eSelf = 0 := rfl
theorem first_run {T : Txt} {N J r : Nat} {sub : Nat → Pr Tr} (hop : ∀ r', r = r' + 1 → RunA T N J 257 sub r') (hA : (tkS T).Adv sub) (hN : 3200 ≤ N) : RunA T N (J + 2) 265 ((tkS T).first r sub) r := by
  intro j hj t n l q h a
  obtain ⟨i, rfl⟩ : ∃ i, j = i + 2 := ⟨j - 2, by omega⟩
  have hP := a.P_le
  obtain ⟨id, hw, hwn⟩ := a.1.2.2.2.2.2.2.1
  have e9 := a.1.2.2.2.2.2.2.2.2.2.2
  have e6 := a.1.2.2.2.2.2.2.2.2.1
  have hn0 := a.2.2.2.2.2.2.1
  have hl0 := a.2.2.2.2.2.2.2.1
  have hs := a.sg
  have lf : ∀ {k v w : Nat} {kk c : Int32} {h1 : pH} {t1 : Nat}, At T t1 r n l q h1 → Fr n l q h h1 → tkP T t + 1 ≤ tkP T t1 → (k ≠ 30 ∧ k ≠ 50 ∧ k ≠ 70) → kk = nK k nl → ofOk T h1 k v w c → PostE T (ok (eLeaf k v w) t1) t r n l q h (fX12_node N 138 kk 0 0 c h1) := fun a1 f1 b1 hk hkk hc => leaf_post a1 f1 b1 hn0 hk hkk hc
  rw [rc_265 N (i + 1) h, first_eq]
  unfold fX12_first
  rw [if_pos (o_138 hs), g_138_9 hs, Option.bind_some, e9, if_pos (show (-1 : Int32) < 0 by decide), g_138_5 hs, Option.bind_some, hw.code]
  by_cases k23 : tkK T t = 23
  · rw [if_pos k23, if_pos (by rw [k23]; decide), g_138_8 hs, Option.bind_some, hw.num k23]
    obtain ⟨h1, e1, a1, f1⟩ := a.next hN (by rw [k23]; decide) (by rw [k23]; decide)
    rw [e1, Option.bind_some, bind_pair]
    refine lf a1 f1 (tk_mono T t (by rw [k23]; decide)) (by omega) rfl ?_
    unfold ofOk
    rw [if_pos (by omega), n2i]
  rw [if_neg k23, if_neg (fun z => k23 (wcode_3 z)), Option.bind_some]
  by_cases k22 : tkK T t = 22
  · rw [if_pos k22, if_pos (show wcode (tkK T t) = 2 by rw [k22]; decide)]
    obtain ⟨h1, v, e1, nm, a1, f1⟩ := a.name1 hN k22
    have hm := tk_mono T t (by rw [k22]; decide)
    rw [e1, Option.bind_some]
    dsimp only
    rw [r_isSign a1.1 (k := 40) (by unfold isSK isSgn; simp) (by decide), Option.bind_some]
    dsimp only
    by_cases k40 : tkK T (t + 1) = 40
    · rw [if_pos k40, if_pos k40, if_neg (show ¬ (1 : Int32) = 0 by decide), a1.isO, Option.bind_some, bind_pair]
      refine PostE_back ?_ f1
      exact called_post (s := eSelf) (kk := 9) (fun r' z => hop r' z i (by omega)) hA hN hn0 hl0 k40 a1 ⟨NE_nl _ _ _ _, NE_nl _ _ _ _, Or.inl rfl⟩ rfl rfl (nm.le f1.2) (by rw [sz_self]; omega) (by rw [ls_self]; omega)
    · rw [if_neg k40, if_neg k40, if_pos rfl, bind_pair]
      refine lf a1 f1 hm (by omega) rfl ?_
      unfold ofOk
      rw [if_neg (by omega), if_pos (by omega)]
      exact nm.le f1.2
  rw [if_neg k22, if_neg (fun z => k22 (wcode_2 z)), r_isSign a.1 (k := 40) (by unfold isSK isSgn; simp) (by decide), Option.bind_some]
  dsimp only
  by_cases k40 : tkK T t = 40
  · rw [if_pos k40, if_pos k40, if_neg (show ¬ (1 : Int32) = 0 by decide)]
    exact brk_post (k0 := 40) (k := 41) (c := 41) (fun r' z => hop r' z (i + 1) (by omega)) hN (by unfold isSK isSgn; simp) (by unfold isSK isSgn; simp) (by decide) k40 a
  rw [if_neg k40, if_neg k40, if_pos rfl, g_138_5 hs, Option.bind_some, hw.code]
  have bad : PostE T (no (tkP T t)) t r n l q h (fX12_first_134 N (gX12_sum N (i + 1)) 138 h) := by
    unfold fX12_first_134
    obtain ⟨h1, e1, a1, f1⟩ := a.fails (N := N)
    rw [g_138_6 hs, Option.bind_some, bind_pair, e1]
    exact fail_post a1 f1 (Nat.le_refl _)
  by_cases k5 : wcode (tkK T t) = 5
  · rw [if_pos k5, g_138_8 hs, Option.bind_some, hw.key k5, show (14 : Int64) = (14 : Int32).toInt64 from by decide, show (19 : Int64) = (19 : Int32).toInt64 from by decide, isIn_eq, Option.bind_some]
    dsimp only
    by_cases hin : tkK T t < 14 ∨ 19 < tkK T t
    · rw [if_pos hin, if_pos rfl]
      have ne : ∀ k : Int32, (k = 14 ∨ k = 15 ∨ k = 16 ∨ k = 17 ∨ k = 18 ∨ k = 19) → tkK T t ≠ k := by
        intro k hk z
        rw [z] at hin
        rcases hk with z | z | z | z | z | z <;> rw [z] at hin <;> exact absurd hin (by decide)
      rw [if_neg (ne 14 (by simp)), if_neg (ne 15 (by simp)), if_neg (ne 16 (by simp)), if_neg (ne 17 (by simp)), if_neg (ne 18 (by simp)), if_neg (ne 19 (by simp))]
      exact bad
    · rw [if_neg hin, if_neg (show ¬ (1 : Int32) = 0 by decide), g_138_8 hs, Option.bind_some, hw.key k5]
      have h0 : tkK T t ≠ 0 := fun z => by rw [z] at k5; exact absurd k5 (by decide)
      have h24 : tkK T t ≠ 24 := fun z => by rw [z] at k5; exact absurd k5 (by decide)
      obtain ⟨h1, e1, a1, f1⟩ := a.next hN h0 h24
      have hm := tk_mono T t h0
      rw [e1, Option.bind_some]
      by_cases k14 : tkK T t = 14
      · rw [if_pos k14, if_pos k14, show (4 : Int32) = Int32.ofNat 4 from rfl, r_isKey a1.1 (by decide) (by decide), Option.bind_some]
        dsimp only
        by_cases k4 : tkK T (t + 1) = Int32.ofNat 4
        · rw [if_pos k4, if_pos k4, if_neg (show ¬ (1 : Int32) = 0 by decide)]
          obtain ⟨h2, e2, a2, f2⟩ := a1.next hN (by rw [k4]; decide) (by rw [k4]; decide)
          have hm2 : tkP T (t + 1) < tkP T (t + 2) := tk_mono T (t + 1) (by rw [k4]; decide)
          rw [e2, Option.bind_some, r_isSign a2.1 (k := 91) (by unfold isSK isSgn; simp) (by decide), Option.bind_some]
          dsimp only
          refine PostE_back ?_ (f1.trans f2)
          exact ints_post (j := i + 1) rfl (fun r' z => hop r' z (i + 1) (by omega)) hN a2 (by omega) hn0
        · rw [if_neg k4, if_neg k4, if_pos rfl]
          by_cases k22' : tkK T (t + 1) = 22
          · obtain ⟨h2, v, e2, nm, a2, f2⟩ := a1.name1 hN k22'
            have hm2 : tkP T (t + 1) < tkP T (t + 2) := tk_mono T (t + 1) (by rw [k22']; decide)
            rw [if_pos k22', e2, Option.bind_some, bind_pair]
            refine lf a2 (f1.trans f2) (by omega) (by omega) rfl ?_
            unfold ofOk
            rw [if_neg (by omega), if_pos (by omega)]
            exact nm.le f2.2
          · obtain ⟨h2, e2, a2, f2⟩ := a1.name0 (N := N) k22'
            have hw2 := a2.1.2.1
            have hb := a1.2.2.2.2.2.2
            obtain ⟨e3, a3⟩ := a2.node (N := N) (by omega) 5 0 0 (-1)
            rw [if_neg k22', e2, Option.bind_some, bind_pair]
            dsimp only
            rw [e3, PostE_no]
            exact ⟨_, _, n + 1, l, rfl, a3, (f1.trans f2).trans (ndH_fr h2 n l q _ _ _ _), by omega, by omega, by omega, by omega, by omega⟩
      rw [if_neg k14, if_neg k14]
      by_cases k15 : tkK T t = 15
      · rw [if_pos k15, if_pos k15, bind_pair]
        exact lf a1 f1 hm (by omega) rfl (by unfold ofOk; rw [if_neg (by omega), if_neg (by omega)]; rfl)
      rw [if_neg k15, if_neg k15]
      by_cases k18 : tkK T t = 18
      · rw [if_pos k18, if_pos k18, if_neg (show ¬ tkK T t = 16 by rw [k18]; decide), if_neg (show ¬ tkK T t = 17 by rw [k18]; decide), bind_pair]
        exact lf a1 f1 hm (by omega) rfl (by unfold ofOk; rw [if_neg (by omega), if_neg (by omega)]; rfl)
      rw [if_neg k18, if_neg k18]
      by_cases k19 : tkK T t = 19
      · rw [if_pos k19, if_pos k19, if_neg (show ¬ tkK T t = 16 by rw [k19]; decide), if_neg (show ¬ tkK T t = 17 by rw [k19]; decide), bind_pair]
        exact lf a1 f1 hm (by omega) rfl (by unfold ofOk; rw [if_neg (by omega), if_neg (by omega)]; rfl)
      rw [if_neg k19, if_neg k19]
      unfold fX12_first_289
      by_cases k16 : tkK T t = 16
      · rw [if_pos k16, if_pos k16, bind_pair]
        exact lf a1 f1 hm (by omega) rfl (by unfold ofOk; rw [if_pos (by omega)]; rfl)
      rw [if_neg k16, if_neg k16]
      by_cases k17 : tkK T t = 17
      · rw [if_pos k17, bind_pair]
        exact lf a1 f1 hm (by omega) rfl (by unfold ofOk; rw [if_pos (by omega)]; rfl)
      · exfalso
        have : ∀ k, k < 22 → ¬ (Int32.ofNat k < 14 ∨ 19 < Int32.ofNat k) → k = 14 ∨ k = 15 ∨ k = 16 ∨ k = 17 ∨ k = 18 ∨ k = 19 := by decide
        obtain ⟨kn, hk1, hk2⟩ : ∃ kn, kn < 22 ∧ tkK T t = Int32.ofNat kn := by
          rcases hw with ⟨z1, z2⟩ | ⟨kn, z1, z2, z3, z4⟩ | ⟨z1, z2⟩ | ⟨z1, z2⟩ | ⟨z1, z2⟩ | ⟨z1, z2⟩
          · exact absurd z1 h0
          · exact ⟨kn, by omega, z3⟩
          · exact absurd z1 k22
          · exact absurd z1 k23
          · exact absurd z1 h24
          · rw [sk_code z1] at k5; exact absurd k5 (by decide)
        rw [hk2] at hin k14 k15 k16 k17 k18 k19
        rcases this kn hk1 hin with z | z | z | z | z | z <;> subst z
        · exact k14 rfl
        · exact k15 rfl
        · exact k16 rfl
        · exact k17 rfl
        · exact k18 rfl
        · exact k19 rfl
  · have ne : ∀ k : Nat, 1 ≤ k → k ≤ 21 → tkK T t ≠ Int32.ofNat k := fun k h1 h2 z => k5 (by rw [z]; exact key_code h1 h2)
    rw [if_neg k5, if_neg (show ¬ tkK T t = 14 from ne 14 (by decide) (by decide)), if_neg (show ¬ tkK T t = 15 from ne 15 (by decide) (by decide)), if_neg (show ¬ tkK T t = 16 from ne 16 (by decide) (by decide)), if_neg (show ¬ tkK T t = 17 from ne 17 (by decide) (by decide)), if_neg (show ¬ tkK T t = 18 from ne 18 (by decide) (by decide)), if_neg (show ¬ tkK T t = 19 from ne 19 (by decide) (by decide))]
    exact bad
