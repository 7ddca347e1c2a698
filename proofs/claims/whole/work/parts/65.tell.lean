theorem cnt_tell {k p v y : Nat} {e : Tr} (hk : k < 80) : stB (nd k p v e (nd 82 y 0 nl nl)) = 1 ∧ szB (nd k p v e (nd 82 y 0 nl nl)) = sz e ∧ lsB (nd k p v e (nd 82 y 0 nl nl)) = ls e := by
  rw [stB_nd, szB_nd, lsB_nd, stB_nd, szB_nd, lsB_nd, if_pos hk, if_neg (by omega), if_neg (by omega), if_neg (by omega), if_neg (by omega), if_neg (by omega), if_neg (by omega), if_neg (by omega), stB_nl, szB_nl, lsB_nl, sz_nl, ls_nl]
  exact ⟨rfl, rfl, rfl⟩
theorem SR_tell {T : Txt} {h : pH} {k p w y s n l : Nat} {e : Tr} (hk : k = 53 ∨ k = 37) (r1 : rd h 151 s = 0) (r2 : rd h 152 s = Int32.ofNat p) (r3 : rd h 153 s = Int32.ofNat n) (r4 : rd h 154 s = if sz e = 0 then -1 else Int32.ofNat (n + sz e - 1)) (r5 : rd h 155 s = -1) (r6 : tyR T h y (rd h 156 s)) (r7 : NmIs T h w (rd h 157 s)) (he : NE T h e n l) : SR T h (nd k p w e (nd 82 y 0 nl nl)) s n l := by
  rw [SR_nd]
  refine ⟨by omega, ⟨?_, r2, r3, fun _ => r4, ?_, fun _ => r7⟩, he, ?_⟩
  · rw [r1]
    rcases hk with z | z <;> rw [z] <;> rfl
  · rw [r5, if_neg (by omega), if_neg (by omega)]
  · rw [MR_nd, if_neg (by omega)]
    exact ⟨by omega, ⟨fun z => absurd z (by decide), fun z => absurd z (by decide), fun _ => r6, fun z => absurd z (by decide), fun z => absurd z (by decide)⟩, NE_nl _ _ _ _, MR_nl _ _ _ _ _ _⟩
theorem tell_post {T : Txt} {N t r s n l q y : Nat} {rc : Nat → List Value → pH → Option (Option Value × pH)} {h : pH} (a : At2 T t r s n l q h) (hN : 3200 ≤ N) (hy : (tkS T).ty t = some y) : PostS T ((tkS T).tellS r t) t r s n l q h (fX12_statement_29 N rc 138 h) := by
  have hP := a.1.P_le
  have hs0 := a.2.2
  have hs : s < 1600 := by omega
  obtain ⟨h1, e1, a1, e25, f1, bg⟩ := a.begun (N := N) 0
  have ty := a1.type hN
  rw [hy] at ty
  obtain ⟨h2, v, e2, ty2, a2, f2, h0⟩ := ty
  have hm := tk_mono T t h0
  have c3 := stA_wr (s := s) h2 156 s v (by omega) (Nat.le_refl _)
  have a3 := a2.sta c3
  have tS : (tkS T).tellS r t = if tkK T (t + 1) ≠ 22 then no (tkP T (t + 1)) else if tkK T (t + 2) = 61 then Pr.bind ((tkS T).expr r (t + 3)) fun e t' => (tkS T).semi (bTellv (tkP T t) y (t + 1) e nl) t' else (tkS T).semi (bTell (tkP T t) y (t + 1) nl) (t + 2) := by
    unfold Tks.tellS
    rw [hy]
    rfl
  obtain ⟨g1, g2, g3, g4, g5, g6, g7, g8⟩ := bg
  rw [tS]
  unfold fX12_statement_29
  rw [e1, Option.bind_some]
  dsimp only
  rw [R_138_31 a1.sg, Option.bind_some, e2, Option.bind_some]
  dsimp only
  rw [T_156 a2.sg hs, Option.bind_some, R_138_32 a3.sg, Option.bind_some]
  have f13 : FrS s n l q h (wr h2 156 s v) := f1.trans (f2.toS.trans (stA_fr c3))
  by_cases k22 : tkK T (t + 1) = 22
  · obtain ⟨h4, id, e4, nm, a4, f4⟩ := a3.name1 hN k22
    have hm2 : tkP T (t + 1) < tkP T (t + 2) := tk_mono T (t + 1) (by rw [k22]; decide)
    have c5 := stA_wr (s := s) h4 157 s id (by omega) (Nat.le_refl _)
    have a5 : At T (t + 2) r n l q (wr h4 157 s id) := a4.sta c5
    have f15 : FrS s n l q h (wr h4 157 s id) := f13.trans (f4.toS.trans (stA_fr c5))
    have st : ∀ b, b ≠ 156 → b ≠ 157 → 151 ≤ b → b ≤ 161 → rd (wr h4 157 s id) b s = rd h1 b s := fun b hb hb' hb1 hb2 => by rw [rd_st _ (Ne.symm hb'), f4.st ⟨hb1, hb2⟩, rd_st _ (Ne.symm hb), f2.st ⟨hb1, hb2⟩]
    have n15 : NmLe h1 (wr h4 157 s id) := (f2.2.trans (stA_fr (n := n) (l := l) (q := q) c3).2).trans (f4.2.trans (stA_fr (n := n) (l := l) (q := q) c5).2)
    have r156 : rd (wr h4 157 s id) 156 s = v := by rw [rd_st _ (by decide), f4.st (by omega), W_156 a2.sg]
    have r157 : rd (wr h4 157 s id) 157 s = id := W_157 a4.sg _ _
    have nm5 : NmIs T (wr h4 157 s id) (t + 1) id := nm.le (f4.2.trans (stA_fr (n := n) (l := l) (q := q) c5).2)
    have e255 : rd (wr h4 157 s id) 138 25 = Int32.ofNat (s + 1) := by rw [rd_wr_ne _ _ (by omega), f4.f25, rd_wr_ne _ _ (by omega), f2.f25]; exact e25
    rw [if_neg (by rw [k22]; simp), e4, Option.bind_some]
    dsimp only
    rw [T_157 a4.sg hs, Option.bind_some, r_isSign a5.1 (k := 61) (by unfold isSK isSgn; simp) (by decide), Option.bind_some]
    dsimp only
    by_cases k61 : tkK T (t + 2) = 61
    · rw [if_pos k61, if_pos k61, if_neg (show ¬ (1 : Int32) = 0 by decide)]
      obtain ⟨h6, e6, a6, f6⟩ := a5.next hN (by rw [k61]; decide) (by rw [k61]; decide)
      have hm3 : tkP T (t + 2) < tkP T (t + 3) := tk_mono T (t + 2) (by rw [k61]; decide)
      rw [e6, Option.bind_some]
      have vp := val_post (s := s) a6 hN hs (fun h7 => fX12_statement_78 N rc 138 (Int32.ofNat s) h7)
      rcases hq : (tkS T).expr r (t + 3) with ⟨e, t2⟩ | w
      · rw [show t + 2 + 1 = t + 3 from rfl, hq] at vp
        obtain ⟨h7, e7, a7, ne, f7, se, b1, b2⟩ := vp
        rw [e7, Pr.bind_ok]
        have cw := stA_wr (s := s) h7 154 s (Int32.ofNat (n + sz e - 1)) (by omega) (Nat.le_refl _)
        obtain ⟨c1, c2, c3'⟩ := cnt_tell (k := 37) (p := tkP T t) (v := t + 1) (y := y) (e := e) (by omega)
        have st7 : ∀ b, b ≠ 154 → 151 ≤ b → b ≤ 161 → rd (wr h7 154 s (Int32.ofNat (n + sz e - 1))) b s = rd (wr h4 157 s id) b s := fun b hb hb1 hb2 => by rw [rd_st _ (Ne.symm hb), f7.st ⟨hb1, hb2⟩, f6.st ⟨hb1, hb2⟩]
        have n57 : NmLe (wr h4 157 s id) (wr h7 154 s (Int32.ofNat (n + sz e - 1))) := (f6.2.trans f7.2).trans (stA_fr (n := n) (l := l) (q := q) cw).2
        refine semi_post (e := bTellv (tkP T t) y (t + 1) e nl) hN ?_ ?_ ?_ ?_ (f15.trans (f6.toS.trans (f7.toS.trans (stA_fr cw)))) ?_ ?_ ?_ hs0 ?_
        · unfold bTellv; rw [c2, c3']; exact a7.sta cw
        · unfold bTellv; rw [c1, rd_wr_ne _ _ (by omega), f7.f25, f6.f25]; exact e255
        · exact SR_tell (by omega) ((st7 151 (by decide) (by decide) (by decide)).trans ((st 151 (by decide) (by decide) (by decide) (by decide)).trans g1)) ((st7 152 (by decide) (by decide) (by decide)).trans ((st 152 (by decide) (by decide) (by decide) (by decide)).trans g2)) ((st7 153 (by decide) (by decide) (by decide)).trans ((st 153 (by decide) (by decide) (by decide) (by decide)).trans g3)) (by rw [W_154 a7.sg, if_neg (by omega)]) ((st7 155 (by decide) (by decide) (by decide)).trans ((st 155 (by decide) (by decide) (by decide) (by decide)).trans g5)) (by rw [st7 156 (by decide) (by decide) (by decide), r156]; exact ty2.le (n15.trans n57)) (by rw [st7 157 (by decide) (by decide) (by decide), r157]; exact nm5.le n57) (NE.keep e n l s s ((stA_fr (n := n + sz e) (l := l + ls e) (q := q) cw).ag _ _ _) ne)
        · exact (st7 161 (by decide) (by decide) (by decide)).trans ((st 161 (by decide) (by decide) (by decide) (by decide)).trans g8)
        · unfold bTellv; rw [c1]; omega
        · unfold bTellv; rw [c2]; omega
        · unfold bTellv; rw [c3']; omega
        · unfold bTellv; rw [c1]; omega
      · rw [show t + 2 + 1 = t + 3 from rfl, hq] at vp
        obtain ⟨v7, h7, n', l', e7, a7, f7, b1, b2, b3⟩ := vp
        rw [e7, Pr.bind_no, PostS_no]
        have cw := stA_wr (s := s) h7 154 s v7 (by omega) (Nat.le_refl _)
        obtain ⟨h8, e8, a8, f8⟩ := semi_er (N := N) (v := Int32.ofNat s) (a7.sta cw)
        exact ⟨_, h8, n', l', q, e8, a8, (f15.trans (f6.toS.trans (f7.toS.trans (stA_fr cw)))).trans (f8.toS.mono (Nat.le_refl _) b2 b3 (Nat.le_refl _)), by omega, b2, b3, Nat.le_refl _⟩
    · rw [if_neg k61, if_neg k61, if_pos rfl]
      obtain ⟨c1, c2, c3'⟩ := cnt_tell (k := 53) (p := tkP T t) (v := t + 1) (y := y) (e := nl) (by omega)
      refine semi_post (e := bTell (tkP T t) y (t + 1) nl) hN ?_ ?_ ?_ ?_ f15 ?_ ?_ ?_ hs0 ?_
      · unfold bTell; rw [c2, c3', sz_nl, ls_nl]; exact a5
      · unfold bTell; rw [c1]; exact e255
      · exact SR_tell (by omega) ((st 151 (by decide) (by decide) (by decide) (by decide)).trans g1) ((st 152 (by decide) (by decide) (by decide) (by decide)).trans g2) ((st 153 (by decide) (by decide) (by decide) (by decide)).trans g3) (by rw [st 154 (by decide) (by decide) (by decide) (by decide), g4, if_pos sz_nl]) ((st 155 (by decide) (by decide) (by decide) (by decide)).trans g5) (by rw [r156]; exact ty2.le n15) (by rw [r157]; exact nm5) (NE_nl _ _ _ _)
      · exact (st 161 (by decide) (by decide) (by decide) (by decide)).trans g8
      · unfold bTell; rw [c1]; omega
      · unfold bTell; rw [c2, sz_nl]; omega
      · unfold bTell; rw [c3', ls_nl]; omega
      · unfold bTell; rw [c1]; omega
  · obtain ⟨h4, e4, a4, f4⟩ := a3.name0 (N := N) k22
    have c5 := stA_wr (s := s) h4 157 s (-1) (by omega) (Nat.le_refl _)
    have a5 := a4.sta c5
    obtain ⟨h8, e8, a8, f8⟩ := semi_er (N := N) (v := Int32.ofNat s) a5
    rw [if_pos k22, e4, Option.bind_some]
    dsimp only
    rw [T_157 a4.sg hs, Option.bind_some, e_isSign _ a5.1, Option.bind_some]
    dsimp only
    rw [if_pos rfl, PostS_no]
    exact ⟨_, h8, n, l, q, e8, a8, (f13.trans (f4.toS.trans (stA_fr c5))).trans f8.toS, by omega, Nat.le_refl _, Nat.le_refl _, Nat.le_refl _⟩
