/-- the kind of a tree's last node -/
theorem NE_root {T : Txt} {h : pH} {x : Tr} {n l : Nat} (hx : NE T h x n l) (vx : vK x) (sx : 1 ≤ sz x) : ∃ a, rd h 144 (n + sz x - 1) = nK (kd x) a := by
  revert hx vx sx
  refine Tr.rec2 (P := fun x => NE T h x n l → vK x → 1 ≤ sz x → ∃ a, rd h 144 (n + sz x - 1) = nK (kd x) a) ?_ ?_ x
  · intro k v w a b _ _ hx vx sx
    have hk : k ≠ 50 ∧ k ≠ 70 := vx
    rw [NE_nd] at hx
    rw [sz_nd, if_neg (by omega)]
    rcases hx.2.2 with z | z | z
    · exact absurd z hk.1
    · exact absurd z hk.2
    · exact ⟨a, by rw [show n + (sz a + sz b + 1) - 1 = n + sz a + sz b by omega]; exact z.1⟩
  · intro e he _ _ sx
    exfalso
    unfold sz at sx
    split at sx
    · exact he _ _ _ _ _ rfl
    · omega
theorem nK_cs (k : Nat) (a : Tr) : (k = 1 ∧ nK k a = 0) ∨ (k = 2 ∧ nK k a = 21) ∨ (k = 3 ∧ nK k a = 1) ∨ (k = 4 ∧ nK k a = 2) ∨ (k = 5 ∧ nK k a = 3) ∨ (k = 6 ∧ nK k a = 4) ∨ (k = 13 ∧ nK k a = 5) ∨ (k = 9 ∧ nK k a = 6) ∨ (k = 12 ∧ nK k a = 7) ∨ (k = 15 ∧ nK k a = 10) ∨ (k = 16 ∧ nK k a = 11) ∨ (k = 14 ∧ nK k a = 12) ∨ (k = 17 ∧ nK k a = 13) ∨ (k = 18 ∧ nK k a = 14) ∨ (k = 28 ∧ nK k a = 16) ∨ (k = 29 ∧ nK k a = 17) ∨ (k = 30 ∧ (nK k a = 8 ∨ nK k a = 9)) ∨ (nK k a = 15 ∧ k ≠ 6 ∧ k ≠ 9 ∧ k ≠ 12 ∧ k ≠ 30) := by
  by_cases h1 : k = 1
  · exact Or.inl ⟨h1, by rw [h1]; rfl⟩
  by_cases h2 : k = 2
  · exact Or.inr (Or.inl ⟨h2, by rw [h2]; rfl⟩)
  by_cases h3 : k = 3
  · exact Or.inr (Or.inr (Or.inl ⟨h3, by rw [h3]; rfl⟩))
  by_cases h4 : k = 4
  · exact Or.inr (Or.inr (Or.inr (Or.inl ⟨h4, by rw [h4]; rfl⟩)))
  by_cases h5 : k = 5
  · exact Or.inr (Or.inr (Or.inr (Or.inr (Or.inl ⟨h5, by rw [h5]; rfl⟩))))
  by_cases h6 : k = 6
  · exact Or.inr (Or.inr (Or.inr (Or.inr (Or.inr (Or.inl ⟨h6, by rw [h6]; rfl⟩)))))
  by_cases h13 : k = 13
  · exact Or.inr (Or.inr (Or.inr (Or.inr (Or.inr (Or.inr (Or.inl ⟨h13, by rw [h13]; rfl⟩))))))
  by_cases h9 : k = 9
  · exact Or.inr (Or.inr (Or.inr (Or.inr (Or.inr (Or.inr (Or.inr (Or.inl ⟨h9, by rw [h9]; rfl⟩)))))))
  by_cases h12 : k = 12
  · exact Or.inr (Or.inr (Or.inr (Or.inr (Or.inr (Or.inr (Or.inr (Or.inr (Or.inl ⟨h12, by rw [h12]; rfl⟩))))))))
  by_cases h30 : k = 30
  · refine Or.inr (Or.inr (Or.inr (Or.inr (Or.inr (Or.inr (Or.inr (Or.inr (Or.inr (Or.inr (Or.inr (Or.inr (Or.inr (Or.inr (Or.inr (Or.inr (Or.inl ⟨h30, ?_⟩))))))))))))))))
    rw [h30]
    show (if ownT a = true then (9 : Int32) else 8) = 8 ∨ (if ownT a = true then (9 : Int32) else 8) = 9
    split
    · exact Or.inr rfl
    · exact Or.inl rfl
  by_cases h15 : k = 15
  · exact Or.inr (Or.inr (Or.inr (Or.inr (Or.inr (Or.inr (Or.inr (Or.inr (Or.inr (Or.inl ⟨h15, by rw [h15]; rfl⟩)))))))))
  by_cases h16 : k = 16
  · exact Or.inr (Or.inr (Or.inr (Or.inr (Or.inr (Or.inr (Or.inr (Or.inr (Or.inr (Or.inr (Or.inl ⟨h16, by rw [h16]; rfl⟩))))))))))
  by_cases h14 : k = 14
  · exact Or.inr (Or.inr (Or.inr (Or.inr (Or.inr (Or.inr (Or.inr (Or.inr (Or.inr (Or.inr (Or.inr (Or.inl ⟨h14, by rw [h14]; rfl⟩)))))))))))
  by_cases h17 : k = 17
  · exact Or.inr (Or.inr (Or.inr (Or.inr (Or.inr (Or.inr (Or.inr (Or.inr (Or.inr (Or.inr (Or.inr (Or.inr (Or.inl ⟨h17, by rw [h17]; rfl⟩))))))))))))
  by_cases h18 : k = 18
  · exact Or.inr (Or.inr (Or.inr (Or.inr (Or.inr (Or.inr (Or.inr (Or.inr (Or.inr (Or.inr (Or.inr (Or.inr (Or.inr (Or.inl ⟨h18, by rw [h18]; rfl⟩)))))))))))))
  by_cases h28 : k = 28
  · exact Or.inr (Or.inr (Or.inr (Or.inr (Or.inr (Or.inr (Or.inr (Or.inr (Or.inr (Or.inr (Or.inr (Or.inr (Or.inr (Or.inr (Or.inl ⟨h28, by rw [h28]; rfl⟩))))))))))))))
  by_cases h29 : k = 29
  · exact Or.inr (Or.inr (Or.inr (Or.inr (Or.inr (Or.inr (Or.inr (Or.inr (Or.inr (Or.inr (Or.inr (Or.inr (Or.inr (Or.inr (Or.inr (Or.inl ⟨h29, by rw [h29]; rfl⟩)))))))))))))))
  refine Or.inr (Or.inr (Or.inr (Or.inr (Or.inr (Or.inr (Or.inr (Or.inr (Or.inr (Or.inr (Or.inr (Or.inr (Or.inr (Or.inr (Or.inr (Or.inr (Or.inr (⟨?_, h6, h9, h12, h30⟩)))))))))))))))))
  unfold nK
  rw [if_neg h1, if_neg h2, if_neg h3, if_neg h4, if_neg h5, if_neg h6, if_neg h13, if_neg h9, if_neg h12, if_neg h30, if_neg h15, if_neg h16, if_neg h14, if_neg h17, if_neg h18, if_neg h28, if_neg h29]
theorem nK_pl (k : Nat) (a : Tr) : (nK k a = 4 ↔ k = 6) ∧ (nK k a = 6 ↔ k = 9) ∧ (nK k a = 7 ↔ k = 12) ∧ ((nK k a = 8 ∨ nK k a = 9) ↔ k = 30) := by
  rcases nK_cs k a with ⟨hk, hv⟩ | ⟨hk, hv⟩ | ⟨hk, hv⟩ | ⟨hk, hv⟩ | ⟨hk, hv⟩ | ⟨hk, hv⟩ | ⟨hk, hv⟩ | ⟨hk, hv⟩ | ⟨hk, hv⟩ | ⟨hk, hv⟩ | ⟨hk, hv⟩ | ⟨hk, hv⟩ | ⟨hk, hv⟩ | ⟨hk, hv⟩ | ⟨hk, hv⟩ | ⟨hk, hv⟩ | ⟨hk, hv | hv⟩ | ⟨hv, h1, h2, h3, h4⟩
  all_goals
    rw [hv]
    refine ⟨⟨fun z => ?_, fun z => ?_⟩, ⟨fun z => ?_, fun z => ?_⟩, ⟨fun z => ?_, fun z => ?_⟩, ⟨fun z => ?_, fun z => ?_⟩⟩
  all_goals first
    | omega
    | exact absurd z (by decide)
    | decide
theorem cnt_give {p : Nat} {x e : Tr} : stB (bGive p x e nl) = 1 ∧ szB (bGive p x e nl) = sz x + sz e ∧ lsB (bGive p x e nl) = ls x + ls e := by
  unfold bGive
  rw [stB_nd, szB_nd, lsB_nd, stB_nd, szB_nd, lsB_nd, if_pos (by omega), if_neg (by omega), if_neg (by omega), if_neg (by omega), if_neg (by omega), if_neg (by omega), if_neg (by omega), if_neg (by omega), stB_nl, szB_nl, lsB_nl]
  exact ⟨rfl, rfl, rfl⟩
theorem place_post {T : Txt} {N t r s n l q : Nat} {h : pH} (a : At2 T t r s n l q h) (hN : 3200 ≤ N) : PostS T ((tkS T).placeS r t) t r s n l q h (fX12_placed N 138 h) := by
  have hP := a.1.P_le
  have hs0 := a.2.2
  have hs : s < 1600 := by omega
  obtain ⟨h1, e1, a1, e25, f1, bg⟩ := a.begun (N := N) 7
  have hp := e12_expression (N := N) hN a1
  obtain ⟨g1, g2, g3, g4, g5, g6, g7, g8⟩ := bg
  show PostS T (Pr.bind ((tkS T).expr r t) fun x t1 => if tkK T t1 = 61 ∧ isPlaceE x = true then Pr.bind ((tkS T).expr r (t1 + 1)) fun y t2 => (tkS T).semi (bGive (tkP T t) x y nl) t2 else if tkK T t1 = 59 ∧ isCallE x = true then ok (bDrop (tkP T t) x nl) (t1 + 1) else no (tkP T t1)) t r s n l q h _
  unfold fX12_placed
  rw [if_pos (o_138 a.1.sg), e1, Option.bind_some]
  dsimp only
  rw [a1.isO, Option.bind_some]
  rcases hq : (tkS T).expr r t with ⟨x, t1⟩ | w
  · rw [hq, PostE_ok] at hp
    obtain ⟨h2, e2, a2, nx, f2, sx, b1, b2⟩ := hp
    have vx : vK x := Tks.expr_nv (tkS T) r _ _ _ hq
    have e9 := a2.1.2.2.2.2.2.2.2.2.2.2
    have hP2 := a2.2.2.2.2.2.2.1
    have hPt1 := (tkP_le T t1).1
    have c3 := stA_wr (s := s) h2 154 s (Int32.ofNat (n + sz x - 1)) (by omega) (Nat.le_refl _)
    have a3 := a2.sta c3
    have f13 : FrS s n l q h (wr h2 154 s (Int32.ofNat (n + sz x - 1))) := f1.trans (f2.toS.trans (stA_fr c3))
    have st : ∀ b, b ≠ 154 → 151 ≤ b → b ≤ 161 → rd (wr h2 154 s (Int32.ofNat (n + sz x - 1))) b s = rd h1 b s := fun b hb hb1 hb2 => by rw [rd_st _ (Ne.symm hb), f2.st ⟨hb1, hb2⟩]
    have nx3 : NE T (wr h2 154 s (Int32.ofNat (n + sz x - 1))) x n l := NE.keep x n l s s ((stA_fr (n := n + sz x) (l := l + ls x) (q := q) c3).ag _ _ _) nx
    have e253 : rd (wr h2 154 s (Int32.ofNat (n + sz x - 1))) 138 25 = Int32.ofNat (s + 1) := by rw [rd_wr_ne _ _ (by omega), f2.f25]; exact e25
    obtain ⟨ka, hka⟩ := NE_root nx3 vx sx
    obtain ⟨p4, p6, p7, p8⟩ := nK_pl (kd x) ka
    have ld : ldI (wr h2 154 s (Int32.ofNat (n + sz x - 1))) 144 (Int32.ofNat (n + sz x - 1)) = some (nK (kd x) ka) := by rw [L_144 a3.sg (by omega), hka]
    rw [e2, Option.bind_some, Pr.bind_ok]
    dsimp only
    rw [g_138_9 a2.sg, Option.bind_some, e9, if_pos (show (-1 : Int32) < 0 by decide), R_138_29 a2.sg, Option.bind_some, T_154 a2.sg hs, Option.bind_some, r_isSign a3.1 (k := 61) (by unfold isSK isSgn; simp) (by decide), Option.bind_some]
    dsimp only
    have bad : PostS T (no (tkP T t1)) t r s n l q h (fX12_placed_132 N 138 (wr h2 154 s (Int32.ofNat (n + sz x - 1)))) := by
      unfold fX12_placed_132
      obtain ⟨h4, e4, a4, f4⟩ := a3.fails (N := N)
      rw [g_138_6 a3.sg, Option.bind_some, bind_pair, e4, PostS_no]
      exact ⟨_, h4, _, _, _, rfl, a4, f13.trans (f4.toS.mono (Nat.le_refl _) (by omega) (by omega) (Nat.le_refl _)), by omega, by omega, by omega, Nat.le_refl _⟩
    have other : ¬ (tkK T t1 = 61 ∧ isPlaceE x = true) → PostS T (if tkK T t1 = 59 ∧ isCallE x = true then ok (bDrop (tkP T t) x nl) (t1 + 1) else no (tkP T t1)) t r s n l q h (fX12_placed_101 N 138 (Int32.ofNat s) (Int32.ofNat (n + sz x - 1)) (wr h2 154 s (Int32.ofNat (n + sz x - 1)))) := by
      intro _
      unfold fX12_placed_101
      rw [r_isSign a3.1 (k := 59) (by unfold isSK isSgn; simp) (by decide), Option.bind_some]
      dsimp only
      by_cases k59 : tkK T t1 = 59
      · rw [if_pos k59, if_neg (show ¬ (1 : Int32) = 0 by decide), R_138_16 a3.sg, Option.bind_some, Option.bind_some, ld, Option.bind_some, Option.bind_some]
        have good : isCallE x = true → PostS T (ok (bDrop (tkP T t) x nl) (t1 + 1)) t r s n l q h (fX12_placed_141 N 138 (Int32.ofNat s) (wr h2 154 s (Int32.ofNat (n + sz x - 1)))) := by
          intro _
          obtain ⟨c1, c2, c3'⟩ := cnt_simple (k := 52) (p := tkP T t) (v := 0) (e := x) (by omega)
          have sp := semi_post (N := N) (t0 := t) (e := bDrop (tkP T t) x nl) hN (by unfold bDrop; rw [c2, c3']; exact a3) (by unfold bDrop; rw [c1]; exact e253) (SR_simple (by omega) ((st 151 (by decide) (by decide) (by decide)).trans g1) ((st 152 (by decide) (by decide) (by decide)).trans g2) ((st 153 (by decide) (by decide) (by decide)).trans g3) (by rw [W_154 a2.sg, if_neg (by omega)]) ((st 155 (by decide) (by decide) (by decide)).trans g5) nx3) ((st 161 (by decide) (by decide) (by decide)).trans g8) f13 (by unfold bDrop; rw [c1]; omega) (by unfold bDrop; rw [c2]; omega) (by unfold bDrop; rw [c3']; omega) hs0 (by unfold bDrop; rw [c1]; omega)
          have e : (tkS T).semi (bDrop (tkP T t) x nl) t1 = ok (bDrop (tkP T t) x nl) (t1 + 1) := if_pos k59
          rw [e] at sp
          exact sp
        by_cases k8 : nK (kd x) ka = 8
        · have hc : isCallE x = true := by unfold isCallE; rw [p8.mp (Or.inl k8)]; rfl
          rw [if_pos k8, if_pos ⟨k59, hc⟩]
          exact good hc
        · rw [if_neg k8]
          by_cases k9 : nK (kd x) ka = 9
          · have hc : isCallE x = true := by unfold isCallE; rw [p8.mp (Or.inr k9)]; rfl
            rw [if_pos k9, if_pos ⟨k59, hc⟩]
            exact good hc
          · rw [if_neg k9, if_neg (fun z => by
              have hc := z.2
              unfold isCallE at hc
              rcases p8.mpr (beq_iff_eq.mp hc) with y | y
              · exact k8 y
              · exact k9 y)]
            exact bad
      · rw [if_neg k59, if_pos rfl, if_neg (fun z => k59 z.1)]
        exact bad
    by_cases k61 : tkK T t1 = 61
    · rw [if_pos k61, if_neg (show ¬ (1 : Int32) = 0 by decide), R_138_16 a3.sg]
      simp only [Option.bind_some, ld]
      have give : isPlaceE x = true → PostS T (Pr.bind ((tkS T).expr r (t1 + 1)) fun y t2 => (tkS T).semi (bGive (tkP T t) x y nl) t2) t r s n l q h (fX12_placed_69 N 138 (Int32.ofNat s) (Int32.ofNat (n + sz x - 1)) (wr h2 154 s (Int32.ofNat (n + sz x - 1)))) := by
        intro _
        obtain ⟨h4, e4, a4, f4⟩ := a3.next hN (by rw [k61]; decide) (by rw [k61]; decide)
        have hm := tk_mono T t1 (by rw [k61]; decide)
        have c5 := stA_wr (s := s) h4 151 s 8 (by omega) (Nat.le_refl _)
        have a5 := a4.sta c5
        have c6 := stA_wr (s := s) (wr h4 151 s 8) 155 s (Int32.ofNat (n + sz x - 1)) (by omega) (Nat.le_refl _)
        have a6 := a5.sta c6
        unfold fX12_placed_69
        rw [e4, Option.bind_some, R_138_26 a4.sg, Option.bind_some, T_151 a4.sg hs, Option.bind_some, R_138_30 a5.sg, Option.bind_some, T_155 a5.sg hs, Option.bind_some]
        have vp := val_post (s := s) a6 hN hs (fun h7 => fX12_placed_141 N 138 (Int32.ofNat s) h7)
        have f16 : FrS s n l q h (wr (wr h4 151 s 8) 155 s (Int32.ofNat (n + sz x - 1))) := f13.trans ((f4.toS.trans ((stA_fr c5).trans (stA_fr c6))).mono (Nat.le_refl _) (by omega) (by omega) (Nat.le_refl _))
        have st6 : ∀ b, b ≠ 151 → b ≠ 154 → b ≠ 155 → 151 ≤ b → b ≤ 161 → rd (wr (wr h4 151 s 8) 155 s (Int32.ofNat (n + sz x - 1))) b s = rd h1 b s := fun b h1' h2' h3' hb1 hb2 => by rw [rd_st _ (Ne.symm h3'), rd_st _ (Ne.symm h1'), f4.st ⟨hb1, hb2⟩, st b h2' hb1 hb2]
        have e256 : rd (wr (wr h4 151 s 8) 155 s (Int32.ofNat (n + sz x - 1))) 138 25 = Int32.ofNat (s + 1) := by rw [rd_wr_ne _ _ (by omega), rd_wr_ne _ _ (by omega), f4.f25]; exact e253
        have nx6 : NE T (wr (wr h4 151 s 8) 155 s (Int32.ofNat (n + sz x - 1))) x n l := NE.keep x n l s s ((f4.toS (s := s)).trans ((stA_fr c5).trans (stA_fr c6)) |>.ag _ _ _) nx3
        rcases hq2 : (tkS T).expr r (t1 + 1) with ⟨y, t2⟩ | w
        · rw [hq2] at vp
          obtain ⟨h7, e7, a7, ny, f7, sy, d1, d2⟩ := vp
          rw [e7, Pr.bind_ok]
          have cw := stA_wr (s := s) h7 154 s (Int32.ofNat (n + sz x + sz y - 1)) (by omega) (Nat.le_refl _)
          obtain ⟨c1, c2, c3'⟩ := cnt_give (p := tkP T t) (x := x) (e := y)
          have st7 : ∀ b, b ≠ 154 → 151 ≤ b → b ≤ 161 → rd (wr h7 154 s (Int32.ofNat (n + sz x + sz y - 1))) b s = rd (wr (wr h4 151 s 8) 155 s (Int32.ofNat (n + sz x - 1))) b s := fun b hb hb1 hb2 => by rw [rd_st _ (Ne.symm hb), f7.st ⟨hb1, hb2⟩]
          have w1 := (stA_fr (n := n + sz x + sz y) (l := l + ls x + ls y) (q := q) cw)
          refine semi_post (e := bGive (tkP T t) x y nl) hN ?_ ?_ ?_ ?_ (f16.trans ((f7.toS.trans (stA_fr cw)).mono (Nat.le_refl _) (by omega) (by omega) (Nat.le_refl _))) ?_ ?_ ?_ hs0 ?_
          · rw [c2, c3', show n + (sz x + sz y) = n + sz x + sz y by omega, show l + (ls x + ls y) = l + ls x + ls y by omega]; exact a7.sta cw
          · rw [c1, rd_wr_ne _ _ (by omega), f7.f25]; exact e256
          · unfold bGive
            rw [SR_nd]
            refine ⟨by omega, ⟨?_, ?_, ?_, fun z => absurd rfl z, ?_, fun z => by omega⟩, NE.keep x n l s s ((w1.ag s n l).sub (by omega) (by omega) (by omega) (by omega) (by omega) (by omega)) (NE.keep x n l s s (f7.ag _ _ _ _) nx6), ?_⟩
            · rw [st7 151 (by decide) (by decide) (by decide), rd_st _ (by decide), W_151 a4.sg]; rfl
            · exact (st7 152 (by decide) (by decide) (by decide)).trans ((st6 152 (by decide) (by decide) (by decide) (by decide) (by decide)).trans g2)
            · exact (st7 153 (by decide) (by decide) (by decide)).trans ((st6 153 (by decide) (by decide) (by decide) (by decide) (by decide)).trans g3)
            · rw [st7 155 (by decide) (by decide) (by decide), W_155 a5.sg, if_pos rfl]
            · rw [MR_nd, if_neg (by omega)]
              exact ⟨by omega, ⟨fun z => absurd z (by decide), fun z => absurd z (by decide), fun z => absurd z (by decide), fun _ => W_154 a7.sg _ _, fun z => absurd z (by decide)⟩, NE.keep y _ _ s s (w1.ag _ _ _) ny, MR_nl _ _ _ _ _ _⟩
          · exact (st7 161 (by decide) (by decide) (by decide)).trans ((st6 161 (by decide) (by decide) (by decide) (by decide) (by decide)).trans g8)
          · rw [c1]; omega
          · rw [c2]; omega
          · rw [c3']; omega
          · rw [c1]; omega
        · rw [hq2] at vp
          obtain ⟨v7, h7, n', l', e7, a7, f7, d1, d2, d3⟩ := vp
          rw [e7, Pr.bind_no, PostS_no]
          have cw := stA_wr (s := s) h7 154 s v7 (by omega) (Nat.le_refl _)
          obtain ⟨h8, e8, a8, f8⟩ := semi_er (N := N) (v := Int32.ofNat s) (a7.sta cw)
          exact ⟨_, h8, n', l', q, e8, a8, (f16.trans ((f7.toS.trans (stA_fr cw)).mono (Nat.le_refl _) (by omega) (by omega) (Nat.le_refl _))).trans (f8.toS.mono (Nat.le_refl _) (by omega) (by omega) (Nat.le_refl _)), by omega, by omega, by omega, Nat.le_refl _⟩
      by_cases k4 : nK (kd x) ka = 4
      · have hc : isPlaceE x = true := by unfold isPlaceE; rw [p4.mp k4]; rfl
        rw [if_pos k4, if_pos ⟨k61, hc⟩]
        exact give hc
      · rw [if_neg k4]
        by_cases k6 : nK (kd x) ka = 6
        · have hc : isPlaceE x = true := by unfold isPlaceE; rw [p6.mp k6]; rfl
          rw [if_pos k6, if_pos ⟨k61, hc⟩]
          exact give hc
        · rw [if_neg k6]
          by_cases k7 : nK (kd x) ka = 7
          · have hc : isPlaceE x = true := by unfold isPlaceE; rw [p7.mp k7]; rfl
            rw [if_pos k7, if_pos ⟨k61, hc⟩]
            exact give hc
          · have hn : ¬ (tkK T t1 = 61 ∧ isPlaceE x = true) := fun z => by
              have hc := z.2
              unfold isPlaceE at hc
              simp only [Bool.or_eq_true, beq_iff_eq] at hc
              rcases hc with (y | y) | y
              · exact k4 (p4.mpr y)
              · exact k6 (p6.mpr y)
              · exact k7 (p7.mpr y)
            rw [if_neg k7, if_neg hn]
            exact other hn
    · have hn : ¬ (tkK T t1 = 61 ∧ isPlaceE x = true) := fun z => k61 z.1
      rw [if_neg k61, if_pos rfl, if_neg hn]
      exact other hn
  · rw [hq, PostE_no] at hp
    obtain ⟨v, h2, n', l', e2, a2, f2, d1, d2, d3, d4, d5⟩ := hp
    have hneg : ¬ rd h2 138 9 < 0 := by
      rw [a2.1.2.2.1, show (0 : Int32) = Int32.ofNat 0 from rfl, iLt (by have := a2.1.2.1; omega) (by decide)]
      omega
    rw [e2, Option.bind_some, Pr.bind_no, PostS_no]
    dsimp only
    rw [g_138_9 a2.sg, Option.bind_some, if_neg hneg]
    exact ⟨_, h2, n', l', q, rfl, a2, f1.trans f2.toS, d3, d4, d5, Nat.le_refl _⟩
