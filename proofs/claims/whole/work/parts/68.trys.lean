theorem cnt_whil {p : Nat} {c a : Tr} : stB (bWhil p c a nl) = 1 + stB a ∧ szB (bWhil p c a nl) = sz c + szB a ∧ lsB (bWhil p c a nl) = ls c + lsB a := by
  unfold bWhil
  rw [stB_nd, szB_nd, lsB_nd, stB_nd, szB_nd, lsB_nd]
  simp only [stB_nl, szB_nl, lsB_nl]
  simp
theorem SR_whil {T : Txt} {h : pH} {p s n l : Nat} {c a : Tr} (sc : 1 ≤ sz c) (r1 : rd h 151 s = 2) (r2 : rd h 152 s = Int32.ofNat p) (r3 : rd h 153 s = Int32.ofNat n) (r4 : rd h 154 s = Int32.ofNat (n + sz c - 1)) (r5 : rd h 155 s = -1) (hc : NE T h c n l) (r6 : rd h 159 s = fsB a (s + 1)) (ha : RB T h a none (s + 1) (n + sz c) (l + ls c)) : SR T h (bWhil p c a nl) s n l := by
  unfold bWhil
  rw [SR_nd, MR_nd, if_pos (by omega)]
  exact ⟨by omega, ⟨r1, r2, r3, fun _ => by rw [r4, if_neg (by omega)], by rw [r5, if_neg (by omega), if_neg (by omega)], fun z => by omega⟩, hc, by omega, ⟨fun _ => r6, fun z => absurd z (by decide), fun z => absurd z (by decide), fun z => absurd z (by decide), fun z => absurd z (by decide)⟩, ha, MR_nl _ _ _ _ _ _⟩
theorem while_post {T : Txt} {N t r s n l q : Nat} {rc : Nat → List Value → pH → Option (Option Value × pH)} {bk : Nat → Pr (Tr × Nat)} {h : pH} (hB : ∀ t s n l q h, At2 T t r s n l q h → PostB T (bk t) t r s n l q h (rcI rc 253 [.ref 138] h)) (hE : BlkE rc) (a : At2 T t r s n l q h) (hN : 3200 ≤ N) (hK : tkK T t = 8) : PostS T ((tkS T).whileS r bk t) t r s n l q h (fX12_statement_107 N rc 138 8 h) := by
  have hP := a.1.P_le
  have hs0 := a.2.2
  have hs : s < 1600 := by omega
  have hm := tk_mono T t (by rw [hK]; decide)
  obtain ⟨h1, e1, a1, e25, f1, bg⟩ := a.begun (N := N) 2
  obtain ⟨h2, e2, a2, f2⟩ := a1.next hN (by rw [hK]; decide) (by rw [hK]; decide)
  obtain ⟨g1, g2, g3, g4, g5, g6, g7, g8⟩ := bg.keep (fun b h1 h2 => f2.st ⟨h1, h2⟩)
  have f12 : FrS s n l q h h2 := f1.trans f2.toS
  have e252 : rd h2 138 25 = Int32.ofNat (s + 1) := f2.r25 e25
  have hp := a2.paren (N := N) hN
  unfold fX12_statement_107
  rw [if_neg (show ¬ (8 : Int32) = 6 by decide), if_neg (show ¬ (8 : Int32) = 7 by decide), if_pos rfl, e1, Option.bind_some]
  dsimp only
  rw [e2, Option.bind_some, R_138_29 a2.sg, Option.bind_some]
  show PostS T (Pr.bind ((tkS T).brk r ((tkS T).expr (r - 1)) 40 41 (t + 1)) fun c t1 => Pr.bind (bk t1) fun a t2 => ok (bWhil (tkP T t) c a.1 nl) t2) t r s n l q h _
  rcases hq : (tkS T).brk r ((tkS T).expr (r - 1)) 40 41 (t + 1) with ⟨c, t1⟩ | w
  · rw [hq, PostE_ok] at hp
    obtain ⟨h3, e3, a3, nc, f3, sc, b1, b2⟩ := hp
    have c4 := stA_wr (s := s) h3 154 s (Int32.ofNat (n + sz c - 1)) (by omega) (Nat.le_refl _)
    have a4 := a3.sta c4
    have e254 : rd (wr h3 154 s (Int32.ofNat (n + sz c - 1))) 138 25 = Int32.ofNat (s + 1) := by rw [rd_wr_ne _ _ (by omega), f3.f25]; exact e252
    have a42 : At2 T t1 r (s + 1) (n + sz c) (l + ls c) q (wr h3 154 s (Int32.ofNat (n + sz c - 1))) := ⟨a4, e254, by omega⟩
    have f14 : FrS s n l q h (wr h3 154 s (Int32.ofNat (n + sz c - 1))) := f12.trans (f3.toS.trans (stA_fr c4))
    have st4 : ∀ b, b ≠ 154 → 151 ≤ b → b ≤ 161 → rd (wr h3 154 s (Int32.ofNat (n + sz c - 1))) b s = rd h2 b s := fun b hb hb1 hb2 => by rw [rd_st _ (Ne.symm hb), f3.st ⟨hb1, hb2⟩]
    rw [e3, Option.bind_some, Pr.bind_ok]
    dsimp only
    rw [T_154 a3.sg hs, Option.bind_some, R_138_34 a4.sg, Option.bind_some]
    have bp := blk_post (N := N) (bk := bk) (rc := rc) (s := s) (st159 hs) a42 (hB _ _ _ _ _ _ a42) (fun h39 => some (Int32.ofNat s, h39))
    rcases hq2 : bk t1 with ⟨bb, t2⟩ | w
    · rw [hq2] at bp
      obtain ⟨h5, e5, a5, rb, f5, d1, d2, d3⟩ := bp
      rw [e5, Pr.bind_ok, PostS_ok]
      have c6 := stA_wr (s := s) h5 159 s (fsB bb.1 (s + 1)) (by omega) (Nat.le_refl _)
      have st6 : ∀ b, b ≠ 159 → 151 ≤ b → b ≤ 161 → rd (wr h5 159 s (fsB bb.1 (s + 1))) b s = rd (wr h3 154 s (Int32.ofNat (n + sz c - 1))) b s := fun b hb hb1 hb2 => by rw [rd_st _ (Ne.symm hb), f5.st ⟨hb1, hb2⟩ (by omega)]
      have nc6 : NE T (wr h5 159 s (fsB bb.1 (s + 1))) c n l := NE.keep c n l (s + 1) (s + 1) (Ag_wr _ (by omega) _ _ _ _ _) (NE.keep c n l (s + 1) (s + 1) (f5.ag _ _ _) (NE.keep c n l (s + 1) (s + 1) (Ag_wr _ (by omega) _ _ _ _ _) nc))
      have rb6 : RB T (wr h5 159 s (fsB bb.1 (s + 1))) bb.1 none (s + 1) (n + sz c) (l + ls c) := RB.keep _ _ _ _ _ (Ag_wr _ (by omega) _ _ _ _ _) (fun j hj => by cases hj) rb
      obtain ⟨c1, c2, c3⟩ := cnt_whil (p := tkP T t) (c := c) (a := bb.1)
      refine ⟨_, rfl, ⟨?_, ?_, ?_⟩, SR_whil sc ?_ ?_ ?_ ?_ ?_ nc6 (W_159 a5.1.sg _ _) rb6, ?_, f14.trans ((f5.mono (by omega) (by omega) (by omega) (Nat.le_refl _)).trans (stA_fr c6)), ?_, ?_, ?_⟩
      · rw [c2, c3, show n + (sz c + szB bb.1) = n + sz c + szB bb.1 by omega, show l + (ls c + lsB bb.1) = l + ls c + lsB bb.1 by omega]
        exact a5.1.sta c6
      · rw [c1, rd_wr_ne _ _ (by omega), show s + (1 + stB bb.1) = s + 1 + stB bb.1 by omega]
        exact a5.2.1
      · rw [c1]; omega
      · exact (st6 151 (by decide) (by decide) (by decide)).trans ((st4 151 (by decide) (by decide) (by decide)).trans g1)
      · exact (st6 152 (by decide) (by decide) (by decide)).trans ((st4 152 (by decide) (by decide) (by decide)).trans g2)
      · exact (st6 153 (by decide) (by decide) (by decide)).trans ((st4 153 (by decide) (by decide) (by decide)).trans g3)
      · exact (st6 154 (by decide) (by decide) (by decide)).trans (W_154 a3.sg _ _)
      · exact (st6 155 (by decide) (by decide) (by decide)).trans ((st4 155 (by decide) (by decide) (by decide)).trans g5)
      · exact (st6 161 (by decide) (by decide) (by decide)).trans ((st4 161 (by decide) (by decide) (by decide)).trans g8)
      · rw [c1]; omega
      · rw [c2]; omega
      · rw [c3]; omega
    · rw [hq2] at bp
      obtain ⟨v5, h5, n', l', q', e5, a5, f5, d1, d2, d3, d4⟩ := bp
      rw [e5, Pr.bind_no, PostS_no]
      have c6 := stA_wr (s := s) h5 159 s v5 (by omega) (Nat.le_refl _)
      exact ⟨_, _, n', l', q', rfl, a5.sta c6, f14.trans ((f5.mono (by omega) (by omega) (by omega) (Nat.le_refl _)).trans (stA_fr c6)), by omega, by omega, by omega, d4⟩
  · rw [hq, PostE_no] at hp
    obtain ⟨v3, h3, n', l', e3, a3, f3, d1, d2, d3, d4, d5⟩ := hp
    have c4 := stA_wr (s := s) h3 154 s v3 (by omega) (Nat.le_refl _)
    have a4 := a3.sta c4
    rw [e3, Option.bind_some, Pr.bind_no]
    dsimp only
    rw [T_154 a3.sg hs, Option.bind_some, R_138_34 a4.sg, Option.bind_some]
    obtain ⟨v5, h5, e5, a5, f5⟩ := blk_er (s := s) hE (st159 hs) a4 (fun h39 => some (Int32.ofNat s, h39))
    rw [e5, PostS_no]
    have c6 := stA_wr (s := s) h5 159 s v5 (by omega) (Nat.le_refl _)
    exact ⟨_, _, n', l', q, rfl, a5.sta c6, (f12.trans (f3.toS.trans (stA_fr c4))).trans ((f5.toS.mono (Nat.le_refl _) d4 d5 (Nat.le_refl _)).trans (stA_fr c6)), by omega, d4, d5, Nat.le_refl _⟩
theorem keyS_11 {w : List Int32} (h : keyS w = 11) : w = [116, 114, 121] := by
  unfold keyS at h
  by_cases z1 : w = [99, 108, 97, 115, 115]
  · rw [if_pos z1] at h
    exact absurd h (by decide)
  rw [if_neg z1] at h
  by_cases z2 : w = [105, 110, 116]
  · rw [if_pos z2] at h
    exact absurd h (by decide)
  rw [if_neg z2] at h
  by_cases z3 : w = [98, 111, 111, 108]
  · rw [if_pos z3] at h
    exact absurd h (by decide)
  rw [if_neg z3] at h
  by_cases z4 : w = [105, 110, 116, 115]
  · rw [if_pos z4] at h
    exact absurd h (by decide)
  rw [if_neg z4] at h
  by_cases z5 : w = [118, 111, 105, 100]
  · rw [if_pos z5] at h
    exact absurd h (by decide)
  rw [if_neg z5] at h
  by_cases z6 : w = [105, 102]
  · rw [if_pos z6] at h
    exact absurd h (by decide)
  rw [if_neg z6] at h
  by_cases z7 : w = [101, 108, 115, 101]
  · rw [if_pos z7] at h
    exact absurd h (by decide)
  rw [if_neg z7] at h
  by_cases z8 : w = [119, 104, 105, 108, 101]
  · rw [if_pos z8] at h
    exact absurd h (by decide)
  rw [if_neg z8] at h
  by_cases z9 : w = [114, 101, 116, 117, 114, 110]
  · rw [if_pos z9] at h
    exact absurd h (by decide)
  rw [if_neg z9] at h
  by_cases z10 : w = [116, 104, 114, 111, 119]
  · rw [if_pos z10] at h
    exact absurd h (by decide)
  rw [if_neg z10] at h
  by_cases z11 : w = [116, 114, 121]
  · exact z11
  rw [if_neg z11] at h
  by_cases z12 : w = [99, 97, 116, 99, 104]
  · rw [if_pos z12] at h
    exact absurd h (by decide)
  rw [if_neg z12] at h
  by_cases z13 : w = [112, 114, 105, 110, 116]
  · rw [if_pos z13] at h
    exact absurd h (by decide)
  rw [if_neg z13] at h
  by_cases z14 : w = [110, 101, 119]
  · rw [if_pos z14] at h
    exact absurd h (by decide)
  rw [if_neg z14] at h
  by_cases z15 : w = [110, 117, 108, 108]
  · rw [if_pos z15] at h
    exact absurd h (by decide)
  rw [if_neg z15] at h
  by_cases z16 : w = [116, 114, 117, 101]
  · rw [if_pos z16] at h
    exact absurd h (by decide)
  rw [if_neg z16] at h
  by_cases z17 : w = [102, 97, 108, 115, 101]
  · rw [if_pos z17] at h
    exact absurd h (by decide)
  rw [if_neg z17] at h
  by_cases z18 : w = [116, 104, 105, 115]
  · rw [if_pos z18] at h
    exact absurd h (by decide)
  rw [if_neg z18] at h
  by_cases z19 : w = [114, 101, 97, 100]
  · rw [if_pos z19] at h
    exact absurd h (by decide)
  rw [if_neg z19] at h
  by_cases z20 : w = [97, 115]
  · rw [if_pos z20] at h
    exact absurd h (by decide)
  rw [if_neg z20] at h
  by_cases z21 : w = [105, 115]
  · rw [if_pos z21] at h
    exact absurd h (by decide)
  rw [if_neg z21] at h
  exact absurd h (by decide)
theorem Tk_try {s : Nat → Int32} {L P n : Nat} {K V : Int32} (h : Tk s L P n K V) (hK : K = 11) : n = 3 := by
  rcases h with ⟨a0, a1, a2, a3⟩ | ⟨a0, a1, a2, a3, a4⟩ | ⟨a0, a1, a2, a3, a4⟩ | ⟨a0, a1, a2, a3, a4⟩
  · rw [hK] at a2; exact absurd a2 (by decide)
  · rw [hK] at a3
    by_cases y : keyS (wl s P n) = 0
    · rw [if_pos y] at a3; exact absurd a3 (by decide)
    · rw [if_neg y, show (11 : Int32) = Int32.ofNat 11 from rfl] at a3
      have hle := keyS_le (wl s P n)
      have e := (iEq (by decide) (by omega)).mp a3
      have e2 := keyS_11 e.symm
      have e3 := congrArg List.length e2
      unfold wl at e3
      rw [List.length_map, List.length_range] at e3
      exact e3
  · rcases a4 with ⟨c1, c2, c3⟩ | ⟨c1, c2, c3⟩ <;> rw [hK] at c2 <;> exact absurd c2 (by decide)
  · exfalso
    rcases a4 with ⟨c1, c2, c3⟩ | ⟨c1, c2, c3, c4⟩ | ⟨c1, c2, c3, c4⟩
    · rw [hK] at c2
      rcases two2_24 (s P) (byt2 s L P) with z | z | z | z | z | z <;> rw [z] at c2 <;> exact absurd c2 (by decide)
    · rw [← c3, hK] at c2; exact absurd c2 (by decide)
    · rw [hK] at c3; exact absurd c3 (by decide)
theorem cnt_try {p c w : Nat} {a b : Tr} : stB (bTry p a c w b nl) = 1 + stB a + stB b ∧ szB (bTry p a c w b nl) = szB a + szB b ∧ lsB (bTry p a c w b nl) = lsB a + lsB b := by
  unfold bTry
  rw [stB_nd, szB_nd, lsB_nd, stB_nd, szB_nd, lsB_nd, stB_nd, szB_nd, lsB_nd, stB_nd, szB_nd, lsB_nd]
  simp only [stB_nl, szB_nl, lsB_nl, sz_nl, ls_nl]
  simp
  omega
theorem SR_try {T : Txt} {h : pH} {p x w s n l : Nat} {a b : Tr} (r1 : rd h 151 s = 5) (r2 : rd h 152 s = Int32.ofNat p) (r3 : rd h 153 s = Int32.ofNat n) (r4 : rd h 154 s = -1) (r5 : rd h 155 s = -1) (r6 : rd h 159 s = fsB a (s + 1)) (ha : RB T h a none (s + 1) n l) (r8 : tyR T h (4 + x) (rd h 156 s)) (r9 : NmIs T h w (rd h 157 s)) (r7 : rd h 160 s = fsB b (s + 1 + stB a)) (hb : RB T h b none (s + 1 + stB a) (n + szB a) (l + lsB a)) : SR T h (bTry p a x w b nl) s n l := by
  unfold bTry
  rw [SR_nd, MR_nd, if_pos (by omega), MR_nd, if_neg (by omega), MR_nd, if_pos (by omega), sz_nl, ls_nl]
  exact ⟨by omega, ⟨r1, r2, r3, fun _ => by rw [r4, if_pos sz_nl], by rw [r5, if_neg (by omega), if_neg (by omega)], fun z => by omega⟩, NE_nl _ _ _ _, by omega, ⟨fun _ => r6, fun z => absurd z (by decide), fun z => absurd z (by decide), fun z => absurd z (by decide), fun z => absurd z (by decide)⟩, ha, by omega, ⟨fun z => absurd z (by decide), fun z => absurd z (by decide), fun z => absurd z (by decide), fun z => absurd z (by decide), fun _ => ⟨r8, r9⟩⟩, NE_nl _ _ _ _, by omega, ⟨fun z => absurd z (by decide), fun _ => r7, fun z => absurd z (by decide), fun z => absurd z (by decide), fun z => absurd z (by decide)⟩, hb, MR_nl _ _ _ _ _ _⟩
theorem try_post {T : Txt} {N t r s n l q : Nat} {rc : Nat → List Value → pH → Option (Option Value × pH)} {bk : Nat → Pr (Tr × Nat)} {h : pH} (hB : ∀ t s n l q h, At2 T t r s n l q h → PostB T (bk t) t r s n l q h (rcI rc 253 [.ref 138] h)) (hE : BlkE rc) (a : At2 T t r s n l q h) (hN : 3200 ≤ N) (hK : tkK T t = 11) : PostS T ((tkS T).tryS r bk t) t r s n l q h (fX12_statement_107 N rc 138 11 h) := by
  have hP := a.1.P_le
  have hs0 := a.2.2
  have hs : s < 1600 := by omega
  have hm := tk_mono T t (by rw [hK]; decide)
  have hm1 : tkP T t + 3 ≤ tkP T (t + 1) := by
    have h1 := tkE_le_P T t
    have h2 := tkE_eq T t
    have h3 : tkN T (tkP T t) = 3 := Tk_try (tk_is T t) hK
    omega
  obtain ⟨h1, e1, a1, e25, f1, bg⟩ := a.begun (N := N) 5
  obtain ⟨h2, e2, a2, f2⟩ := a1.next hN (by rw [hK]; decide) (by rw [hK]; decide)
  obtain ⟨g1, g2, g3, g4, g5, g6, g7, g8⟩ := bg.keep (fun b h1 h2 => f2.st ⟨h1, h2⟩)
  have f12 : FrS s n l q h h2 := f1.trans f2.toS
  have e252 : rd h2 138 25 = Int32.ofNat (s + 1) := f2.r25 e25
  have a22 : At2 T (t + 1) r (s + 1) n l q h2 := ⟨a2, e252, by omega⟩
  unfold fX12_statement_107
  rw [if_neg (show ¬ (11 : Int32) = 6 by decide), if_neg (show ¬ (11 : Int32) = 7 by decide), if_neg (show ¬ (11 : Int32) = 8 by decide), if_neg (show ¬ (11 : Int32) = 9 by decide), if_neg (show ¬ (11 : Int32) = 10 by decide), if_pos rfl, e1, Option.bind_some]
  dsimp only
  rw [e2, Option.bind_some, R_138_34 a2.sg, Option.bind_some]
  show PostS T (Pr.bind (bk (t + 1)) fun a t1 => if tkK T t1 ≠ 12 then no (tkP T t1) else if tkK T (t1 + 1) ≠ 40 ∨ r = 0 then no (tkP T (t1 + 1)) else if tkK T (t1 + 2) ≠ 22 then no (tkP T (t1 + 2)) else if tkK T (t1 + 3) ≠ 22 then no (tkP T (t1 + 3)) else if tkK T (t1 + 4) ≠ 41 then no (tkP T (t1 + 4)) else Pr.bind (bk (t1 + 5)) fun b t2 => ok (bTry (tkP T t) a.1 (t1 + 2) (t1 + 3) b.1 nl) t2) t r s n l q h _
  have bp := blk_post (N := N) (bk := bk) (rc := rc) (s := s) (st159 hs) a22 (hB _ _ _ _ _ _ a22) (fun h57 => (fX12_isKey N 138 12 h57).bind fun q58 => (fX12_passes N 138 q58.1 q58.2).bind fun q59 => if q59.1 = 0 then some (Int32.ofNat s, q59.2) else (fX12_isSign N 138 40 q59.2).bind fun q61 => (fX12_opens N 138 q61.1 q61.2).bind fun q62 => if q62.1 = 0 then some (Int32.ofNat s, q62.2) else (getR q62.2 138 12 31).bind fun t64 => (getI q62.2 138 12 8).bind fun t65 => (stI q62.2 t64 (Int32.ofNat s) ((10 : Int32) + t65)).bind fun h66 => (fX12_name N 138 h66).bind fun q67 => (getR q67.2 138 12 32).bind fun t68 => (fX12_name N 138 q67.2).bind fun q69 => (stI q69.2 t68 (Int32.ofNat s) q69.1).bind fun h70 => (fX12_closes N 138 41 h70).bind fun h71 => (getR h71 138 12 35).bind fun t72 => (if isO h71 138 12 = true then some () else none).bind fun _ => (rcI rc 253 [.ref 138] h71).bind fun q74 => (stI q74.2 t72 (Int32.ofNat s) q74.1).bind fun h75 => some (Int32.ofNat s, h75))
  rcases hq : bk (t + 1) with ⟨bb, t1⟩ | w
  · rw [hq] at bp
    obtain ⟨h3, e3, a3, rb, f3, d1, d2, d3⟩ := bp
    rw [e3, Pr.bind_ok]
    have c4 := stA_wr (s := s) h3 159 s (fsB bb.1 (s + 1)) (by omega) (Nat.le_refl _)
    have a4 := a3.1.sta c4
    have f14 : FrS s n l q h (wr h3 159 s (fsB bb.1 (s + 1))) := f12.trans ((f3.mono (by omega) (by omega) (by omega) (Nat.le_refl _)).trans (stA_fr c4))
    have st4 : ∀ b, b ≠ 159 → 151 ≤ b → b ≤ 161 → rd (wr h3 159 s (fsB bb.1 (s + 1))) b s = rd h2 b s := fun b hb hb1 hb2 => by rw [rd_st _ (Ne.symm hb), f3.st ⟨hb1, hb2⟩ (by omega)]
    have rb4 : RB T (wr h3 159 s (fsB bb.1 (s + 1))) bb.1 none (s + 1) n l := RB.keep _ _ _ _ _ (Ag_wr _ (by omega) _ _ _ _ _) (fun j hj => by cases hj) rb
    have e254 : rd (wr h3 159 s (fsB bb.1 (s + 1))) 138 25 = Int32.ofNat (s + 1 + stB bb.1) := by rw [rd_wr_ne _ _ (by omega)]; exact a3.2.1
    rw [show (12 : Int32) = Int32.ofNat 12 from rfl, r_isKey a4.1 (by decide) (by decide), Option.bind_some]
    dsimp only
    by_cases k12 : tkK T t1 = Int32.ofNat 12
    · obtain ⟨h5, e5, a5, f5⟩ := a4.passes1 (N := N) (g := 1) (by decide) hN (by rw [k12]; decide) (by rw [k12]; decide)
      have hmA := tk_mono T t1 (by rw [k12]; decide)
      rw [if_pos k12, e5, Option.bind_some, if_neg (show ¬ tkK T t1 ≠ Int32.ofNat 12 from fun z => z k12)]
      dsimp only
      rw [if_neg (show ¬ (1 : Int32) = 0 by decide), r_isSign a5.1 (k := 40) (by unfold isSK isSgn; simp) (by decide), Option.bind_some]
      dsimp only
      by_cases hc : tkK T (t1 + 1) ≠ 40 ∨ r = 0
      · rw [if_pos hc]
        obtain ⟨h6, e6, a6, f6⟩ := a5.opens0 (N := N) (if tkK T (t1 + 1) = 40 then 1 else 0) (hc.imp (fun z => if_neg z) (fun z => z))
        rw [e6, Option.bind_some]
        dsimp only
        rw [if_pos rfl, PostS_no]
        exact ⟨_, h6, _, _, _, rfl, a6, f14.trans ((f5.trans f6).toS.mono (Nat.le_refl _) (by omega) (by omega) (Nat.le_refl _)), by omega, by omega, by omega, Nat.le_refl _⟩
      · rw [if_neg hc]
        have k40 : tkK T (t1 + 1) = 40 := Decidable.not_not.mp (fun z => hc (Or.inl z))
        obtain ⟨r', rfl⟩ : ∃ r', r = r' + 1 := ⟨r - 1, by have : r ≠ 0 := fun z => hc (Or.inr z); omega⟩
        have hr := a5.2.1
        obtain ⟨h6, e6, a6, f6⟩ := a5.opens1 (N := N) (g := 1) (by decide) hN (by rw [k40]; decide) (by rw [k40]; decide)
        have hmB : tkP T (t1 + 1) < tkP T (t1 + 2) := tk_mono T (t1 + 1) (by rw [k40]; decide)
        have a6 : At T (t1 + 2) r' (n + szB bb.1) (l + lsB bb.1) q h6 := a6
        rw [if_pos k40, e6, Option.bind_some]
        dsimp only
        have c7 := stA_wr (s := s) h6 156 s (10 + rd h6 138 8) (by omega) (Nat.le_refl _)
        have a7 := a6.sta c7
        have f17 : FrS s n l q h (wr h6 156 s (10 + rd h6 138 8)) := f14.trans (((f5.trans f6).toS.trans (stA_fr c7)).mono (Nat.le_refl _) (by omega) (by omega) (Nat.le_refl _))
        rw [if_neg (show ¬ (1 : Int32) = 0 by decide), R_138_31 a6.sg, Option.bind_some, g_138_8 a6.sg, Option.bind_some, T_156 a6.sg hs, Option.bind_some]
        -- gone wrong among the names
        have tail : ∀ w n' l' q' g, Er w n' l' q' g → n ≤ n' → l ≤ l' → q ≤ q' → FrS s n l q h g → tkP T t ≤ w → PostS T (no w) t (r' + 1) s n l q h ((fX12_closes N 138 41 g).bind fun h71 => (getR h71 138 12 35).bind fun t72 => (if isO h71 138 12 = true then some () else none).bind fun _ => (rcI rc 253 [.ref 138] h71).bind fun q74 => (stI q74.2 t72 (Int32.ofNat s) q74.1).bind fun h75 => some (Int32.ofNat s, h75)) := by
          intro w n' l' q' g ag hn hl hq' hf hw
          obtain ⟨g2', e2', ag2, fg2⟩ := ag.closes (N := N) 41
          rw [e2', Option.bind_some, R_138_35 ag2.sg, Option.bind_some]
          obtain ⟨v5, h5', e5', a5', f5'⟩ := blk_er (s := s) hE (st160 hs) ag2 (fun h39 => some (Int32.ofNat s, h39))
          rw [e5', PostS_no]
          have c6 := stA_wr (s := s) h5' 160 s v5 (by omega) (Nat.le_refl _)
          exact ⟨_, _, n', l', q', rfl, a5'.sta c6, hf.trans (((fg2.trans f5').toS.mono (Nat.le_refl _) hn hl hq').trans (stA_fr c6)), hw, hn, hl, hq'⟩
        by_cases k22 : tkK T (t1 + 2) = 22
        · obtain ⟨id0, hw0, hwn0⟩ := a6.1.2.2.2.2.2.2.1
          have r8 : rd h6 138 8 = Int32.ofNat id0 := hw0.name k22
          have nm0 : NmIs T h6 (t1 + 2) (Int32.ofNat id0) := ⟨id0, rfl, hwn0 k22⟩
          obtain ⟨h8, v8, e8, nm8, a8, f8⟩ := a7.name1 hN k22
          have hmC : tkP T (t1 + 2) < tkP T (t1 + 3) := tk_mono T (t1 + 2) (by rw [k22]; decide)
          have a8 : At T (t1 + 3) r' (n + szB bb.1) (l + lsB bb.1) q h8 := a8
          rw [if_neg (show ¬ tkK T (t1 + 2) ≠ 22 from fun z => z k22), e8, Option.bind_some]
          dsimp only
          rw [R_138_32 a8.sg, Option.bind_some]
          by_cases k22' : tkK T (t1 + 3) = 22
          · obtain ⟨h9, v9, e9, nm9, a9, f9⟩ := a8.name1 hN k22'
            have hmD : tkP T (t1 + 3) < tkP T (t1 + 4) := tk_mono T (t1 + 3) (by rw [k22']; decide)
            have a9 : At T (t1 + 4) r' (n + szB bb.1) (l + lsB bb.1) q h9 := a9
            have c10 := stA_wr (s := s) h9 157 s v9 (by omega) (Nat.le_refl _)
            have a10 := a9.sta c10
            rw [if_neg (show ¬ tkK T (t1 + 3) ≠ 22 from fun z => z k22'), e9, Option.bind_some]
            dsimp only
            rw [T_157 a9.sg hs, Option.bind_some]
            have f110 : FrS s n l q h (wr h9 157 s v9) := f17.trans (((f8.trans f9).toS.trans (stA_fr c10)).mono (Nat.le_refl _) (by omega) (by omega) (Nat.le_refl _))
            by_cases k41 : tkK T (t1 + 4) = 41
            · obtain ⟨h11, e11, a11, f11⟩ := a10.closes1 (N := N) (k := 41) (c := 41) hr (by unfold isSK isSgn; simp) (by decide) hN k41
              have hmE : tkP T (t1 + 4) < tkP T (t1 + 5) := tk_mono T (t1 + 4) (by rw [k41]; decide)
              have a11 : At T (t1 + 5) (r' + 1) (n + szB bb.1) (l + lsB bb.1) q h11 := a11
              rw [if_neg (show ¬ tkK T (t1 + 4) ≠ 41 from fun z => z k41), e11, Option.bind_some, R_138_35 a11.sg, Option.bind_some]
              have f111 : FrS s n l q h h11 := f110.trans (f11.toS.mono (Nat.le_refl _) (by omega) (by omega) (Nat.le_refl _))
              have st11 : ∀ b, b ≠ 156 → b ≠ 157 → 151 ≤ b → b ≤ 161 → rd h11 b s = rd (wr h3 159 s (fsB bb.1 (s + 1))) b s := fun b hb hb' hb1 hb2 => by rw [f11.st ⟨hb1, hb2⟩, rd_st _ (Ne.symm hb'), f9.st ⟨hb1, hb2⟩, f8.st ⟨hb1, hb2⟩, rd_st _ (Ne.symm hb), f6.st ⟨hb1, hb2⟩, f5.st ⟨hb1, hb2⟩]
              have e2511 : rd h11 138 25 = Int32.ofNat (s + 1 + stB bb.1) := by rw [f11.f25, rd_wr_ne _ _ (by omega), f9.f25, f8.f25, rd_wr_ne _ _ (by omega), f6.f25, f5.f25]; exact e254
              have a112 : At2 T (t1 + 5) (r' + 1) (s + 1 + stB bb.1) (n + szB bb.1) (l + lsB bb.1) q h11 := ⟨a11, e2511, by have := a3.2.2; omega⟩
              have r156 : rd h11 156 s = 10 + Int32.ofNat id0 := by rw [f11.st (by omega), rd_st _ (by decide), f9.st (by omega), f8.st (by omega), W_156 a6.sg, r8]
              have r157 : rd h11 157 s = v9 := by rw [f11.st (by omega), W_157 a9.sg]
              have n6 : NmLe h6 h11 := (((stA_fr (n := n) (l := l) (q := q) c7).2.trans f8.2).trans f9.2).trans ((stA_fr (n := n) (l := l) (q := q) c10).2.trans f11.2)
              have n8 : NmLe h8 h11 := f9.2.trans ((stA_fr (n := n) (l := l) (q := q) c10).2.trans f11.2)
              have ag11 : Ag (wr h3 159 s (fsB bb.1 (s + 1))) h11 (s + 1) (s + 1 + stB bb.1) n (n + szB bb.1) l (l + lsB bb.1) := (((((f5.ag _ _ _ _).trans (f6.ag _ _ _ _)).trans (Ag_wr _ (by omega) _ _ _ _ _)).trans (f8.ag _ _ _ _)).trans (f9.ag _ _ _ _)).trans ((Ag_wr _ (by omega) _ _ _ _ _).trans (f11.ag _ _ _ _))
              have bp2 := blk_post (N := N) (bk := bk) (rc := rc) (s := s) (st160 hs) a112 (hB _ _ _ _ _ _ a112) (fun h75 => some (Int32.ofNat s, h75))
              rcases hq3 : bk (t1 + 5) with ⟨b3, t3⟩ | w
              · rw [hq3] at bp2
                obtain ⟨h12, e12, a12, rb12, f12', i1, i2, i3⟩ := bp2
                rw [e12, Pr.bind_ok, PostS_ok]
                obtain ⟨c1, c2, c3⟩ := cnt_try (p := tkP T t) (c := t1 + 2) (w := t1 + 3) (a := bb.1) (b := b3.1)
                have cw := stA_wr (s := s) h12 160 s (fsB b3.1 (s + 1 + stB bb.1)) (by omega) (Nat.le_refl _)
                have st12 : ∀ b, b ≠ 160 → 151 ≤ b → b ≤ 161 → rd (wr h12 160 s (fsB b3.1 (s + 1 + stB bb.1))) b s = rd h11 b s := fun b hb hb1 hb2 => by rw [rd_st _ (Ne.symm hb), f12'.st ⟨hb1, hb2⟩ (by omega)]
                have n12 : NmLe h11 (wr h12 160 s (fsB b3.1 (s + 1 + stB bb.1))) := f12'.2.trans (stA_fr (n := n) (l := l) (q := q) cw).2
                have agF := ag11.trans ((f12'.ag (s + 1) n l).trans (Ag_wr (fsB b3.1 (s + 1 + stB bb.1)) (b := 160) (s := s) (by omega) _ _ _ _ _))
                have rbF := RB.keep bb.1 none (s + 1) n l (agF.sub (by omega) (by omega) (by omega) (by omega) (by omega) (by omega)) (fun j hj => by cases hj) rb4
                have rb12F := RB.keep b3.1 none _ _ _ (Ag_wr2 (h := h12) (s := s) (fsB b3.1 (s + 1 + stB bb.1)) (b := 160) (by omega) (by omega) _ _ _ _ _) (fun j hj => by cases hj) rb12
                refine ⟨_, rfl, ⟨?_, ?_, ?_⟩, SR_try ?_ ?_ ?_ ?_ ?_ ?_ rbF ?_ ?_ (W_160 a12.1.sg _ _) rb12F, ?_, f111.trans ((f12'.mono (by omega) (by omega) (by omega) (Nat.le_refl _)).trans (stA_fr cw)), ?_, ?_, ?_⟩
                · rw [c2, c3, show n + (szB bb.1 + szB b3.1) = n + szB bb.1 + szB b3.1 by omega, show l + (lsB bb.1 + lsB b3.1) = l + lsB bb.1 + lsB b3.1 by omega]
                  exact a12.1.sta cw
                · rw [c1, rd_wr_ne _ _ (by omega), show s + (1 + stB bb.1 + stB b3.1) = s + 1 + stB bb.1 + stB b3.1 by omega]
                  exact a12.2.1
                · rw [c1]; omega
                · exact (st12 151 (by decide) (by decide) (by decide)).trans ((st11 151 (by decide) (by decide) (by decide) (by decide)).trans ((st4 151 (by decide) (by decide) (by decide)).trans g1))
                · exact (st12 152 (by decide) (by decide) (by decide)).trans ((st11 152 (by decide) (by decide) (by decide) (by decide)).trans ((st4 152 (by decide) (by decide) (by decide)).trans g2))
                · exact (st12 153 (by decide) (by decide) (by decide)).trans ((st11 153 (by decide) (by decide) (by decide) (by decide)).trans ((st4 153 (by decide) (by decide) (by decide)).trans g3))
                · exact (st12 154 (by decide) (by decide) (by decide)).trans ((st11 154 (by decide) (by decide) (by decide) (by decide)).trans ((st4 154 (by decide) (by decide) (by decide)).trans g4))
                · exact (st12 155 (by decide) (by decide) (by decide)).trans ((st11 155 (by decide) (by decide) (by decide) (by decide)).trans ((st4 155 (by decide) (by decide) (by decide)).trans g5))
                · rw [st12 159 (by decide) (by decide) (by decide), st11 159 (by decide) (by decide) (by decide) (by decide), W_159 a3.1.sg]
                · rw [st12 156 (by decide) (by decide) (by decide), r156]
                  unfold tyR
                  rw [if_neg (by omega)]
                  exact ⟨Int32.ofNat id0, by rw [show 4 + (t1 + 2) - 4 = t1 + 2 by omega]; exact nm0.le (n6.trans n12), rfl⟩
                · rw [st12 157 (by decide) (by decide) (by decide), r157]
                  exact nm9.le (n8.trans n12)
                · exact (st12 161 (by decide) (by decide) (by decide)).trans ((st11 161 (by decide) (by decide) (by decide) (by decide)).trans ((st4 161 (by decide) (by decide) (by decide)).trans g8))
                · rw [c1]; omega
                · rw [c2]; omega
                · rw [c3]; omega
              · rw [hq3] at bp2
                obtain ⟨v12, h12, n', l', q', e12, a12, f12', i1, i2, i3, i4⟩ := bp2
                rw [e12, Pr.bind_no, PostS_no]
                have cw := stA_wr (s := s) h12 160 s v12 (by omega) (Nat.le_refl _)
                exact ⟨_, _, n', l', q', rfl, a12.sta cw, f111.trans ((f12'.mono (by omega) (by omega) (by omega) (Nat.le_refl _)).trans (stA_fr cw)), by omega, by omega, by omega, i4⟩
            · obtain ⟨h11, e11, a11, f11⟩ := a10.closes0 (N := N) (k := 41) (c := 41) (by unfold isSK isSgn; simp) (by decide) k41
              rw [if_pos k41, e11, Option.bind_some, R_138_35 a11.sg, Option.bind_some]
              obtain ⟨v5, h12, e12, a12, f12'⟩ := blk_er (s := s) hE (st160 hs) a11 (fun h39 => some (Int32.ofNat s, h39))
              rw [e12, PostS_no]
              have cw := stA_wr (s := s) h12 160 s v5 (by omega) (Nat.le_refl _)
              exact ⟨_, _, _, _, _, rfl, a12.sta cw, f110.trans (((f11.trans f12').toS.mono (Nat.le_refl _) (by omega) (by omega) (Nat.le_refl _)).trans (stA_fr cw)), by omega, by omega, by omega, Nat.le_refl _⟩
          · obtain ⟨h9, e9, a9, f9⟩ := a8.name0 (N := N) k22'
            have c10 := stA_wr (s := s) h9 157 s (-1) (by omega) (Nat.le_refl _)
            rw [if_pos k22', e9, Option.bind_some]
            dsimp only
            rw [T_157 a9.sg hs, Option.bind_some]
            exact tail _ _ _ _ _ (a9.sta c10) (by omega) (by omega) (Nat.le_refl _) (f17.trans (((f8.trans f9).toS.trans (stA_fr c10)).mono (Nat.le_refl _) (by omega) (by omega) (Nat.le_refl _))) (by omega)
        · obtain ⟨h8, e8, a8, f8⟩ := a7.name0 (N := N) k22
          obtain ⟨h9, e9, a9, f9⟩ := a8.name (N := N)
          have c10 := stA_wr (s := s) h9 157 s (-1) (by omega) (Nat.le_refl _)
          rw [if_pos k22, e8, Option.bind_some]
          dsimp only
          rw [R_138_32 a8.sg, Option.bind_some, e9, Option.bind_some]
          dsimp only
          rw [T_157 a9.sg hs, Option.bind_some]
          exact tail _ _ _ _ _ (a9.sta c10) (by omega) (by omega) (Nat.le_refl _) (f17.trans (((f8.trans f9).toS.trans (stA_fr c10)).mono (Nat.le_refl _) (by omega) (by omega) (Nat.le_refl _))) (by omega)
    · obtain ⟨h5, e5, a5, f5⟩ := a4.passes0 (N := N)
      rw [if_neg k12, e5, Option.bind_some, if_pos (show tkK T t1 ≠ Int32.ofNat 12 from k12)]
      dsimp only
      rw [if_pos rfl, PostS_no]
      exact ⟨_, h5, _, _, _, rfl, a5, f14.trans (f5.toS.mono (Nat.le_refl _) (by omega) (by omega) (Nat.le_refl _)), by omega, by omega, by omega, Nat.le_refl _⟩
  · rw [hq] at bp
    obtain ⟨v3, h3, n', l', q', e3, a3, f3, d1, d2, d3, d4⟩ := bp
    rw [e3, Pr.bind_no]
    have c4 := stA_wr (s := s) h3 159 s v3 (by omega) (Nat.le_refl _)
    have a4 := a3.sta c4
    obtain ⟨h5, e5, a5, f5⟩ := a4.passes (N := N) 0
    rw [e_isKey _ a4.1, Option.bind_some]
    dsimp only
    rw [e5, Option.bind_some]
    dsimp only
    rw [if_pos rfl, PostS_no]
    exact ⟨_, h5, n', l', q', rfl, a5, (f12.trans ((f3.mono (by omega) (Nat.le_refl _) (Nat.le_refl _) (Nat.le_refl _)).trans (stA_fr c4))).trans (f5.toS.mono (Nat.le_refl _) d2 d3 d4), by omega, d2, d3, d4⟩
