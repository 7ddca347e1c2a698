/-! ===== STATEMENTS WITH BLOCKS ===== -/
theorem Ag_wr {h : pH} {b s : Nat} (x : Int32) (hb : 151 ≤ b ∧ b ≤ 161) (s' n n' l l' : Nat) : Ag h (wr h b s x) (s + 1) s' n n' l l' :=
  ⟨fun a k _ _ h3 _ => rd_wr_ne _ _ (by omega), fun a m _ h2 _ _ => rd_wr_ne _ _ (by omega), fun m _ _ => rd_wr_ne _ _ (by omega), (stA_fr (n := 0) (l := 0) (q := 0) (stA_wr h b s x hb (Nat.le_refl _))).2⟩
theorem Ag_wr2 {h : pH} {b s s0 : Nat} (x : Int32) (hb : 151 ≤ b ∧ b ≤ 161) (h0 : s < s0) (s' n n' l l' : Nat) : Ag h (wr h b s x) s0 s' n n' l l' :=
  ⟨fun a k _ _ h3 _ => rd_wr_ne _ _ (by omega), fun a m _ h2 _ _ => rd_wr_ne _ _ (by omega), fun m _ _ => rd_wr_ne _ _ (by omega), (stA_fr (n := 0) (l := 0) (q := 0) (stA_wr h b s x hb (Nat.le_refl _))).2⟩
/-- a block for the statement s, put into the row A -/
theorem blk_post {T : Txt} {N t r s s1 n l q A : Nat} {rc : Nat → List Value → pH → Option (Option Value × pH)} {bk : Nat → Pr (Tr × Nat)} {h : pH} (hst : ∀ g x, Sg g → stI g A (Int32.ofNat s) x = some (wr g A s x)) (a : At2 T t r s1 n l q h) (hp : PostB T (bk t) t r s1 n l q h (rcI rc 253 [.ref 138] h)) (G : pH → Option (Int32 × pH)) : match bk t with
    | Sum.inl (b, t') => ∃ h', ((if isO h 138 12 = true then some () else none).bind fun _ => (rcI rc 253 [.ref 138] h).bind fun z => (stI z.2 A (Int32.ofNat s) z.1).bind fun g => G g) = G (wr h' A s (fsB b.1 s1)) ∧ At2 T t' r (s1 + stB b.1) (n + szB b.1) (l + lsB b.1) q h' ∧ RB T h' b.1 none s1 n l ∧ FrS s1 n l q h h' ∧ 2 * stB b.1 + 2 + tkP T t ≤ tkP T t' ∧ szB b.1 + tkP T t ≤ tkP T t' ∧ lsB b.1 + tkP T t ≤ tkP T t'
    | Sum.inr w => ∃ v h' n' l' q', ((if isO h 138 12 = true then some () else none).bind fun _ => (rcI rc 253 [.ref 138] h).bind fun z => (stI z.2 A (Int32.ofNat s) z.1).bind fun g => G g) = G (wr h' A s v) ∧ Er w n' l' q' h' ∧ FrS s1 n l q h h' ∧ tkP T t ≤ w ∧ n ≤ n' ∧ l ≤ l' ∧ q ≤ q' := by
  rcases hq : bk t with ⟨b, t'⟩ | w
  · rw [hq, PostB_ok] at hp
    obtain ⟨h', e, a', rb, e57, f, b1, b2, b3⟩ := hp
    refine ⟨h', ?_, a', rb, f, b1, b2, b3⟩
    rw [a.1.isO, Option.bind_some, e, Option.bind_some, hst _ _ a'.1.sg, Option.bind_some]
  · rw [hq, PostB_no] at hp
    obtain ⟨v, h', n', l', q', e, a', f, b1, b2, b3, b4⟩ := hp
    refine ⟨v, h', n', l', q', ?_, a', f, b1, b2, b3, b4⟩
    rw [a.1.isO, Option.bind_some, e, Option.bind_some, hst _ _ a'.sg, Option.bind_some]
/-- what a block does where all has gone wrong -/
def BlkE (rc : Nat → List Value → pH → Option (Option Value × pH)) : Prop := ∀ w n l q h, Er w n l q h → ∃ v h', rcI rc 253 [.ref 138] h = some (v, h') ∧ Er w n l q h' ∧ Fr n l q h h'
theorem blk_er {w n l q s A : Nat} {rc : Nat → List Value → pH → Option (Option Value × pH)} {h : pH} (hE : BlkE rc) (hst : ∀ g x, Sg g → stI g A (Int32.ofNat s) x = some (wr g A s x)) (a : Er w n l q h) (G : pH → Option (Int32 × pH)) : ∃ v h', ((if isO h 138 12 = true then some () else none).bind fun _ => (rcI rc 253 [.ref 138] h).bind fun z => (stI z.2 A (Int32.ofNat s) z.1).bind fun g => G g) = G (wr h' A s v) ∧ Er w n l q h' ∧ Fr n l q h h' := by
  obtain ⟨v, h', e, a', f⟩ := hE w n l q h a
  refine ⟨v, h', ?_, a', f⟩
  rw [if_pos (o_138 a.sg), Option.bind_some, e, Option.bind_some, hst _ _ a'.sg, Option.bind_some]
theorem cnt_ite {p f : Nat} {c a b : Tr} : stB (bIte p c a f b nl) = 1 + stB a + stB b ∧ szB (bIte p c a f b nl) = sz c + szB a + szB b ∧ lsB (bIte p c a f b nl) = ls c + lsB a + lsB b := by
  unfold bIte
  rw [stB_nd, szB_nd, lsB_nd, stB_nd, szB_nd, lsB_nd, stB_nd, szB_nd, lsB_nd]
  simp only [stB_nl, szB_nl, lsB_nl]
  simp
  omega
theorem SR_ite {T : Txt} {h : pH} {p f s n l : Nat} {c a b : Tr} (sc : 1 ≤ sz c) (r1 : rd h 151 s = 1) (r2 : rd h 152 s = Int32.ofNat p) (r3 : rd h 153 s = Int32.ofNat n) (r4 : rd h 154 s = Int32.ofNat (n + sz c - 1)) (r5 : rd h 155 s = Int32.ofNat f) (hc : NE T h c n l) (r6 : rd h 159 s = fsB a (s + 1)) (ha : RB T h a none (s + 1) (n + sz c) (l + ls c)) (r7 : rd h 160 s = fsB b (s + 1 + stB a)) (hb : RB T h b none (s + 1 + stB a) (n + sz c + szB a) (l + ls c + lsB a)) : SR T h (bIte p c a f b nl) s n l := by
  unfold bIte
  rw [SR_nd, MR_nd, MR_nd, if_pos (by omega), if_pos (by omega)]
  refine ⟨by omega, ⟨r1, r2, r3, fun _ => by rw [r4, if_neg (by omega)], by rw [r5, if_neg (by omega), if_pos rfl], fun z => by omega⟩, hc, by omega, ⟨fun _ => r6, fun z => absurd z (by decide), fun z => absurd z (by decide), fun z => absurd z (by decide), fun z => absurd z (by decide)⟩, ha, by omega, ⟨fun z => absurd z (by decide), fun _ => r7, fun z => absurd z (by decide), fun z => absurd z (by decide), fun z => absurd z (by decide)⟩, hb, MR_nl _ _ _ _ _ _⟩
theorem st159 {s : Nat} (hs : s < 1600) : ∀ g x, Sg g → stI g 159 (Int32.ofNat s) x = some (wr g 159 s x) := fun _ x hg => T_159 hg hs x
theorem st160 {s : Nat} (hs : s < 1600) : ∀ g x, Sg g → stI g 160 (Int32.ofNat s) x = some (wr g 160 s x) := fun _ x hg => T_160 hg hs x
theorem if_post {T : Txt} {N t r s n l q : Nat} {rc : Nat → List Value → pH → Option (Option Value × pH)} {bk : Nat → Pr (Tr × Nat)} {h : pH} (hB : ∀ t s n l q h, At2 T t r s n l q h → PostB T (bk t) t r s n l q h (rcI rc 253 [.ref 138] h)) (hE : BlkE rc) (a : At2 T t r s n l q h) (hN : 3200 ≤ N) (hK : tkK T t = 6) : PostS T ((tkS T).ifS r bk t) t r s n l q h (fX12_statement_107 N rc 138 6 h) := by
  have hP := a.1.P_le
  have hs0 := a.2.2
  have hs : s < 1600 := by omega
  have hm := tk_mono T t (by rw [hK]; decide)
  obtain ⟨h1, e1, a1, e25, f1, bg⟩ := a.begun (N := N) 1
  obtain ⟨h2, e2, a2, f2⟩ := a1.next hN (by rw [hK]; decide) (by rw [hK]; decide)
  obtain ⟨g1, g2, g3, g4, g5, g6, g7, g8⟩ := bg.keep (fun b h1 h2 => f2.st ⟨h1, h2⟩)
  have f12 : FrS s n l q h h2 := f1.trans f2.toS
  have e252 : rd h2 138 25 = Int32.ofNat (s + 1) := f2.r25 e25
  have hp := a2.paren (N := N) hN
  unfold fX12_statement_107
  rw [if_pos rfl, e1, Option.bind_some]
  dsimp only
  rw [e2, Option.bind_some, R_138_29 a2.sg, Option.bind_some]
  show PostS T (Pr.bind ((tkS T).brk r ((tkS T).expr (r - 1)) 40 41 (t + 1)) fun c t1 => Pr.bind (bk t1) fun a t2 => if tkK T t2 = 7 then Pr.bind (bk (t2 + 1)) fun b t3 => ok (bIte (tkP T t) c a.1 1 b.1 nl) t3 else ok (bIte (tkP T t) c a.1 0 nl nl) t2) t r s n l q h _
  -- where all has gone wrong by now
  have tail : ∀ w n' l' q' g, Er w n' l' q' g → n ≤ n' → l ≤ l' → q ≤ q' → FrS s n l q h g → tkP T t ≤ w → PostS T (no w) t r s n l q h ((getR g 138 12 30).bind fun t40 => (fX12_isKey N 138 7 g).bind fun q41 => if q41.1 = 0 then (if t40 = 4 then none else fX12_statement_205 N rc 138 (Int32.ofNat s) t40 (Int32.ofNat s) 0 q41.2) else (if t40 = 4 then none else fX12_statement_205 N rc 138 (Int32.ofNat s) t40 (Int32.ofNat s) 1 q41.2)) := by
    intro w n' l' q' g ag hn hl hq hf hw
    have cw := stA_wr (s := s) g 155 s 0 (by omega) (Nat.le_refl _)
    rw [R_138_30 ag.sg, Option.bind_some, e_isKey _ ag.1, Option.bind_some]
    dsimp only
    rw [if_pos rfl, if_neg (show ¬ 155 = 4 by decide)]
    unfold fX12_statement_205
    rw [T_155 ag.sg hs, Option.bind_some, e_isKey _ (ag.sta cw).1, Option.bind_some]
    dsimp only
    rw [if_pos rfl, PostS_no]
    exact ⟨_, _, n', l', q', rfl, ag.sta cw, hf.trans (stA_fr cw), hw, hn, hl, hq⟩
  rcases hq : (tkS T).brk r ((tkS T).expr (r - 1)) 40 41 (t + 1) with ⟨c, t1⟩ | w
  · rw [hq, PostE_ok] at hp
    obtain ⟨h3, e3, a3, nc, f3, sc, b1, b2⟩ := hp
    have c4 := stA_wr (s := s) h3 154 s (Int32.ofNat (n + sz c - 1)) (by omega) (Nat.le_refl _)
    have a4 := a3.sta c4
    have e254 : rd (wr h3 154 s (Int32.ofNat (n + sz c - 1))) 138 25 = Int32.ofNat (s + 1) := by rw [rd_wr_ne _ _ (by omega), f3.f25]; exact e252
    have a42 : At2 T t1 r (s + 1) (n + sz c) (l + ls c) q (wr h3 154 s (Int32.ofNat (n + sz c - 1))) := ⟨a4, e254, by omega⟩
    have f14 : FrS s n l q h (wr h3 154 s (Int32.ofNat (n + sz c - 1))) := f12.trans (f3.toS.trans (stA_fr c4))
    have st4 : ∀ b, b ≠ 154 → 151 ≤ b → b ≤ 161 → rd (wr h3 154 s (Int32.ofNat (n + sz c - 1))) b s = rd h2 b s := fun b hb hb1 hb2 => by rw [rd_st _ (Ne.symm hb), f3.st ⟨hb1, hb2⟩]
    rw [e3, Option.bind_some, Pr.bind_ok]
    dsimp only
    rw [T_154 a3.sg hs, Option.bind_some, R_138_34 a4.sg, Option.bind_some]
    have bp := blk_post (N := N) (bk := bk) (rc := rc) (s := s) (st159 hs) a42 (hB _ _ _ _ _ _ a42) (fun h39 => (getR h39 138 12 30).bind fun t40 => (fX12_isKey N 138 7 h39).bind fun q41 => if q41.1 = 0 then (if t40 = 4 then none else fX12_statement_205 N rc 138 (Int32.ofNat s) t40 (Int32.ofNat s) 0 q41.2) else (if t40 = 4 then none else fX12_statement_205 N rc 138 (Int32.ofNat s) t40 (Int32.ofNat s) 1 q41.2))
    rcases hq2 : bk t1 with ⟨bb, t2⟩ | w
    · rw [hq2] at bp
      obtain ⟨h5, e5, a5, rb, f5, d1, d2, d3⟩ := bp
      rw [e5, Pr.bind_ok]
      have c6 := stA_wr (s := s) h5 159 s (fsB bb.1 (s + 1)) (by omega) (Nat.le_refl _)
      have a6 := a5.1.sta c6
      have f16 : FrS s n l q h (wr h5 159 s (fsB bb.1 (s + 1))) := f14.trans ((f5.mono (by omega) (by omega) (by omega) (Nat.le_refl _)).trans (stA_fr c6))
      have st6 : ∀ b, b ≠ 159 → 151 ≤ b → b ≤ 161 → rd (wr h5 159 s (fsB bb.1 (s + 1))) b s = rd (wr h3 154 s (Int32.ofNat (n + sz c - 1))) b s := fun b hb hb1 hb2 => by rw [rd_st _ (Ne.symm hb), f5.st ⟨hb1, hb2⟩ (by omega)]
      have e256 : rd (wr h5 159 s (fsB bb.1 (s + 1))) 138 25 = Int32.ofNat (s + 1 + stB bb.1) := by rw [rd_wr_ne _ _ (by omega)]; exact a5.2.1
      rw [R_138_30 a6.sg, Option.bind_some, show (7 : Int32) = Int32.ofNat 7 from rfl, r_isKey a6.1 (by decide) (by decide), Option.bind_some]
      dsimp only
      -- what stands at s and what stands behind it, up to the last heap
      have nc6 : NE T (wr h5 159 s (fsB bb.1 (s + 1))) c n l := NE.keep c n l (s + 1) (s + 1) (Ag_wr _ (by omega) _ _ _ _ _) (NE.keep c n l (s + 1) (s + 1) (f5.ag _ _ _) (NE.keep c n l (s + 1) (s + 1) (Ag_wr _ (by omega) _ _ _ _ _) nc))
      have rb6 : RB T (wr h5 159 s (fsB bb.1 (s + 1))) bb.1 none (s + 1) (n + sz c) (l + ls c) := RB.keep _ _ _ _ _ (Ag_wr _ (by omega) _ _ _ _ _) (fun j hj => by cases hj) rb
      by_cases k7 : tkK T t2 = Int32.ofNat 7
      · rw [if_pos k7, if_pos k7, if_neg (show ¬ (1 : Int32) = 0 by decide), if_neg (show ¬ 155 = 4 by decide)]
        have c7 := stA_wr (s := s) (wr h5 159 s (fsB bb.1 (s + 1))) 155 s 1 (by omega) (Nat.le_refl _)
        have a7 := a6.sta c7
        obtain ⟨h8, e8, a8, f8⟩ := a7.next hN (by rw [k7]; decide) (by rw [k7]; decide)
        have hm2 := tk_mono T t2 (by rw [k7]; decide)
        unfold fX12_statement_205
        rw [T_155 a6.sg hs, Option.bind_some, show (7 : Int32) = Int32.ofNat 7 from rfl, r_isKey a7.1 (by decide) (by decide), if_pos k7, Option.bind_some]
        dsimp only
        rw [if_neg (show ¬ (1 : Int32) = 0 by decide), e8, Option.bind_some, R_138_35 a8.sg, Option.bind_some]
        have e258 : rd h8 138 25 = Int32.ofNat (s + 1 + stB bb.1) := by rw [f8.f25, rd_wr_ne _ _ (by omega)]; exact e256
        have a82 : At2 T (t2 + 1) r (s + 1 + stB bb.1) (n + sz c + szB bb.1) (l + ls c + lsB bb.1) q h8 := ⟨a8, e258, by have := a5.2.2; omega⟩
        have f18 : FrS s n l q h h8 := f16.trans ((stA_fr c7).trans (f8.toS.mono (Nat.le_refl _) (by omega) (by omega) (Nat.le_refl _)))
        have st8 : ∀ b, b ≠ 155 → 151 ≤ b → b ≤ 161 → rd h8 b s = rd (wr h5 159 s (fsB bb.1 (s + 1))) b s := fun b hb hb1 hb2 => by rw [f8.st ⟨hb1, hb2⟩, rd_st _ (Ne.symm hb)]
        have bp2 := blk_post (N := N) (bk := bk) (rc := rc) (s := s) (st160 hs) a82 (hB _ _ _ _ _ _ a82) (fun h22 => some (Int32.ofNat s, h22))
        rcases hq3 : bk (t2 + 1) with ⟨b3, t3⟩ | w
        · rw [hq3] at bp2
          obtain ⟨h9, e9, a9, rb9, f9, i1, i2, i3⟩ := bp2
          rw [e9, Pr.bind_ok, PostS_ok]
          obtain ⟨c1, c2, c3⟩ := cnt_ite (p := tkP T t) (f := 1) (c := c) (a := bb.1) (b := b3.1)
          have cw := stA_wr (s := s) h9 160 s (fsB b3.1 (s + 1 + stB bb.1)) (by omega) (Nat.le_refl _)
          have st9 : ∀ b, b ≠ 160 → 151 ≤ b → b ≤ 161 → rd (wr h9 160 s (fsB b3.1 (s + 1 + stB bb.1))) b s = rd h8 b s := fun b hb hb1 hb2 => by rw [rd_st _ (Ne.symm hb), f9.st ⟨hb1, hb2⟩ (by omega)]
          have ag69 : Ag (wr h5 159 s (fsB bb.1 (s + 1))) (wr h9 160 s (fsB b3.1 (s + 1 + stB bb.1))) (s + 1) (s + 1 + stB bb.1) n (n + sz c + szB bb.1) l (l + ls c + lsB bb.1) := (((Ag_wr _ (by omega) _ _ _ _ _).trans (f8.ag _ _ _ _)).trans (f9.ag _ _ _)).trans (Ag_wr _ (by omega) _ _ _ _ _)
          have rbF := RB.keep bb.1 none (s + 1) (n + sz c) (l + ls c) (ag69.sub (by omega) (by omega) (by omega) (by omega) (by omega) (by omega)) (fun j hj => by cases hj) rb6
          have ncF := NE.keep c n l (s + 1) (s + 1) (ag69.sub (by omega) (by omega) (by omega) (by omega) (by omega) (by omega)) nc6
          have rb9F := RB.keep b3.1 none _ _ _ (Ag_wr2 (h := h9) (s := s) (fsB b3.1 (s + 1 + stB bb.1)) (b := 160) (by omega) (by omega) _ _ _ _ _) (fun j hj => by cases hj) rb9
          refine ⟨_, rfl, ⟨?_, ?_, ?_⟩, SR_ite sc ?_ ?_ ?_ ?_ ?_ ncF ?_ rbF ?_ rb9F, ?_, f18.trans ((f9.mono (by omega) (by omega) (by omega) (Nat.le_refl _)).trans (stA_fr cw)), ?_, ?_, ?_⟩
          · rw [c2, c3, show n + (sz c + szB bb.1 + szB b3.1) = n + sz c + szB bb.1 + szB b3.1 by omega, show l + (ls c + lsB bb.1 + lsB b3.1) = l + ls c + lsB bb.1 + lsB b3.1 by omega]
            exact a9.1.sta cw
          · rw [c1, rd_wr_ne _ _ (by omega), show s + (1 + stB bb.1 + stB b3.1) = s + 1 + stB bb.1 + stB b3.1 by omega]
            exact a9.2.1
          · rw [c1]; omega
          · exact (st9 151 (by decide) (by decide) (by decide)).trans ((st8 151 (by decide) (by decide) (by decide)).trans ((st6 151 (by decide) (by decide) (by decide)).trans ((st4 151 (by decide) (by decide) (by decide)).trans g1)))
          · exact (st9 152 (by decide) (by decide) (by decide)).trans ((st8 152 (by decide) (by decide) (by decide)).trans ((st6 152 (by decide) (by decide) (by decide)).trans ((st4 152 (by decide) (by decide) (by decide)).trans g2)))
          · exact (st9 153 (by decide) (by decide) (by decide)).trans ((st8 153 (by decide) (by decide) (by decide)).trans ((st6 153 (by decide) (by decide) (by decide)).trans ((st4 153 (by decide) (by decide) (by decide)).trans g3)))
          · exact (st9 154 (by decide) (by decide) (by decide)).trans ((st8 154 (by decide) (by decide) (by decide)).trans ((st6 154 (by decide) (by decide) (by decide)).trans (W_154 a3.sg _ _)))
          · rw [st9 155 (by decide) (by decide) (by decide), f8.st (by omega), W_155 a6.sg]; rfl
          · rw [st9 159 (by decide) (by decide) (by decide), st8 159 (by decide) (by decide) (by decide), W_159 a5.1.sg]
          · rw [W_160 a9.1.sg]
          · exact (st9 161 (by decide) (by decide) (by decide)).trans ((st8 161 (by decide) (by decide) (by decide)).trans ((st6 161 (by decide) (by decide) (by decide)).trans ((st4 161 (by decide) (by decide) (by decide)).trans g8)))
          · rw [c1]; omega
          · rw [c2]; omega
          · rw [c3]; omega
        · rw [hq3] at bp2
          obtain ⟨v9, h9, n', l', q', e9, a9, f9, i1, i2, i3, i4⟩ := bp2
          rw [e9, Pr.bind_no, PostS_no]
          have cw := stA_wr (s := s) h9 160 s v9 (by omega) (Nat.le_refl _)
          exact ⟨_, _, n', l', q', rfl, a9.sta cw, f18.trans ((f9.mono (by omega) (by omega) (by omega) (Nat.le_refl _)).trans (stA_fr cw)), by omega, by omega, by omega, i4⟩
      · rw [if_neg k7, if_neg k7, if_pos rfl, if_neg (show ¬ 155 = 4 by decide)]
        have c7 := stA_wr (s := s) (wr h5 159 s (fsB bb.1 (s + 1))) 155 s 0 (by omega) (Nat.le_refl _)
        have a7 := a6.sta c7
        unfold fX12_statement_205
        rw [T_155 a6.sg hs, Option.bind_some, show (7 : Int32) = Int32.ofNat 7 from rfl, r_isKey a7.1 (by decide) (by decide), if_neg k7, Option.bind_some]
        dsimp only
        rw [if_pos rfl, PostS_ok]
        obtain ⟨c1, c2, c3⟩ := cnt_ite (p := tkP T t) (f := 0) (c := c) (a := bb.1) (b := nl)
        have st7 : ∀ b, b ≠ 155 → rd (wr (wr h5 159 s (fsB bb.1 (s + 1))) 155 s 0) b s = rd (wr h5 159 s (fsB bb.1 (s + 1))) b s := fun b hb => rd_st _ (Ne.symm hb)
        have rbF := RB.keep bb.1 none (s + 1) (n + sz c) (l + ls c) (Ag_wr (h := wr h5 159 s (fsB bb.1 (s + 1))) 0 (b := 155) (by omega) _ _ _ _ _) (fun j hj => by cases hj) rb6
        have ncF := NE.keep c n l (s + 1) (s + 1) (Ag_wr (h := wr h5 159 s (fsB bb.1 (s + 1))) 0 (b := 155) (by omega) _ _ _ _ _) nc6
        refine ⟨_, rfl, ⟨?_, ?_, ?_⟩, SR_ite sc ?_ ?_ ?_ ?_ ?_ ncF ?_ rbF ?_ trivial, ?_, f16.trans (stA_fr c7), ?_, ?_, ?_⟩
        · rw [c2, c3, szB_nl, lsB_nl, show n + (sz c + szB bb.1 + 0) = n + sz c + szB bb.1 by omega, show l + (ls c + lsB bb.1 + 0) = l + ls c + lsB bb.1 by omega]
          exact a7
        · rw [c1, stB_nl, rd_wr_ne _ _ (by omega), show s + (1 + stB bb.1 + 0) = s + 1 + stB bb.1 by omega]
          exact e256
        · rw [c1, stB_nl]; omega
        · exact (st7 151 (by decide)).trans ((st6 151 (by decide) (by decide) (by decide)).trans ((st4 151 (by decide) (by decide) (by decide)).trans g1))
        · exact (st7 152 (by decide)).trans ((st6 152 (by decide) (by decide) (by decide)).trans ((st4 152 (by decide) (by decide) (by decide)).trans g2))
        · exact (st7 153 (by decide)).trans ((st6 153 (by decide) (by decide) (by decide)).trans ((st4 153 (by decide) (by decide) (by decide)).trans g3))
        · exact (st7 154 (by decide)).trans ((st6 154 (by decide) (by decide) (by decide)).trans (W_154 a3.sg _ _))
        · rw [W_155 a6.sg]; rfl
        · rw [st7 159 (by decide), W_159 a5.1.sg]
        · rw [st7 160 (by decide), st6 160 (by decide) (by decide) (by decide), st4 160 (by decide) (by decide) (by decide), g7]; rfl
        · exact (st7 161 (by decide)).trans ((st6 161 (by decide) (by decide) (by decide)).trans ((st4 161 (by decide) (by decide) (by decide)).trans g8))
        · rw [c1, stB_nl]; omega
        · rw [c2, szB_nl]; omega
        · rw [c3, lsB_nl]; omega
    · rw [hq2] at bp
      obtain ⟨v5, h5, n', l', q', e5, a5, f5, d1, d2, d3, d4⟩ := bp
      rw [e5, Pr.bind_no]
      have c6 := stA_wr (s := s) h5 159 s v5 (by omega) (Nat.le_refl _)
      exact tail w n' l' q' _ (a5.sta c6) (by omega) (by omega) d4 (f14.trans ((f5.mono (by omega) (by omega) (by omega) (Nat.le_refl _)).trans (stA_fr c6))) (by omega)
  · rw [hq, PostE_no] at hp
    obtain ⟨v3, h3, n', l', e3, a3, f3, d1, d2, d3, d4, d5⟩ := hp
    have c4 := stA_wr (s := s) h3 154 s v3 (by omega) (Nat.le_refl _)
    have a4 := a3.sta c4
    rw [e3, Option.bind_some, Pr.bind_no]
    dsimp only
    rw [T_154 a3.sg hs, Option.bind_some, R_138_34 a4.sg, Option.bind_some]
    obtain ⟨v5, h5, e5, a5, f5⟩ := blk_er (s := s) hE (st159 hs) a4 (fun h39 => (getR h39 138 12 30).bind fun t40 => (fX12_isKey N 138 7 h39).bind fun q41 => if q41.1 = 0 then (if t40 = 4 then none else fX12_statement_205 N rc 138 (Int32.ofNat s) t40 (Int32.ofNat s) 0 q41.2) else (if t40 = 4 then none else fX12_statement_205 N rc 138 (Int32.ofNat s) t40 (Int32.ofNat s) 1 q41.2))
    rw [e5]
    have c6 := stA_wr (s := s) h5 159 s v5 (by omega) (Nat.le_refl _)
    exact tail w n' l' q _ (a5.sta c6) d4 d5 (Nat.le_refl _) ((f12.trans (f3.toS.trans (stA_fr c4))).trans ((f5.toS.mono (Nat.le_refl _) d4 d5 (Nat.le_refl _)).trans (stA_fr c6))) (by omega)
