theorem keyS_1 {w : List Int32} (h : keyS w = 1) : w = [99, 108, 97, 115, 115] := by
  unfold keyS at h
  by_cases z1 : w = [99, 108, 97, 115, 115]
  · exact z1
  rw [if_neg z1] at h
  by_cases z2 : w = [105, 110, 116]
  · rw [if_pos z2] at h
    exact absurd h (by decide)
  rw [if_neg z2] at h
  by_cases z3 : w = [98, 111, 111, 108]
  · rw [if_pos z3] at h
    exact absurd h (by decide)
  rw [if_neg z3] at h
  by_cases z4 : w = [105, 110, 116, 115]
  · rw [if_pos z4] at h
    exact absurd h (by decide)
  rw [if_neg z4] at h
  by_cases z5 : w = [118, 111, 105, 100]
  · rw [if_pos z5] at h
    exact absurd h (by decide)
  rw [if_neg z5] at h
  by_cases z6 : w = [105, 102]
  · rw [if_pos z6] at h
    exact absurd h (by decide)
  rw [if_neg z6] at h
  by_cases z7 : w = [101, 108, 115, 101]
  · rw [if_pos z7] at h
    exact absurd h (by decide)
  rw [if_neg z7] at h
  by_cases z8 : w = [119, 104, 105, 108, 101]
  · rw [if_pos z8] at h
    exact absurd h (by decide)
  rw [if_neg z8] at h
  by_cases z9 : w = [114, 101, 116, 117, 114, 110]
  · rw [if_pos z9] at h
    exact absurd h (by decide)
  rw [if_neg z9] at h
  by_cases z10 : w = [116, 104, 114, 111, 119]
  · rw [if_pos z10] at h
    exact absurd h (by decide)
  rw [if_neg z10] at h
  by_cases z11 : w = [116, 114, 121]
  · rw [if_pos z11] at h
    exact absurd h (by decide)
  rw [if_neg z11] at h
  by_cases z12 : w = [99, 97, 116, 99, 104]
  · rw [if_pos z12] at h
    exact absurd h (by decide)
  rw [if_neg z12] at h
  by_cases z13 : w = [112, 114, 105, 110, 116]
  · rw [if_pos z13] at h
    exact absurd h (by decide)
  rw [if_neg z13] at h
  by_cases z14 : w = [110, 101, 119]
  · rw [if_pos z14] at h
    exact absurd h (by decide)
  rw [if_neg z14] at h
  by_cases z15 : w = [110, 117, 108, 108]
  · rw [if_pos z15] at h
    exact absurd h (by decide)
  rw [if_neg z15] at h
  by_cases z16 : w = [116, 114, 117, 101]
  · rw [if_pos z16] at h
    exact absurd h (by decide)
  rw [if_neg z16] at h
  by_cases z17 : w = [102, 97, 108, 115, 101]
  · rw [if_pos z17] at h
    exact absurd h (by decide)
  rw [if_neg z17] at h
  by_cases z18 : w = [116, 104, 105, 115]
  · rw [if_pos z18] at h
    exact absurd h (by decide)
  rw [if_neg z18] at h
  by_cases z19 : w = [114, 101, 97, 100]
  · rw [if_pos z19] at h
    exact absurd h (by decide)
  rw [if_neg z19] at h
  by_cases z20 : w = [97, 115]
  · rw [if_pos z20] at h
    exact absurd h (by decide)
  rw [if_neg z20] at h
  by_cases z21 : w = [105, 115]
  · rw [if_pos z21] at h
    exact absurd h (by decide)
  rw [if_neg z21] at h
  exact absurd h (by decide)
theorem Tk_class {s : Nat → Int32} {L P n : Nat} {K V : Int32} (h : Tk s L P n K V) (hK : K = 1) : n = 5 := by
  rcases h with ⟨a0, a1, a2, a3⟩ | ⟨a0, a1, a2, a3, a4⟩ | ⟨a0, a1, a2, a3, a4⟩ | ⟨a0, a1, a2, a3, a4⟩
  · rw [hK] at a2; exact absurd a2 (by decide)
  · rw [hK] at a3
    by_cases y : keyS (wl s P n) = 0
    · rw [if_pos y] at a3; exact absurd a3 (by decide)
    · rw [if_neg y, show (1 : Int32) = Int32.ofNat 1 from rfl] at a3
      have hle := keyS_le (wl s P n)
      have e := (iEq (by decide) (by omega)).mp a3
      have e2 := keyS_1 e.symm
      have e3 := congrArg List.length e2
      unfold wl at e3
      rw [List.length_map, List.length_range] at e3
      exact e3
  · rcases a4 with ⟨c1, c2, c3⟩ | ⟨c1, c2, c3⟩ <;> rw [hK] at c2 <;> exact absurd c2 (by decide)
  · exfalso
    rcases a4 with ⟨c1, c2, c3⟩ | ⟨c1, c2, c3, c4⟩ | ⟨c1, c2, c3, c4⟩
    · rw [hK] at c2
      rcases two2_24 (s P) (byt2 s L P) with z | z | z | z | z | z <;> rw [z] at c2 <;> exact absurd c2 (by decide)
    · rw [← c3, hK] at c2; exact absurd c2 (by decide)
    · rw [hK] at c3; exact absurd c3 (by decide)
theorem tk_class {T : Txt} {t : Nat} (h : tkK T t = 1) (hK : tkK T (t + 1) = 22) : tkP T t + 6 ≤ tkP T (t + 1) := by
  have hn := Tk_class (tk_is T t) h
  have hE := tkE_eq T t
  have hPE := tkE_le_P T t
  have hrun := Tk_run (tk_is T t) (by rw [h]; decide) (by rw [h]; decide) (by rw [h]; decide)
  obtain ⟨b1, b2⟩ := Tk_letter (tk_is T (t + 1)) hK
  have hne : tkE T t ≠ tkP T (t + 1) := by
    intro e
    rw [← e, tkE_eq] at b1 b2
    rcases hrun.2.2 with z | z
    · omega
    · exact z (Or.inl b2)
  omega
/-- one of the text's, from its name on -/
theorem cls_post {T : Txt} {N t c m p s n l q : Nat} {h : pH} (hN : 3200 ≤ N) (a : At3 T t 30 m p s n l q h) (e37 : rd h 138 37 = Int32.ofNat c) (e172 : rd h 172 m = Int32.ofNat p) (hc : c < 350) : PostC T ((tkS T).cls t) t 30 c m p s n l q h (fX12_readClass N 138 h) := by
  have aa := a.1.1
  have hs := aa.sg
  have hP := aa.P_le
  have e6 := aa.1.2.2.2.2.2.2.2.2.1
  have c1 : Chg (mA c m p) h (wr h 163 c (Int32.ofNat (tkP T t))) := Chg.wr _ _ _ _ (mA_c (by omega) (Nat.le_refl _))
  have a1 := aa.ma c1
  have spec : (tkS T).cls t = if tkK T t ≠ 22 then no (tkP T t) else if tkK T (t + 1) = 58 then (if tkK T (t + 2) ≠ 22 then no (tkP T (t + 2)) else (tkS T).clsB t (tkP T t) (some (t + 2)) (t + 3)) else (tkS T).clsB t (tkP T t) none (t + 1) := rfl
  rw [spec]
  unfold fX12_readClass
  rw [if_pos (o_138 hs), g_138_37 hs, Option.bind_some, e37, R_138_39 hs, Option.bind_some, g_138_6 hs, Option.bind_some, e6, T_163 hs hc, Option.bind_some, R_138_38 a1.sg, Option.bind_some]
  -- what follows where all has gone wrong
  have er55 : ∀ w n' l' q' g, Er w n' l' q' g → rd g 138 37 = Int32.ofNat c → FrC c m p s n l q h g → n ≤ n' → l ≤ l' → q ≤ q' → ∃ h', fX12_readClass_55 N 138 g = some h' ∧ Er w n' l' q' h' ∧ FrC c m p s n l q h h' := by
    intro w n' l' q' g ag e37g fg z1 z2 z3
    have a2 := ag.c37 (Int32.ofNat (c + 1))
    obtain ⟨h3, e3, a3, f3⟩ := a2.opens (N := N) 0
    refine ⟨h3, ?_, a3, fg.trans ((c37 g _).trans ((f3.toS.toM (s := s) (c := c) (m := m) (p := p)).mono (Nat.le_refl _) (Nat.le_refl _) (Nat.le_refl _) (Nat.le_refl _) z1 z2 z3).toC)⟩
    unfold fX12_readClass_55
    rw [g_138_37 ag.sg, Option.bind_some, e37g, i_add1, p_138_37 ag.sg, Option.bind_some, e_isSign _ a2.1, Option.bind_some]
    dsimp only
    rw [e3, Option.bind_some]
    dsimp only
    rw [if_pos rfl]
  by_cases k22 : tkK T t = 22
  · obtain ⟨h2, id, e2, nm, a2, f2⟩ := a1.name1 (N := N) hN k22
    have hm2 := tk_mono T t (by rw [k22]; decide)
    have c3 : Chg (mA c m p) h2 (wr h2 162 c id) := Chg.wr _ _ _ _ (mA_c (by omega) (Nat.le_refl _))
    have a3 := a2.ma c3
    have c4 : Chg (mA c m p) (wr h2 162 c id) (wr (wr h2 162 c id) 164 c (-1)) := Chg.wr _ _ _ _ (mA_c (by omega) (Nat.le_refl _))
    have a4 := a3.ma c4
    have f14 : FrC c m p s n l q h (wr (wr h2 162 c id) 164 c (-1)) := ((mA_frM c1).trans (f2.toS.toM.trans (mA_frM (c3.trans c4)))).toC
    have keep : ∀ b j, (b = 138 ∧ (j = 37 ∨ j = 44 ∨ j = 53)) ∨ (167 ≤ b ∧ b ≤ 177) → rd (wr (wr h2 162 c id) 164 c (-1)) b j = rd h b j := fun b j hb => by rw [rd_wr_ne _ _ (by omega), rd_wr_ne _ _ (by omega), f2.keepM (by omega), rd_wr_ne _ _ (by omega)]
    have e254 : rd (wr (wr h2 162 c id) 164 c (-1)) 138 25 = Int32.ofNat s := by rw [rd_wr_ne _ _ (by omega), rd_wr_ne _ _ (by omega), f2.f25, rd_wr_ne _ _ (by omega)]; exact a.1.2.1
    have n4 : NmLe (wr h 163 c (Int32.ofNat (tkP T t))) (wr (wr h2 162 c id) 164 c (-1)) := f2.2.trans (mA_nm (c3.trans c4))
    have r1 : NmIs T (wr (wr h2 162 c id) 164 c (-1)) t (rd (wr (wr h2 162 c id) 164 c (-1)) 162 c) := by
      rw [rd_wr_ne _ _ (by omega), W_162 a2.sg]
      exact nm.le n4
    have r2 : rd (wr (wr h2 162 c id) 164 c (-1)) 163 c = Int32.ofNat (tkP T t) := by rw [rd_wr_ne _ _ (by omega), rd_wr_ne _ _ (by omega), f2.keepM (by omega), W_163 hs]
    rw [if_neg (show ¬ tkK T t ≠ 22 from fun z => z k22), e2, Option.bind_some]
    dsimp only
    rw [T_162 a2.sg hc, Option.bind_some, R_138_40 a3.sg, Option.bind_some, T_164 a3.sg hc, Option.bind_some, r_isSign a4.1 (k := 58) (by unfold isSK isSgn; simp) (by decide), Option.bind_some]
    dsimp only
    have b25 := a.1.2.2
    have b4 := a.2.2.2
    by_cases k58 : tkK T (t + 1) = 58
    · obtain ⟨h5, e5, a5, f5⟩ := a4.next (N := N) hN (by rw [k58]; decide) (by rw [k58]; decide)
      have a5 : At T (t + 2) 30 n l q h5 := a5
      have hm5 : tkP T (t + 1) < tkP T (t + 2) := tk_mono T (t + 1) (by rw [k58]; decide)
      rw [if_pos k58, if_pos k58, if_neg (show ¬ (1 : Int32) = 0 by decide), e5, Option.bind_some, R_138_40 a5.sg, Option.bind_some]
      by_cases k22' : tkK T (t + 2) = 22
      · obtain ⟨h6, id2, e6', nm6, a6, f6⟩ := a5.name1 (N := N) hN k22'
        have a6 : At T (t + 3) 30 n l q h6 := a6
        have hm6 : tkP T (t + 2) < tkP T (t + 3) := tk_mono T (t + 2) (by rw [k22']; decide)
        have c7 : Chg (mA c m p) h6 (wr h6 164 c id2) := Chg.wr _ _ _ _ (mA_c (by omega) (Nat.le_refl _))
        have a7 := a6.ma c7
        have keep7 : ∀ b j, (b = 138 ∧ (j = 37 ∨ j = 44 ∨ j = 53)) ∨ (162 ≤ b ∧ b ≤ 177) → b ≠ 164 → rd (wr h6 164 c id2) b j = rd (wr (wr h2 162 c id) 164 c (-1)) b j := fun b j hb hb2 => by rw [rd_wr_ne _ _ (by omega), f6.keepM (by omega), f5.keepM (by omega)]
        have n7 : NmLe (wr (wr h2 162 c id) 164 c (-1)) (wr h6 164 c id2) := (f5.2.trans f6.2).trans (mA_nm c7)
        rw [if_neg (show ¬ tkK T (t + 2) ≠ 22 from fun z => z k22'), e6', Option.bind_some]
        dsimp only
        rw [T_164 a6.sg hc, Option.bind_some]
        exact cls55_post hN ⟨⟨a7, by rw [rd_wr_ne _ _ (by omega), f6.f25, f5.f25]; exact e254, by omega⟩, by rw [keep7 138 44 (by omega) (by omega), keep 138 44 (by omega)]; exact a.2.1, by rw [keep7 138 53 (by omega) (by omega), keep 138 53 (by omega)]; exact a.2.2.1, by omega, by omega⟩ (by rw [keep7 138 37 (by omega) (by omega), keep 138 37 (by omega)]; exact e37) (by rw [keep7 172 m (by omega) (by omega), keep 172 m (by omega)]; exact e172) hc (by rw [keep7 162 c (by omega) (by omega)]; exact r1.le n7) (by rw [keep7 163 c (by omega) (by omega)]; exact r2) (by show NmIs T _ (t + 2) (rd _ 164 c); rw [W_164 a6.sg]; exact nm6.le (f6.2.trans (mA_nm c7))) (f14.trans (f5.toS.toM.trans (f6.toS.toM.trans (mA_frM c7))).toC) (by omega)
      · obtain ⟨h6, e6', a6, f6⟩ := a5.name0 (N := N) k22'
        have c7 : Chg (mA c m p) h6 (wr h6 164 c (-1)) := Chg.wr _ _ _ _ (mA_c (by omega) (Nat.le_refl _))
        have a7 := a6.ma c7
        obtain ⟨h8, e8, a8, f8⟩ := er55 _ _ _ _ _ a7 (by rw [rd_wr_ne _ _ (by omega), f6.keepM (by omega), f5.keepM (by omega), keep 138 37 (by omega)]; exact e37) (f14.trans (f5.toS.toM.trans (f6.toS.toM.trans (mA_frM c7))).toC) (Nat.le_refl _) (Nat.le_refl _) (Nat.le_refl _)
        rw [if_pos k22', e6', Option.bind_some]
        dsimp only
        rw [T_164 a6.sg hc, Option.bind_some, e8]
        exact ⟨h8, n, l, q, rfl, a8, f8⟩
    · rw [if_neg k58, if_neg k58, if_pos rfl]
      exact cls55_post hN ⟨⟨a4, e254, by omega⟩, by rw [keep 138 44 (by omega)]; exact a.2.1, by rw [keep 138 53 (by omega)]; exact a.2.2.1, by omega, by omega⟩ (by rw [keep 138 37 (by omega)]; exact e37) (by rw [keep 172 m (by omega)]; exact e172) hc r1 r2 (W_164 a3.sg _ _) f14 (by omega)
  · obtain ⟨h2, e2, a2, f2⟩ := a1.name0 (N := N) k22
    have c3 : Chg (mA c m p) h2 (wr h2 162 c (-1)) := Chg.wr _ _ _ _ (mA_c (by omega) (Nat.le_refl _))
    have a3 := a2.ma c3
    have c4 : Chg (mA c m p) (wr h2 162 c (-1)) (wr (wr h2 162 c (-1)) 164 c (-1)) := Chg.wr _ _ _ _ (mA_c (by omega) (Nat.le_refl _))
    have a4 := a3.ma c4
    have f14 : FrC c m p s n l q h (wr (wr h2 162 c (-1)) 164 c (-1)) := ((mA_frM c1).trans (f2.toS.toM.trans (mA_frM (c3.trans c4)))).toC
    obtain ⟨h8, e8, a8, f8⟩ := er55 _ _ _ _ _ a4 (by rw [rd_wr_ne _ _ (by omega), rd_wr_ne _ _ (by omega), f2.keepM (by omega), rd_wr_ne _ _ (by omega)]; exact e37) f14 (Nat.le_refl _) (Nat.le_refl _) (Nat.le_refl _)
    rw [if_pos k22, e2, Option.bind_some]
    dsimp only
    rw [T_162 a2.sg hc, Option.bind_some, R_138_40 a3.sg, Option.bind_some, T_164 a3.sg hc, Option.bind_some, e_isSign _ a4.1, Option.bind_some]
    dsimp only
    rw [if_pos rfl, e8]
    exact ⟨h8, n, l, q, rfl, a8, f8⟩
