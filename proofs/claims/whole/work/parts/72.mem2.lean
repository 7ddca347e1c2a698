/-- two words of letters do not touch -/
theorem tk_sep {T : Txt} {t : Nat} (h0 : tkK T t ≠ 0) (h24 : tkK T t ≠ 24) (hc : ¬ (wcode (tkK T t) = 4 ∨ wcode (tkK T t) = 3)) (hK : tkK T (t + 1) = 22) : tkP T t + 2 ≤ tkP T (t + 1) := by
  have hrun := Tk_run (tk_is T t) h0 h24 hc
  obtain ⟨b1, b2⟩ := Tk_letter (tk_is T (t + 1)) hK
  have hp := tk_pos T h0
  have hPE := tkE_le_P T t
  have hne : tkE T t ≠ tkP T (t + 1) := by
    intro e
    rw [← e, tkE_eq] at b1 b2
    rcases hrun.2.2 with z | z
    · omega
    · exact z (Or.inl b2)
  omega
theorem ty_row {T : Txt} {t y : Nat} (h : (tkS T).ty t = some y) : tkK T t ≠ 0 ∧ tkK T t ≠ 24 ∧ ¬ (wcode (tkK T t) = 4 ∨ wcode (tkK T t) = 3) := by
  rw [ty_eq] at h
  by_cases k2 : tkK T t = 2
  · rw [k2]; decide
  rw [if_neg k2] at h
  by_cases k3 : tkK T t = 3
  · rw [k3]; decide
  rw [if_neg k3] at h
  by_cases k4 : tkK T t = 4
  · rw [k4]; decide
  rw [if_neg k4] at h
  by_cases k22 : tkK T t = 22
  · rw [k22]; decide
  rw [if_neg k22] at h
  cases h
/-- parameters that were read so far -/
def psR (T : Txt) (h : pH) (ps : List (Nat × Nat)) (p : Nat) : Prop := ∀ i x, ps[i]? = some x → tyR T h x.1 (rd h 176 (p + i)) ∧ NmIs T h x.2 (rd h 177 (p + i))
theorem psR.keep {T : Txt} {h h' : pH} {ps : List (Nat × Nat)} {p : Nat} (q : psR T h ps p) (g : ∀ a k, (a = 176 ∨ a = 177) → k < p + ps.length → rd h' a k = rd h a k) (le : NmLe h h') : psR T h' ps p := by
  intro i x e
  have hi := (List.getElem?_eq_some_iff.mp e).1
  rw [g 176 (p + i) (by simp) (by omega), g 177 (p + i) (by simp) (by omega)]
  exact ⟨(q i x e).1.le le, (q i x e).2.le le⟩
theorem parl_loop {T : Txt} {N r m p n l q c : Nat} (hN : 3200 ≤ N) : ∀ (f k t : Nat) (ps : List (Nat × Nat)) (h : pH), T.2 < t + f → t ≤ T.2 → f + 1 < k → At T t r n l q h → rd h 138 53 = Int32.ofNat (p + ps.length) → 4 * (p + ps.length) ≤ tkP T t → psR T h ps p → ∃ h', fX12_member_165 N k 138 (Int32.ofNat m) 1 h = fX12_member_230 N 138 (Int32.ofNat m) h' ∧ (∀ s, FrM c m p s n l q h h') ∧ (∀ b j, b ≠ 176 → b ≠ 177 → ((162 ≤ b ∧ b ≤ 177) ∨ (b = 138 ∧ (j = 37 ∨ j = 44))) → rd h' b j = rd h b j) ∧ rd h' 138 25 = rd h 138 25 ∧
    match (tkS T).parl f ps t with
    | Sum.inl (qs, t') => ∃ t2, t' = t2 + 1 ∧ tkK T t2 = 41 ∧ At T t2 r n l q h' ∧ rd h' 138 53 = Int32.ofNat (p + qs.length) ∧ 4 * (p + qs.length) ≤ tkP T t' ∧ psR T h' qs p ∧ tkP T t ≤ tkP T t2
    | Sum.inr w => Er w n l q h' ∨ ∃ t2, w = tkP T t2 ∧ tkK T t2 ≠ 41 ∧ At T t2 r n l q h'
  | 0, k, t, ps, h, hf, ht, hk, a, e53, hb, hps => by omega
  | f + 1, k + 1, t, ps, h, hf, ht, hk, a, e53, hb, hps => by
    have hs := a.sg
    have hP := a.P_le
    have e9 := a.1.2.2.2.2.2.2.2.2.2.2
    have hp9 : p + ps.length < 900 := by omega
    have spec : (tkS T).parl (f + 1) ps t = match (tkS T).ty t with
      | none => no (tkP T t)
      | some y => if tkK T (t + 1) ≠ 22 then no (tkP T (t + 1)) else if tkK T (t + 2) = 44 then (tkS T).parl f (ps ++ [(y, t + 1)]) (t + 3) else if tkK T (t + 2) = 41 then ok (ps ++ [(y, t + 1)]) (t + 3) else no (tkP T (t + 2)) := rfl
    have ty := a.type (N := N) hN
    rw [spec, fX12_member_165, if_neg (show ¬ (1 : Int32) = 0 by decide), g_138_9 hs, Option.bind_some, e9, if_neg (show ¬ (0 : Int32) ≤ -1 by decide), R_138_54 hs, Option.bind_some, g_138_53 hs, Option.bind_some, e53]
    -- the writes of one parameter
    have step : ∀ (h1 : pH) (v : Int32), Sg h1 → Chg (mA c m p) h1 (wr h1 176 (p + ps.length) v) := fun h1 v _ => Chg.wr h1 _ _ _ (Or.inr (Or.inr (Or.inr (Or.inr ⟨by simp, by omega⟩))))
    have step2 : ∀ (h1 : pH) (v : Int32), Sg h1 → Chg (mA c m p) h1 (wr (wr h1 177 (p + ps.length) v) 138 53 (Int32.ofNat (p + ps.length + 1))) := fun h1 v _ => (Chg.wr h1 _ _ _ (Or.inr (Or.inr (Or.inr (Or.inr ⟨by simp, by omega⟩))))).trans (Chg.wr _ _ _ _ (Or.inl ⟨rfl, by simp⟩))
    have err : ∀ (w : Nat) (h1 : pH) (v : Int32), Er w n l q h1 → (∀ s, FrM c m p s n l q h h1) → (∀ b j, b ≠ 176 → b ≠ 177 → ((162 ≤ b ∧ b ≤ 177) ∨ (b = 138 ∧ (j = 37 ∨ j = 44 ∨ j = 53))) → rd h1 b j = rd h b j) → rd h1 138 25 = rd h 138 25 → ∃ h', ((stI h1 177 (Int32.ofNat (p + ps.length)) v).bind fun h22 => (getI h22 138 12 53).bind fun t23 => (putI h22 138 12 53 (t23 + (1 : Int32))).bind fun h24 => (fX12_isSign N 138 44 h24).bind fun q25 => if q25.1 = 0 then fX12_member_165 N k 138 (Int32.ofNat m) q25.1 q25.2 else (fX12_next N 138 q25.2).bind fun h27 => fX12_member_165 N k 138 (Int32.ofNat m) q25.1 h27) = fX12_member_230 N 138 (Int32.ofNat m) h' ∧ (∀ s, FrM c m p s n l q h h') ∧ (∀ b j, b ≠ 176 → b ≠ 177 → ((162 ≤ b ∧ b ≤ 177) ∨ (b = 138 ∧ (j = 37 ∨ j = 44))) → rd h' b j = rd h b j) ∧ rd h' 138 25 = rd h 138 25 ∧ Er w n l q h' := by
      intro w h1 v a1 f1 g1 g25
      have c2 := step2 h1 v a1.sg
      have a2 := a1.ma c2
      have s1 := a1.sg.wr 177 (p + ps.length) v
      refine ⟨wr (wr h1 177 (p + ps.length) v) 138 53 (Int32.ofNat (p + ps.length + 1)), ?_, fun s => (f1 s).trans (mA_frM c2), fun b j hb1 hb2 hb3 => by rw [rd_wr_ne _ _ (by omega), rd_wr_ne _ _ (by omega)]; exact g1 b j hb1 hb2 (by omega), by rw [rd_wr_ne _ _ (by omega), rd_wr_ne _ _ (by omega)]; exact g25, a2⟩
      obtain ⟨k', rfl⟩ : ∃ k', k = k' + 1 := ⟨k - 1, by omega⟩
      rw [T_177 a1.sg hp9, Option.bind_some, g_138_53 s1, Option.bind_some, rd_wr_ne _ _ (by omega), g1 138 53 (by decide) (by decide) (by omega), e53, i_add1, p_138_53 s1, Option.bind_some, e_isSign _ a2.1, Option.bind_some]
      dsimp only
      rw [if_pos rfl, fX12_member_165, if_pos rfl]
    rcases hy : (tkS T).ty t with _ | y
    · rw [hy] at ty
      obtain ⟨h1, v1, e1, a1, f1⟩ := ty
      have c2 := step h1 v1 a1.sg
      have a2 := a1.ma c2
      obtain ⟨h3, e3, a3, f3⟩ := a2.name (N := N)
      rw [e1, Option.bind_some]
      dsimp only
      rw [T_176 a1.sg hp9, Option.bind_some, R_138_55 a2.sg, Option.bind_some, g_138_53 a2.sg, Option.bind_some, rd_wr_ne _ _ (by omega), f1.keepM (by omega), e53, e3, Option.bind_some]
      dsimp only
      obtain ⟨h', r1, r2, r3, r4, r5⟩ := err _ h3 (-1) a3 (fun s => (f1.toS.toM.trans (mA_frM c2)).trans f3.toS.toM) (fun b j hb1 hb2 hb3 => by rw [f3.keepM (by omega), rd_wr_ne _ _ (by omega), f1.keepM (by omega)]) (by rw [f3.f25, rd_wr_ne _ _ (by omega), f1.f25])
      exact ⟨h', r1, r2, r3, r4, Or.inl r5⟩
    · rw [hy] at ty
      obtain ⟨h1, v1, e1, t1, a1, f1, hne⟩ := ty
      obtain ⟨w1, w2, w3⟩ := ty_row hy
      have c2 := step h1 v1 a1.sg
      have a2 := a1.ma c2
      have hm1 := tk_mono T t w1
      rw [e1, Option.bind_some]
      dsimp only
      rw [T_176 a1.sg hp9, Option.bind_some, R_138_55 a2.sg, Option.bind_some, g_138_53 a2.sg, Option.bind_some, rd_wr_ne _ _ (by omega), f1.keepM (by omega), e53]
      by_cases k22 : tkK T (t + 1) = 22
      · obtain ⟨h3, id, e3, nm, a3, f3⟩ := a2.name1 (N := N) hN k22
        have a3 : At T (t + 2) r n l q h3 := a3
        have hm2 : tkP T (t + 1) < tkP T (t + 2) := tk_mono T (t + 1) (by rw [k22]; decide)
        have hsep := tk_sep w1 w2 w3 k22
        have c4 := step2 h3 id a3.sg
        have a4 := a3.ma c4
        have s3 := a3.sg.wr 177 (p + ps.length) id
        rw [if_neg (show ¬ tkK T (t + 1) ≠ 22 from fun z => z k22), e3, Option.bind_some]
        dsimp only
        rw [T_177 a3.sg hp9, Option.bind_some, g_138_53 s3, Option.bind_some, rd_wr_ne _ _ (by omega), f3.keepM (by omega), rd_wr_ne _ _ (by omega), f1.keepM (by omega), e53, i_add1, p_138_53 s3, Option.bind_some, r_isSign a4.1 (k := 44) (by unfold isSK isSgn; simp) (by decide), Option.bind_some]
        dsimp only
        generalize hH : wr (wr h3 177 (p + ps.length) id) 138 53 (Int32.ofNat (p + ps.length + 1)) = H at *
        have frH : ∀ s, FrM c m p s n l q h H := fun s => ((f1.toS.toM.trans (mA_frM c2)).trans f3.toS.toM).trans (mA_frM c4)
        have gH : ∀ b j, b ≠ 176 → b ≠ 177 → ((162 ≤ b ∧ b ≤ 177) ∨ (b = 138 ∧ (j = 37 ∨ j = 44))) → rd H b j = rd h b j := fun b j hb1 hb2 hb3 => by rw [← hH, rd_wr_ne _ _ (by omega), rd_wr_ne _ _ (by omega), f3.keepM (by omega), rd_wr_ne _ _ (by omega), f1.keepM (by omega)]
        have g25 : rd H 138 25 = rd h 138 25 := by rw [← hH, rd_wr_ne _ _ (by omega), rd_wr_ne _ _ (by omega), f3.f25, rd_wr_ne _ _ (by omega), f1.f25]
        have e53H : rd H 138 53 = Int32.ofNat (p + (ps ++ [(y, t + 1)]).length) := by
          rw [← hH, w_138_53 s3, List.length_append]
          rfl
        have n1H : NmLe h1 H := ((mA_nm c2).trans f3.2).trans (mA_nm c4)
        have n2H : NmLe (wr h1 176 (p + ps.length) v1) H := f3.2.trans (mA_nm c4)
        have psH : psR T H (ps ++ [(y, t + 1)]) p := by
          intro i x e
          by_cases hi : i < ps.length
          · rw [List.getElem?_append_left hi] at e
            have := hps i x e
            rw [show rd H 176 (p + i) = rd h 176 (p + i) from by rw [← hH, rd_wr_ne _ _ (by omega), rd_wr_ne _ _ (by omega), f3.keepM (by omega), rd_wr_ne _ _ (by omega), f1.keepM (by omega)], show rd H 177 (p + i) = rd h 177 (p + i) from by rw [← hH, rd_wr_ne _ _ (by omega), rd_wr_ne _ _ (by omega), f3.keepM (by omega), rd_wr_ne _ _ (by omega), f1.keepM (by omega)]]
            exact ⟨this.1.le (f1.2.trans n1H), this.2.le (f1.2.trans n1H)⟩
          · have hi2 : i < ps.length + 1 := by
              have := (List.getElem?_eq_some_iff.mp e).1
              rw [List.length_append] at this
              exact this
            have hi3 : i = ps.length := by omega
            subst hi3
            rw [List.getElem?_append_right (Nat.le_refl _), Nat.sub_self] at e
            have e : (y, t + 1) = x := Option.some.inj e
            subst e
            rw [show rd H 176 (p + ps.length) = v1 from by rw [← hH, rd_wr_ne _ _ (by omega), rd_wr_ne _ _ (by omega), f3.keepM (by omega), W_176 a1.sg], show rd H 177 (p + ps.length) = id from by rw [← hH, rd_wr_ne _ _ (by omega), W_177 a3.sg]]
            exact ⟨t1.le (f1.2.trans n1H), nm.le n2H⟩
        by_cases k44 : tkK T (t + 2) = 44
        · rw [if_pos k44, if_pos k44, if_neg (show ¬ (1 : Int32) = 0 by decide)]
          obtain ⟨h5, e5, a5, f5⟩ := a4.next (N := N) hN (by rw [k44]; decide) (by rw [k44]; decide)
          have hm3 : tkP T (t + 2) < tkP T (t + 3) := tk_mono T (t + 2) (by rw [k44]; decide)
          have hlt : t + 2 < T.2 := Tks.lt_of (S := tkS T) (t := t + 2) (by show tkK T (t + 2) ≠ 0; rw [k44]; decide)
          rw [e5, Option.bind_some]
          have ih := parl_loop (m := m) (c := c) hN f k (t + 3) (ps ++ [(y, t + 1)]) h5 (by omega) (by omega) (by omega) a5 (by rw [f5.keepM (by omega)]; exact e53H) (by rw [List.length_append]; show 4 * (p + (ps.length + 1)) ≤ _; omega) (psH.keep (fun a' k' h1' _ => f5.keepM (by omega)) f5.2)
          obtain ⟨h', r1, r2, r3, r4, r5⟩ := ih
          refine ⟨h', r1, fun s => ((frH s).trans f5.toS.toM).trans (r2 s), fun b j hb1 hb2 hb3 => by rw [r3 b j hb1 hb2 hb3, f5.keepM (by omega), gH b j hb1 hb2 hb3], by rw [r4, f5.f25, g25], ?_⟩
          rcases hq : (tkS T).parl f (ps ++ [(y, t + 1)]) (t + 3) with ⟨qs, t'⟩ | w
          · rw [hq] at r5
            obtain ⟨t2, u1, u2, u3, u4, u5, u6, u7⟩ := r5
            exact ⟨t2, u1, u2, u3, u4, u5, u6, by omega⟩
          · rw [hq] at r5
            exact r5
        · obtain ⟨k', rfl⟩ : ∃ k', k = k' + 1 := ⟨k - 1, by omega⟩
          rw [if_neg k44, if_neg k44, if_pos rfl, fX12_member_165, if_pos rfl]
          refine ⟨H, rfl, frH, gH, g25, ?_⟩
          by_cases k41 : tkK T (t + 2) = 41
          · have hm3 : tkP T (t + 2) < tkP T (t + 3) := tk_mono T (t + 2) (by rw [k41]; decide)
            rw [if_pos k41]
            exact ⟨t + 2, rfl, k41, a4, e53H, by rw [List.length_append]; show 4 * (p + (ps.length + 1)) ≤ _; omega, psH, by omega⟩
          · rw [if_neg k41]
            exact Or.inr ⟨t + 2, rfl, k41, a4⟩
      · obtain ⟨h3, e3, a3, f3⟩ := a2.name0 (N := N) k22
        rw [if_pos k22, e3, Option.bind_some]
        dsimp only
        obtain ⟨h', r1, r2, r3, r4, r5⟩ := err _ h3 (-1) a3 (fun s => (f1.toS.toM.trans (mA_frM c2)).trans f3.toS.toM) (fun b j hb1 hb2 hb3 => by rw [f3.keepM (by omega), rd_wr_ne _ _ (by omega), f1.keepM (by omega)]) (by rw [f3.f25, rd_wr_ne _ _ (by omega), f1.f25])
        exact ⟨h', r1, r2, r3, r4, Or.inl r5⟩
