theorem rty_eq (T : Txt) (t : Nat) : (tkS T).rty t = if tkK T t = 5 then some 3 else (tkS T).ty t := rfl
/-- the member's name and what follows -/
theorem mem39_post {T : Txt} {N t r c m p s n l q y : Nat} {h g : pH} {v : Int32} (hN : 3200 ≤ N) (a : At T (t + 1) r n l q g) (e25 : rd g 138 25 = Int32.ofNat s) (hs2 : 2 * s ≤ tkP T t) (e44 : rd g 138 44 = Int32.ofNat m) (e53 : rd g 138 53 = Int32.ofNat p) (e37 : rd g 138 37 = rd h 138 37) (hm : 4 * m ≤ tkP T t) (hp : 4 * p ≤ tkP T t) (r3 : tyR T g y (rd g 170 m)) (f : FrM c m p s n l q h g) (hw : tkK T t ≠ 0 ∧ tkK T t ≠ 24 ∧ ¬ (wcode (tkK T t) = 4 ∨ wcode (tkK T t) = 3)) (hv : v = if tkK T t = 5 then 1 else 0) :
    PostM T (if tkK T (t + 1) ≠ 22 then no (tkP T (t + 1)) else if tkK T t ≠ 5 ∧ tkK T (t + 2) = 59 then ok (false, y, t + 1, tkP T (t + 1), [], nl, 0) (t + 3) else Pr.bind ((tkS T).pars r (t + 2)) fun ps t1 => Pr.bind ((tkS T).blk r t1) fun b t2 => ok (true, y, t + 1, tkP T (t + 1), ps, b.1, b.2) t2) t r c m p s n l q h (fX12_member_39 N 138 (Int32.ofNat m) v g) := by
  have hP := a.P_le
  have hm8 : m < 800 := by have := (tkP_le T t).1; omega
  have hs := a.sg
  have e6 := a.1.2.2.2.2.2.2.2.2.1
  have c1 : Chg (mA c m p) g (wr g 169 m (Int32.ofNat (tkP T (t + 1)))) := Chg.wr g _ _ _ (mA_m (by omega) (Nat.le_refl _))
  have a1 := a.ma c1
  by_cases k22 : tkK T (t + 1) = 22
  · obtain ⟨h2, id, e2, nm, a2, f2⟩ := a1.name1 (N := N) hN k22
    have a2 : At T (t + 2) r n l q h2 := a2
    have hsep := tk_sep hw.1 hw.2.1 hw.2.2 k22
    have hm2 : tkP T (t + 1) < tkP T (t + 2) := tk_mono T (t + 1) (by rw [k22]; decide)
    have c3 : Chg (mA c m p) h2 (wr h2 168 m id) := Chg.wr _ _ _ _ (mA_m (by omega) (Nat.le_refl _))
    have a3 := a2.ma c3
    have c4 : Chg (mA c m p) (wr h2 168 m id) (wr (wr h2 168 m id) 138 44 (Int32.ofNat (m + 1))) := Chg.wr _ _ _ _ (Or.inl ⟨rfl, by simp⟩)
    have a4 := a3.ma c4
    have e44' : rd (wr h2 168 m id) 138 44 = Int32.ofNat m := by rw [rd_wr_ne _ _ (by omega), f2.keepM (by omega), rd_wr_ne _ _ (by omega), e44]
    have keep : ∀ b j, ((b = 138 ∧ (j = 37 ∨ j = 53)) ∨ b = 170) → rd (wr (wr h2 168 m id) 138 44 (Int32.ofNat (m + 1))) b j = rd g b j := fun b j hb => by rw [rd_wr_ne _ _ (by omega), rd_wr_ne _ _ (by omega), f2.keepM (by omega), rd_wr_ne _ _ (by omega)]
    have n4 : NmLe h2 (wr (wr h2 168 m id) 138 44 (Int32.ofNat (m + 1))) := mA_nm (c3.trans c4)
    have mp : ∀ (isM : Bool) (v : Int32), v = (if isM = true then 1 else 0) → (isM = false → tkK T (t + 2) ≠ 40) → _ := fun isM v hv hM => mem92_post (T := T) (c := c) (m := m) (p := p) (s := s) (h := h) (y := y) (isM := isM) (v := v) hN a4 (by rw [rd_wr_ne _ _ (by omega), rd_wr_ne _ _ (by omega), f2.f25, rd_wr_ne _ _ (by omega)]; exact e25) hs2 (w_138_44 a3.sg _) (by rw [keep 138 53 (by omega)]; exact e53) (by rw [keep 138 37 (by omega)]; exact e37) hm hp (by rw [rd_wr_ne _ _ (by omega), W_168 a2.sg]; exact nm.le (f2.2.trans n4)) (by rw [rd_wr_ne _ _ (by omega), rd_wr_ne _ _ (by omega), f2.keepM (by omega), W_169 hs]) (by rw [keep 170 m (by omega)]; exact r3.le ((mA_nm c1).trans (f2.2.trans n4))) (f.trans ((mA_frM c1).trans (f2.toS.toM.trans (mA_frM (c3.trans c4))))) (by omega) hv hM
    unfold fX12_member_39 fX12_member_87
    rw [if_neg (show ¬ tkK T (t + 1) ≠ 22 from fun z => z k22), R_138_46 hs, Option.bind_some, g_138_6 hs, Option.bind_some, e6, T_169 hs hm8, Option.bind_some, R_138_45 a1.sg, Option.bind_some, e2, Option.bind_some]
    dsimp only
    rw [T_168 a2.sg hm8, Option.bind_some, g_138_44 a3.sg, Option.bind_some, e44', i_add1, p_138_44 a3.sg, Option.bind_some, R_138_48 a4.sg, Option.bind_some]
    have meth := mp true 1 rfl (fun z => by cases z)
    rw [if_neg (show ¬ true = false by decide)] at meth
    by_cases k5 : tkK T t = 5
    · rw [hv, if_pos k5, if_neg (show ¬ (1 : Int32) = 0 by decide), if_neg (show ¬ 171 = 4 by decide), if_neg (fun z => z.1 k5)]
      exact meth
    · rw [hv, if_neg k5, if_pos rfl, r_isSign a4.1 (k := 40) (by unfold isSK isSgn; simp) (by decide), Option.bind_some]
      dsimp only
      by_cases k40 : tkK T (t + 2) = 40
      · rw [if_pos k40, if_neg (show ¬ (1 : Int32) = 0 by decide), if_neg (show ¬ 171 = 4 by decide), if_neg (fun z => by rw [k40] at z; exact absurd z.2 (by decide))]
        exact meth
      · have fld := mp false 0 rfl (fun _ => k40)
        rw [if_pos rfl] at fld
        rw [if_neg k40, if_pos rfl, if_neg (show ¬ 171 = 4 by decide)]
        by_cases k59 : tkK T (t + 2) = 59
        · rw [if_pos k59] at fld
          rw [if_pos ⟨k5, k59⟩]
          exact fld
        · rw [if_neg k59] at fld
          have sp : (tkS T).pars r (t + 2) = no (tkP T (t + 2)) := if_pos (Or.inl k40)
          rw [if_neg (fun z => k59 z.2), sp, Pr.bind_no]
          exact fld
  · obtain ⟨h2, e2, a2, f2⟩ := a1.name0 (N := N) k22
    have c3 : Chg (mA c m p) h2 (wr h2 168 m (-1)) := Chg.wr h2 _ _ _ (mA_m (by omega) (Nat.le_refl _))
    have a3 := a2.ma c3
    have c4 : Chg (mA c m p) (wr h2 168 m (-1)) (wr (wr h2 168 m (-1)) 138 44 (Int32.ofNat (m + 1))) := Chg.wr _ _ _ _ (Or.inl ⟨rfl, by simp⟩)
    have a4 := a3.ma c4
    have e44' : rd (wr h2 168 m (-1)) 138 44 = Int32.ofNat m := by rw [rd_wr_ne _ _ (by omega), f2.keepM (by omega), rd_wr_ne _ _ (by omega), e44]
    have e53' : rd (wr (wr h2 168 m (-1)) 138 44 (Int32.ofNat (m + 1))) 138 53 = Int32.ofNat p := by rw [rd_wr_ne _ _ (by omega), rd_wr_ne _ _ (by omega), f2.keepM (by omega), rd_wr_ne _ _ (by omega), e53]
    obtain ⟨h5, e5, a5, f5⟩ := mem92_er (N := N) (c := c) (v := 0) a4 e53' hm8 (Or.inl rfl)
    obtain ⟨h6', e6', a6', f6'⟩ := mem92_er (N := N) (c := c) (v := 1) a4 e53' hm8 (Or.inr rfl)
    have fr : FrM c m p s n l q h (wr (wr h2 168 m (-1)) 138 44 (Int32.ofNat (m + 1))) := f.trans ((mA_frM c1).trans (f2.toS.toM.trans (mA_frM (c3.trans c4))))
    unfold fX12_member_39 fX12_member_87
    rw [if_pos k22, R_138_46 hs, Option.bind_some, g_138_6 hs, Option.bind_some, e6, T_169 hs hm8, Option.bind_some, R_138_45 a1.sg, Option.bind_some, e2, Option.bind_some]
    dsimp only
    rw [T_168 a2.sg hm8, Option.bind_some, g_138_44 a3.sg, Option.bind_some, e44', i_add1, p_138_44 a3.sg, Option.bind_some, R_138_48 a4.sg, Option.bind_some]
    by_cases v0 : v = 0
    · rw [if_pos v0, e_isSign _ a4.1, Option.bind_some]
      dsimp only
      rw [if_pos rfl, if_neg (show ¬ 171 = 4 by decide), e5]
      exact ⟨h5, n, l, q, rfl, a5, fr.trans (f5 s), Nat.le_refl _, Nat.le_refl _, Nat.le_refl _⟩
    · rw [if_neg v0, if_neg (show ¬ 171 = 4 by decide), e6']
      exact ⟨h6', n, l, q, rfl, a6', fr.trans (f6' s), Nat.le_refl _, Nat.le_refl _, Nat.le_refl _⟩
theorem member_post {T : Txt} {N t r c m p s n l q : Nat} {h : pH} (hN : 3200 ≤ N) (a : At3 T t r m p s n l q h) : PostM T ((tkS T).mem r t) t r c m p s n l q h (fX12_member N 138 h) := by
  obtain ⟨⟨a, e25, hs2⟩, e44, e53, hm, hp⟩ := a
  have hP := a.P_le
  have hm8 : m < 800 := by omega
  have hs := a.sg
  have c1 : Chg (mA c m p) h (wr h 170 m 3) := Chg.wr h _ _ _ (mA_m (by omega) (Nat.le_refl _))
  have a1 := a.ma c1
  have spec : (tkS T).mem r t = match (tkS T).rty t with
    | none => no (tkP T t)
    | some y => if tkK T (t + 1) ≠ 22 then no (tkP T (t + 1)) else if tkK T t ≠ 5 ∧ tkK T (t + 2) = 59 then ok (false, y, t + 1, tkP T (t + 1), [], nl, 0) (t + 3) else Pr.bind ((tkS T).pars r (t + 2)) fun ps t1 => Pr.bind ((tkS T).blk r t1) fun b t2 => ok (true, y, t + 1, tkP T (t + 1), ps, b.1, b.2) t2 := rfl
  rw [spec, rty_eq]
  unfold fX12_member
  rw [if_pos (o_138 hs), g_138_44 hs, Option.bind_some, e44, show (5 : Int32) = Int32.ofNat 5 from rfl, r_isKey a.1 (by decide) (by decide), Option.bind_some]
  dsimp only
  rw [R_138_47 hs, Option.bind_some, T_170 hs hm8, Option.bind_some]
  by_cases k5 : tkK T t = Int32.ofNat 5
  · obtain ⟨h2, e2, a2, f2⟩ := a1.next (N := N) hN (by rw [k5]; decide) (by rw [k5]; decide)
    rw [if_pos k5, if_pos k5, if_neg (show ¬ (1 : Int32) = 0 by decide), e2, Option.bind_some]
    dsimp only
    have mp := mem39_post (T := T) (c := c) (m := m) (p := p) (s := s) (h := h) (y := 3) (v := 1) hN a2 (by rw [f2.f25, rd_wr_ne _ _ (by omega)]; exact e25) hs2 (by rw [f2.keepM (by omega), rd_wr_ne _ _ (by omega)]; exact e44) (by rw [f2.keepM (by omega), rd_wr_ne _ _ (by omega)]; exact e53) (by rw [f2.keepM (by omega), rd_wr_ne _ _ (by omega)]) hm hp (by rw [f2.keepM (by omega), W_170 hs]; rfl) ((mA_frM c1).trans f2.toS.toM) ⟨by rw [k5]; decide, by rw [k5]; decide, by rw [k5]; decide⟩ (if_pos k5).symm
    exact mp
  · rw [if_neg k5, if_neg k5, if_pos rfl, R_138_47 a1.sg, Option.bind_some]
    have ty := a1.type (N := N) hN
    rcases hy : (tkS T).ty t with _ | y
    · rw [hy] at ty
      obtain ⟨h2, v, e2, a2, f2⟩ := ty
      have c3 : Chg (mA c m p) h2 (wr h2 170 m v) := Chg.wr h2 _ _ _ (mA_m (by omega) (Nat.le_refl _))
      have a3 := a2.ma c3
      obtain ⟨h4, e4, a4, f4⟩ := mem39_er (N := N) (c := c) (m := m) (p := p) (v := 0) a3 (by rw [rd_wr_ne _ _ (by omega), f2.keepM (by omega), rd_wr_ne _ _ (by omega)]; exact e44) (by rw [rd_wr_ne _ _ (by omega), f2.keepM (by omega), rd_wr_ne _ _ (by omega)]; exact e53) hm8
      rw [e2, Option.bind_some]
      dsimp only
      rw [T_170 a2.sg hm8, Option.bind_some, e4]
      exact ⟨h4, n, l, q, rfl, a4, (mA_frM c1).trans (f2.toS.toM.trans ((mA_frM c3).trans (f4 s))), Nat.le_refl _, Nat.le_refl _, Nat.le_refl _⟩
    · rw [hy] at ty
      obtain ⟨h2, v, e2, t2, a2, f2, hne⟩ := ty
      have c3 : Chg (mA c m p) h2 (wr h2 170 m v) := Chg.wr h2 _ _ _ (mA_m (by omega) (Nat.le_refl _))
      have a3 := a2.ma c3
      have keep : ∀ b j, (b = 138 ∧ (j = 37 ∨ j = 44 ∨ j = 53)) → rd (wr h2 170 m v) b j = rd h b j := fun b j hb => by rw [rd_wr_ne _ _ (by omega), f2.keepM (by omega), rd_wr_ne _ _ (by omega)]
      rw [e2, Option.bind_some]
      dsimp only
      rw [T_170 a2.sg hm8, Option.bind_some]
      exact mem39_post (T := T) (c := c) (m := m) (p := p) (s := s) (h := h) (y := y) (v := 0) hN a3 (by rw [rd_wr_ne _ _ (by omega), f2.f25, rd_wr_ne _ _ (by omega)]; exact e25) hs2 (by rw [keep 138 44 (by omega)]; exact e44) (by rw [keep 138 53 (by omega)]; exact e53) (by rw [keep 138 37 (by omega)]) hm hp (by rw [W_170 a2.sg]; exact t2.le (f2.2.trans (mA_nm c3))) ((mA_frM c1).trans (f2.toS.toM.trans (mA_frM c3))) (ty_row hy) (if_neg k5).symm
