theorem mA_m {c m p a k : Nat} (ha : 168 ≤ a ∧ a ≤ 174) (hk : m ≤ k) : mA c m p a k := Or.inr (Or.inr (Or.inr (Or.inl ⟨ha, hk⟩)))
theorem mem230_er {N w n l q c m p : Nat} {h : pH} (he : Er w n l q h) (hm : m < 800) : ∃ h', fX12_member_230 N 138 (Int32.ofNat m) h = some h' ∧ Er w n l q h' ∧ ∀ s, FrM c m p s n l q h h' := by
  obtain ⟨h1, e1, a1, f1⟩ := he.closes (N := N) 41
  have c2 : Chg (mA c m p) h1 (wr h1 172 (m + 1) (rd h1 138 53)) := Chg.wr _ _ _ _ (mA_m (by omega) (by omega))
  have a2 := a1.ma c2
  obtain ⟨v3, h3, e3, a3, f3⟩ := blkE_all N 199 _ _ _ _ _ a2
  have c4 : Chg (mA c m p) h3 (wr h3 173 m v3) := Chg.wr _ _ _ _ (mA_m (by omega) (Nat.le_refl _))
  have a4 := a3.ma c4
  have c5 : Chg (mA c m p) (wr h3 173 m v3) (wr (wr h3 173 m v3) 174 m (rd (wr h3 173 m v3) 138 57)) := Chg.wr _ _ _ _ (mA_m (by omega) (Nat.le_refl _))
  refine ⟨_, ?_, a4.ma c5, fun s => (f1.toS.toM.trans (mA_frM c2)).trans (f3.toS.toM.trans (mA_frM (c4.trans c5)))⟩
  unfold fX12_member_230
  rw [e1, Option.bind_some, R_138_49 a1.sg, Option.bind_some, g_138_53 a1.sg, Option.bind_some, i_add1, T_172 a1.sg (by omega), Option.bind_some, R_138_50 a2.sg, Option.bind_some, if_pos (o_138 a2.sg), Option.bind_some, e3, Option.bind_some, T_173 a3.sg hm, Option.bind_some, R_138_51 a4.sg, Option.bind_some, g_138_57 a4.sg, Option.bind_some, T_174 a4.sg hm, Option.bind_some]
/-- ) and the block of a method -/
theorem mem230_ok {T : Txt} {N t r n l q c m p p2 s : Nat} {h : pH} (a : At T t r n l q h) (e25 : rd h 138 25 = Int32.ofNat s) (hs2 : 2 * s ≤ tkP T t) (hr : r + 1 ≤ 30) (hK : tkK T t = 41) (e53 : rd h 138 53 = Int32.ofNat p2) (hm : m < 800) (hN : 3200 ≤ N) : match (tkS T).blk (r + 1) (t + 1) with
    | Sum.inl (b, t2) => ∃ h', fX12_member_230 N 138 (Int32.ofNat m) h = some h' ∧ At2 T t2 (r + 1) (s + stB b.1) (n + szB b.1) (l + lsB b.1) q h' ∧ RB T h' b.1 none s n l ∧ rd h' 173 m = fsB b.1 s ∧ rd h' 174 m = Int32.ofNat b.2 ∧ rd h' 172 (m + 1) = Int32.ofNat p2 ∧ FrM c m p s n l q h h' ∧ (∀ a j, ((a = 138 ∧ (j = 37 ∨ j = 44 ∨ j = 53)) ∨ (162 ≤ a ∧ a ≤ 177)) → ¬ (a = 172 ∧ j = m + 1) → a ≠ 173 → a ≠ 174 → rd h' a j = rd h a j) ∧ tkP T (t + 1) ≤ tkP T t2 ∧ NmLe h h'
    | Sum.inr w => ∃ h' n' l' q', fX12_member_230 N 138 (Int32.ofNat m) h = some h' ∧ Er w n' l' q' h' ∧ FrM c m p s n l q h h' ∧ n ≤ n' ∧ l ≤ l' ∧ q ≤ q' := by
  obtain ⟨h1, e1, a1, f1⟩ := a.closes1 (N := N) (k := 41) (c := 41) hr (by unfold isSK isSgn; simp) (by decide) hN hK
  have hm1 := tk_mono T t (by rw [hK]; decide)
  have c2 : Chg (mA c m p) h1 (wr h1 172 (m + 1) (Int32.ofNat p2)) := Chg.wr _ _ _ _ (mA_m (by omega) (by omega))
  have a2 := a1.ma c2
  have e53' : rd h1 138 53 = Int32.ofNat p2 := by rw [f1.keepM (by omega)]; exact e53
  have a22 : At2 T (t + 1) (r + 1) s n l q (wr h1 172 (m + 1) (Int32.ofNat p2)) := ⟨a2, by rw [rd_wr_ne _ _ (by omega), f1.f25]; exact e25, by omega⟩
  have bp := block_all (T := T) hN (r + 1) 200 (by omega) (t + 1) s n l q _ a22
  have f12 : FrM c m p s n l q h (wr h1 172 (m + 1) (Int32.ofNat p2)) := f1.toS.toM.trans (mA_frM c2)
  have e230 : fX12_member_230 N 138 (Int32.ofNat m) h = (rcI (gX12_statement N 200) 253 [.ref 138] (wr h1 172 (m + 1) (Int32.ofNat p2))).bind fun q6 => (stI q6.2 173 (Int32.ofNat m) q6.1).bind fun h8 => (getR h8 138 12 51).bind fun t9 => (getI h8 138 12 57).bind fun t10 => (stI h8 t9 (Int32.ofNat m) t10).bind fun h11 => some h11 := by
    unfold fX12_member_230
    rw [e1, Option.bind_some, R_138_49 a1.sg, Option.bind_some, g_138_53 a1.sg, Option.bind_some, e53', i_add1, T_172 a1.sg (by omega), Option.bind_some, R_138_50 a2.sg, Option.bind_some, if_pos (o_138 a2.sg), Option.bind_some]
  rw [e230]
  rcases hq : (tkS T).blk (r + 1) (t + 1) with ⟨b, t2⟩ | w
  · rw [hq, PostB_ok] at bp
    obtain ⟨h3, e3, a3, rb, e57, f3, d1, d2, d3⟩ := bp
    have c4 : Chg (mA c m p) h3 (wr h3 173 m (fsB b.1 s)) := Chg.wr _ _ _ _ (mA_m (by omega) (Nat.le_refl _))
    have a4 := a3.1.ma c4
    have c5 : Chg (mA c m p) (wr h3 173 m (fsB b.1 s)) (wr (wr h3 173 m (fsB b.1 s)) 174 m (Int32.ofNat b.2)) := Chg.wr _ _ _ _ (mA_m (by omega) (Nat.le_refl _))
    have e57' : rd (wr h3 173 m (fsB b.1 s)) 138 57 = Int32.ofNat b.2 := by rw [rd_wr_ne _ _ (by omega)]; exact e57
    refine ⟨wr (wr h3 173 m (fsB b.1 s)) 174 m (Int32.ofNat b.2), ?_, ⟨a4.ma c5, by rw [rd_wr_ne _ _ (by omega), rd_wr_ne _ _ (by omega)]; exact a3.2.1, a3.2.2⟩, RB.keep _ _ _ _ _ (mA_ag (c4.trans c5) _ _ _ _ _ _) (fun j hj => by cases hj) rb, ?_, W_174 a4.sg _ _, ?_, f12.trans (f3.toM.trans (mA_frM (c4.trans c5))), ?_, by omega, (f1.2.trans (mA_nm c2)).trans (f3.2.trans (mA_nm (c4.trans c5)))⟩
    · rw [e3, Option.bind_some]
      dsimp only
      rw [T_173 a3.1.sg hm, Option.bind_some, R_138_51 a4.sg, Option.bind_some, g_138_57 a4.sg, Option.bind_some, e57', T_174 a4.sg hm, Option.bind_some]
    · rw [rd_wr_ne _ _ (by omega), W_173 a3.1.sg]
    · rw [rd_wr_ne _ _ (by omega), rd_wr_ne _ _ (by omega), f3.keepM (by omega), W_172 a1.sg]
    · intro a' j ha hb h173 h174
      rw [rd_wr_ne _ _ (by omega), rd_wr_ne _ _ (by omega), f3.keepM (by omega), rd_wr_ne _ _ (by omega), f1.keepM (by omega)]
  · rw [hq, PostB_no] at bp
    obtain ⟨v3, h3, n', l', q', e3, a3, f3, d1, d2, d3, d4⟩ := bp
    have c4 : Chg (mA c m p) h3 (wr h3 173 m v3) := Chg.wr _ _ _ _ (mA_m (by omega) (Nat.le_refl _))
    have a4 := a3.ma c4
    have c5 : Chg (mA c m p) (wr h3 173 m v3) (wr (wr h3 173 m v3) 174 m (rd (wr h3 173 m v3) 138 57)) := Chg.wr _ _ _ _ (mA_m (by omega) (Nat.le_refl _))
    refine ⟨_, n', l', q', ?_, a4.ma c5, f12.trans (f3.toM.trans (mA_frM (c4.trans c5))), d2, d3, d4⟩
    rw [e3, Option.bind_some]
    dsimp only
    rw [T_173 a3.sg hm, Option.bind_some, R_138_51 a4.sg, Option.bind_some, g_138_57 a4.sg, Option.bind_some, T_174 a4.sg hm, Option.bind_some]
theorem mem230_no {T : Txt} {N t r n l q c m p s : Nat} {h : pH} (a : At T t r n l q h) (hK : tkK T t ≠ 41) (hm : m < 800) : ∃ h' n' l' q', fX12_member_230 N 138 (Int32.ofNat m) h = some h' ∧ Er (tkP T t) n' l' q' h' ∧ FrM c m p s n l q h h' ∧ n ≤ n' ∧ l ≤ l' ∧ q ≤ q' := by
  obtain ⟨h1, e1, a1, f1⟩ := a.closes0 (N := N) (k := 41) (c := 41) (by unfold isSK isSgn; simp) (by decide) hK
  have c2 : Chg (mA c m p) h1 (wr h1 172 (m + 1) (rd h1 138 53)) := Chg.wr _ _ _ _ (mA_m (by omega) (by omega))
  have a2 := a1.ma c2
  obtain ⟨v3, h3, e3, a3, f3⟩ := blkE_all N 199 _ _ _ _ _ a2
  have c4 : Chg (mA c m p) h3 (wr h3 173 m v3) := Chg.wr _ _ _ _ (mA_m (by omega) (Nat.le_refl _))
  have a4 := a3.ma c4
  have c5 : Chg (mA c m p) (wr h3 173 m v3) (wr (wr h3 173 m v3) 174 m (rd (wr h3 173 m v3) 138 57)) := Chg.wr _ _ _ _ (mA_m (by omega) (Nat.le_refl _))
  refine ⟨_, n, l, q, ?_, a4.ma c5, (f1.toS.toM.trans (mA_frM c2)).trans (f3.toS.toM.trans (mA_frM (c4.trans c5))), Nat.le_refl _, Nat.le_refl _, Nat.le_refl _⟩
  unfold fX12_member_230
  rw [e1, Option.bind_some, R_138_49 a1.sg, Option.bind_some, g_138_53 a1.sg, Option.bind_some, i_add1, T_172 a1.sg (by omega), Option.bind_some, R_138_50 a2.sg, Option.bind_some, if_pos (o_138 a2.sg), Option.bind_some, e3, Option.bind_some, T_173 a3.sg hm, Option.bind_some, R_138_51 a4.sg, Option.bind_some, g_138_57 a4.sg, Option.bind_some, T_174 a4.sg hm, Option.bind_some]
/-- what a member comes to -/
def PostM (T : Txt) (x : Pr Mb) (t r c m p s n l q : Nat) (h : pH) (res : Option pH) : Prop := match x with
  | Sum.inl (b, t') => ∃ h', res = some h' ∧ At3 T t' r (m + 1) (p + mbP b) (s + stB (mbB b)) (n + szB (mbB b)) (l + lsB (mbB b)) q h' ∧ mbR T h' b m p s n l ∧ rd h' 172 (m + 1) = Int32.ofNat (p + mbP b) ∧ FrM c m p s n l q h h' ∧ rd h' 138 37 = rd h 138 37 ∧ tkP T t + 4 ≤ tkP T t'
  | Sum.inr w => ∃ h' n' l' q', res = some h' ∧ Er w n' l' q' h' ∧ FrM c m p s n l q h h' ∧ n ≤ n' ∧ l ≤ l' ∧ q ≤ q'
/-- from the row of kinds on: the name is read, the member is counted -/
theorem mem92_post {T : Txt} {N t r c m p s n l q y : Nat} {h g : pH} {v : Int32} {isM : Bool} (hN : 3200 ≤ N) (a : At T (t + 2) r n l q g) (e25 : rd g 138 25 = Int32.ofNat s) (hs2 : 2 * s ≤ tkP T t) (e44 : rd g 138 44 = Int32.ofNat (m + 1)) (e53 : rd g 138 53 = Int32.ofNat p) (e37 : rd g 138 37 = rd h 138 37) (hm : 4 * m ≤ tkP T t) (hp : 4 * p ≤ tkP T t) (r1 : NmIs T g (t + 1) (rd g 168 m)) (r2 : rd g 169 m = Int32.ofNat (tkP T (t + 1))) (r3 : tyR T g y (rd g 170 m)) (f : FrM c m p s n l q h g) (hsep : tkP T t + 3 ≤ tkP T (t + 2)) (hv : v = if isM = true then 1 else 0) (hM : isM = false → tkK T (t + 2) ≠ 40) :
    PostM T (if isM = false then (if tkK T (t + 2) = 59 then ok (false, y, t + 1, tkP T (t + 1), [], nl, 0) (t + 3) else no (tkP T (t + 2))) else Pr.bind ((tkS T).pars r (t + 2)) fun ps t1 => Pr.bind ((tkS T).blk r t1) fun b t2 => ok (true, y, t + 1, tkP T (t + 1), ps, b.1, b.2) t2) t r c m p s n l q h (fX12_member_92 N 138 (Int32.ofNat m) 171 (Int32.ofNat m) v g) := by
  have hP := a.P_le
  have hm8 : m < 800 := by have := (tkP_le T t).1; omega
  have hs := a.sg
  have hv01 : v = 0 ∨ v = 1 := by rw [hv]; cases isM <;> simp
  have c1 : Chg (mA c m p) g (wr g 171 m v) := Chg.wr g _ _ _ (mA_m (by omega) (Nat.le_refl _))
  have s1 := c1.sg hs
  have c2 : Chg (mA c m p) (wr g 171 m v) (wr (wr g 171 m v) 172 m (Int32.ofNat p)) := Chg.wr _ _ _ _ (mA_m (by omega) (Nat.le_refl _))
  have s2 := c2.sg s1
  have c3 : Chg (mA c m p) (wr (wr g 171 m v) 172 m (Int32.ofNat p)) (wr (wr (wr g 171 m v) 172 m (Int32.ofNat p)) 172 (m + 1) (Int32.ofNat p)) := Chg.wr _ _ _ _ (mA_m (by omega) (by omega))
  have s3 := c3.sg s2
  have cc := (c1.trans c2).trans c3
  have ld : ldZ (wr (wr (wr g 171 m v) 172 m (Int32.ofNat p)) 172 (m + 1) (Int32.ofNat p)) 171 (Int32.ofNat m) = some v := by
    rw [L_171 s3 hm8, rd_wr_ne _ _ (by omega), rd_wr_ne _ _ (by omega), W_171 hs]
  unfold fX12_member_92
  rw [T_171 hs hm8 hv01, Option.bind_some, R_138_49 s1, Option.bind_some, g_138_53 s1, Option.bind_some, rd_wr_ne _ _ (by omega), e53, T_172 s1 (by omega), Option.bind_some, R_138_49 s2, Option.bind_some, g_138_53 s2, Option.bind_some, rd_wr_ne _ _ (by omega), rd_wr_ne _ _ (by omega), e53, i_add1, T_172 s2 (by omega), Option.bind_some, R_138_48 s3, Option.bind_some, ld, Option.bind_some]
  generalize hG : wr (wr (wr g 171 m v) 172 m (Int32.ofNat p)) 172 (m + 1) (Int32.ofNat p) = G at *
  have aG : At T (t + 2) r n l q G := a.ma cc
  have kG : ∀ a' j, ¬ (a' = 171 ∧ j = m) → ¬ (a' = 172 ∧ (j = m ∨ j = m + 1)) → rd G a' j = rd g a' j := fun a' j h1 h2 => by rw [← hG, rd_wr_ne _ _ (by omega), rd_wr_ne _ _ (by omega), rd_wr_ne _ _ (by omega)]
  have g171 : rd G 171 m = v := by rw [← hG, rd_wr_ne _ _ (by omega), rd_wr_ne _ _ (by omega), W_171 hs]
  have g172 : rd G 172 m = Int32.ofNat p := by rw [← hG, rd_wr_ne _ _ (by omega), W_172 s1]
  have g172' : rd G 172 (m + 1) = Int32.ofNat p := by rw [← hG, W_172 s2]
  have nG : NmLe g G := mA_nm cc
  have fG : FrM c m p s n l q h G := f.trans (mA_frM cc)
  cases isM with
  | false =>
    rw [if_pos rfl, if_pos (show v = 0 from hv), r_isSign aG.1 (k := 59) (by unfold isSK isSgn; simp) (by decide), Option.bind_some]
    dsimp only
    by_cases k59 : tkK T (t + 2) = 59
    · obtain ⟨h5, e5, a5, f5⟩ := aG.passes1 (N := N) (g := 1) (by decide) hN (by rw [k59]; decide) (by rw [k59]; decide)
      have a5 : At T (t + 3) r n l q h5 := a5
      have hm3 : tkP T (t + 2) < tkP T (t + 3) := tk_mono T (t + 2) (by rw [k59]; decide)
      rw [if_pos k59, if_pos k59, e5, Option.bind_some]
      refine ⟨h5, rfl, ⟨⟨a5, by rw [f5.f25, kG 138 25 (by omega) (by omega)]; exact e25, by show 2 * (s + 0) ≤ _; omega⟩, by rw [f5.keepM (by omega), kG 138 44 (by omega) (by omega)]; exact e44, by rw [f5.keepM (by omega), kG 138 53 (by omega) (by omega)]; exact e53, by omega, by show 4 * (p + 0) ≤ _; omega⟩, ⟨?_, ?_, ?_, ?_, ?_, (fun i x e => by cases e), (fun z => by cases z)⟩, ?_, fG.trans f5.toS.toM, ?_, by omega⟩
      · rw [f5.keepM (by omega), kG 168 m (by omega) (by omega)]; exact r1.le (nG.trans f5.2)
      · rw [f5.keepM (by omega), kG 169 m (by omega) (by omega)]; exact r2
      · rw [f5.keepM (by omega), kG 170 m (by omega) (by omega)]; exact r3.le (nG.trans f5.2)
      · rw [f5.keepM (by omega), g171, hv]
      · rw [f5.keepM (by omega)]; exact g172
      · rw [f5.keepM (by omega)]; exact g172'
      · rw [f5.keepM (by omega), kG 138 37 (by omega) (by omega)]; exact e37
    · obtain ⟨h5, e5, a5, f5⟩ := aG.passes0 (N := N)
      rw [if_neg k59, if_neg k59, e5, Option.bind_some]
      exact ⟨h5, n, l, q, rfl, a5, fG.trans f5.toS.toM, Nat.le_refl _, Nat.le_refl _, Nat.le_refl _⟩
  | true =>
    rw [if_neg (show ¬ true = false by decide), if_neg (show ¬ v = 0 from fun z => by rw [hv] at z; exact absurd z (by decide)), r_isSign aG.1 (k := 40) (by unfold isSK isSgn; simp) (by decide), Option.bind_some]
    dsimp only
    have spec : (tkS T).pars r (t + 2) = if tkK T (t + 2) ≠ 40 ∨ r = 0 then no (tkP T (t + 2)) else if tkK T (t + 3) = 41 then ok [] (t + 4) else (tkS T).parl (T.2 - (t + 2)) [] (t + 3) := rfl
    rw [spec]
    by_cases hc : tkK T (t + 2) ≠ 40 ∨ r = 0
    · rw [if_pos hc, Pr.bind_no]
      obtain ⟨h6, e6, a6, f6⟩ := aG.opens0 (N := N) (if tkK T (t + 2) = 40 then 1 else 0) (hc.imp (fun z => if_neg z) (fun z => z))
      rw [e6, Option.bind_some]
      dsimp only
      rw [if_pos rfl]
      exact ⟨h6, n, l, q, rfl, a6, fG.trans f6.toS.toM, Nat.le_refl _, Nat.le_refl _, Nat.le_refl _⟩
    · rw [if_neg hc]
      have k40 : tkK T (t + 2) = 40 := Decidable.not_not.mp (fun z => hc (Or.inl z))
      obtain ⟨r', rfl⟩ : ∃ r', r = r' + 1 := ⟨r - 1, by have : r ≠ 0 := fun z => hc (Or.inr z); omega⟩
      have hr := aG.2.1
      obtain ⟨h6, e6, a6, f6⟩ := aG.opens1 (N := N) (g := 1) (by decide) hN (by rw [k40]; decide) (by rw [k40]; decide)
      have a6 : At T (t + 3) r' n l q h6 := a6
      have hm3 : tkP T (t + 2) < tkP T (t + 3) := tk_mono T (t + 2) (by rw [k40]; decide)
      have hlt : t + 2 < T.2 := Tks.lt_of (S := tkS T) (t := t + 2) (by show tkK T (t + 2) ≠ 0; rw [k40]; decide)
      have f16 : FrM c m p s n l q h h6 := fG.trans f6.toS.toM
      -- from what the parameters come to on
      have fin : ∀ (ps : List (Nat × Nat)) (t2 : Nat) (h7 : pH), tkK T t2 = 41 → At T t2 r' n l q h7 → rd h7 138 53 = Int32.ofNat (p + ps.length) → 4 * (p + ps.length) ≤ tkP T (t2 + 1) → psR T h7 ps p → (∀ s, FrM c m p s n l q h6 h7) → (∀ b j, b ≠ 176 → b ≠ 177 → ((162 ≤ b ∧ b ≤ 177) ∨ (b = 138 ∧ (j = 37 ∨ j = 44))) → rd h7 b j = rd h6 b j) → rd h7 138 25 = rd h6 138 25 → tkP T (t + 3) ≤ tkP T t2 → PostM T (Pr.bind ((tkS T).blk (r' + 1) (t2 + 1)) fun b t3 => ok (true, y, t + 1, tkP T (t + 1), ps, b.1, b.2) t3) t (r' + 1) c m p s n l q h (fX12_member_230 N 138 (Int32.ofNat m) h7) := by
        intro ps t2 h7 k41 a7 e537 b7 ps7 f7 g7 g25 ht2
        have e257 : rd h7 138 25 = Int32.ofNat s := by rw [g25, f6.f25, kG 138 25 (by omega) (by omega)]; exact e25
        have ok230 := mem230_ok (c := c) (m := m) (p := p) (p2 := p + ps.length) a7 e257 (by omega) hr k41 e537 hm8 hN
        rcases hq : (tkS T).blk (r' + 1) (t2 + 1) with ⟨b, t3⟩ | w
        · rw [hq] at ok230
          obtain ⟨h8, e8, a8, rb, x1, x2, x3, f8, k8, d1, n8⟩ := ok230
          have hm4 := tk_mono T t2 (by rw [k41]; decide)
          rw [e8, Pr.bind_ok]
          have row : ∀ a', 168 ≤ a' → a' ≤ 171 → rd h8 a' m = rd G a' m := fun a' h1 h2 => by rw [k8 a' m (by omega) (by omega) (by omega) (by omega), g7 a' m (by omega) (by omega) (by omega), f6.keepM (by omega)]
          have nF : NmLe g h8 := (nG.trans f6.2).trans ((f7 s).2.trans n8)
          refine ⟨h8, rfl, ⟨a8, ?_, ?_, by omega, by show 4 * (p + ps.length) ≤ _; omega⟩, ⟨?_, ?_, ?_, ?_, ?_, ?_, fun _ => ⟨x1, x2, rb⟩⟩, x3, f16.trans ((f7 s).trans f8), ?_, by omega⟩
          · rw [k8 138 44 (by omega) (by omega) (by omega) (by omega), g7 138 44 (by omega) (by omega) (by omega), f6.keepM (by omega), kG 138 44 (by omega) (by omega)]; exact e44
          · rw [k8 138 53 (by omega) (by omega) (by omega) (by omega)]; exact e537
          · rw [row 168 (by decide) (by decide), kG 168 m (by omega) (by omega)]; exact r1.le nF
          · rw [row 169 (by decide) (by decide), kG 169 m (by omega) (by omega)]; exact r2
          · rw [row 170 (by decide) (by decide), kG 170 m (by omega) (by omega)]; exact r3.le nF
          · rw [row 171 (by decide) (by decide), g171, hv]
          · rw [k8 172 m (by omega) (by omega) (by omega) (by omega), g7 172 m (by omega) (by omega) (by omega), f6.keepM (by omega)]; exact g172
          · exact ps7.keep (fun a' k' h1 _ => k8 a' k' (by omega) (by omega) (by omega) (by omega)) n8
          · rw [k8 138 37 (by omega) (by omega) (by omega) (by omega), g7 138 37 (by omega) (by omega) (by omega), f6.keepM (by omega), kG 138 37 (by omega) (by omega)]; exact e37
        · rw [hq] at ok230
          obtain ⟨h8, n', l', q', e8, a8, f8, z1, z2, z3⟩ := ok230
          rw [e8, Pr.bind_no]
          exact ⟨h8, n', l', q', rfl, a8, f16.trans ((f7 s).trans f8), z1, z2, z3⟩
      rw [if_pos k40, e6, Option.bind_some]
      dsimp only
      rw [if_neg (show ¬ (1 : Int32) = 0 by decide), r_isSign a6.1 (k := 41) (by unfold isSK isSgn; simp) (by decide), Option.bind_some]
      dsimp only
      unfold fX12_member_164
      by_cases k41 : tkK T (t + 3) = 41
      · rw [if_pos k41, if_pos k41, if_neg (show ¬ (1 : Int32) = 0 by decide), Pr.bind_ok]
        obtain ⟨N', hN'⟩ : ∃ N', N = N' + 1 := ⟨N - 1, by omega⟩
        rw [show fX12_member_165 N N = fX12_member_165 N (N' + 1) from congrArg _ hN', fX12_member_165, if_pos rfl]
        have hm4 : tkP T (t + 3) < tkP T (t + 3 + 1) := tk_mono T (t + 3) (by rw [k41]; decide)
        exact fin [] (t + 3) h6 k41 a6 (by rw [f6.keepM (by omega), kG 138 53 (by omega) (by omega)]; exact e53) (by show 4 * (p + 0) ≤ _; omega) (fun i x e => by cases e) (fun s => FrM.refl _ _ _ _ _ _ _ _) (fun _ _ _ _ _ => rfl) rfl (Nat.le_refl _)
      · rw [if_neg k41, if_neg k41, if_pos rfl]
        have pl := parl_loop (T := T) (m := m) (c := c) (p := p) hN (T.2 - (t + 2)) N (t + 3) [] h6 (by omega) (by omega) (by omega) a6 (by rw [f6.keepM (by omega), kG 138 53 (by omega) (by omega)]; exact e53) (by show 4 * (p + 0) ≤ _; omega) (fun i x e => by cases e)
        obtain ⟨h7, e7, f7, g7, g25, pm⟩ := pl
        rw [e7]
        rcases hq : (tkS T).parl (T.2 - (t + 2)) [] (t + 3) with ⟨ps, t1⟩ | w
        · rw [hq] at pm
          obtain ⟨t2, u1, u2, u3, u4, u5, u6, u7⟩ := pm
          subst u1
          rw [Pr.bind_ok]
          exact fin ps t2 h7 u2 u3 u4 u5 u6 f7 g7 g25 u7
        · rw [hq] at pm
          rw [Pr.bind_no]
          rcases pm with pm | ⟨t2, u1, u2, u3⟩
          · obtain ⟨h8, e8, a8, f8⟩ := mem230_er (N := N) (c := c) (p := p) pm hm8
            rw [e8]
            exact ⟨h8, n, l, q, rfl, a8, f16.trans ((f7 s).trans (f8 s)), Nat.le_refl _, Nat.le_refl _, Nat.le_refl _⟩
          · subst u1
            obtain ⟨h8, n', l', q', e8, a8, f8, z1, z2, z3⟩ := mem230_no (N := N) (c := c) (p := p) (s := s) u3 u2 hm8
            rw [e8]
            exact ⟨h8, n', l', q', rfl, a8, f16.trans ((f7 s).trans f8), z1, z2, z3⟩
