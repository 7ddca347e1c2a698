theorem sk_ne {k : Int32} (h : isSK k) : k ≠ 0 ∧ k ≠ 24 := ⟨fun z => by have := sk_code h; rw [z] at this; exact absurd this (by decide), fun z => by have := sk_code h; rw [z] at this; exact absurd this (by decide)⟩
/-- a sign that closes is there -/
theorem At.closes1 {N t r n l q : Nat} {T : Txt} {h : pH} {k c : Int32} (a : At T t r n l q h) (hr : r + 1 ≤ 30) (hk : isSK k) (hc : sgV k = c) (hN : 3200 ≤ N) (hK : tkK T t = k) : ∃ h', fX12_closes N 138 c h = some h' ∧ At T (t + 1) (r + 1) n l q h' ∧ Fr n l q h h' := by
  obtain ⟨h1, r1, a1, f1⟩ := a.passes1 (N := N) (g := 1) (by decide) hN (by rw [hK]; exact (sk_ne hk).1) (by rw [hK]; exact (sk_ne hk).2)
  have hs1 := a1.sg
  obtain ⟨hp, hr1, e10, e15, e21, e23, b1, b2, b3⟩ := a1
  have c1 : Chg (Fl [10]) h1 (wr h1 138 10 (Int32.ofNat (30 - (r + 1)))) := Chg.wr h1 _ _ _ ⟨rfl, by simp⟩
  have f : ∀ k, k ∉ [10] → rd (wr h1 138 10 (Int32.ofNat (30 - (r + 1)))) 138 k = rd h1 138 k := fun k hk => c1.2.2.1 _ _ (Fl_ne (Or.inr hk))
  refine ⟨_, ?_, ⟨hp.chg c1 ⟨fun k hk => Fl_ne (Or.inr (fun z => by rw [List.mem_singleton.mp z] at hk; exact absurd hk (by decide))), fl_rest⟩, hr, w_138_10 hs1 _, by rw [f 15 (by decide)]; exact e15, by rw [f 21 (by decide)]; exact e21, by rw [f 23 (by decide)]; exact e23, b1, b2, b3⟩, f1.trans (fr_fl c1 (by decide))⟩
  unfold fX12_closes
  rw [if_pos (o_138 a.sg), r_isSign a.1 hk hc, if_pos hK, Option.bind_some]
  dsimp only
  rw [r1, Option.bind_some]
  dsimp only
  rw [if_neg (by decide), g_138_10 hs1, Option.bind_some, e10, show Int32.ofNat (30 - r) - 1 = Int32.ofNat (30 - (r + 1)) from by
    rw [show 30 - r = (30 - (r + 1)) + 1 by omega, ← i_add1, Int32.add_sub_cancel], p_138_10 hs1, Option.bind_some]
theorem At.closes0 {N t r n l q : Nat} {T : Txt} {h : pH} {k c : Int32} (a : At T t r n l q h) (hk : isSK k) (hc : sgV k = c) (hK : tkK T t ≠ k) : ∃ h', fX12_closes N 138 c h = some h' ∧ Er (tkP T t) n l q h' ∧ Fr n l q h h' := by
  obtain ⟨h1, r1, a1, f1⟩ := a.passes0 (N := N)
  refine ⟨h1, ?_, a1, f1⟩
  unfold fX12_closes
  rw [if_pos (o_138 a.sg), r_isSign a.1 hk hc, if_neg hK, Option.bind_some]
  dsimp only
  rw [r1, Option.bind_some]
  rfl
theorem Er.closes {N w n l q : Nat} {h : pH} (c : Int32) (he : Er w n l q h) : ∃ h', fX12_closes N 138 c h = some h' ∧ Er w n l q h' ∧ Fr n l q h h' := by
  obtain ⟨h1, r1, a1, f1⟩ := he.passes (N := N) 0
  refine ⟨h1, ?_, a1, f1⟩
  unfold fX12_closes
  rw [if_pos (o_138 he.sg), e_isSign c he.1, Option.bind_some]
  dsimp only
  rw [r1, Option.bind_some]
  rfl
/-- id is the name that the word t tells -/
def NmIs (T : Txt) (h : pH) (t : Nat) (v : Int32) : Prop := ∃ id, v = Int32.ofNat id ∧ id < nmM h ∧ nmR h id = tkW T t
theorem NmIs.le {T : Txt} {h h' : pH} {t : Nat} {v : Int32} (q : NmIs T h t v) (le : NmLe h h') : NmIs T h' t v := by
  obtain ⟨id, e1, e2, e3⟩ := q
  exact ⟨id, e1, Nat.lt_of_lt_of_le e2 le.1, (le.2 id e2).trans e3⟩
theorem At.name1 {N t r n l q : Nat} {T : Txt} {h : pH} (a : At T t r n l q h) (hN : 3200 ≤ N) (hK : tkK T t = 22) : ∃ h' v, fX12_name N 138 h = some (v, h') ∧ NmIs T h t v ∧ At T (t + 1) r n l q h' ∧ Fr n l q h h' := by
  obtain ⟨h1, r1, a1, f1⟩ := a.passes1 (N := N) (g := 1) (by decide) hN (by rw [hK]; decide) (by rw [hK]; decide)
  obtain ⟨id, hw, hwn⟩ := a.1.2.2.2.2.2.2.1
  refine ⟨h1, Int32.ofNat id, ?_, ⟨id, rfl, hwn hK⟩, a1, f1⟩
  unfold fX12_name fX12_name_19
  rw [if_pos (o_138 a.sg), g_138_8 a.sg, Option.bind_some, hw.name hK, g_138_5 a.sg, Option.bind_some, hw.code, hK, if_pos (by decide), r1, Option.bind_some]
  rfl
theorem At.name0 {N t r n l q : Nat} {T : Txt} {h : pH} (a : At T t r n l q h) (hK : tkK T t ≠ 22) : ∃ h', fX12_name N 138 h = some (-1, h') ∧ Er (tkP T t) n l q h' ∧ Fr n l q h h' := by
  obtain ⟨h1, r1, a1, f1⟩ := a.passes0 (N := N)
  obtain ⟨id, hw, hwn⟩ := a.1.2.2.2.2.2.2.1
  refine ⟨h1, ?_, a1, f1⟩
  have hne : ¬ wcode (tkK T t) = 2 := by
    intro z
    refine hK ?_
    unfold wcode at z
    by_cases y0 : tkK T t = 0
    · rw [if_pos y0] at z; exact absurd z (by decide)
    · rw [if_neg y0] at z
      by_cases y1 : tkK T t = 22
      · exact y1
      · rw [if_neg y1] at z
        exfalso
        revert z
        repeat' split
        all_goals decide
  unfold fX12_name fX12_name_19
  rw [if_pos (o_138 a.sg), g_138_8 a.sg, Option.bind_some, g_138_5 a.sg, Option.bind_some, hw.code, if_neg hne, r1, Option.bind_some]
  rfl
theorem Er.name {N w n l q : Nat} {h : pH} (he : Er w n l q h) : ∃ h', fX12_name N 138 h = some (-1, h') ∧ Er w n l q h' ∧ Fr n l q h h' := by
  obtain ⟨h1, r1, a1, f1⟩ := he.passes (N := N) 0
  refine ⟨h1, ?_, a1, f1⟩
  unfold fX12_name fX12_name_19
  rw [if_pos (o_138 he.sg), g_138_8 he.sg, Option.bind_some, g_138_5 he.sg, Option.bind_some, he.1.2.2.2, if_neg (by decide), r1, Option.bind_some]
  rfl
/-- the heap behind node() -/
def ndH (h : pH) (n : Nat) (k a b c : Int32) : pH := wr (wr (wr (wr (wr h 144 n k) 145 n a) 146 n b) 147 n c) 138 15 (Int32.ofNat (n + 1))
def NdA (n : Nat) : Nat → Nat → Prop := fun a k => (a = 138 ∧ k = 15) ∨ ((a = 144 ∨ a = 145 ∨ a = 146 ∨ a = 147) ∧ k = n)
theorem ndH_chg (h : pH) (n : Nat) (k a b c : Int32) : Chg (NdA n) h (ndH h n k a b c) := by
  unfold ndH
  refine (((Chg.trans (Chg.trans (Chg.wr h _ _ _ ?_) (Chg.wr _ _ _ _ ?_)) (Chg.wr _ _ _ _ ?_)).trans (Chg.wr _ _ _ _ ?_)).trans (Chg.wr _ _ _ _ ?_))
  · exact Or.inr ⟨Or.inl rfl, rfl⟩
  · exact Or.inr ⟨Or.inr (Or.inl rfl), rfl⟩
  · exact Or.inr ⟨Or.inr (Or.inr (Or.inl rfl)), rfl⟩
  · exact Or.inr ⟨Or.inr (Or.inr (Or.inr rfl)), rfl⟩
  · exact Or.inl ⟨rfl, rfl⟩
theorem ndH_rd {h : pH} (hs : Sg h) (n : Nat) (k a b c : Int32) : rd (ndH h n k a b c) 144 n = k ∧ rd (ndH h n k a b c) 145 n = a ∧ rd (ndH h n k a b c) 146 n = b ∧ rd (ndH h n k a b c) 147 n = c ∧ rd (ndH h n k a b c) 138 15 = Int32.ofNat (n + 1) := by
  have s1 := hs.wr 144 n k
  have s2 := s1.wr 145 n a
  have s3 := s2.wr 146 n b
  have s4 := s3.wr 147 n c
  unfold ndH
  refine ⟨?_, ?_, ?_, ?_, w_138_15 s4 _⟩
  · rw [rd_wr_ne _ _ (by simp), rd_wr_ne _ _ (by simp), rd_wr_ne _ _ (by simp), rd_wr_ne _ _ (by simp), W_144 hs]
  · rw [rd_wr_ne _ _ (by simp), rd_wr_ne _ _ (by simp), rd_wr_ne _ _ (by simp), W_145 s1]
  · rw [rd_wr_ne _ _ (by simp), rd_wr_ne _ _ (by simp), W_146 s2]
  · rw [rd_wr_ne _ _ (by simp), W_147 s3]
theorem e12_node {N n : Nat} {h : pH} (hs : Sg h) (e : rd h 138 15 = Int32.ofNat n) (hn : n < 3200) (k a b c : Int32) : fX12_node N 138 k a b c h = some (Int32.ofNat n, ndH h n k a b c) := by
  have s1 := hs.wr 144 n k
  have s2 := s1.wr 145 n a
  have s3 := s2.wr 146 n b
  have s4 := s3.wr 147 n c
  have e1 : rd (wr h 144 n k) 138 15 = Int32.ofNat n := by rw [rd_wr_ne _ _ (by simp), e]
  have e2 : rd (wr (wr h 144 n k) 145 n a) 138 15 = Int32.ofNat n := by rw [rd_wr_ne _ _ (by simp), e1]
  have e3 : rd (wr (wr (wr h 144 n k) 145 n a) 146 n b) 138 15 = Int32.ofNat n := by rw [rd_wr_ne _ _ (by simp), e2]
  have e4 : rd (wr (wr (wr (wr h 144 n k) 145 n a) 146 n b) 147 n c) 138 15 = Int32.ofNat n := by rw [rd_wr_ne _ _ (by simp), e3]
  unfold fX12_node ndH
  rw [if_pos (o_138 hs), R_138_16 hs, Option.bind_some, g_138_15 hs, Option.bind_some, e, T_144 hs hn, Option.bind_some, R_138_17 s1, Option.bind_some, g_138_15 s1, Option.bind_some, e1, T_145 s1 hn, Option.bind_some, R_138_18 s2, Option.bind_some, g_138_15 s2, Option.bind_some, e2, T_146 s2 hn, Option.bind_some, R_138_19 s3, Option.bind_some, g_138_15 s3, Option.bind_some, e3, T_147 s3 hn, Option.bind_some, g_138_15 s4, Option.bind_some, e4, i_add1, p_138_15 s4, Option.bind_some, g_138_15 (s4.wr _ _ _), Option.bind_some, w_138_15 s4, ← i_add1, Int32.add_sub_cancel]
theorem NdA_PB {n l q a k : Nat} (h : NdA n a k) : PB n l q a k := by
  rcases h with ⟨h1, h2⟩ | ⟨h1, h2⟩
  · exact Or.inr (Or.inl ⟨h1, by omega⟩)
  · exact Or.inr (Or.inr (Or.inl ⟨by omega, by omega⟩))
theorem NdA_out (n : Nat) : rpOut (NdA n) := by
  refine ⟨fun k hk z => ?_, fun k => ⟨fun z => ?_, fun z => ?_, fun z => ?_⟩⟩
  · rcases z with ⟨h1, h2⟩ | ⟨h1, h2⟩
    · rw [h2] at hk; exact absurd hk (by decide)
    · omega
  · rcases z with ⟨h1, h2⟩ | ⟨h1, h2⟩ <;> omega
  · rcases z with ⟨h1, h2⟩ | ⟨h1, h2⟩ <;> omega
  · rcases z with ⟨h1, h2⟩ | ⟨h1, h2⟩ <;> omega
theorem ndH_fr (h : pH) (n l q : Nat) (k a b c : Int32) : Fr n l q h (ndH h n k a b c) := ⟨(ndH_chg h n k a b c).mono (fun _ _ z => NdA_PB z), NmLe_of (ndH_chg h n k a b c) ((NdA_out n).1 11 (by decide)) (NdA_out n).2⟩
/-- a node more -/
theorem At.node {N t r n l q : Nat} {T : Txt} {h : pH} (a : At T t r n l q h) (hn : n + 1 ≤ tkP T t) (k x y c : Int32) : fX12_node N 138 k x y c h = some (Int32.ofNat n, ndH h n k x y c) ∧ At T t r (n + 1) l q (ndH h n k x y c) := by
  have hp := a.P_le
  have cg := ndH_chg h n k x y c
  obtain ⟨h1, h2, h3, h4, h5, h6, b1, b2, b3⟩ := a
  have f : ∀ j, j ≠ 15 → rd (ndH h n k x y c) 138 j = rd h 138 j := fun j hj => cg.2.2.1 _ _ (fun z => z.elim (fun z => hj z.2) (fun z => by omega))
  exact ⟨e12_node h1.1.1 h4 (by omega) k x y c, h1.chg cg (NdA_out n), h2, by rw [f 10 (by decide)]; exact h3, (ndH_rd h1.1.1 n k x y c).2.2.2.2, by rw [f 21 (by decide)]; exact h5, by rw [f 23 (by decide)]; exact h6, hn, b2, b3⟩
theorem Er.node {N w n l q : Nat} {h : pH} (a : Er w n l q h) (hn : n < 3200) (k x y c : Int32) : fX12_node N 138 k x y c h = some (Int32.ofNat n, ndH h n k x y c) ∧ Er w (n + 1) l q (ndH h n k x y c) := by
  have cg := ndH_chg h n k x y c
  obtain ⟨⟨hs, hw, e9, e5⟩, h4, h5, h6⟩ := a
  have f : ∀ j, j ≠ 15 → rd (ndH h n k x y c) 138 j = rd h 138 j := fun j hj => cg.2.2.1 _ _ (fun z => z.elim (fun z => hj z.2) (fun z => by omega))
  exact ⟨e12_node hs h4 hn k x y c, ⟨cg.sg hs, hw, by rw [f 9 (by decide)]; exact e9, by rw [f 5 (by decide)]; exact e5⟩, (ndH_rd hs n k x y c).2.2.2.2, by rw [f 21 (by decide)]; exact h5, by rw [f 23 (by decide)]; exact h6⟩
