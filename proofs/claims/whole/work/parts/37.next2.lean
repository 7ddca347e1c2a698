/-! ===== what next() comes to ===== -/
def two2 (c d : Int32) : Int32 := if d = 61 then (if c = 61 then 128 else if c = 33 then 129 else if c = 60 then 130 else 24) else (if c = d then (if c = 38 then 131 else if c = 124 then 132 else 24) else 24)
abbrev isSgn (c : Int32) : Prop := c = 123 ∨ c = 125 ∨ c = 40 ∨ c = 41 ∨ c = 91 ∨ c = 93 ∨ c = 59 ∨ c = 44 ∨ c = 46 ∨ c = 58 ∨ c = 61 ∨ c = 60 ∨ c = 43 ∨ c = 45 ∨ c = 42 ∨ c = 47 ∨ c = 37 ∨ c = 33
/-- the byte behind -/
def byt2 (s : Nat → Int32) (L P : Nat) : Int32 := if L ≤ P + 1 then 0 else s (P + 1)
/-- what the word at P is: its kind as the class tells it, how long, its number -/
def Tk (s : Nat → Int32) (L P n : Nat) (K V : Int32) : Prop :=
  (P = L ∧ n = 0 ∧ K = 0 ∧ V = 0) ∨
  (P < L ∧ isLt (s P) ∧ RunOf alN s L P n ∧ K = (if keyS (wl s P n) = 0 then 22 else Int32.ofNat (keyS (wl s P n))) ∧ V = 0) ∨
  (P < L ∧ ¬ isLt (s P) ∧ isDg (s P) ∧ RunOf isDg s L P n ∧ ((n ≤ 9 ∧ K = 23 ∧ V = numV s P n) ∨ (9 < n ∧ K = 24 ∧ V = 0))) ∨
  (P < L ∧ ¬ isLt (s P) ∧ ¬ isDg (s P) ∧ V = 0 ∧ ((two2 (s P) (byt2 s L P) ≠ 24 ∧ K = two2 (s P) (byt2 s L P) ∧ n = 2) ∨ (two2 (s P) (byt2 s L P) = 24 ∧ isSgn (s P) ∧ K = s P ∧ n = 1) ∨ (two2 (s P) (byt2 s L P) = 24 ∧ ¬ isSgn (s P) ∧ K = 24 ∧ n = 1)))
def sgV (K : Int32) : Int32 := if K = 128 then 317 else if K = 129 then 289 else if K = 130 then 316 else if K = 131 then 294 else if K = 132 then 380 else K
def isSK (K : Int32) : Prop := isSgn K ∨ K = 128 ∨ K = 129 ∨ K = 130 ∨ K = 131 ∨ K = 132
/-- the reference's word at hand is of kind K, tells V, or the name id -/
def WordIs (h : pH) (K V : Int32) (id : Nat) : Prop :=
  (K = 0 ∧ rd h 138 5 = 0) ∨ (∃ k, 1 ≤ k ∧ k ≤ 21 ∧ K = Int32.ofNat k ∧ rd h 138 5 = 5 ∧ rd h 138 8 = Int32.ofNat k) ∨ (K = 22 ∧ rd h 138 5 = 2 ∧ rd h 138 8 = Int32.ofNat id) ∨ (K = 23 ∧ rd h 138 5 = 3 ∧ rd h 138 8 = V) ∨ (K = 24 ∧ rd h 138 5 = 1) ∨ (isSK K ∧ rd h 138 5 = 4 ∧ rd h 138 8 = sgV K)
/-- the fields and rows that next() writes -/
def NxA (M : Nat) : Nat → Nat → Prop := fun a k => (a = 138 ∧ k ∈ [4, 5, 6, 7, 8, 11]) ∨ ((a = 141 ∨ a = 142) ∧ k = M)
theorem ite_le {c : Prop} [Decidable c] {a b n : Nat} (h1 : a ≤ n) (h2 : b ≤ n) : (if c then a else b) ≤ n := by
  by_cases h : c
  · rw [if_pos h]; exact h1
  · rw [if_neg h]; exact h2
theorem keyS_le (w : List Int32) : keyS w ≤ 21 := by
  unfold keyS
  repeat refine ite_le (by decide) ?_
  decide
theorem nms_chg {A : Nat → Nat → Prop} {h h' : pH} {M : Nat} (q : Chg A h h') (h1 : ∀ k, k < M → ¬ A 141 k) (h2 : ∀ k, k < M → ¬ A 142 k) (h3 : ¬ A 138 11) (ht : nmsOk h M) : nmsOk h' M ∧ ∀ k, k < M → nmF h' k = nmF h k ∧ nmN h' k = nmN h k := by
  have e1 : ∀ k, k < M → nmF h' k = nmF h k := fun k hk => by unfold nmF; rw [q.2.2.1 _ _ (h1 k hk)]
  have e2 : ∀ k, k < M → nmN h' k = nmN h k := fun k hk => by unfold nmN; rw [q.2.2.1 _ _ (h2 k hk)]
  refine ⟨⟨q.sg ht.1, by rw [q.2.2.1 _ _ h3]; exact ht.2.1, ht.2.2.1, fun k hk => ?_⟩, fun k hk => ⟨e1 k hk, e2 k hk⟩⟩
  obtain ⟨n1, n2, n3⟩ := ht.2.2.2 k hk
  rw [e1 k hk, e2 k hk, q.2.2.1 _ _ (h1 k hk), q.2.2.1 _ _ (h2 k hk)]
  exact ⟨n1, n2, n3⟩
theorem nmR_chg {A : Nat → Nat → Prop} {h h' : pH} {k : Nat} (q : Chg A h h') (h0 : ∀ i, ¬ A 140 i) (h1 : nmF h' k = nmF h k) (h2 : nmN h' k = nmN h k) : nmR h' k = nmR h k := by
  unfold nmR
  rw [h1, h2, tx_chg q h0]
theorem NxA_140 (M i : Nat) : ¬ NxA M 140 i := fun q => q.elim (fun z => absurd z.1 (by decide)) (fun z => z.1.elim (fun z => absurd z (by decide)) (fun z => absurd z (by decide)))
theorem NxA_fl {M : Nat} {ks : List Nat} (hk : ∀ k ∈ ks, k ∈ [4, 5, 6, 7, 8, 11]) {a k : Nat} (h : Fl ks a k) : NxA M a k := Or.inl ⟨h.1, hk k h.2⟩
/-- a word of letters -/
theorem next_name {N P n M : Nat} {h : pH} (ht : tOk h) (hn : nmsOk h M) (hM : M < 1600) (hN : 3200 ≤ N) (hP : P < tl h) (hl : isLt (tx h P)) (hr : RunOf alN (tx h) (tl h) P n) (e6 : rd h 138 6 = Int32.ofNat P) (e7 : rd h 138 7 = Int32.ofNat n) :
    ∃ h' M' K id, fX12_next_185 N 138 h = some h' ∧ Chg (NxA M) h h' ∧ rd h' 138 4 = Int32.ofNat (P + n) ∧ rd h' 138 6 = Int32.ofNat P ∧ rd h' 138 7 = Int32.ofNat n ∧ Tk (tx h) (tl h) P n K 0 ∧ WordIs h' K 0 id ∧
      nmsOk h' M' ∧ (M' = M ∨ M' = M + 1) ∧ (∀ k, k < M → nmF h' k = nmF h k ∧ nmN h' k = nmN h k) ∧ (K = 22 → id < M' ∧ nmR h' id = wl (tx h) P n ∧ (M' = M ∨ (id = M ∧ ∀ q, q < M → nmR h q ≠ wl (tx h) P n))) ∧ (K ≠ 22 → M' = M) := by
  have hs := ht.1
  have hl3 := ht.2.2
  have hr1 := hr.1
  have hw : wOk h P n := ⟨hs, e6, e7, by omega⟩
  unfold fX12_next_185
  rw [e12_keyOf hw, Option.bind_some]
  dsimp only
  generalize hk : keyS (wl (tx h) P n) = key
  have hk21 : key ≤ 21 := by rw [← hk]; exact keyS_le _
  rw [p_138_8 hs, Option.bind_some]
  have s1 := hs.wr 138 8 (Int32.ofNat key)
  rw [g_138_8 s1, Option.bind_some, w_138_8 hs]
  have c1 : Chg (NxA M) h (wr h 138 8 (Int32.ofNat key)) := Chg.wr h _ _ _ (Or.inl ⟨rfl, by simp⟩)
  by_cases h0 : key = 0
  · subst h0
    rw [if_pos (by decide)]
    unfold fX12_next_206
    rw [p_138_5 s1, Option.bind_some]
    have s2 := s1.wr 138 5 2
    have c2 : Chg (NxA M) h (wr (wr h 138 8 (Int32.ofNat 0)) 138 5 2) := c1.trans (Chg.wr _ _ _ _ (Or.inl ⟨rfl, by simp⟩))
    have c2f : Chg (Fl [5, 8]) h (wr (wr h 138 8 (Int32.ofNat 0)) 138 5 2) := (Chg.wr h _ _ _ ⟨rfl, by simp⟩).trans (Chg.wr _ _ _ _ ⟨rfl, by simp⟩)
    rw [g_138_5 s2, Option.bind_some, w_138_5 s1, if_pos rfl]
    have x2 := tx_chg c2f (fun i => Fl_ne (Or.inl (by decide)))
    obtain ⟨n2, nf2⟩ := nms_chg c2f (fun _ _ => Fl_ne (Or.inl (by decide))) (fun _ _ => Fl_ne (Or.inl (by decide))) (Fl_ne (Or.inr (by decide))) hn
    have w2 : wOk (wr (wr h 138 8 (Int32.ofNat 0)) 138 5 2) P n := ⟨s2, by rw [c2f.2.2.1 _ _ (Fl_ne (Or.inr (by decide)))]; exact e6, by rw [c2f.2.2.1 _ _ (Fl_ne (Or.inr (by decide)))]; exact e7, by omega⟩
    have nr2 : ∀ k, k < M → nmR (wr (wr h 138 8 (Int32.ofNat 0)) 138 5 2) k = nmR h k := fun k hk => nmR_chg c2f (fun i => Fl_ne (Or.inl (by decide))) (nf2 k hk).1 (nf2 k hk).2
    generalize hg : wr (wr h 138 8 (Int32.ofNat 0)) 138 5 2 = g at *
    have g5 : rd g 138 5 = 2 := by rw [← hg]; exact w_138_5 s1 _
    have hT : Tk (tx h) (tl h) P n 22 0 := Or.inr (Or.inl ⟨hP, hl, hr, by rw [hk, if_pos rfl], rfl⟩)
    obtain ⟨N1, hN1⟩ : ∃ N1, N = N1 + M + 1 := ⟨N - (M + 1), by omega⟩
    unfold fX12_nameOf
    rw [if_pos (o_138 s2)]
    have hno := e12_nameOf2 (N := N) w2 n2 hN hM M N1 0 (by omega) (fun q hq => absurd hq (by omega))
    rw [← hN1] at hno
    rcases hno with ⟨r, r1, r2, r3, r4, r5⟩ | ⟨r1, r2⟩
    · rw [show (0 : Int32) = Int32.ofNat 0 from rfl, r5, Option.bind_some]
      dsimp only
      rw [p_138_8 s2, Option.bind_some]
      have s3 := s2.wr 138 8 (Int32.ofNat r)
      have c3 : Chg (Fl [4, 8]) g (wr (wr g 138 8 (Int32.ofNat r)) 138 4 (Int32.ofNat (P + n))) := (Chg.wr g _ _ _ ⟨rfl, by simp⟩).trans (Chg.wr _ _ _ _ ⟨rfl, by simp⟩)
      rw [next_452 s3 (by rw [rd_wr_ne _ _ (by decide)]; exact w2.2.1) (by rw [rd_wr_ne _ _ (by decide)]; exact w2.2.2.1)]
      obtain ⟨n3, nf3⟩ := nms_chg c3 (fun _ _ => Fl_ne (Or.inl (by decide))) (fun _ _ => Fl_ne (Or.inl (by decide))) (Fl_ne (Or.inr (by decide))) n2
      refine ⟨_, M, 22, r, rfl, c2.trans (c3.mono (fun a k z => NxA_fl (by decide) z)), w_138_4 s3 _, by rw [c3.2.2.1 _ _ (Fl_ne (Or.inr (by decide)))]; exact w2.2.1, by rw [c3.2.2.1 _ _ (Fl_ne (Or.inr (by decide)))]; exact w2.2.2.1, hT, Or.inr (Or.inr (Or.inl ⟨rfl, ?_, ?_⟩)), n3, Or.inl rfl, fun k hk => ⟨(nf3 k hk).1.trans (nf2 k hk).1, (nf3 k hk).2.trans (nf2 k hk).2⟩, fun _ => ⟨r2, ?_, Or.inl rfl⟩, fun z => absurd rfl z⟩
      · rw [c3.2.2.1 _ _ (Fl_ne (Or.inr (by decide)))]; exact g5
      · rw [rd_wr_ne _ _ (by decide)]; exact w_138_8 s2 _
      · rw [nmR_chg c3 (fun i => Fl_ne (Or.inl (by decide))) (nf3 r r2).1 (nf3 r r2).2, r3, x2]
    · rw [show (0 : Int32) = Int32.ofNat 0 from rfl, r2, Option.bind_some]
      dsimp only
      have c3 : Chg (NxA M) g (wr (wr (wr g 141 M (Int32.ofNat P)) 142 M (Int32.ofNat n)) 138 11 (Int32.ofNat (M + 1))) := ((Chg.wr g _ _ _ (Or.inr ⟨Or.inl rfl, rfl⟩)).trans (Chg.wr _ _ _ _ (Or.inr ⟨Or.inr rfl, rfl⟩))).trans (Chg.wr _ _ _ _ (Or.inl ⟨rfl, by simp⟩))
      have b1 : rd (wr (wr (wr g 141 M (Int32.ofNat P)) 142 M (Int32.ofNat n)) 138 11 (Int32.ofNat (M + 1))) 141 M = Int32.ofNat P := by rw [rd_wr_ne _ _ (by omega), rd_wr_ne _ _ (by omega)]; exact W_141 s2 _ _
      have b2 : rd (wr (wr (wr g 141 M (Int32.ofNat P)) 142 M (Int32.ofNat n)) 138 11 (Int32.ofNat (M + 1))) 142 M = Int32.ofNat n := by rw [rd_wr_ne _ _ (by omega)]; exact W_142 (s2.wr _ _ _) _ _
      have b3 : rd (wr (wr (wr g 141 M (Int32.ofNat P)) 142 M (Int32.ofNat n)) 138 11 (Int32.ofNat (M + 1))) 138 11 = Int32.ofNat (M + 1) := w_138_11 ((s2.wr _ _ _).wr _ _ _) _
      have b4 : ∀ k, k < M → rd (wr (wr (wr g 141 M (Int32.ofNat P)) 142 M (Int32.ofNat n)) 138 11 (Int32.ofNat (M + 1))) 141 k = rd g 141 k := fun k hk => by rw [rd_wr_ne _ _ (by omega), rd_wr_ne _ _ (by omega), rd_wr_ne _ _ (by omega)]
      have b5 : ∀ k, k < M → rd (wr (wr (wr g 141 M (Int32.ofNat P)) 142 M (Int32.ofNat n)) 138 11 (Int32.ofNat (M + 1))) 142 k = rd g 142 k := fun k hk => by rw [rd_wr_ne _ _ (by omega), rd_wr_ne _ _ (by omega), rd_wr_ne _ _ (by omega)]
      have b6 : ∀ k, k = 5 ∨ k = 6 ∨ k = 7 → rd (wr (wr (wr g 141 M (Int32.ofNat P)) 142 M (Int32.ofNat n)) 138 11 (Int32.ofNat (M + 1))) 138 k = rd g 138 k := fun k hk => by rw [rd_wr_ne _ _ (by omega), rd_wr_ne _ _ (by omega), rd_wr_ne _ _ (by omega)]
      generalize wr (wr (wr g 141 M (Int32.ofNat P)) 142 M (Int32.ofNat n)) 138 11 (Int32.ofNat (M + 1)) = g3 at *
      have s3 := c3.sg s2
      rw [p_138_8 s3, Option.bind_some]
      have s4 := s3.wr 138 8 (Int32.ofNat M)
      have c4 : Chg (Fl [4, 8]) g3 (wr (wr g3 138 8 (Int32.ofNat M)) 138 4 (Int32.ofNat (P + n))) := (Chg.wr g3 _ _ _ ⟨rfl, by simp⟩).trans (Chg.wr _ _ _ _ ⟨rfl, by simp⟩)
      have f6 : rd g3 138 6 = Int32.ofNat P := (b6 6 (by simp)).trans w2.2.1
      have f7 : rd g3 138 7 = Int32.ofNat n := (b6 7 (by simp)).trans w2.2.2.1
      rw [next_452 s4 (by rw [rd_wr_ne _ _ (by decide)]; exact f6) (by rw [rd_wr_ne _ _ (by decide)]; exact f7)]
      have m1 : nmF g3 M = P := by unfold nmF; rw [b1, i_cl (by omega)]
      have m2 : nmN g3 M = n := by unfold nmN; rw [b2, i_cl (by omega)]
      have m3 : ∀ k, k < M → nmF g3 k = nmF g k ∧ nmN g3 k = nmN g k := fun k hk => ⟨by unfold nmF; rw [b4 k hk], by unfold nmN; rw [b5 k hk]⟩
      have n3 : nmsOk g3 (M + 1) := ⟨s3, b3, by omega, fun k hk => by
        by_cases hz : k = M
        · subst hz
          rw [m1, m2, b1, b2]
          exact ⟨rfl, rfl, by omega⟩
        · rw [(m3 k (by omega)).1, (m3 k (by omega)).2, b4 k (by omega), b5 k (by omega)]
          exact n2.2.2.2 k (by omega)⟩
      obtain ⟨n4, nf4⟩ := nms_chg c4 (fun _ _ => Fl_ne (Or.inl (by decide))) (fun _ _ => Fl_ne (Or.inl (by decide))) (Fl_ne (Or.inr (by decide))) n3
      have x3 : tx g3 = tx g := tx_chg c3 (NxA_140 M)
      refine ⟨_, M + 1, 22, M, rfl, (c2.trans c3).trans (c4.mono (fun a k z => NxA_fl (by decide) z)), w_138_4 s4 _, by rw [c4.2.2.1 _ _ (Fl_ne (Or.inr (by decide)))]; exact f6, by rw [c4.2.2.1 _ _ (Fl_ne (Or.inr (by decide)))]; exact f7, hT, Or.inr (Or.inr (Or.inl ⟨rfl, ?_, ?_⟩)), n4, Or.inr rfl, fun k hk => ⟨(nf4 k (by omega)).1.trans ((m3 k hk).1.trans (nf2 k hk).1), (nf4 k (by omega)).2.trans ((m3 k hk).2.trans (nf2 k hk).2)⟩, fun _ => ⟨by omega, ?_, Or.inr ⟨rfl, fun q hq z => r1 q hq ?_⟩⟩, fun z => absurd rfl z⟩
      · rw [c4.2.2.1 _ _ (Fl_ne (Or.inr (by decide))), b6 5 (by simp)]; exact g5
      · rw [rd_wr_ne _ _ (by decide)]; exact w_138_8 s3 _
      · rw [nmR_chg c4 (fun i => Fl_ne (Or.inl (by decide))) (nf4 M (by omega)).1 (nf4 M (by omega)).2]
        unfold nmR
        rw [m1, m2, x3, x2]
      · rw [nr2 q hq, z, x2]
  · rw [if_neg (fun q => by
      rw [show (0 : Int32) = Int32.ofNat 0 from rfl] at q
      have := (Int32.ofNat_le_ofNat (by omega) (by decide)).mp q
      omega)]
    unfold fX12_next_206
    rw [p_138_5 s1, Option.bind_some]
    have s2 := s1.wr 138 5 5
    rw [g_138_5 s2, Option.bind_some, w_138_5 s1, if_neg (by decide)]
    have c2 : Chg (Fl [4, 5, 8]) h (wr (wr (wr h 138 8 (Int32.ofNat key)) 138 5 5) 138 4 (Int32.ofNat (P + n))) := ((Chg.wr h _ _ _ ⟨rfl, by simp⟩).trans (Chg.wr _ _ _ _ ⟨rfl, by simp⟩)).trans (Chg.wr _ _ _ _ ⟨rfl, by simp⟩)
    rw [next_452 s2 (by rw [rd_wr_ne _ _ (by decide), rd_wr_ne _ _ (by decide)]; exact e6) (by rw [rd_wr_ne _ _ (by decide), rd_wr_ne _ _ (by decide)]; exact e7)]
    obtain ⟨n2, nf2⟩ := nms_chg c2 (fun _ _ => Fl_ne (Or.inl (by decide))) (fun _ _ => Fl_ne (Or.inl (by decide))) (Fl_ne (Or.inr (by decide))) hn
    refine ⟨_, M, Int32.ofNat key, 0, rfl, c2.mono (fun a k z => NxA_fl (by decide) z), w_138_4 s2 _, by rw [c2.2.2.1 _ _ (Fl_ne (Or.inr (by decide)))]; exact e6, by rw [c2.2.2.1 _ _ (Fl_ne (Or.inr (by decide)))]; exact e7, Or.inr (Or.inl ⟨hP, hl, hr, by rw [hk, if_neg h0], rfl⟩), Or.inr (Or.inl ⟨key, by omega, hk21, rfl, ?_, ?_⟩), n2, Or.inl rfl, nf2, fun z => ?_, fun _ => rfl⟩
    · rw [rd_wr_ne _ _ (by decide)]; exact w_138_5 s1 _
    · rw [rd_wr_ne _ _ (by decide), rd_wr_ne _ _ (by decide)]; exact w_138_8 hs _
    · exfalso
      rw [show (22 : Int32) = Int32.ofNat 22 from rfl] at z
      have := (iEq (by omega) (by decide)).mp z
      omega
