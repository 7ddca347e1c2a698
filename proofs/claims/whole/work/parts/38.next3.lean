/-! ===== next(): numbers, signs, the whole ===== -/
theorem next_num {N P n : Nat} {h : pH} (ht : tOk h) (hN : 3200 ≤ N) (hP : P < tl h) (hl : ¬ isLt (tx h P)) (hd : isDg (tx h P)) (hr : RunOf isDg (tx h) (tl h) P n) (e6 : rd h 138 6 = Int32.ofNat P) (e7 : rd h 138 7 = Int32.ofNat n) (e8 : rd h 138 8 = 0) :
    ∃ h' K V, fX12_next_284 N 138 h = some h' ∧ Chg (Fl [4, 5, 8]) h h' ∧ rd h' 138 4 = Int32.ofNat (P + n) ∧ Tk (tx h) (tl h) P n K V ∧ K ≠ 22 ∧ WordIs h' K V 0 := by
  have hs := ht.1
  have hl3 := ht.2.2
  have hr1 := hr.1
  have hn0 : 0 < n := by
    rcases Nat.eq_zero_or_pos n with z | z
    · subst z
      exact absurd hd (hr.2.2.resolve_left (by omega))
    · exact z
  unfold fX12_next_284
  rw [g_138_7 hs, Option.bind_some, e7, show (9 : Int32) = Int32.ofNat 9 from rfl]
  by_cases h9 : n ≤ 9
  · rw [if_pos ((Int32.ofNat_le_ofNat (by omega) (by decide)).mpr h9)]
    unfold fX12_next_299
    rw [p_138_5 hs, Option.bind_some]
    have c1 : Chg (Fl [4, 5, 8]) h (wr h 138 5 3) := Chg.wr h _ _ _ ⟨rfl, by simp⟩
    obtain ⟨t1, l1⟩ := tOk_chg c1 (Fl_ne (Or.inr (by decide))) ht
    have x1 := tx_chg c1 (fun i => Fl_ne (Or.inl (by decide)))
    obtain ⟨N1, hN1⟩ : ∃ N1, N = N1 + n + 1 := ⟨N - (n + 1), by omega⟩
    obtain ⟨h', r1, r2, r3, r4⟩ := next_number (N := N) (P := P) (n := n) n N1 0 (wr h 138 5 3) (by omega) t1 (by omega) (w_138_5 hs _) (by rw [rd_wr_ne _ _ (by decide)]; exact e6) (by rw [rd_wr_ne _ _ (by decide)]; exact e7) (by rw [rd_wr_ne _ _ (by decide)]; exact e8)
    rw [← hN1] at r1
    rw [x1] at r3
    refine ⟨h', 23, numV (tx h) P n, r1, c1.trans (r2.mono (fun a k z => ⟨z.1, ?_⟩)), r4, Or.inr (Or.inr (Or.inl ⟨hP, hl, hd, hr, Or.inl ⟨h9, rfl, rfl⟩⟩)), by decide, Or.inr (Or.inr (Or.inr (Or.inl ⟨rfl, ?_, r3⟩)))⟩
    · have := z.2
      simp at this ⊢
      omega
    · rw [r2.2.2.1 _ _ (Fl_ne (Or.inr (by decide)))]; exact w_138_5 hs _
  · rw [if_neg (fun q => h9 ((Int32.ofNat_le_ofNat (by omega) (by decide)).mp q))]
    unfold fX12_next_299
    rw [p_138_5 hs, Option.bind_some]
    have s1 := hs.wr 138 5 1
    have c1 : Chg (Fl [4, 5, 8]) h (wr (wr h 138 5 1) 138 4 (Int32.ofNat (P + n))) := (Chg.wr h _ _ _ ⟨rfl, by simp⟩).trans (Chg.wr _ _ _ _ ⟨rfl, by simp⟩)
    obtain ⟨N1, hN1⟩ : ∃ N1, N = N1 + 1 := ⟨N - 1, by omega⟩
    have e : fX12_next_304 N N 138 0 (wr h 138 5 1) = some (wr (wr h 138 5 1) 138 4 (Int32.ofNat (P + n))) := by
      have : fX12_next_304 N (N1 + 1) 138 0 (wr h 138 5 1) = some (wr (wr h 138 5 1) 138 4 (Int32.ofNat (P + n))) := by
        rw [fX12_next_304, g_138_7 s1, Option.bind_some, rd_wr_ne _ _ (by decide), e7, if_neg (fun q => by
          rw [show (0 : Int32) = Int32.ofNat 0 from rfl] at q
          have := (Int32.ofNat_le_ofNat (by omega) (by decide)).mp q
          omega), g_138_5 s1, Option.bind_some, w_138_5 hs, if_neg (by decide)]
        exact next_452 s1 (by rw [rd_wr_ne _ _ (by decide)]; exact e6) (by rw [rd_wr_ne _ _ (by decide)]; exact e7)
      rw [← hN1] at this
      exact this
    refine ⟨_, 24, 0, e, c1, w_138_4 s1 _, Or.inr (Or.inr (Or.inl ⟨hP, hl, hd, hr, Or.inr ⟨by omega, rfl, rfl⟩⟩)), by decide, Or.inr (Or.inr (Or.inr (Or.inr (Or.inl ⟨rfl, ?_⟩))))⟩
    rw [rd_wr_ne _ _ (by decide)]; exact w_138_5 hs _
theorem next_sign2 {N P : Nat} {h : pH} (c : Int32) (hs : Sg h) (e6 : rd h 138 6 = Int32.ofNat P) : ∃ h', fX12_next_396 N 138 c h = some h' ∧ Chg (Fl [4, 5, 7, 8]) h h' ∧ rd h' 138 4 = Int32.ofNat (P + 2) ∧ rd h' 138 7 = Int32.ofNat 2 ∧ rd h' 138 5 = 4 ∧ rd h' 138 8 = c + 256 := by
  unfold fX12_next_396 fX12_next_401
  rw [if_neg (by decide)]
  unfold fX12_next_412
  rw [p_138_7 hs, Option.bind_some, if_neg (by decide)]
  unfold fX12_next_429
  have s1 := hs.wr 138 7 2
  rw [p_138_8 s1, Option.bind_some, if_neg (by decide)]
  unfold fX12_next_444 fX12_next_449
  have s2 := s1.wr 138 8 (c + 256)
  rw [p_138_5 s2, Option.bind_some]
  have s3 := s2.wr 138 5 4
  rw [next_452 (n := 2) s3 (by rw [rd_wr_ne _ _ (by decide), rd_wr_ne _ _ (by decide), rd_wr_ne _ _ (by decide)]; exact e6) (by rw [rd_wr_ne _ _ (by decide), rd_wr_ne _ _ (by decide)]; exact w_138_7 hs _)]
  refine ⟨_, rfl, (((Chg.wr h _ _ _ ⟨rfl, by simp⟩).trans (Chg.wr _ _ _ _ ⟨rfl, by simp⟩)).trans (Chg.wr _ _ _ _ ⟨rfl, by simp⟩)).trans (Chg.wr _ _ _ _ ⟨rfl, by simp⟩), w_138_4 s3 _, ?_, ?_, ?_⟩
  · rw [rd_wr_ne _ _ (by decide), rd_wr_ne _ _ (by decide), rd_wr_ne _ _ (by decide)]; exact w_138_7 hs _
  · rw [rd_wr_ne _ _ (by decide)]; exact w_138_5 s2 _
  · rw [rd_wr_ne _ _ (by decide), rd_wr_ne _ _ (by decide)]; exact w_138_8 s1 _
theorem next_sign1 {N P : Nat} {h : pH} (c : Int32) (hs : Sg h) (e6 : rd h 138 6 = Int32.ofNat P) : ∃ h', fX12_next_400 N 138 c h = some h' ∧ Chg (Fl [4, 5, 7, 8]) h h' ∧ rd h' 138 4 = Int32.ofNat (P + 1) ∧ rd h' 138 7 = Int32.ofNat 1 ∧ rd h' 138 5 = (if isSgn c then 4 else 1) ∧ rd h' 138 8 = c := by
  unfold fX12_next_400 fX12_next_401
  rw [if_pos rfl]
  unfold fX12_next_412
  rw [p_138_7 hs, Option.bind_some, if_pos rfl]
  unfold fX12_next_429
  have s1 := hs.wr 138 7 1
  rw [p_138_8 s1, Option.bind_some, if_pos rfl, e12_isSignByte, Option.bind_some]
  dsimp only
  have s2 := s1.wr 138 8 c
  have fin : ∀ x : Int32, ∃ h', fX12_next_449 N 138 138 x (wr (wr h 138 7 1) 138 8 c) = some h' ∧ Chg (Fl [4, 5, 7, 8]) h h' ∧ rd h' 138 4 = Int32.ofNat (P + 1) ∧ rd h' 138 7 = Int32.ofNat 1 ∧ rd h' 138 5 = x ∧ rd h' 138 8 = c := by
    intro x
    unfold fX12_next_449
    rw [p_138_5 s2, Option.bind_some]
    have s3 := s2.wr 138 5 x
    rw [next_452 (n := 1) s3 (by rw [rd_wr_ne _ _ (by decide), rd_wr_ne _ _ (by decide), rd_wr_ne _ _ (by decide)]; exact e6) (by rw [rd_wr_ne _ _ (by decide), rd_wr_ne _ _ (by decide)]; exact w_138_7 hs _)]
    refine ⟨_, rfl, (((Chg.wr h _ _ _ ⟨rfl, by simp⟩).trans (Chg.wr _ _ _ _ ⟨rfl, by simp⟩)).trans (Chg.wr _ _ _ _ ⟨rfl, by simp⟩)).trans (Chg.wr _ _ _ _ ⟨rfl, by simp⟩), w_138_4 s3 _, ?_, ?_, ?_⟩
    · rw [rd_wr_ne _ _ (by decide), rd_wr_ne _ _ (by decide), rd_wr_ne _ _ (by decide)]; exact w_138_7 hs _
    · rw [rd_wr_ne _ _ (by decide)]; exact w_138_5 s2 _
    · rw [rd_wr_ne _ _ (by decide), rd_wr_ne _ _ (by decide)]; exact w_138_8 s1 _
  by_cases hc : isSgn c
  · rw [if_pos hc, if_neg (by decide), if_pos hc]
    exact fin 4
  · rw [if_neg hc, if_pos rfl, if_neg hc]
    exact fin 1
theorem run_ex (q : Int32 → Prop) (s : Nat → Int32) (L : Nat) : ∀ (d P : Nat), P + d = L → ∃ n, RunOf q s L P n
  | 0, P, h => ⟨0, by omega, fun i hi => absurd hi (by omega), Or.inl (by omega)⟩
  | d + 1, P, h => by
    by_cases hq : q (s P)
    · obtain ⟨n, h1, h2, h3⟩ := run_ex q s L d (P + 1) (by omega)
      refine ⟨n + 1, by omega, fun i hi => ?_, ?_⟩
      · rcases Nat.eq_zero_or_pos i with z | z
        · subst z; exact hq
        · have := h2 (i - 1) (by omega)
          rw [show P + 1 + (i - 1) = P + i by omega] at this
          exact this
      · rcases h3 with h3 | h3
        · exact Or.inl (by omega)
        · rw [show P + 1 + n = P + (n + 1) by omega] at h3
          exact Or.inr h3
    · exact ⟨0, by omega, fun i hi => absurd hi (by omega), Or.inr hq⟩
/-- all that next() comes to from a place with no space -/
def NxR (h h' : pH) (M P : Nat) : Prop := ∃ n M' K V id, Chg (NxA M) h h' ∧ rd h' 138 4 = Int32.ofNat (P + n) ∧ rd h' 138 6 = Int32.ofNat P ∧ rd h' 138 7 = Int32.ofNat n ∧ P + n ≤ tl h ∧ Tk (tx h) (tl h) P n K V ∧ WordIs h' K V id ∧
  nmsOk h' M' ∧ (M' = M ∨ M' = M + 1) ∧ (∀ k, k < M → nmF h' k = nmF h k ∧ nmN h' k = nmN h k) ∧ (K = 22 → id < M' ∧ nmR h' id = wl (tx h) P n ∧ (M' = M ∨ (id = M ∧ ∀ q, q < M → nmR h q ≠ wl (tx h) P n))) ∧ (K ≠ 22 → M' = M)
