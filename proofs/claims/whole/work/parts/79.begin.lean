/-! ===== program(), up to its first word ===== -/
def bgA : Nat → Nat → Prop := fun a k => (a = 138 ∧ k ∈ [1, 3, 4, 5, 6, 7, 8, 9, 10, 11, 15, 21, 23, 25, 37, 44, 53, 56, 58, 69]) ∨ a = 140 ∨ a = 141 ∨ a = 142 ∨ ((a = 162 ∨ a = 165 ∨ a = 167) ∧ k ≤ 5) ∨ (a = 172 ∧ k = 0)
theorem prog10_loop {N L x : Nat} (hL : L ≤ 3000) : ∀ (d k : Nat) (h : pH), k + d = L → Sg h → rd h 138 1 = Int32.ofNat L → ∃ h', fX12_program_10 N (x + d + 1) 138 (Int32.ofNat k) h = fX12_program_10 N (x + 1) 138 (Int32.ofNat L) h' ∧ Chg (fun a j => a = 140 ∧ j < 3000) h h' ∧ (∀ j, k ≤ j → j < L → rd h' 140 j = rd h 139 j) ∧ ∀ j, j < k → rd h' 140 j = rd h 140 j
  | 0, k, h, hk, hs, e1 => by
    obtain rfl : k = L := by omega
    exact ⟨h, rfl, Chg.refl _ _, fun j h1 h2 => absurd h1 (by omega), fun j _ => rfl⟩
  | d + 1, k, h, hk, hs, e1 => by
    have c1 : Chg (fun a j => a = 140 ∧ j < 3000) h (wr h 140 k (rd h 139 k)) := Chg.wr h _ _ _ ⟨rfl, by omega⟩
    obtain ⟨h', r1, r2, r3, r4⟩ := prog10_loop (N := N) (x := x) hL d (k + 1) (wr h 140 k (rd h 139 k)) (by omega) (c1.sg hs) (by rw [rd_wr_ne _ _ (by omega)]; exact e1)
    refine ⟨h', ?_, c1.trans r2, fun j h1 h2 => ?_, fun j hj => ?_⟩
    · rw [fX12_program_10, g_138_1 hs, Option.bind_some, e1, if_neg (fun z => by have := (Int32.ofNat_le_ofNat (by omega) (by omega)).mp z; omega), R_138_2 hs, Option.bind_some, R_138_0 hs, Option.bind_some, L_139 hs (by omega), Option.bind_some, T_140 hs (by omega), Option.bind_some, i_add1]
      exact r1
    · by_cases hj : j = k
      · subst hj
        rw [r4 j (by omega), W_140 hs]
      · rw [r3 j (by omega) h2, rd_wr_ne _ _ (by omega)]
    · rw [r4 j (by omega), rd_wr_ne _ _ (by omega)]
def rsH (h : pH) : pH := wr (wr (wr (wr (wr (wr (wr (wr (wr (wr (wr (wr (wr h 138 1 0) 138 56 0) 138 69 0) 138 4 0) 138 9 (-1)) 138 58 (-1)) 138 10 0) 138 15 0) 138 21 0) 138 23 0) 138 25 0) 138 44 0) 138 53 0
theorem rsH_chg (h : pH) : Chg (Fl [1, 56, 69, 4, 9, 58, 10, 15, 21, 23, 25, 44, 53]) h (rsH h) := by
  unfold rsH
  refine Chg.trans ?_ (Chg.wr _ _ _ _ ⟨rfl, by simp⟩)
  refine Chg.trans ?_ (Chg.wr _ _ _ _ ⟨rfl, by simp⟩)
  refine Chg.trans ?_ (Chg.wr _ _ _ _ ⟨rfl, by simp⟩)
  refine Chg.trans ?_ (Chg.wr _ _ _ _ ⟨rfl, by simp⟩)
  refine Chg.trans ?_ (Chg.wr _ _ _ _ ⟨rfl, by simp⟩)
  refine Chg.trans ?_ (Chg.wr _ _ _ _ ⟨rfl, by simp⟩)
  refine Chg.trans ?_ (Chg.wr _ _ _ _ ⟨rfl, by simp⟩)
  refine Chg.trans ?_ (Chg.wr _ _ _ _ ⟨rfl, by simp⟩)
  refine Chg.trans ?_ (Chg.wr _ _ _ _ ⟨rfl, by simp⟩)
  refine Chg.trans ?_ (Chg.wr _ _ _ _ ⟨rfl, by simp⟩)
  refine Chg.trans ?_ (Chg.wr _ _ _ _ ⟨rfl, by simp⟩)
  refine Chg.trans ?_ (Chg.wr _ _ _ _ ⟨rfl, by simp⟩)
  exact Chg.wr _ _ _ _ ⟨rfl, by simp⟩
theorem rsH_rd {h : pH} (hs : Sg h) : rd (rsH h) 138 1 = 0 ∧ rd (rsH h) 138 56 = 0 ∧ rd (rsH h) 138 69 = 0 ∧ rd (rsH h) 138 4 = 0 ∧ rd (rsH h) 138 9 = (-1) ∧ rd (rsH h) 138 58 = (-1) ∧ rd (rsH h) 138 10 = 0 ∧ rd (rsH h) 138 15 = 0 ∧ rd (rsH h) 138 21 = 0 ∧ rd (rsH h) 138 23 = 0 ∧ rd (rsH h) 138 25 = 0 ∧ rd (rsH h) 138 44 = 0 ∧ rd (rsH h) 138 53 = 0 := by
  have s1 := hs.wr 138 1 0
  have s2 := s1.wr 138 56 0
  have s3 := s2.wr 138 69 0
  have s4 := s3.wr 138 4 0
  have s5 := s4.wr 138 9 (-1)
  have s6 := s5.wr 138 58 (-1)
  have s7 := s6.wr 138 10 0
  have s8 := s7.wr 138 15 0
  have s9 := s8.wr 138 21 0
  have s10 := s9.wr 138 23 0
  have s11 := s10.wr 138 25 0
  have s12 := s11.wr 138 44 0
  have s13 := s12.wr 138 53 0
  unfold rsH
  refine ⟨?_, ?_, ?_, ?_, ?_, ?_, ?_, ?_, ?_, ?_, ?_, ?_, ?_⟩
  · rw [rd_wr_ne _ _ (by omega), rd_wr_ne _ _ (by omega), rd_wr_ne _ _ (by omega), rd_wr_ne _ _ (by omega), rd_wr_ne _ _ (by omega), rd_wr_ne _ _ (by omega), rd_wr_ne _ _ (by omega), rd_wr_ne _ _ (by omega), rd_wr_ne _ _ (by omega), rd_wr_ne _ _ (by omega), rd_wr_ne _ _ (by omega), rd_wr_ne _ _ (by omega), w_138_1 hs]
  · rw [rd_wr_ne _ _ (by omega), rd_wr_ne _ _ (by omega), rd_wr_ne _ _ (by omega), rd_wr_ne _ _ (by omega), rd_wr_ne _ _ (by omega), rd_wr_ne _ _ (by omega), rd_wr_ne _ _ (by omega), rd_wr_ne _ _ (by omega), rd_wr_ne _ _ (by omega), rd_wr_ne _ _ (by omega), rd_wr_ne _ _ (by omega), w_138_56 s1]
  · rw [rd_wr_ne _ _ (by omega), rd_wr_ne _ _ (by omega), rd_wr_ne _ _ (by omega), rd_wr_ne _ _ (by omega), rd_wr_ne _ _ (by omega), rd_wr_ne _ _ (by omega), rd_wr_ne _ _ (by omega), rd_wr_ne _ _ (by omega), rd_wr_ne _ _ (by omega), rd_wr_ne _ _ (by omega), w_138_69 s2]
  · rw [rd_wr_ne _ _ (by omega), rd_wr_ne _ _ (by omega), rd_wr_ne _ _ (by omega), rd_wr_ne _ _ (by omega), rd_wr_ne _ _ (by omega), rd_wr_ne _ _ (by omega), rd_wr_ne _ _ (by omega), rd_wr_ne _ _ (by omega), rd_wr_ne _ _ (by omega), w_138_4 s3]
  · rw [rd_wr_ne _ _ (by omega), rd_wr_ne _ _ (by omega), rd_wr_ne _ _ (by omega), rd_wr_ne _ _ (by omega), rd_wr_ne _ _ (by omega), rd_wr_ne _ _ (by omega), rd_wr_ne _ _ (by omega), rd_wr_ne _ _ (by omega), w_138_9 s4]
  · rw [rd_wr_ne _ _ (by omega), rd_wr_ne _ _ (by omega), rd_wr_ne _ _ (by omega), rd_wr_ne _ _ (by omega), rd_wr_ne _ _ (by omega), rd_wr_ne _ _ (by omega), rd_wr_ne _ _ (by omega), w_138_58 s5]
  · rw [rd_wr_ne _ _ (by omega), rd_wr_ne _ _ (by omega), rd_wr_ne _ _ (by omega), rd_wr_ne _ _ (by omega), rd_wr_ne _ _ (by omega), rd_wr_ne _ _ (by omega), w_138_10 s6]
  · rw [rd_wr_ne _ _ (by omega), rd_wr_ne _ _ (by omega), rd_wr_ne _ _ (by omega), rd_wr_ne _ _ (by omega), rd_wr_ne _ _ (by omega), w_138_15 s7]
  · rw [rd_wr_ne _ _ (by omega), rd_wr_ne _ _ (by omega), rd_wr_ne _ _ (by omega), rd_wr_ne _ _ (by omega), w_138_21 s8]
  · rw [rd_wr_ne _ _ (by omega), rd_wr_ne _ _ (by omega), rd_wr_ne _ _ (by omega), w_138_23 s9]
  · rw [rd_wr_ne _ _ (by omega), rd_wr_ne _ _ (by omega), w_138_25 s10]
  · rw [rd_wr_ne _ _ (by omega), w_138_44 s11]
  · rw [w_138_53 s12]
theorem prog10_end {N L x : Nat} {h : pH} (hs : Sg h) (e1 : rd h 138 1 = Int32.ofNat L) : fX12_program_10 N (x + 1) 138 (Int32.ofNat L) h = (fX12_knownNames N 138 (rsH h)).bind fun h95 => fX12_program_107 N N 138 0 h95 := by
  have s1 := hs.wr 138 1 0
  have s2 := s1.wr 138 56 0
  have s3 := s2.wr 138 69 0
  have s4 := s3.wr 138 4 0
  have s5 := s4.wr 138 9 (-1)
  have s6 := s5.wr 138 58 (-1)
  have s7 := s6.wr 138 10 0
  have s8 := s7.wr 138 15 0
  have s9 := s8.wr 138 21 0
  have s10 := s9.wr 138 23 0
  have s11 := s10.wr 138 25 0
  have s12 := s11.wr 138 44 0
  have s13 := s12.wr 138 53 0
  rw [fX12_program_10, g_138_1 hs, Option.bind_some, e1, if_pos (Int32.le_refl _), p_138_1 hs, Option.bind_some, z_138_56 s1 (Or.inl rfl), Option.bind_some, z_138_69 s2 (Or.inl rfl), Option.bind_some, p_138_4 s3, Option.bind_some, p_138_9 s4, Option.bind_some, p_138_58 s5, Option.bind_some, p_138_10 s6, Option.bind_some, p_138_15 s7, Option.bind_some, p_138_21 s8, Option.bind_some, p_138_23 s9, Option.bind_some, p_138_25 s10, Option.bind_some, p_138_44 s11, Option.bind_some, p_138_53 s12, Option.bind_some]
  rfl
theorem prog107_loop {N x : Nat} : ∀ (d c : Nat) (h : pH), c + d = 5 → Sg h → ∃ h', fX12_program_107 N (x + d + 1) 138 (Int32.ofNat c) h = fX12_program_107 N (x + 1) 138 (Int32.ofNat 5) h' ∧ Chg (fun a j => (a = 162 ∨ a = 165 ∨ a = 167) ∧ c ≤ j ∧ j < 5) h h' ∧ ∀ j, c ≤ j → j < 5 → rd h' 162 j = Int32.ofNat j ∧ rd h' 165 j = -1 ∧ rd h' 167 j = 0
  | 0, c, h, hc, hs => by
    obtain rfl : c = 5 := by omega
    exact ⟨h, rfl, Chg.refl _ _, fun j h1 h2 => absurd h1 (by omega)⟩
  | d + 1, c, h, hc, hs => by
    have s1 := hs.wr 162 c (Int32.ofNat c)
    have s2 := s1.wr 165 c (-1)
    have s3 := s2.wr 167 c 0
    have c1 : Chg (fun a j => (a = 162 ∨ a = 165 ∨ a = 167) ∧ c ≤ j ∧ j < 5) h (wr (wr (wr h 162 c (Int32.ofNat c)) 165 c (-1)) 167 c 0) := ((Chg.wr h _ _ _ ⟨by simp, Nat.le_refl _, by omega⟩).trans (Chg.wr _ _ _ _ ⟨by simp, Nat.le_refl _, by omega⟩)).trans (Chg.wr _ _ _ _ ⟨by simp, Nat.le_refl _, by omega⟩)
    obtain ⟨h', r1, r2, r3⟩ := prog107_loop (N := N) (x := x) d (c + 1) (wr (wr (wr h 162 c (Int32.ofNat c)) 165 c (-1)) 167 c 0) (by omega) s3
    refine ⟨h', ?_, c1.trans (r2.mono (fun a j z => ⟨z.1, by omega, z.2.2⟩)), fun j h1 h2 => ?_⟩
    · rw [fX12_program_107, if_neg (show ¬ (5 : Int32) ≤ Int32.ofNat c from fun z => by have := (iLe (a := 5) (b := c) (by decide) (by omega)).mp z; omega), R_138_38 hs, Option.bind_some, T_162 hs (by omega), Option.bind_some, R_138_41 s1, Option.bind_some, T_165 s1 (by omega), Option.bind_some, R_138_43 s2, Option.bind_some, T_167 s2 (by omega), Option.bind_some, i_add1]
      exact r1
    · by_cases hj : j = c
      · subst hj
        have k : ∀ a, rd h' a j = rd (wr (wr (wr h 162 j (Int32.ofNat j)) 165 j (-1)) 167 j 0) a j := fun a => r2.2.2.1 _ _ (fun z => by omega)
        rw [k 162, k 165, k 167]
        exact ⟨by rw [rd_wr_ne _ _ (by omega), rd_wr_ne _ _ (by omega), W_162 hs], by rw [rd_wr_ne _ _ (by omega), W_165 s1], W_167 s2 _ _⟩
      · exact r3 j (by omega) h2
/-- the first word -/
theorem first_word {N : Nat} {h : pH} (hN : 3200 ≤ N) (ht : tOk h) (hn : nmsOk h 8) (hi : nmInj h) (e4 : rd h 138 4 = 0) (e9 : rd h 138 9 = -1) : ∃ h', fX12_next N 138 h = some h' ∧ RP (tx h, tl h) 0 h' ∧ Chg NxB h h' ∧ NmLe h h' := by
  have m8 := nmM_of hn
  obtain ⟨h', P, r1, r2, n, M', K, V, id, q1, q2, q3, q4, q5, q6, q7, q8, q9, q10, q11, q12⟩ := e12_next (N := N) (p := 0) ht hn (by decide) hN (Nat.zero_le _) e4
  have hP : P = tkP (tx h, tl h) 0 := r2.uniq (tk_skip0 (tx h, tl h))
  subst hP
  obtain ⟨u1, u2, u3⟩ := q6.uniq (tk_is (tx h, tl h) 0)
  subst u1 u2 u3
  have x' : tx h' = tx h := tx_chg q1 (NxA_140 _)
  obtain ⟨t', l'⟩ := tOk_chg q1 (fun z => z.elim (fun z => absurd z.2 (by decide)) (fun z => z.1.elim (fun z => absurd z (by decide)) (fun z => absurd z (by decide)))) ht
  have m' := nmM_of q8
  have keep : ∀ k, k < 8 → nmR h' k = nmR h k := fun k hk => nmR_chg q1 (NxA_140 _) (q10 k hk).1 (q10 k hk).2
  have hEt : tkE (tx h, tl h) 0 = tkP (tx h, tl h) 0 + tkN (tx h, tl h) (tkP (tx h, tl h) 0) := tkE_eq (tx h, tl h) 0
  have cnt : 2 * M' ≤ tkE (tx h, tl h) 0 + 17 ∧ ((wcode (tkK (tx h, tl h) 0) = 4 ∨ wcode (tkK (tx h, tl h) 0) = 3) → 2 * M' ≤ tkE (tx h, tl h) 0 + 16) := by
    by_cases hM : M' = 8
    · exact ⟨by omega, fun _ => by omega⟩
    · have hM1 : M' = 8 + 1 := q9.resolve_left hM
      have hK : tkK (tx h, tl h) 0 = 22 := by
        by_cases z : tkK (tx h, tl h) 0 = 22
        · exact z
        · exact absurd (q12 z) hM
      have hp := tk_pos (tx h, tl h) (t := 0) (by rw [hK]; decide)
      refine ⟨by omega, fun z => by rw [hK] at z; exact absurd z (by decide)⟩
  have inj : nmInj h' := by
    intro i j i1 j1 e
    rw [m'] at i1 j1
    by_cases hM : M' = 8
    · rw [keep i (by omega), keep j (by omega)] at e
      exact hi i j (by omega) (by omega) e
    · have hM1 : M' = 8 + 1 := q9.resolve_left hM
      have hK : tkK (tx h, tl h) 0 = 22 := by
        by_cases z : tkK (tx h, tl h) 0 = 22
        · exact z
        · exact absurd (q12 z) hM
      obtain ⟨c1, c2, c3⟩ := q11 hK
      obtain ⟨c4, c5⟩ := c3.resolve_left hM
      by_cases hi1 : i < 8
      · by_cases hj1 : j < 8
        · rw [keep i hi1, keep j hj1] at e
          exact hi i j (by omega) (by omega) e
        · have hj2 : j = id := by omega
          rw [keep i hi1, hj2, c2] at e
          exact absurd e (c5 i hi1)
      · have hi2 : i = id := by omega
        by_cases hj1 : j < 8
        · rw [keep j hj1, hi2, c2] at e
          exact absurd e.symm (c5 j hj1)
        · omega
  refine ⟨h', r1, ⟨t', x', l', by rw [m']; exact q8, inj, by rw [m']; exact cnt, ⟨id, q7, by rw [m']; exact fun z => ⟨(q11 z).1, (q11 z).2.1⟩⟩, by rw [q2, hEt], q3, q4, ?_⟩, q1.mono (fun a k z => NxB_of z), by rw [m', m8]; rcases q9 with z | z <;> omega, fun k hk => keep k (by omega)⟩
  rw [q1.2.2.1 138 9 (fun z => NxB_ne (Or.inr (by decide)) (by decide) (by decide) (NxB_of z)), e9]
