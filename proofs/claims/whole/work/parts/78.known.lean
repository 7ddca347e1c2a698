/-! ===== THE NAMES THAT ARE KNOWN ===== -/
def knB (j : Nat) : Int32 := [78, 117, 108, 108, 0, 0, 66, 111, 117, 110, 100, 115, 90, 101, 114, 111, 0, 0, 67, 97, 115, 116, 0, 0, 83, 105, 122, 101, 0, 0, 77, 97, 105, 110, 0, 0].getD j 0
def kL (k : Nat) : Nat := if k = 1 then 6 else 4
def kC (k i : Nat) : Int32 := if k < 6 then knB (6 * k + i) else if k = 6 then (if i = 0 then knB (30 + i) + 32 else knB (30 + i) + 0) else (if i = 0 then knB (24 + i) + 32 else knB (24 + i) + 0)
def knA (k : Nat) : Nat → Nat → Prop := fun a j => (a = 138 ∧ j = 11) ∨ (a = 140 ∧ 3000 + 6 * k ≤ j) ∨ ((a = 141 ∨ a = 142) ∧ k ≤ j)
theorem kL_le (k : Nat) : kL k ≤ 6 ∧ 4 ≤ kL k := by unfold kL; split <;> omega
theorem i6 (k : Nat) (h : k < 100) : (6 : Int32) * Int32.ofNat k = Int32.ofNat (6 * k) := by
  rw [show (6 : Int32) = Int32.ofNat 6 from rfl, ← Int32.ofNat_mul]
theorem known37 {N k x : Nat} {k7 : Nat → Int32 → pH → Option pH} (hk : k < 8) : ∀ (d i : Nat) (h : pH), i + d = kL k → Sg h → (∀ j, j < 36 → rd h 143 j = knB j) → rd h 138 11 = Int32.ofNat k → ∃ h1, fX12_knownNames_37 N k7 (x + d + 1) 138 (Int32.ofNat k) (Int32.ofNat (3000 + 6 * k)) (Int32.ofNat (kL k)) (Int32.ofNat i) h = k7 138 (Int32.ofNat (k + 1)) h1 ∧ Chg (knA k) h h1 ∧ rd h1 138 11 = Int32.ofNat (k + 1) ∧ rd h1 141 k = Int32.ofNat (3000 + 6 * k) ∧ rd h1 142 k = Int32.ofNat (kL k) ∧ (∀ j, i ≤ j → j < kL k → rd h1 140 (3000 + 6 * k + j) = kC k j) ∧ ∀ j, j < i → rd h1 140 (3000 + 6 * k + j) = rd h 140 (3000 + 6 * k + j)
  | 0, i, h, hi, hs, hK, e11 => by
    have hL := kL_le k
    have hi : i = kL k := by omega
    subst hi
    have s1 := hs.wr 141 k (Int32.ofNat (3000 + 6 * k))
    have s2 := s1.wr 142 k (Int32.ofNat (kL k))
    have c : Chg (knA k) h (wr (wr (wr h 141 k (Int32.ofNat (3000 + 6 * k))) 142 k (Int32.ofNat (kL k))) 138 11 (Int32.ofNat (k + 1))) := ((Chg.wr h _ _ _ (Or.inr (Or.inr ⟨by simp, Nat.le_refl _⟩))).trans (Chg.wr _ _ _ _ (Or.inr (Or.inr ⟨by simp, Nat.le_refl _⟩)))).trans (Chg.wr _ _ _ _ (Or.inl ⟨rfl, rfl⟩))
    refine ⟨_, ?_, c, w_138_11 s2 _, ?_, ?_, fun j h1 h2 => absurd h1 (by omega), fun j hj => ?_⟩
    · rw [fX12_knownNames_37, if_pos ((Int32.ofNat_le_ofNat (by omega) (by omega)).mpr (Nat.le_refl _)), R_138_12 hs, Option.bind_some, g_138_11 hs, Option.bind_some, e11, T_141 hs (by omega), Option.bind_some, R_138_13 s1, Option.bind_some, g_138_11 s1, Option.bind_some, rd_wr_ne _ _ (by omega), e11, T_142 s1 (by omega), Option.bind_some, g_138_11 s2, Option.bind_some, rd_wr_ne _ _ (by omega), rd_wr_ne _ _ (by omega), e11, i_add1, p_138_11 s2, Option.bind_some]
    · rw [rd_wr_ne _ _ (by omega), rd_wr_ne _ _ (by omega), W_141 hs]
    · rw [rd_wr_ne _ _ (by omega), W_142 s1]
    · rw [rd_wr_ne _ _ (by omega), rd_wr_ne _ _ (by omega), rd_wr_ne _ _ (by omega)]
  | d + 1, i, h, hi, hs, hK, e11 => by
    have hL := kL_le k
    have s1 := hs.wr 140 (3000 + 6 * k + i) (kC k i)
    have c1 : Chg (knA k) h (wr h 140 (3000 + 6 * k + i) (kC k i)) := Chg.wr h _ _ _ (Or.inr (Or.inl ⟨rfl, by omega⟩))
    obtain ⟨h1, r1, r2, r3, r4, r5, r6, r7⟩ := known37 (N := N) (k7 := k7) (x := x) hk d (i + 1) (wr h 140 (3000 + 6 * k + i) (kC k i)) (by omega) s1 (fun j hj => by rw [rd_wr_ne _ _ (by omega)]; exact hK j hj) (by rw [rd_wr_ne _ _ (by omega)]; exact e11)
    refine ⟨h1, ?_, c1.trans r2, r3, r4, r5, fun j h1' h2 => ?_, fun j hj => ?_⟩
    · have step : fX12_knownNames_125 N k7 (fX12_knownNames_37 N k7 (x + (d + 1))) 138 (Int32.ofNat k) (Int32.ofNat (3000 + 6 * k)) (Int32.ofNat (kL k)) (Int32.ofNat i) 140 (Int32.ofNat (3000 + 6 * k) + Int32.ofNat i) (kC k i) h = k7 138 (Int32.ofNat (k + 1)) h1 := by
        unfold fX12_knownNames_125
        rw [iAdd, T_140 hs (by omega), Option.bind_some, i_add1]
        exact r1
      rw [fX12_knownNames_37, if_neg (fun z => by have := (Int32.ofNat_le_ofNat (by omega) (by omega)).mp z; omega), R_138_2 hs, Option.bind_some]
      by_cases k6 : 6 ≤ k
      · rw [if_pos (show (6 : Int32) ≤ Int32.ofNat k from (iLe (a := 6) (b := k) (by decide) (by omega)).mpr k6)]
        by_cases k66 : k = 6
        · rw [if_pos (show Int32.ofNat k = 6 by rw [k66]; rfl), R_138_14 hs, Option.bind_some, show (30 : Int32) = Int32.ofNat 30 from rfl, iAdd, L_143 hs (by omega), Option.bind_some, hK _ (by omega), if_neg (show ¬ 140 = 4 by decide)]
          unfold fX12_knownNames_99
          have ek : kC k i = if i = 0 then knB (30 + i) + 32 else knB (30 + i) + 0 := by unfold kC; rw [if_neg (by omega), if_pos k66]
          by_cases i0 : i = 0
          · rw [if_pos (show Int32.ofNat i = 0 by rw [i0]; rfl)]
            rw [ek, if_pos i0] at step
            exact step
          · rw [if_neg (show ¬ Int32.ofNat i = 0 from fun z => i0 ((iEq (a := i) (b := 0) (by omega) (by decide)).mp z)), if_neg (show ¬ 140 = 4 by decide)]
            rw [ek, if_neg i0] at step
            exact step
        · rw [if_neg (show ¬ Int32.ofNat k = 6 from fun z => k66 ((iEq (a := k) (b := 6) (by omega) (by decide)).mp z)), R_138_14 hs, Option.bind_some, show (24 : Int32) = Int32.ofNat 24 from rfl, iAdd, L_143 hs (by omega), Option.bind_some, hK _ (by omega), if_neg (show ¬ 140 = 4 by decide)]
          unfold fX12_knownNames_124
          have ek : kC k i = if i = 0 then knB (24 + i) + 32 else knB (24 + i) + 0 := by unfold kC; rw [if_neg (by omega), if_neg k66]
          by_cases i0 : i = 0
          · rw [if_pos (show Int32.ofNat i = 0 by rw [i0]; rfl)]
            rw [ek, if_pos i0] at step
            exact step
          · rw [if_neg (show ¬ Int32.ofNat i = 0 from fun z => i0 ((iEq (a := i) (b := 0) (by omega) (by decide)).mp z)), if_neg (show ¬ 140 = 4 by decide)]
            rw [ek, if_neg i0] at step
            exact step
      · have ek : kC k i = knB (6 * k + i) := by unfold kC; rw [if_pos (by omega)]
        rw [if_neg (show ¬ (6 : Int32) ≤ Int32.ofNat k from fun z => k6 ((iLe (a := 6) (b := k) (by decide) (by omega)).mp z)), R_138_14 hs, Option.bind_some, i6 k (by omega), iAdd, L_143 hs (by omega), Option.bind_some, hK _ (by omega), if_neg (show ¬ 140 = 4 by decide)]
        rw [ek] at step
        exact step
    · by_cases hj : j = i
      · subst hj
        rw [r7 j (by omega), W_140 hs]
      · exact r6 j (by omega) h2
    · rw [r7 j (by omega), rd_wr_ne _ _ (by omega)]
/-- the first eight names stand -/
def knOk (K : Nat) (h : pH) : Prop := rd h 138 11 = Int32.ofNat K ∧ ∀ k, k < K → rd h 141 k = Int32.ofNat (3000 + 6 * k) ∧ rd h 142 k = Int32.ofNat (kL k) ∧ ∀ i, i < kL k → rd h 140 (3000 + 6 * k + i) = kC k i
theorem known7 {N : Nat} (hN : 3200 ≤ N) : ∀ (d k x : Nat) (h : pH), k + d = 8 → Sg h → (∀ j, j < 36 → rd h 143 j = knB j) → knOk k h → ∃ h1, fX12_knownNames_7 N (x + d + 1) 138 (Int32.ofNat k) h = some h1 ∧ Chg (knA 0) h h1 ∧ knOk 8 h1
  | 0, k, x, h, hk, hs, hK, ok => by
    obtain rfl : k = 8 := by omega
    exact ⟨h, by rw [fX12_knownNames_7, if_pos (by decide)], Chg.refl _ _, ok⟩
  | d + 1, k, x, h, hk, hs, hK, ok => by
    have hL := kL_le k
    obtain ⟨y, hy⟩ : ∃ y, N = y + kL k + 1 := ⟨N - kL k - 1, by omega⟩
    obtain ⟨h1, r1, r2, r3, r4, r5, r6, r7⟩ := known37 (N := N) (k7 := fX12_knownNames_7 N (x + (d + 1))) (x := y) (by omega : k < 8) (kL k) 0 h (by omega) hs hK ok.1
    have keep : ∀ a j, (a = 143) ∨ (a = 140 ∧ j < 3000 + 6 * k) ∨ ((a = 141 ∨ a = 142) ∧ j < k) → rd h1 a j = rd h a j := fun a j ha => r2.2.2.1 _ _ (fun z => by rcases z with z | z | z <;> omega)
    have ok1 : knOk (k + 1) h1 := by
      refine ⟨r3, fun j hj => ?_⟩
      by_cases hjk : j = k
      · subst hjk
        exact ⟨r4, r5, fun i hi => r6 i (Nat.zero_le _) hi⟩
      · obtain ⟨u1, u2, u3⟩ := ok.2 j (by omega)
        have := kL_le j
        exact ⟨by rw [keep 141 j (by omega)]; exact u1, by rw [keep 142 j (by omega)]; exact u2, fun i hi => by rw [keep 140 _ (by omega)]; exact u3 i hi⟩
    obtain ⟨h2, q1, q2, q3⟩ := known7 hN d (k + 1) x h1 (by omega) (r2.sg hs) (fun j hj => by rw [keep 143 j (by omega)]; exact hK j hj) ok1
    refine ⟨h2, ?_, (r2.mono (fun a j z => z.imp (fun z => z) (fun z => z.imp (fun z => ⟨z.1, by omega⟩) (fun z => ⟨z.1, by omega⟩)))).trans q2, q3⟩
    rw [← hy] at r1
    rw [fX12_knownNames_7, if_neg (show ¬ (8 : Int32) ≤ Int32.ofNat k from fun z => by have := (iLe (a := 8) (b := k) (by decide) (by omega)).mp z; omega), i6 k (by omega), show (3000 : Int32) = Int32.ofNat 3000 from rfl, iAdd]
    unfold fX12_knownNames_33
    by_cases k1 : k = 1
    · have e6 : kL k = 6 := if_pos k1
      rw [e6] at r1
      rw [if_pos (show Int32.ofNat k = 1 by rw [k1]; rfl)]
      exact r1.trans q1
    · have e4 : kL k = 4 := if_neg k1
      rw [e4] at r1
      rw [if_neg (show ¬ Int32.ofNat k = 1 from fun z => k1 ((iEq (a := k) (b := 1) (by omega) (by decide)).mp z))]
      exact r1.trans q1
theorem e12_known {N : Nat} {h : pH} (hN : 3200 ≤ N) (hs : Sg h) (hK : ∀ j, j < 36 → rd h 143 j = knB j) : ∃ h1, fX12_knownNames N 138 h = some h1 ∧ Chg (knA 0) h h1 ∧ knOk 8 h1 := by
  have c1 : Chg (knA 0) h (wr h 138 11 0) := Chg.wr h _ _ _ (Or.inl ⟨rfl, rfl⟩)
  obtain ⟨x, hx⟩ : ∃ x, N = x + 8 + 1 := ⟨N - 9, by omega⟩
  obtain ⟨h1, r1, r2, r3⟩ := known7 (N := N) hN 8 0 x (wr h 138 11 0) (by omega) (hs.wr _ _ _) (fun j hj => by rw [rd_wr_ne _ _ (by omega)]; exact hK j hj) ⟨w_138_11 hs _, fun k hk => absurd hk (by omega)⟩
  refine ⟨h1, ?_, c1.trans r2, r3⟩
  unfold fX12_knownNames
  rw [if_pos (o_138 hs), p_138_11 hs, Option.bind_some]
  rw [← hx] at r1
  exact r1
/-- their letters -/
def knW (k : Nat) : List Int32 := (List.range (kL k)).map (kC k)
theorem knW_inj : ∀ i, i < 8 → ∀ j, j < 8 → knW i = knW j → i = j := by decide
theorem knOk.nms {h : pH} (hs : Sg h) (ok : knOk 8 h) : nmsOk h 8 ∧ nmM h = 8 ∧ (∀ k, k < 8 → nmR h k = knW k) ∧ nmInj h := by
  have f : ∀ k, k < 8 → nmF h k = 3000 + 6 * k ∧ nmN h k = kL k := fun k hk => by
    obtain ⟨u1, u2, u3⟩ := ok.2 k hk
    have := kL_le k
    unfold nmF nmN
    rw [u1, u2, i_cl (by omega), i_cl (by omega)]
    exact ⟨rfl, rfl⟩
  have n8 : nmsOk h 8 := ⟨hs, ok.1, by decide, fun k hk => by
    obtain ⟨u1, u2, u3⟩ := ok.2 k hk
    have := kL_le k
    rw [(f k hk).1, (f k hk).2]
    exact ⟨u1, u2, by omega⟩⟩
  have m8 := nmM_of n8
  have r : ∀ k, k < 8 → nmR h k = knW k := fun k hk => by
    unfold nmR knW wl
    rw [(f k hk).1, (f k hk).2]
    refine List.map_congr_left (fun i hi => ?_)
    exact (ok.2 k hk).2.2 i (List.mem_range.mp hi)
  refine ⟨n8, m8, r, fun i j hi hj e => ?_⟩
  rw [m8] at hi hj
  rw [r i hi, r j hj] at e
  exact knW_inj i hi j hj e
