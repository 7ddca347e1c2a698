/-! ===== THE CLASS' WORDS: letters, digits, signs, names, numbers ===== -/
theorem keyS_fx (w : List Int32) : keyS w ≠ 0 → fxW[keyS w - 1]? = some w := by
  intro hz
  unfold keyS at hz ⊢
  by_cases h0 : w = [99, 108, 97, 115, 115]
  · rw [if_pos h0]; rw [h0]; rfl
  rw [if_neg h0] at hz ⊢
  by_cases h1 : w = [105, 110, 116]
  · rw [if_pos h1]; rw [h1]; rfl
  rw [if_neg h1] at hz ⊢
  by_cases h2 : w = [98, 111, 111, 108]
  · rw [if_pos h2]; rw [h2]; rfl
  rw [if_neg h2] at hz ⊢
  by_cases h3 : w = [105, 110, 116, 115]
  · rw [if_pos h3]; rw [h3]; rfl
  rw [if_neg h3] at hz ⊢
  by_cases h4 : w = [118, 111, 105, 100]
  · rw [if_pos h4]; rw [h4]; rfl
  rw [if_neg h4] at hz ⊢
  by_cases h5 : w = [105, 102]
  · rw [if_pos h5]; rw [h5]; rfl
  rw [if_neg h5] at hz ⊢
  by_cases h6 : w = [101, 108, 115, 101]
  · rw [if_pos h6]; rw [h6]; rfl
  rw [if_neg h6] at hz ⊢
  by_cases h7 : w = [119, 104, 105, 108, 101]
  · rw [if_pos h7]; rw [h7]; rfl
  rw [if_neg h7] at hz ⊢
  by_cases h8 : w = [114, 101, 116, 117, 114, 110]
  · rw [if_pos h8]; rw [h8]; rfl
  rw [if_neg h8] at hz ⊢
  by_cases h9 : w = [116, 104, 114, 111, 119]
  · rw [if_pos h9]; rw [h9]; rfl
  rw [if_neg h9] at hz ⊢
  by_cases h10 : w = [116, 114, 121]
  · rw [if_pos h10]; rw [h10]; rfl
  rw [if_neg h10] at hz ⊢
  by_cases h11 : w = [99, 97, 116, 99, 104]
  · rw [if_pos h11]; rw [h11]; rfl
  rw [if_neg h11] at hz ⊢
  by_cases h12 : w = [112, 114, 105, 110, 116]
  · rw [if_pos h12]; rw [h12]; rfl
  rw [if_neg h12] at hz ⊢
  by_cases h13 : w = [110, 101, 119]
  · rw [if_pos h13]; rw [h13]; rfl
  rw [if_neg h13] at hz ⊢
  by_cases h14 : w = [110, 117, 108, 108]
  · rw [if_pos h14]; rw [h14]; rfl
  rw [if_neg h14] at hz ⊢
  by_cases h15 : w = [116, 114, 117, 101]
  · rw [if_pos h15]; rw [h15]; rfl
  rw [if_neg h15] at hz ⊢
  by_cases h16 : w = [102, 97, 108, 115, 101]
  · rw [if_pos h16]; rw [h16]; rfl
  rw [if_neg h16] at hz ⊢
  by_cases h17 : w = [116, 104, 105, 115]
  · rw [if_pos h17]; rw [h17]; rfl
  rw [if_neg h17] at hz ⊢
  by_cases h18 : w = [114, 101, 97, 100]
  · rw [if_pos h18]; rw [h18]; rfl
  rw [if_neg h18] at hz ⊢
  by_cases h19 : w = [97, 115]
  · rw [if_pos h19]; rw [h19]; rfl
  rw [if_neg h19] at hz ⊢
  by_cases h20 : w = [105, 115]
  · rw [if_pos h20]; rw [h20]; rfl
  rw [if_neg h20] at hz ⊢
  exact absurd rfl hz
theorem keyS_21 : ∀ k, k < 21 → keyS (fxW.getD k []) = k + 1 := by decide +kernel
theorem keyS_at {w : List Int32} {k : Nat} (hk : k < 21) (h : fxW[k]? = some w) : keyS w = k + 1 := by
  have := keyS_21 k hk
  rw [List.getD_eq_getElem?_getD, h] at this
  exact this
theorem e10_isDigit (N : Nat) (c : Int32) (h : pH) : fX10_isDigit N c h = some (if c < 48 ∨ 57 < c then 0 else 1, h) := by
  unfold fX10_isDigit
  by_cases h1 : c < 48
  · rw [if_pos h1, if_pos (Or.inl h1)]
  · rw [if_neg h1]
    by_cases h2 : 57 < c
    · rw [if_pos h2, if_pos (Or.inr h2)]
    · rw [if_neg h2, if_neg (fun z => z.elim h1 h2)]
theorem e10_isLetter (N : Nat) (c : Int32) (h : pH) : fX10_isLetter N c h = some (if (c < 97 ∨ 122 < c) ∧ (c < 65 ∨ 90 < c) then 0 else 1, h) := by
  have h12 : fX10_isLetter_12 N c h = some (if c < 65 ∨ 90 < c then 0 else 1, h) := by
    unfold fX10_isLetter_12
    by_cases h1 : c < 65
    · rw [if_pos h1, if_pos (Or.inl h1)]
    · rw [if_neg h1]
      by_cases h2 : 90 < c
      · rw [if_pos h2, if_pos (Or.inr h2)]
      · rw [if_neg h2, if_neg (fun z => z.elim h1 h2)]
  have fin : (c < 97 ∨ 122 < c) → fX10_isLetter_12 N c h = some (if (c < 97 ∨ 122 < c) ∧ (c < 65 ∨ 90 < c) then 0 else 1, h) := by
    intro z
    rw [h12]
    by_cases y : c < 65 ∨ 90 < c
    · rw [if_pos y, if_pos ⟨z, y⟩]
    · rw [if_neg y, if_neg (fun x => y x.2)]
  unfold fX10_isLetter
  by_cases h1 : c < 97
  · rw [if_pos h1]
    exact fin (Or.inl h1)
  · rw [if_neg h1]
    by_cases h2 : c ≤ 122
    · rw [if_pos h2, if_neg (fun z => z.1.elim h1 (fun y => (Int32.not_le.mpr y) h2))]
    · rw [if_neg h2]
      exact fin (Or.inr (Int32.not_le.mp h2))
theorem e10_signOfTwo (N : Nat) (c d : Int32) (h : pH) : fX10_signOfTwo N c d h = some (two2 c d, h) := by
  unfold fX10_signOfTwo two2
  by_cases h1 : d = 61
  · rw [if_pos h1, if_pos h1]
    by_cases h2 : c = 61
    · rw [if_pos h2, if_pos h2]
    · rw [if_neg h2, if_neg h2]
      by_cases h3 : c = 33
      · rw [if_pos h3, if_pos h3]
      · rw [if_neg h3, if_neg h3]
        by_cases h4 : c = 60
        · rw [if_pos h4, if_pos h4]
        · rw [if_neg h4, if_neg h4]
  · rw [if_neg h1, if_neg h1]
    by_cases h2 : c = d
    · rw [if_pos h2, if_pos h2]
      by_cases h3 : c = 38
      · rw [if_pos h3, if_pos h3]
      · rw [if_neg h3, if_neg h3]
        by_cases h4 : c = 124
        · rw [if_pos h4, if_pos h4]
        · rw [if_neg h4, if_neg h4]
    · rw [if_neg h2, if_neg h2]
def sgS : List Int32 := pByt.getD 1 []
def sgB (i : Nat) : Int32 := sgS.getD i 0
theorem ldB_3 {i : Nat} (hi : i < 18) : ldB 3 (Int32.ofNat i) = some (sgB i) := by
  unfold ldB
  rw [if_pos (Or.inr rfl)]
  show (if Int32.ofNat i < 0 ∨ 18 ≤ (Int32.ofNat i).toNatClampNeg then none else some (sgS.getD (Int32.ofNat i).toNatClampNeg 0)) = some (sgB i)
  rw [if_neg (i_out (n := 18) hi (by decide)), i_cl (by omega)]
  rfl
theorem idx_7 {N : Nat} (v : Int32) (h : pH) : ∀ (j n i : Nat), i + j = 18 → ((∀ q, i ≤ q → q < 18 → sgB q ≠ v) → fJ1_indexOfChar_4cfef_7 N (n + j + 1) 3 (Int32.ofNat 18) v (Int32.ofNat i) h = some (-1, h)) ∧ (¬ (∀ q, i ≤ q → q < 18 → sgB q ≠ v) → ∃ k, k < 18 ∧ fJ1_indexOfChar_4cfef_7 N (n + j + 1) 3 (Int32.ofNat 18) v (Int32.ofNat i) h = some (Int32.ofNat k, h))
  | 0, n, i, hi => by
    refine ⟨fun _ => ?_, fun z => absurd (fun q q1 q2 => by omega) z⟩
    rw [fJ1_indexOfChar_4cfef_7, ifLe (by decide) (by omega), if_pos (by omega)]
  | j + 1, n, i, hi => by
    obtain ⟨a1, a2⟩ := idx_7 (N := N) v h j n (i + 1) (by omega)
    have key : fJ1_indexOfChar_4cfef_7 N (n + (j + 1) + 1) 3 (Int32.ofNat 18) v (Int32.ofNat i) h = if sgB i = v then some (Int32.ofNat i, h) else fJ1_indexOfChar_4cfef_7 N (n + j + 1) 3 (Int32.ofNat 18) v (Int32.ofNat (i + 1)) h := by
      rw [fJ1_indexOfChar_4cfef_7, ifLe (by decide) (by omega), if_neg (by omega), ldB_3 (by omega), Option.bind_some, i_add1]
      rfl
    rw [key]
    by_cases hc : sgB i = v
    · rw [if_pos hc]
      exact ⟨fun z => absurd hc (z i (Nat.le_refl i) (by omega)), fun _ => ⟨i, by omega, rfl⟩⟩
    · rw [if_neg hc]
      refine ⟨fun z => a1 (fun q q1 q2 => z q (by omega) q2), fun z => a2 (fun z2 => z (fun q q1 q2 => ?_))⟩
      by_cases hq : q = i
      · subst hq; exact hc
      · exact z2 q (by omega) q2
theorem idx_b : ∀ b, b < 256 → ((Int32.ofNat b).toUInt32 % 65536).toInt32 = Int32.ofNat b ∧ ((∀ q, q < 18 → sgB q ≠ (Int32.ofNat b).toInt8.toInt32) ↔ ¬ isSgn (Int32.ofNat b)) := by decide +kernel
theorem e_indexOf {N b : Nat} {h : pH} (hN : 3300 ≤ N) (hb : b < 256) : ∃ x, fJ0_indexOf_0f7a4 N 1 (((Int32.ofNat b).toUInt32 % 65536).toInt32) h = some (x, h) ∧ (isSgn (Int32.ofNat b) → ¬ x < 0) ∧ (¬ isSgn (Int32.ofNat b) → x < 0) := by
  obtain ⟨h1, h2⟩ := idx_b b hb
  rw [h1]
  have hl : lenB 3 = some (Int32.ofNat 18) := by
    unfold lenB
    rw [if_pos (Or.inr rfl)]
    rfl
  have hlen : fJ0_length_8abf5 N 1 h = some (Int32.ofNat 18, h) := by
    unfold fJ0_length_8abf5
    rw [if_pos (isO0 1 (by decide) h)]
    unfold getSv
    rw [if_pos (by decide), Option.bind_some, hl, Option.bind_some]
    unfold fJ0_coder_7d493
    rw [if_pos (isO0 1 (by decide) h), if_neg (by decide)]
    unfold getSc
    rw [if_pos (by decide), Option.bind_some, if_pos (by decide), Option.bind_some]
    dsimp only
    rw [show Int32.ofNat 18 >>> ((0 : Int32) &&& 31) = Int32.ofNat 18 by decide]
  have hcan : fJ1_canEncode_9a6ad N (Int32.ofNat b) h = some (1, h) := by
    unfold fJ1_canEncode_9a6ad
    rw [if_neg (i_nn (by omega)), show (255 : Int32) = Int32.ofNat 255 from rfl, ifLt (by decide) (by omega), if_neg (by omega)]
  have key : fJ0_indexOf_0f7a4 N 1 (Int32.ofNat b) h = (fJ1_indexOfChar_4cfef_7 N N 3 (Int32.ofNat 18) ((Int32.ofNat b).toInt8.toInt32) (Int32.ofNat 0) h).bind fun q => some (q.1, q.2) := by
    unfold fJ0_indexOf_0f7a4
    rw [if_pos (isO0 1 (by decide) h)]
    unfold fJ0_indexOf_7cf53
    rw [if_pos (isO0 1 (by decide) h), lat0 N 1 (by decide), Option.bind_some]
    dsimp only
    rw [if_neg (by decide)]
    unfold getSv
    rw [if_pos (by decide), Option.bind_some, hlen, Option.bind_some]
    dsimp only
    unfold fJ1_indexOf_4cfef
    rw [hcan, Option.bind_some]
    dsimp only
    rw [if_neg (by decide), if_neg (by decide), hl, Option.bind_some, show (if (0 : Int32) < 0 then (0 : Int32) else 0) = 0 by decide, show (if Int32.ofNat 18 < Int32.ofNat 18 then Int32.ofNat 18 else Int32.ofNat 18) = Int32.ofNat 18 by decide, if_pos (by decide)]
    unfold fJ1_indexOfChar_4cfef
    rw [if_neg (by decide)]
    show (((fJ1_indexOfChar_4cfef_7 N N 3 (Int32.ofNat 18) ((Int32.ofNat b).toInt8.toInt32) (Int32.ofNat 0) h).bind fun q => some (q.1, q.2)).bind fun q => some (q.1, q.2)).bind (fun q => some (q.1, q.2)) = _
    cases fJ1_indexOfChar_4cfef_7 N N 3 (Int32.ofNat 18) ((Int32.ofNat b).toInt8.toInt32) (Int32.ofNat 0) h <;> rfl
  rw [key]
  obtain ⟨a1, a2⟩ := idx_7 (N := N) ((Int32.ofNat b).toInt8.toInt32) h 18 (N - 19) 0 rfl
  rw [show N - 19 + 18 + 1 = N by omega] at a1 a2
  by_cases hc : isSgn (Int32.ofNat b)
  · obtain ⟨k, k1, k2⟩ := a2 (fun z => (h2.mp (fun q hq => z q (Nat.zero_le q) hq)) hc)
    refine ⟨Int32.ofNat k, by rw [k2]; rfl, fun _ => i_nn (by omega), fun z => absurd hc z⟩
  · refine ⟨-1, by rw [a1 (fun q _ hq => h2.mpr hc q hq)]; rfl, fun z => absurd z hc, fun _ => by decide⟩
