/-! ===== ROWS OF ROWS, COPIES ===== -/
theorem ldA_sh {h : pH} {a n i b : Nat} {l : List (Option Nat)} (hq : sh h a = some (15, n, l)) (hi : i < n) (hn : n < 2 ^ 31) (hl : l[i]? = some (some b)) (hb : 6 ≤ b) : ldA h a (Int32.ofNat i) = some b := by
  unfold sh at hq
  cases he : pAt h a with
  | none => rw [he] at hq; cases hq
  | some e =>
    rw [he] at hq
    have hq : shp e = (15, n, l) := Option.some.inj hq
    have e1 : (Int32.ofNat i).toNatClampNeg = i := Int32.toNatClampNeg_ofNat_of_lt (by omega)
    have e2 : ¬ Int32.ofNat i < 0 := i_nneg (by omega)
    rcases e with ⟨ci, fs⟩ | ⟨t, m, f | f | f⟩
    · have : 4 * ci = 15 := congrArg Prod.fst hq
      omega
    · have : 4 * t + 1 = 15 := congrArg Prod.fst hq
      omega
    · have : 4 * t + 2 = 15 := congrArg Prod.fst hq
      omega
    · have h1 : 4 * t + 3 = 15 := congrArg Prod.fst hq
      have h2 : m = n := congrArg (fun z => z.2.1) hq
      have h3 : (List.range m).map f = l := congrArg (fun z => z.2.2) hq
      have ht : t = 3 := by omega
      subst ht
      subst h2
      rw [← h3, List.getElem?_map, List.getElem?_range hi] at hl
      have hf : f i = some b := Option.some.inj hl
      unfold ldA
      rw [he]
      show (if Int32.ofNat i < 0 ∨ m ≤ (Int32.ofNat i).toNatClampNeg then none else (match f (Int32.ofNat i).toNatClampNeg with
        | some b => if b < 6 then none else some b
        | none => none)) = some b
      rw [e1, if_neg (fun z => z.elim e2 (fun y => by omega)), hf]
      exact if_neg (by omega)
theorem sh0_56 : ∃ l, sh h0 56 = some (15, 32, l) ∧ ∀ i, i < 32 → l[i]? = some (some (57 + i)) := ⟨(List.range 32).map (fun i => some (57 + i)), by decide +kernel, by decide +kernel⟩
theorem sh0_89 : ∃ l, sh h0 89 = some (15, 32, l) ∧ ∀ i, i < 32 → l[i]? = some (some (90 + i)) := ⟨(List.range 32).map (fun i => some (90 + i)), by decide +kernel, by decide +kernel⟩
theorem A_56 {h : pH} (hs : Sg h) {i : Nat} (hi : i < 32) : ldA h 56 (Int32.ofNat i) = some (57 + i) := by
  obtain ⟨l, h1, h2⟩ := sh0_56
  exact ldA_sh ((hs.1 56 (by decide) (by decide) (by decide) (by decide)).trans h1) hi (by decide) (h2 i hi) (by omega)
theorem A_89 {h : pH} (hs : Sg h) {i : Nat} (hi : i < 32) : ldA h 89 (Int32.ofNat i) = some (90 + i) := by
  obtain ⟨l, h1, h2⟩ := sh0_89
  exact ldA_sh ((hs.1 89 (by decide) (by decide) (by decide) (by decide)).trans h1) hi (by decide) (h2 i hi) (by omega)
theorem sh0_57 : ∀ i, i < 32 → sh h0 (57 + i) = some (1, 32, []) := by decide +kernel
theorem sh0_90 : ∀ i, i < 32 → sh h0 (90 + i) = some (1, 32, []) := by decide +kernel
theorem sh_57i {h : pH} (hs : Sg h) {i : Nat} (hi : i < 32) : sh h (57 + i) = some (1, 32, []) := (hs.1 (57 + i) (by omega) (by omega) (by omega) (by omega)).trans (sh0_57 i hi)
theorem sh_90i {h : pH} (hs : Sg h) {i : Nat} (hi : i < 32) : sh h (90 + i) = some (1, 32, []) := (hs.1 (90 + i) (by omega) (by omega) (by omega) (by omega)).trans (sh0_90 i hi)
theorem sh_1 {h : pH} {a n : Nat} (hq : sh h a = some (1, n, [])) : ∃ f, pAt h a = some (.inr (0, n, .inl f)) ∧ ∀ k, rd h a k = f k := by
  unfold sh at hq
  cases he : pAt h a with
  | none => rw [he] at hq; cases hq
  | some e =>
    rw [he] at hq
    have hq : shp e = (1, n, []) := Option.some.inj hq
    rcases e with ⟨ci, fs⟩ | ⟨t, m, f | f | f⟩
    · have : 4 * ci = 1 := congrArg Prod.fst hq
      omega
    · have h1 : 4 * t + 1 = 1 := congrArg Prod.fst hq
      have h2 : m = n := congrArg (fun z => z.2.1) hq
      have ht : t = 0 := by omega
      subst ht
      subst h2
      exact ⟨f, rfl, fun k => by unfold rd; rw [he]⟩
    · have : 4 * t + 2 = 1 := congrArg Prod.fst hq
      omega
    · have : 4 * t + 3 = 1 := congrArg Prod.fst hq
      omega
theorem copy32 {h : pH} {a0 a : Nat} (q0 : sh h a0 = some (1, 32, [])) (q : sh h a = some (1, 32, [])) : ∃ h', copyA h a0 0 a 0 32 = some h' ∧ (∀ k, k < 32 → rd h' a k = rd h a0 k) ∧ Chg (fun b _ => b = a) h h' := by
  obtain ⟨f, f1, f2⟩ := sh_1 q0
  obtain ⟨g, g1, g2⟩ := sh_1 q
  have h6 : ¬ a < 6 := (pAt_some g1).1
  have e0 : (0 : Int32).toNatClampNeg = 0 := by decide
  have e32 : (32 : Int32).toNatClampNeg = 32 := by decide
  refine ⟨pPut h a (.inr (0, 32, .inl (va_cpy f g 0 0 32))), ?_, fun k hk => ?_, fun b => sh_put (e := .inr (0, 32, .inl (va_cpy f g 0 0 32))) g1 rfl b, put_len _ _ _, fun b k hb => ?_, fun b k => ?_⟩
  · unfold copyA pCopy
    dsimp only
    rw [f1, g1, if_neg (by decide), e0, e32]
    rfl
  · rw [f2 k]
    unfold rd
    rw [pAt_put_eq g1]
    show va_cpy f g 0 0 32 k = f k
    unfold va_cpy
    rw [if_pos ⟨Nat.zero_le _, by omega⟩, Nat.sub_zero, Nat.zero_add]
  · unfold rd
    rw [pAt_put_ne h6 (fun z => hb z.symm)]
  · by_cases z : a = b
    · subst z
      unfold rdJ
      rw [pAt_put_eq g1, g1]
    · unfold rdJ
      rw [pAt_put_ne h6 z]
