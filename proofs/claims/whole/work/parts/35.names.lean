/-! ===== THE REFERENCE'S NAMES ===== -/
def nmF (h : pH) (k : Nat) : Nat := (rd h 141 k).toNatClampNeg
def nmN (h : pH) (k : Nat) : Nat := (rd h 142 k).toNatClampNeg
def nmR (h : pH) (k : Nat) : List Int32 := wl (tx h) (nmF h k) (nmN h k)
/-- the table of names holds K of them -/
def nmsOk (h : pH) (K : Nat) : Prop := Sg h ∧ rd h 138 11 = Int32.ofNat K ∧ K ≤ 1600 ∧ ∀ k, k < K → rd h 141 k = Int32.ofNat (nmF h k) ∧ rd h 142 k = Int32.ofNat (nmN h k) ∧ nmF h k + nmN h k ≤ 3100
theorem e12_nameOf82_0 {N k : Nat} {k2 : Nat → Int32 → pH → Option (Int32 × pH)} {h : pH} : fX12_nameOf_82 N k2 138 (Int32.ofNat k) 0 h = k2 138 (Int32.ofNat (k + 1)) h := by
  unfold fX12_nameOf_82
  rw [if_pos rfl, i_add1]
theorem e12_nameOf82_1 {N k : Nat} {k2 : Nat → Int32 → pH → Option (Int32 × pH)} {h : pH} : fX12_nameOf_82 N k2 138 (Int32.ofNat k) 1 h = some (Int32.ofNat k, h) := by
  unfold fX12_nameOf_82
  rw [if_neg (by decide)]
theorem e12_nameOf31_0 {N n k i P m : Nat} {k2 : Nat → Int32 → pH → Option (Int32 × pH)} {h : pH} (hw : wOk h P m) : fX12_nameOf_31 N k2 (n + 1) 138 (Int32.ofNat k) 0 (Int32.ofNat i) h = k2 138 (Int32.ofNat (k + 1)) h := by
  rw [fX12_nameOf_31, g_138_7 hw.1, Option.bind_some]
  split
  · exact e12_nameOf82_0
  · rw [if_pos rfl]
    exact e12_nameOf82_0
theorem e12_nameOf31_1 {N k K P m : Nat} {k2 : Nat → Int32 → pH → Option (Int32 × pH)} {h : pH} (hw : wOk h P m) (ht : nmsOk h K) (hk : k < K) (hm : nmN h k = m) : ∀ (j n i : Nat), i + j = m →
    ((∀ q, i ≤ q → q < m → tx h (nmF h k + q) = tx h (P + q)) → fX12_nameOf_31 N k2 (n + j + 2) 138 (Int32.ofNat k) 1 (Int32.ofNat i) h = some (Int32.ofNat k, h)) ∧
    (¬ (∀ q, i ≤ q → q < m → tx h (nmF h k + q) = tx h (P + q)) → fX12_nameOf_31 N k2 (n + j + 2) 138 (Int32.ofNat k) 1 (Int32.ofNat i) h = k2 138 (Int32.ofNat (k + 1)) h)
  | 0, n, i, hij => by
    obtain ⟨hs, e6, e7, hb⟩ := id hw
    have e : fX12_nameOf_31 N k2 (n + 0 + 2) 138 (Int32.ofNat k) 1 (Int32.ofNat i) h = some (Int32.ofNat k, h) := by
      rw [fX12_nameOf_31, g_138_7 hs, Option.bind_some, e7, if_pos ((Int32.ofNat_le_ofNat (by omega) (by omega)).mpr (by omega))]
      exact e12_nameOf82_1
    exact ⟨fun _ => e, fun z => absurd (fun q h1 h2 => by omega) z⟩
  | j + 1, n, i, hij => by
    obtain ⟨hs, e6, e7, hb⟩ := id hw
    obtain ⟨-, -, hK, hn⟩ := id ht
    obtain ⟨n1, n2, n3⟩ := hn k hk
    have hi : i < m := by omega
    have key : fX12_nameOf_31 N k2 (n + (j + 1) + 2) 138 (Int32.ofNat k) 1 (Int32.ofNat i) h = if tx h (nmF h k + i) = tx h (P + i) then fX12_nameOf_31 N k2 (n + j + 2) 138 (Int32.ofNat k) 1 (Int32.ofNat (i + 1)) h else fX12_nameOf_31 N k2 (n + j + 2) 138 (Int32.ofNat k) 0 (Int32.ofNat (i + 1)) h := by
      rw [fX12_nameOf_31, g_138_7 hs, Option.bind_some, e7, if_neg (fun q => by have := (Int32.ofNat_le_ofNat (by omega) (by omega)).mp q; omega), if_neg (by decide), R_138_2 hs, Option.bind_some, R_138_12 hs, Option.bind_some, L_141 hs (by omega), Option.bind_some, n1, iAdd, L_140 hs (by omega), Option.bind_some, Option.bind_some, g_138_6 hs, Option.bind_some, e6, iAdd, L_140 hs (by omega), Option.bind_some]
      unfold fX12_nameOf_75
      rw [i_add1]
      rfl
    rw [key]
    by_cases hc : tx h (nmF h k + i) = tx h (P + i)
    · rw [if_pos hc]
      obtain ⟨h1, h2⟩ := e12_nameOf31_1 (N := N) (k2 := k2) hw ht hk hm j n (i + 1) (by omega)
      refine ⟨fun z => h1 (fun q q1 q2 => z q (by omega) q2), fun z => h2 (fun z2 => z (fun q q1 q2 => ?_))⟩
      by_cases hq : q = i
      · subst hq; exact hc
      · exact z2 q (by omega) q2
    · rw [if_neg hc]
      refine ⟨fun z => absurd (z i (Nat.le_refl i) hi) hc, fun _ => ?_⟩
      exact e12_nameOf31_0 (n := n + j + 1) hw
/-- the first name that is this word, or a new one -/
theorem e12_nameOf2 {N P m K : Nat} {h : pH} (hw : wOk h P m) (ht : nmsOk h K) (hN : 3200 ≤ N) (hK : K < 1600) : ∀ (j n k : Nat), k + j = K → (∀ q, q < k → nmR h q ≠ wl (tx h) P m) →
    (∃ r, k ≤ r ∧ r < K ∧ nmR h r = wl (tx h) P m ∧ (∀ q, q < r → nmR h q ≠ wl (tx h) P m) ∧ fX12_nameOf_2 N (n + j + 1) 138 (Int32.ofNat k) h = some (Int32.ofNat r, h)) ∨
    ((∀ q, q < K → nmR h q ≠ wl (tx h) P m) ∧ fX12_nameOf_2 N (n + j + 1) 138 (Int32.ofNat k) h = some (Int32.ofNat K, wr (wr (wr h 141 K (Int32.ofNat P)) 142 K (Int32.ofNat m)) 138 11 (Int32.ofNat (K + 1))))
  | 0, n, k, hkj, hne => by
    obtain ⟨hs, e6, e7, hb⟩ := id hw
    obtain ⟨-, e11, hK9, hn⟩ := id ht
    obtain rfl : k = K := by omega
    refine Or.inr ⟨hne, ?_⟩
    have s1 := hs.wr 141 k (Int32.ofNat P)
    have s2 := s1.wr 142 k (Int32.ofNat m)
    have r1 : rd (wr h 141 k (Int32.ofNat P)) 138 11 = Int32.ofNat k := by rw [rd_wr_ne _ _ (by omega)]; exact e11
    have r2 : rd (wr h 141 k (Int32.ofNat P)) 138 7 = Int32.ofNat m := by rw [rd_wr_ne _ _ (by omega)]; exact e7
    have r3 : rd (wr (wr h 141 k (Int32.ofNat P)) 142 k (Int32.ofNat m)) 138 11 = Int32.ofNat k := by rw [rd_wr_ne _ _ (by omega)]; exact r1
    rw [fX12_nameOf_2, g_138_11 hs, Option.bind_some, e11, if_pos ((Int32.ofNat_le_ofNat (by omega) (by omega)).mpr (Nat.le_refl k)), R_138_12 hs, Option.bind_some, Option.bind_some, g_138_6 hs, Option.bind_some, e6, T_141 hs (by omega), Option.bind_some, R_138_13 s1, Option.bind_some, g_138_11 s1, Option.bind_some, r1, g_138_7 s1, Option.bind_some, r2, T_142 s1 (by omega), Option.bind_some, g_138_11 s2, Option.bind_some, r3, p_138_11 s2, Option.bind_some, i_add1, g_138_11 (s2.wr _ _ _), Option.bind_some, w_138_11 s2]
    refine congrArg some (Prod.ext ?_ rfl)
    show Int32.ofNat (k + 1) - 1 = Int32.ofNat k
    rw [Int32.ofNat_add]
    exact Int32.add_sub_cancel _ _
  | j + 1, n, k, hkj, hne => by
    obtain ⟨hs, e6, e7, hb⟩ := id hw
    obtain ⟨-, e11, hK9, hn⟩ := id ht
    have hk : k < K := by omega
    obtain ⟨n1, n2, n3⟩ := hn k hk
    obtain ⟨M, hM⟩ : ∃ M, N = M + nmN h k + 2 := ⟨N - (nmN h k + 2), by omega⟩
    have ih := e12_nameOf2 hw ht hN hK j n (k + 1) (by omega)
    have step : nmR h k ≠ wl (tx h) P m → fX12_nameOf_2 N (n + (j + 1) + 1) 138 (Int32.ofNat k) h = fX12_nameOf_2 N (n + j + 1) 138 (Int32.ofNat (k + 1)) h := by
      intro hne2
      rw [fX12_nameOf_2, g_138_11 hs, Option.bind_some, e11, if_neg (fun q => by have := (Int32.ofNat_le_ofNat (by omega) (by omega)).mp q; omega), R_138_13 hs, Option.bind_some, L_142 hs (by omega), Option.bind_some, g_138_7 hs, Option.bind_some, e7, n2]
      by_cases hl : nmN h k = m
      · rw [if_pos (by rw [hl])]
        unfold fX12_nameOf_28
        have := (e12_nameOf31_1 (N := N) (k2 := fX12_nameOf_2 N (n + (j + 1))) hw ht hk hl m M 0 (by omega)).2 (fun z => hne2 (wl_eq.mpr ⟨hl, fun q hq => z q (by omega) (by omega)⟩))
        rw [← hl, ← hM] at this
        exact this
      · rw [if_neg (fun q => hl ((iEq (by omega) (by omega)).mp q))]
        unfold fX12_nameOf_28
        rw [hM]
        exact e12_nameOf31_0 (n := M + nmN h k + 1) (i := 0) hw
    by_cases hc : nmR h k = wl (tx h) P m
    · refine Or.inl ⟨k, Nat.le_refl k, hk, hc, hne, ?_⟩
      obtain ⟨hl, hall⟩ := wl_eq.mp hc
      rw [fX12_nameOf_2, g_138_11 hs, Option.bind_some, e11, if_neg (fun q => by have := (Int32.ofNat_le_ofNat (by omega) (by omega)).mp q; omega), R_138_13 hs, Option.bind_some, L_142 hs (by omega), Option.bind_some, g_138_7 hs, Option.bind_some, e7, n2, if_pos (by rw [hl])]
      unfold fX12_nameOf_28
      have := (e12_nameOf31_1 (N := N) (k2 := fX12_nameOf_2 N (n + (j + 1))) hw ht hk hl m M 0 (by omega)).1 (fun q q1 q2 => hall q (by omega))
      rw [hl] at hM
      rw [← hM] at this
      exact this
    · rw [step hc]
      rcases ih (fun q hq => by
        by_cases z : q = k
        · subst z; exact hc
        · exact hne q (by omega)) with ⟨r, r1, r2, r3, r4, r5⟩ | ⟨r1, r2⟩
      · exact Or.inl ⟨r, by omega, r2, r3, r4, r5⟩
      · exact Or.inr ⟨r1, r2⟩
