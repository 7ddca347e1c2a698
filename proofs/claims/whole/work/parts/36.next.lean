/-! ===== THE REFERENCE'S next() ===== -/
theorem put_put (h : pH) (a : Nat) (e e' : pE) : pPut (pPut h a e) a e' = pPut h a e' := by simp [pPut]
theorem wr_wr (h : pH) (a k : Nat) (x y : Int32) : wr (wr h a k x) a k y = wr h a k y := by
  cases hq : pAt h a with
  | none =>
    have e1 : wr h a k x = h := by unfold wr; rw [hq]
    rw [e1]
  | some e =>
    rcases e with ⟨ci, fs⟩ | ⟨t, n, f | f | f⟩
    · cases hk : fs[k]? with
      | none =>
        have e1 : wr h a k x = h := by unfold wr; rw [hq]; dsimp only; rw [hk]
        rw [e1]
      | some v =>
        cases v with
        | int z =>
          have e1 : ∀ x, wr h a k x = pPut h a (.inl (ci, fs.set k (.int x))) := fun x => by unfold wr; rw [hq]; dsimp only; rw [hk]
          rw [e1 x, e1 y]
          unfold wr
          rw [pAt_put_eq hq]
          dsimp only
          rw [List.getElem?_set, if_pos rfl, if_pos (List.getElem?_eq_some_iff.mp hk).1]
          dsimp only
          rw [put_put, List.set_set]
        | _ =>
          have e1 : wr h a k x = h := by unfold wr; rw [hq]; dsimp only; rw [hk]
          rw [e1]
    · have e1 : ∀ x, wr h a k x = pPut h a (.inr (t, n, .inl (upd f k x))) := fun x => by unfold wr; rw [hq]
      rw [e1 x, e1 y]
      unfold wr
      rw [pAt_put_eq hq]
      dsimp only
      rw [put_put]
      congr 5
      funext j
      unfold upd
      by_cases hj : j = k
      · rw [if_pos hj, if_pos hj]
      · rw [if_neg hj, if_neg hj, if_neg hj]
    · have e1 : wr h a k x = h := by unfold wr; rw [hq]
      rw [e1]
    · have e1 : wr h a k x = h := by unfold wr; rw [hq]
      rw [e1]
/-- these fields of the reference alone -/
def Fl (ks : List Nat) : Nat → Nat → Prop := fun a k => a = 138 ∧ k ∈ ks
theorem tOk_chg {A : Nat → Nat → Prop} {h h' : pH} (q : Chg A h h') (hA : ¬ A 138 3) (ht : tOk h) : tOk h' ∧ tl h' = tl h := tOk_of (q.sg ht.1) ht.2.2 (by rw [q.2.2.1 _ _ hA]; exact ht.2.1)
theorem tx_chg {A : Nat → Nat → Prop} {h h' : pH} (q : Chg A h h') (hA : ∀ i, ¬ A 140 i) : tx h' = tx h := funext fun i => q.2.2.1 _ _ (hA i)
theorem Fl_ne {ks : List Nat} {a k : Nat} (h : a ≠ 138 ∨ k ∉ ks) : ¬ Fl ks a k := fun q => h.elim (fun z => z q.1) (fun z => z q.2)
def alN (c : Int32) : Prop := isLt c ∨ isDg c
/-- the longest run of such bytes from P on has n of them -/
def RunOf (q : Int32 → Prop) (s : Nat → Int32) (L P n : Nat) : Prop := P + n ≤ L ∧ (∀ i, i < n → q (s (P + i))) ∧ (P + n = L ∨ ¬ q (s (P + n)))
theorem let1 {c : Int32} : (if (c < 97 ∨ 122 < c) ∧ (c < 65 ∨ 90 < c) then (0 : Int32) else 1) = 0 ↔ ¬ isLt c := by
  unfold isLt
  by_cases h : (c < 97 ∨ 122 < c) ∧ (c < 65 ∨ 90 < c)
  · rw [if_pos h]; exact ⟨fun _ z => z h, fun _ => rfl⟩
  · rw [if_neg h]; exact ⟨fun z => absurd z (by decide), fun z => absurd h z⟩
theorem dig1 {c : Int32} : (if c < 48 ∨ 57 < c then (0 : Int32) else 1) = 0 ↔ ¬ isDg c := by
  unfold isDg
  by_cases h : c < 48 ∨ 57 < c
  · rw [if_pos h]; exact ⟨fun _ z => z h, fun _ => rfl⟩
  · rw [if_neg h]; exact ⟨fun z => absurd z (by decide), fun z => absurd h z⟩
theorem next_letters {N P n : Nat} : ∀ (j m i : Nat) (h : pH), i + j = n → tOk h → rd h 138 6 = Int32.ofNat P → rd h 138 7 = Int32.ofNat i → RunOf alN (tx h) (tl h) P n → ∃ h', fX12_next_116 N (m + j + 1) 138 h = fX12_next_185 N 138 h' ∧ Chg (Fl [7]) h h' ∧ rd h' 138 7 = Int32.ofNat n
  | 0, m, i, h, hij, ht, e6, e7, ⟨hr1, hr2, hr3⟩ => by
    obtain rfl : i = n := by omega
    have hs := ht.1
    have hl := ht.2.2
    refine ⟨h, ?_, Chg.refl _ _, e7⟩
    rw [fX12_next_116, g_138_6 hs, Option.bind_some, g_138_7 hs, Option.bind_some, g_138_3 hs, Option.bind_some, e6, e7, ht.2.1, iAdd]
    by_cases hc : tl h ≤ P + i
    · rw [if_pos ((Int32.ofNat_le_ofNat (by omega) (by omega)).mpr hc)]
    · have hx := hr3.resolve_left (by omega)
      rw [if_neg (fun q => hc ((Int32.ofNat_le_ofNat (by omega) (by omega)).mp q)), R_138_2 hs, Option.bind_some, Option.bind_some, Option.bind_some, iAdd, L_140 hs (by omega), Option.bind_some, e12_isLetter, Option.bind_some]
      dsimp only
      rw [if_pos (let1.mpr (fun z => hx (Or.inl z))), R_138_2 hs, Option.bind_some, g_138_6 hs, Option.bind_some, g_138_7 hs, Option.bind_some, e6, e7, iAdd, L_140 hs (by omega), Option.bind_some, e12_isDigit, Option.bind_some]
      dsimp only
      rw [if_pos (dig1.mpr (fun z => hx (Or.inr z)))]
  | j + 1, m, i, h, hij, ht, e6, e7, ⟨hr1, hr2, hr3⟩ => by
    have hs := ht.1
    have hl := ht.2.2
    have hx := hr2 i (by omega)
    have q1 : Chg (Fl [7]) h (wr h 138 7 (Int32.ofNat (i + 1))) := Chg.wr h _ _ _ ⟨rfl, by simp⟩
    obtain ⟨ht1, hl1⟩ := tOk_chg q1 (Fl_ne (Or.inr (by decide))) ht
    have hx1 := tx_chg q1 (fun i => Fl_ne (Or.inl (by decide)))
    obtain ⟨h', r1, r2, r3⟩ := next_letters (N := N) (P := P) (n := n) j m (i + 1) (wr h 138 7 (Int32.ofNat (i + 1))) (by omega) ht1 (by rw [rd_wr_ne _ _ (by decide)]; exact e6) (w_138_7 hs _) (by rw [hl1, hx1]; exact ⟨hr1, hr2, hr3⟩)
    refine ⟨h', ?_, q1.trans r2, r3⟩
    have step : fX12_next_172 N (fX12_next_116 N (m + (j + 1))) 138 h = fX12_next_185 N 138 h' := by
      unfold fX12_next_172
      rw [g_138_7 hs, Option.bind_some, e7, p_138_7 hs, Option.bind_some, i_add1]
      exact r1
    rw [fX12_next_116, g_138_6 hs, Option.bind_some, g_138_7 hs, Option.bind_some, g_138_3 hs, Option.bind_some, e6, e7, ht.2.1, iAdd, if_neg (fun q => by have := (Int32.ofNat_le_ofNat (by omega) (by omega)).mp q; omega), R_138_2 hs, Option.bind_some, Option.bind_some, Option.bind_some, iAdd, L_140 hs (by omega), Option.bind_some, e12_isLetter, Option.bind_some]
    dsimp only
    by_cases hc : isLt (tx h (P + i))
    · rw [if_neg (fun z => let1.mp z hc)]
      exact step
    · rw [if_pos (let1.mpr hc), R_138_2 hs, Option.bind_some, g_138_6 hs, Option.bind_some, g_138_7 hs, Option.bind_some, e6, e7, iAdd, L_140 hs (by omega), Option.bind_some, e12_isDigit, Option.bind_some]
      dsimp only
      rw [if_neg (fun z => dig1.mp z (hx.resolve_left hc))]
      exact step
theorem next_digits {N P n : Nat} : ∀ (j m i : Nat) (h : pH), i + j = n → tOk h → rd h 138 6 = Int32.ofNat P → rd h 138 7 = Int32.ofNat i → RunOf isDg (tx h) (tl h) P n → ∃ h', fX12_next_235 N (m + j + 1) 138 h = fX12_next_284 N 138 h' ∧ Chg (Fl [7]) h h' ∧ rd h' 138 7 = Int32.ofNat n
  | 0, m, i, h, hij, ht, e6, e7, ⟨hr1, hr2, hr3⟩ => by
    obtain rfl : i = n := by omega
    have hs := ht.1
    have hl := ht.2.2
    refine ⟨h, ?_, Chg.refl _ _, e7⟩
    rw [fX12_next_235, g_138_6 hs, Option.bind_some, g_138_7 hs, Option.bind_some, g_138_3 hs, Option.bind_some, e6, e7, ht.2.1, iAdd]
    by_cases hc : tl h ≤ P + i
    · rw [if_pos ((Int32.ofNat_le_ofNat (by omega) (by omega)).mpr hc)]
    · have hx := hr3.resolve_left (by omega)
      rw [if_neg (fun q => hc ((Int32.ofNat_le_ofNat (by omega) (by omega)).mp q)), R_138_2 hs, Option.bind_some, Option.bind_some, Option.bind_some, iAdd, L_140 hs (by omega), Option.bind_some, e12_isDigit, Option.bind_some]
      dsimp only
      rw [if_pos (dig1.mpr hx)]
  | j + 1, m, i, h, hij, ht, e6, e7, ⟨hr1, hr2, hr3⟩ => by
    have hs := ht.1
    have hl := ht.2.2
    have hx := hr2 i (by omega)
    have q1 : Chg (Fl [7]) h (wr h 138 7 (Int32.ofNat (i + 1))) := Chg.wr h _ _ _ ⟨rfl, by simp⟩
    obtain ⟨ht1, hl1⟩ := tOk_chg q1 (Fl_ne (Or.inr (by decide))) ht
    have hx1 := tx_chg q1 (fun i => Fl_ne (Or.inl (by decide)))
    obtain ⟨h', r1, r2, r3⟩ := next_digits (N := N) (P := P) (n := n) j m (i + 1) (wr h 138 7 (Int32.ofNat (i + 1))) (by omega) ht1 (by rw [rd_wr_ne _ _ (by decide)]; exact e6) (w_138_7 hs _) (by rw [hl1, hx1]; exact ⟨hr1, hr2, hr3⟩)
    refine ⟨h', ?_, q1.trans r2, r3⟩
    rw [fX12_next_235, g_138_6 hs, Option.bind_some, g_138_7 hs, Option.bind_some, g_138_3 hs, Option.bind_some, e6, e7, ht.2.1, iAdd, if_neg (fun q => by have := (Int32.ofNat_le_ofNat (by omega) (by omega)).mp q; omega), R_138_2 hs, Option.bind_some, Option.bind_some, Option.bind_some, iAdd, L_140 hs (by omega), Option.bind_some, e12_isDigit, Option.bind_some]
    dsimp only
    rw [if_neg (fun z => dig1.mp z hx), g_138_7 hs, Option.bind_some, e7, p_138_7 hs, Option.bind_some, i_add1]
    exact r1
/-- the number that n digits tell -/
def numV (s : Nat → Int32) (P : Nat) : Nat → Int32
  | 0 => 0
  | k + 1 => 10 * numV s P k + s (P + k) - 48
theorem next_452 {N P n : Nat} {h : pH} (hs : Sg h) (e6 : rd h 138 6 = Int32.ofNat P) (e7 : rd h 138 7 = Int32.ofNat n) : fX12_next_452 N 138 h = some (wr h 138 4 (Int32.ofNat (P + n))) := by
  unfold fX12_next_452
  rw [g_138_6 hs, Option.bind_some, g_138_7 hs, Option.bind_some, e6, e7, iAdd, p_138_4 hs]
  rfl
theorem next_number {N P n : Nat} : ∀ (j m i : Nat) (h : pH), i + j = n → tOk h → P + n ≤ 3000 → rd h 138 5 = 3 → rd h 138 6 = Int32.ofNat P → rd h 138 7 = Int32.ofNat n → rd h 138 8 = numV (tx h) P i → ∃ h', fX12_next_304 N (m + j + 1) 138 (Int32.ofNat i) h = some h' ∧ Chg (Fl [4, 8]) h h' ∧ rd h' 138 8 = numV (tx h) P n ∧ rd h' 138 4 = Int32.ofNat (P + n)
  | 0, m, i, h, hij, ht, hb, e5, e6, e7, e8 => by
    obtain rfl : i = n := by omega
    have hs := ht.1
    refine ⟨wr h 138 4 (Int32.ofNat (P + i)), ?_, Chg.wr h _ _ _ ⟨rfl, by simp⟩, by rw [rd_wr_ne _ _ (by decide)]; exact e8, w_138_4 hs _⟩
    rw [fX12_next_304, g_138_7 hs, Option.bind_some, e7, if_pos ((Int32.ofNat_le_ofNat (by omega) (by omega)).mpr (Nat.le_refl i))]
    exact next_452 hs e6 e7
  | j + 1, m, i, h, hij, ht, hb, e5, e6, e7, e8 => by
    have hs := ht.1
    have q1 : Chg (Fl [4, 8]) h (wr h 138 8 (numV (tx h) P (i + 1))) := Chg.wr h _ _ _ ⟨rfl, by simp⟩
    obtain ⟨ht1, hl1⟩ := tOk_chg q1 (Fl_ne (Or.inr (by decide))) ht
    have hx1 := tx_chg q1 (fun i => Fl_ne (Or.inl (by decide)))
    obtain ⟨h', r1, r2, r3, r4⟩ := next_number (N := N) (P := P) (n := n) j m (i + 1) (wr h 138 8 (numV (tx h) P (i + 1))) (by omega) ht1 hb (by rw [rd_wr_ne _ _ (by decide)]; exact e5) (by rw [rd_wr_ne _ _ (by decide)]; exact e6) (by rw [rd_wr_ne _ _ (by decide)]; exact e7) (by rw [hx1]; exact w_138_8 hs _)
    rw [hx1] at r3
    refine ⟨h', ?_, q1.trans r2, r3, r4⟩
    rw [fX12_next_304, g_138_7 hs, Option.bind_some, e7, if_neg (fun q => by have := (Int32.ofNat_le_ofNat (by omega) (by omega)).mp q; omega), g_138_5 hs, Option.bind_some, e5, if_pos rfl, g_138_8 hs, Option.bind_some, R_138_2 hs, Option.bind_some, g_138_6 hs, Option.bind_some, e6, iAdd, L_140 hs (by omega), Option.bind_some, e8, p_138_8 hs, Option.bind_some, i_add1]
    exact r1
