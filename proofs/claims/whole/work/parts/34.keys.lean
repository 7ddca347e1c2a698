/-! ===== words as lists ===== -/
def wl (s : Nat → Int32) (P n : Nat) : List Int32 := (List.range n).map (fun i => s (P + i))
theorem wl_len (s : Nat → Int32) (P n : Nat) : (wl s P n).length = n := by simp [wl]
theorem wl_get (s : Nat → Int32) (P n i : Nat) : (wl s P n)[i]? = if i < n then some (s (P + i)) else none := by
  unfold wl
  rw [List.getElem?_map]
  by_cases hi : i < n
  · rw [List.getElem?_range hi, if_pos hi]; rfl
  · rw [List.getElem?_eq_none (by rw [List.length_range]; omega), if_neg hi]; rfl
theorem wl_eq {s t : Nat → Int32} {P Q n m : Nat} : wl s P n = wl t Q m ↔ n = m ∧ ∀ j, j < n → s (P + j) = t (Q + j) := by
  constructor
  · intro h
    have hl : n = m := by have := congrArg List.length h; rwa [wl_len, wl_len] at this
    refine ⟨hl, fun j hj => ?_⟩
    have := congrArg (fun l => l[j]?) h
    rw [wl_get, wl_get, if_pos hj, if_pos (by omega)] at this
    exact Option.some.inj this
  · rintro ⟨rfl, h⟩
    apply List.ext_getElem?
    intro j
    rw [wl_get, wl_get]
    by_cases hj : j < n
    · rw [if_pos hj, if_pos hj, h j hj]
    · rw [if_neg hj, if_neg hj]
theorem isTx_iff {h : pH} {P n m : Nat} {a b c d e f : Int32} (hm2 : 2 ≤ m) (hm : m ≤ 6) : isTx h P n m a b c d e f ↔ wl (tx h) P n = [a, b, c, d, e, f].take m := by
  constructor
  · rintro ⟨rfl, h1, h2, h3, h4, h5, h6⟩
    apply List.ext_getElem?
    intro j
    rw [wl_get, List.getElem?_take]
    by_cases hj : j < n
    · rw [if_pos hj, if_pos hj]
      rcases (show j = 0 ∨ j = 1 ∨ j = 2 ∨ j = 3 ∨ j = 4 ∨ j = 5 by omega) with rfl | rfl | rfl | rfl | rfl | rfl
      · rw [Nat.add_zero, h1]; rfl
      · rw [h2]; rfl
      · rw [h3.resolve_left (by omega)]; rfl
      · rw [h4.resolve_left (by omega)]; rfl
      · rw [h5.resolve_left (by omega)]; rfl
      · rw [h6.resolve_left (by omega)]; rfl
    · rw [if_neg hj, if_neg hj]
  · intro q
    have hl : n = m := by
      have := congrArg List.length q
      rw [wl_len, List.length_take] at this
      simp at this
      omega
    subst hl
    have g : ∀ j, j < n → some (tx h (P + j)) = [a, b, c, d, e, f][j]? := fun j hj => by
      have := congrArg (fun l => l[j]?) q
      rw [wl_get, if_pos hj, List.getElem?_take, if_pos hj] at this
      exact this
    refine ⟨rfl, Option.some.inj (g 0 (by omega)), Option.some.inj (g 1 (by omega)), ?_, ?_, ?_, ?_⟩
    · by_cases k : n < 3
      · exact Or.inl k
      · exact Or.inr (Option.some.inj (g 2 (by omega)))
    · by_cases k : n < 4
      · exact Or.inl k
      · exact Or.inr (Option.some.inj (g 3 (by omega)))
    · by_cases k : n < 5
      · exact Or.inl k
      · exact Or.inr (Option.some.inj (g 4 (by omega)))
    · by_cases k : n < 6
      · exact Or.inl k
      · exact Or.inr (Option.some.inj (g 5 (by omega)))
theorem e12_isT {N P n : Nat} {h : pH} (hw : wOk h P n) (a b c d e f : Int32) (w : List Int32) (hm : w = [a, b, c, d, e, f].take (tmN c d e f)) (hm2 : 2 ≤ tmN c d e f) (hm6 : tmN c d e f ≤ 6) : fX12_isText N 138 a b c d e f h = some (if wl (tx h) P n = w then 1 else 0, h) := by
  rw [e12_isText hw]
  by_cases q : isTx h P n (tmN c d e f) a b c d e f
  · rw [if_pos q, if_pos (by rw [hm]; exact (isTx_iff hm2 hm6).mp q)]
  · rw [if_neg q, if_neg (by rw [hm]; exact fun z => q ((isTx_iff hm2 hm6).mpr z))]
/-- the kept words, in their order -/
def keyS (w : List Int32) : Nat := if w = [99, 108, 97, 115, 115] then 1 else if w = [105, 110, 116] then 2 else if w = [98, 111, 111, 108] then 3 else if w = [105, 110, 116, 115] then 4 else if w = [118, 111, 105, 100] then 5 else if w = [105, 102] then 6 else if w = [101, 108, 115, 101] then 7 else if w = [119, 104, 105, 108, 101] then 8 else if w = [114, 101, 116, 117, 114, 110] then 9 else if w = [116, 104, 114, 111, 119] then 10 else if w = [116, 114, 121] then 11 else if w = [99, 97, 116, 99, 104] then 12 else if w = [112, 114, 105, 110, 116] then 13 else if w = [110, 101, 119] then 14 else if w = [110, 117, 108, 108] then 15 else if w = [116, 114, 117, 101] then 16 else if w = [102, 97, 108, 115, 101] then 17 else if w = [116, 104, 105, 115] then 18 else if w = [114, 101, 97, 100] then 19 else if w = [97, 115] then 20 else if w = [105, 115] then 21 else 0
theorem e12_keyOf {N P n : Nat} {h : pH} (hw : wOk h P n) : fX12_keyOf N 138 h = some (Int32.ofNat (keyS (wl (tx h) P n)), h) := by
  unfold fX12_keyOf keyS
  rw [if_pos (o_138 hw.1)]
  rw [e12_isT hw 99 108 97 115 115 0 [99, 108, 97, 115, 115] (by decide) (by decide) (by decide), Option.bind_some]
  dsimp only
  by_cases k0 : wl (tx h) P n = [99, 108, 97, 115, 115]
  · rw [if_pos k0, if_neg (by decide), if_pos k0]
    rfl
  rw [if_neg k0, if_pos rfl, if_neg k0]
  rw [e12_isT hw 105 110 116 0 0 0 [105, 110, 116] (by decide) (by decide) (by decide), Option.bind_some]
  dsimp only
  by_cases k1 : wl (tx h) P n = [105, 110, 116]
  · rw [if_pos k1, if_neg (by decide), if_pos k1]
    rfl
  rw [if_neg k1, if_pos rfl, if_neg k1]
  rw [e12_isT hw 98 111 111 108 0 0 [98, 111, 111, 108] (by decide) (by decide) (by decide), Option.bind_some]
  dsimp only
  by_cases k2 : wl (tx h) P n = [98, 111, 111, 108]
  · rw [if_pos k2, if_neg (by decide), if_pos k2]
    rfl
  rw [if_neg k2, if_pos rfl, if_neg k2]
  rw [e12_isT hw 105 110 116 115 0 0 [105, 110, 116, 115] (by decide) (by decide) (by decide), Option.bind_some]
  dsimp only
  by_cases k3 : wl (tx h) P n = [105, 110, 116, 115]
  · rw [if_pos k3, if_neg (by decide), if_pos k3]
    rfl
  rw [if_neg k3, if_pos rfl, if_neg k3]
  rw [e12_isT hw 118 111 105 100 0 0 [118, 111, 105, 100] (by decide) (by decide) (by decide), Option.bind_some]
  dsimp only
  by_cases k4 : wl (tx h) P n = [118, 111, 105, 100]
  · rw [if_pos k4, if_neg (by decide), if_pos k4]
    rfl
  rw [if_neg k4, if_pos rfl, if_neg k4]
  rw [e12_isT hw 105 102 0 0 0 0 [105, 102] (by decide) (by decide) (by decide), Option.bind_some]
  dsimp only
  by_cases k5 : wl (tx h) P n = [105, 102]
  · rw [if_pos k5, if_neg (by decide), if_pos k5]
    rfl
  rw [if_neg k5, if_pos rfl, if_neg k5]
  rw [e12_isT hw 101 108 115 101 0 0 [101, 108, 115, 101] (by decide) (by decide) (by decide), Option.bind_some]
  dsimp only
  by_cases k6 : wl (tx h) P n = [101, 108, 115, 101]
  · rw [if_pos k6, if_neg (by decide), if_pos k6]
    rfl
  rw [if_neg k6, if_pos rfl, if_neg k6]
  rw [e12_isT hw 119 104 105 108 101 0 [119, 104, 105, 108, 101] (by decide) (by decide) (by decide), Option.bind_some]
  dsimp only
  by_cases k7 : wl (tx h) P n = [119, 104, 105, 108, 101]
  · rw [if_pos k7, if_neg (by decide), if_pos k7]
    rfl
  rw [if_neg k7, if_pos rfl, if_neg k7]
  rw [e12_isT hw 114 101 116 117 114 110 [114, 101, 116, 117, 114, 110] (by decide) (by decide) (by decide), Option.bind_some]
  dsimp only
  by_cases k8 : wl (tx h) P n = [114, 101, 116, 117, 114, 110]
  · rw [if_pos k8, if_neg (by decide), if_pos k8]
    rfl
  rw [if_neg k8, if_pos rfl, if_neg k8]
  rw [e12_isT hw 116 104 114 111 119 0 [116, 104, 114, 111, 119] (by decide) (by decide) (by decide), Option.bind_some]
  dsimp only
  by_cases k9 : wl (tx h) P n = [116, 104, 114, 111, 119]
  · rw [if_pos k9, if_neg (by decide), if_pos k9]
    rfl
  rw [if_neg k9, if_pos rfl, if_neg k9]
  rw [e12_isT hw 116 114 121 0 0 0 [116, 114, 121] (by decide) (by decide) (by decide), Option.bind_some]
  dsimp only
  by_cases k10 : wl (tx h) P n = [116, 114, 121]
  · rw [if_pos k10, if_neg (by decide), if_pos k10]
    rfl
  rw [if_neg k10, if_pos rfl, if_neg k10]
  rw [e12_isT hw 99 97 116 99 104 0 [99, 97, 116, 99, 104] (by decide) (by decide) (by decide), Option.bind_some]
  dsimp only
  by_cases k11 : wl (tx h) P n = [99, 97, 116, 99, 104]
  · rw [if_pos k11, if_neg (by decide), if_pos k11]
    rfl
  rw [if_neg k11, if_pos rfl, if_neg k11]
  rw [e12_isT hw 112 114 105 110 116 0 [112, 114, 105, 110, 116] (by decide) (by decide) (by decide), Option.bind_some]
  dsimp only
  by_cases k12 : wl (tx h) P n = [112, 114, 105, 110, 116]
  · rw [if_pos k12, if_neg (by decide), if_pos k12]
    rfl
  rw [if_neg k12, if_pos rfl, if_neg k12]
  rw [e12_isT hw 110 101 119 0 0 0 [110, 101, 119] (by decide) (by decide) (by decide), Option.bind_some]
  dsimp only
  by_cases k13 : wl (tx h) P n = [110, 101, 119]
  · rw [if_pos k13, if_neg (by decide), if_pos k13]
    rfl
  rw [if_neg k13, if_pos rfl, if_neg k13]
  rw [e12_isT hw 110 117 108 108 0 0 [110, 117, 108, 108] (by decide) (by decide) (by decide), Option.bind_some]
  dsimp only
  by_cases k14 : wl (tx h) P n = [110, 117, 108, 108]
  · rw [if_pos k14, if_neg (by decide), if_pos k14]
    rfl
  rw [if_neg k14, if_pos rfl, if_neg k14]
  rw [e12_isT hw 116 114 117 101 0 0 [116, 114, 117, 101] (by decide) (by decide) (by decide), Option.bind_some]
  dsimp only
  by_cases k15 : wl (tx h) P n = [116, 114, 117, 101]
  · rw [if_pos k15, if_neg (by decide), if_pos k15]
    rfl
  rw [if_neg k15, if_pos rfl, if_neg k15]
  rw [e12_isT hw 102 97 108 115 101 0 [102, 97, 108, 115, 101] (by decide) (by decide) (by decide), Option.bind_some]
  dsimp only
  by_cases k16 : wl (tx h) P n = [102, 97, 108, 115, 101]
  · rw [if_pos k16, if_neg (by decide), if_pos k16]
    rfl
  rw [if_neg k16, if_pos rfl, if_neg k16]
  rw [e12_isT hw 116 104 105 115 0 0 [116, 104, 105, 115] (by decide) (by decide) (by decide), Option.bind_some]
  dsimp only
  by_cases k17 : wl (tx h) P n = [116, 104, 105, 115]
  · rw [if_pos k17, if_neg (by decide), if_pos k17]
    rfl
  rw [if_neg k17, if_pos rfl, if_neg k17]
  rw [e12_isT hw 114 101 97 100 0 0 [114, 101, 97, 100] (by decide) (by decide) (by decide), Option.bind_some]
  dsimp only
  by_cases k18 : wl (tx h) P n = [114, 101, 97, 100]
  · rw [if_pos k18, if_neg (by decide), if_pos k18]
    rfl
  rw [if_neg k18, if_pos rfl, if_neg k18]
  rw [e12_isT hw 97 115 0 0 0 0 [97, 115] (by decide) (by decide) (by decide), Option.bind_some]
  dsimp only
  by_cases k19 : wl (tx h) P n = [97, 115]
  · rw [if_pos k19, if_neg (by decide), if_pos k19]
    rfl
  rw [if_neg k19, if_pos rfl, if_neg k19]
  rw [e12_isT hw 105 115 0 0 0 0 [105, 115] (by decide) (by decide) (by decide), Option.bind_some]
  dsimp only
  by_cases k20 : wl (tx h) P n = [105, 115]
  · rw [if_pos k20, if_neg (by decide), if_pos k20]
    rfl
  rw [if_neg k20, if_pos rfl, if_neg k20]
  rfl
