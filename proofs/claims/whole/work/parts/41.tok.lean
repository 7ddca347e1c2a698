/-! ===== TOKENS: the words of a text, by their number ===== -/
def skipN (s : Nat → Int32) (L : Nat) : Nat → Nat → Nat
  | 0, p => p
  | f + 1, p => if p < L ∧ isSp (s p) then skipN s L f (p + 1) else p
theorem skipN_ok (s : Nat → Int32) (L : Nat) : ∀ (f p : Nat), p ≤ L → L ≤ p + f → SkipTo s L p (skipN s L f p)
  | 0, p, h1, h2 => ⟨Nat.le_refl p, h1, fun i i1 i2 => by unfold skipN at i2; omega, Or.inl (by unfold skipN; omega)⟩
  | f + 1, p, h1, h2 => by
    unfold skipN
    by_cases hc : p < L ∧ isSp (s p)
    · rw [if_pos hc]
      obtain ⟨k1, k2, k3, k4⟩ := skipN_ok s L f (p + 1) (by omega) (by omega)
      refine ⟨by omega, k2, fun i i1 i2 => ?_, k4⟩
      by_cases z : i = p
      · subst z; exact hc.2
      · exact k3 i (by omega) i2
    · rw [if_neg hc]
      refine ⟨Nat.le_refl p, h1, fun i i1 i2 => by omega, ?_⟩
      by_cases z : p = L
      · exact Or.inl z
      · exact Or.inr (fun w => hc ⟨by omega, w⟩)
theorem SkipTo.uniq {s : Nat → Int32} {L p P Q : Nat} (h1 : SkipTo s L p P) (h2 : SkipTo s L p Q) : P = Q := by
  obtain ⟨a1, a2, a3, a4⟩ := h1
  obtain ⟨b1, b2, b3, b4⟩ := h2
  rcases Nat.lt_trichotomy P Q with h | h | h
  · exfalso
    have := b3 P a1 h
    rcases a4 with z | z
    · omega
    · exact z this
  · exact h
  · exfalso
    have := a3 Q b1 h
    rcases b4 with z | z
    · omega
    · exact z this
/-- the first place from p on that is no space -/
def skp (s : Nat → Int32) (L p : Nat) : Nat := skipN s L (L - p) p
theorem skp_ok (s : Nat → Int32) {L p : Nat} (h : p ≤ L) : SkipTo s L p (skp s L p) := skipN_ok s L (L - p) p h (by omega)
theorem RunOf.uniq {q : Int32 → Prop} {s : Nat → Int32} {L P n m : Nat} (h1 : RunOf q s L P n) (h2 : RunOf q s L P m) : n = m := by
  obtain ⟨a1, a2, a3⟩ := h1
  obtain ⟨b1, b2, b3⟩ := h2
  rcases Nat.lt_trichotomy n m with h | h | h
  · exfalso
    have := b2 n h
    rcases a3 with z | z
    · omega
    · exact z this
  · exact h
  · exfalso
    have := a2 m h
    rcases b3 with z | z
    · omega
    · exact z this
/-- the token at P: how long, of which kind, its number -/
theorem Tk_ex (s : Nat → Int32) {L P : Nat} (h : P ≤ L) : ∃ n K V, Tk s L P n K V := by
  by_cases hP : P = L
  · exact ⟨0, 0, 0, Or.inl ⟨hP, rfl, rfl, rfl⟩⟩
  · by_cases hl : isLt (s P)
    · obtain ⟨n, hn⟩ := run_ex alN s L (L - P) P (by omega)
      exact ⟨n, _, 0, Or.inr (Or.inl ⟨by omega, hl, hn, rfl, rfl⟩)⟩
    · by_cases hd : isDg (s P)
      · obtain ⟨n, hn⟩ := run_ex isDg s L (L - P) P (by omega)
        by_cases h9 : n ≤ 9
        · exact ⟨n, 23, numV s P n, Or.inr (Or.inr (Or.inl ⟨by omega, hl, hd, hn, Or.inl ⟨h9, rfl, rfl⟩⟩))⟩
        · exact ⟨n, 24, 0, Or.inr (Or.inr (Or.inl ⟨by omega, hl, hd, hn, Or.inr ⟨by omega, rfl, rfl⟩⟩))⟩
      · by_cases h2 : two2 (s P) (byt2 s L P) = 24
        · by_cases h3 : isSgn (s P)
          · exact ⟨1, s P, 0, Or.inr (Or.inr (Or.inr ⟨by omega, hl, hd, rfl, Or.inr (Or.inl ⟨h2, h3, rfl, rfl⟩)⟩))⟩
          · exact ⟨1, 24, 0, Or.inr (Or.inr (Or.inr ⟨by omega, hl, hd, rfl, Or.inr (Or.inr ⟨h2, h3, rfl, rfl⟩)⟩))⟩
        · exact ⟨2, _, 0, Or.inr (Or.inr (Or.inr ⟨by omega, hl, hd, rfl, Or.inl ⟨h2, rfl, rfl⟩⟩))⟩
theorem Tk.uniq {s : Nat → Int32} {L P n m : Nat} {K V K' V' : Int32} (h1 : Tk s L P n K V) (h2 : Tk s L P m K' V') : n = m ∧ K = K' ∧ V = V' := by
  rcases h1 with ⟨a0, a1, a2, a3⟩ | ⟨a0, a1, a2, a3, a4⟩ | ⟨a0, a1, a2, a3, a4⟩ | ⟨a0, a1, a2, a3, a4⟩
  · rcases h2 with ⟨b0, b1, b2, b3⟩ | ⟨b0, b1, b2, b3, b4⟩ | ⟨b0, b1, b2, b3, b4⟩ | ⟨b0, b1, b2, b3, b4⟩
    · exact ⟨a1.trans b1.symm, a2.trans b2.symm, a3.trans b3.symm⟩
    · omega
    · omega
    · omega
  · rcases h2 with ⟨b0, b1, b2, b3⟩ | ⟨b0, b1, b2, b3, b4⟩ | ⟨b0, b1, b2, b3, b4⟩ | ⟨b0, b1, b2, b3, b4⟩
    · omega
    · have e := a2.uniq b2
      subst e
      exact ⟨rfl, a3.trans b3.symm, a4.trans b4.symm⟩
    · exact absurd a1 b1
    · exact absurd a1 b1
  · rcases h2 with ⟨b0, b1, b2, b3⟩ | ⟨b0, b1, b2, b3, b4⟩ | ⟨b0, b1, b2, b3, b4⟩ | ⟨b0, b1, b2, b3, b4⟩
    · omega
    · exact absurd b1 a1
    · have e := a3.uniq b3
      subst e
      rcases a4 with ⟨c1, c2, c3⟩ | ⟨c1, c2, c3⟩ <;> rcases b4 with ⟨d1, d2, d3⟩ | ⟨d1, d2, d3⟩
      · exact ⟨rfl, c2.trans d2.symm, c3.trans d3.symm⟩
      · omega
      · omega
      · exact ⟨rfl, c2.trans d2.symm, c3.trans d3.symm⟩
    · exact absurd a2 b2
  · rcases h2 with ⟨b0, b1, b2, b3⟩ | ⟨b0, b1, b2, b3, b4⟩ | ⟨b0, b1, b2, b3, b4⟩ | ⟨b0, b1, b2, b3, b4⟩
    · omega
    · exact absurd b1 a1
    · exact absurd b2 a2
    · rcases a4 with ⟨c1, c2, c3⟩ | ⟨c1, c2, c3, c4⟩ | ⟨c1, c2, c3, c4⟩ <;> rcases b4 with ⟨d1, d2, d3⟩ | ⟨d1, d2, d3, d4⟩ | ⟨d1, d2, d3, d4⟩
      · exact ⟨c3.trans d3.symm, c2.trans d2.symm, a3.trans b3.symm⟩
      · exact absurd d1 c1
      · exact absurd d1 c1
      · exact absurd c1 d1
      · exact ⟨c4.trans d4.symm, c3.trans d3.symm, a3.trans b3.symm⟩
      · exact absurd c2 d2
      · exact absurd c1 d1
      · exact absurd d2 c2
      · exact ⟨c4.trans d4.symm, c3.trans d3.symm, a3.trans b3.symm⟩
theorem Tk.end_le {s : Nat → Int32} {L P n : Nat} {K V : Int32} (h : Tk s L P n K V) : P + n ≤ L := by
  rcases h with ⟨a0, a1, a2, a3⟩ | ⟨a0, a1, a2, a3, a4⟩ | ⟨a0, a1, a2, a3, a4⟩ | ⟨a0, a1, a2, a3, a4⟩
  · omega
  · exact a2.1
  · exact a3.1
  · rcases a4 with ⟨c1, c2, c3⟩ | ⟨c1, c2, c3, c4⟩ | ⟨c1, c2, c3, c4⟩
    · have : byt2 s L P ≠ 0 := by
        intro z
        refine c1 ?_
        rw [z]
        unfold two2
        rw [if_neg (by decide)]
        by_cases w : s P = 0
        · rw [if_pos w, w]; decide
        · rw [if_neg w]
      unfold byt2 at this
      by_cases w : L ≤ P + 1
      · rw [if_pos w] at this; exact absurd rfl this
      · omega
    · omega
    · omega
theorem Tk.pos {s : Nat → Int32} {L P n : Nat} {K V : Int32} (h : Tk s L P n K V) (hP : P < L) : 0 < n := by
  rcases h with ⟨a0, a1, a2, a3⟩ | ⟨a0, a1, a2, a3, a4⟩ | ⟨a0, a1, a2, a3, a4⟩ | ⟨a0, a1, a2, a3, a4⟩
  · omega
  · rcases Nat.eq_zero_or_pos n with z | z
    · subst z
      exact absurd (Or.inl a1) (a2.2.2.resolve_left (by omega))
    · exact z
  · rcases Nat.eq_zero_or_pos n with z | z
    · subst z
      exact absurd a2 (a3.2.2.resolve_left (by omega))
    · exact z
  · rcases a4 with ⟨c1, c2, c3⟩ | ⟨c1, c2, c3, c4⟩ | ⟨c1, c2, c3, c4⟩ <;> omega
/-- a text: its bytes and its length -/
abbrev Txt : Type := (Nat → Int32) × Nat
noncomputable def tkN (T : Txt) (P : Nat) : Nat := if h : P ≤ T.2 then Classical.choose (Tk_ex T.1 h) else 0
noncomputable def tkPE (T : Txt) : Nat → Nat × Nat
  | 0 => (skp T.1 T.2 0, skp T.1 T.2 0 + tkN T (skp T.1 T.2 0))
  | t + 1 => (skp T.1 T.2 (tkPE T t).2, skp T.1 T.2 (tkPE T t).2 + tkN T (skp T.1 T.2 (tkPE T t).2))
/-- where token t begins, where it ends -/
noncomputable def tkP (T : Txt) (t : Nat) : Nat := (tkPE T t).1
noncomputable def tkE (T : Txt) (t : Nat) : Nat := (tkPE T t).2
theorem tkN_ok (T : Txt) {P : Nat} (h : P ≤ T.2) : ∃ K V, Tk T.1 T.2 P (tkN T P) K V := by
  unfold tkN
  rw [dif_pos h]
  exact Classical.choose_spec (Tk_ex T.1 h)
theorem tkE_eq (T : Txt) (t : Nat) : tkE T t = tkP T t + tkN T (tkP T t) := by
  cases t <;> rfl
theorem tkP_le (T : Txt) : ∀ t, tkP T t ≤ T.2 ∧ tkE T t ≤ T.2
  | 0 => by
    have h1 : tkP T 0 ≤ T.2 := (skp_ok T.1 (Nat.zero_le T.2)).2.1
    obtain ⟨K, V, h2⟩ := tkN_ok T h1
    exact ⟨h1, by rw [tkE_eq]; exact h2.end_le⟩
  | t + 1 => by
    have h0 := tkP_le T t
    have h1 : tkP T (t + 1) ≤ T.2 := (skp_ok T.1 h0.2).2.1
    obtain ⟨K, V, h2⟩ := tkN_ok T h1
    exact ⟨h1, by rw [tkE_eq]; exact h2.end_le⟩
theorem tk_ok (T : Txt) (t : Nat) : ∃ K V, Tk T.1 T.2 (tkP T t) (tkN T (tkP T t)) K V := tkN_ok T (tkP_le T t).1
/-- its kind, as the class tells it; its number; its letters -/
noncomputable def tkK (T : Txt) (t : Nat) : Int32 := Classical.choose (tk_ok T t)
noncomputable def tkV (T : Txt) (t : Nat) : Int32 := Classical.choose (Classical.choose_spec (tk_ok T t))
noncomputable def tkW (T : Txt) (t : Nat) : List Int32 := wl T.1 (tkP T t) (tkN T (tkP T t))
theorem tk_is (T : Txt) (t : Nat) : Tk T.1 T.2 (tkP T t) (tkN T (tkP T t)) (tkK T t) (tkV T t) := Classical.choose_spec (Classical.choose_spec (tk_ok T t))
theorem tk_skip0 (T : Txt) : SkipTo T.1 T.2 0 (tkP T 0) := skp_ok T.1 (Nat.zero_le _)
theorem tk_skip (T : Txt) (t : Nat) : SkipTo T.1 T.2 (tkE T t) (tkP T (t + 1)) := skp_ok T.1 (tkP_le T t).2
theorem tkE_le_P (T : Txt) (t : Nat) : tkE T t ≤ tkP T (t + 1) := (tk_skip T t).1
theorem tkP_le_E (T : Txt) (t : Nat) : tkP T t ≤ tkE T t := by rw [tkE_eq]; omega
/-- a token that is not the end takes room -/
theorem tk_pos (T : Txt) {t : Nat} (h : tkK T t ≠ 0) : tkP T t < T.2 ∧ tkP T t < tkE T t := by
  have h1 := tk_is T t
  have h2 : tkP T t < T.2 := by
    rcases h1 with ⟨a0, a1, a2, a3⟩ | ⟨a0, a1⟩ | ⟨a0, a1⟩ | ⟨a0, a1⟩
    · exact absurd a2 h
    · exact a0
    · exact a0
    · exact a0
  refine ⟨h2, ?_⟩
  rw [tkE_eq]
  have := h1.pos h2
  omega
