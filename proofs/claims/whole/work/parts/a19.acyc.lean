/-! ===== NO CLASS IS ON ITS OWN WAY: every way ends ===== -/
def Pgm.up (P : Pgm) (c : Nat) : Nat := match P.par c with
  | some d => d
  | none => 0
def Pgm.it (P : Pgm) (c : Nat) : Nat → Nat
  | 0 => c
  | i + 1 => P.up (Pgm.it P c i)
theorem Pgm.it_shift (P : Pgm) (c : Nat) {i j : Nat} (h : P.it c i = P.it c j) : ∀ t, P.it c (i + t) = P.it c (j + t)
  | 0 => h
  | t + 1 => by
    show P.up (P.it c (i + t)) = P.up (P.it c (j + t))
    rw [Pgm.it_shift P c h t]
/-- the way from c ends within f -/
def Pgm.endF (P : Pgm) : Nat → Nat → Bool
  | 0, _ => false
  | f + 1, c => match P.par c with
    | none => true
    | some d => Pgm.endF P f d
theorem Pgm.up_some {P : Pgm} {c d : Nat} (h : P.par c = some d) : P.up c = d := by unfold Pgm.up; rw [h]
theorem Pgm.it_succ' (P : Pgm) (c : Nat) : ∀ i, P.it c (i + 1) = P.it (P.up c) i
  | 0 => rfl
  | i + 1 => by
    show P.up (P.it c (i + 1)) = P.up (P.it (P.up c) i)
    rw [Pgm.it_succ' P c i]
theorem Pgm.endF_false {P : Pgm} : ∀ {f c : Nat}, P.endF f c = false → ∀ i, i < f → P.par (P.it c i) = some (P.it c (i + 1))
  | 0, c, _, i, hi => by omega
  | f + 1, c, h, i, hi => by
    unfold Pgm.endF at h
    rcases hp : P.par c with _ | d
    · rw [hp] at h
      cases h
    · rw [hp] at h
      cases i with
      | zero =>
        show P.par c = some (P.up c)
        rw [hp, Pgm.up_some hp]
      | succ i =>
        have := Pgm.endF_false h i (by omega)
        rw [Pgm.it_succ', Pgm.it_succ', Pgm.up_some hp]
        exact this
theorem Pgm.b3F_true {P : Pgm} {c x : Nat} : ∀ (d i f : Nat), 1 ≤ d → d ≤ f → (∀ t, t < d → P.par (P.it c (i + t)) = some (P.it c (i + t + 1))) → P.it c (i + d) = x → P.b3F x f (P.par (P.it c i)) = true
  | 0, i, f, h1, _, _, _ => by omega
  | d + 1, i, f, h1, h2, h3, h4 => by
    obtain ⟨f, rfl⟩ : ∃ f', f = f' + 1 := ⟨f - 1, by omega⟩
    have h0 := h3 0 (by omega)
    rw [Nat.add_zero] at h0
    rw [h0]
    unfold Pgm.b3F
    by_cases z : P.it c (i + 1) = x
    · rw [if_pos z]
    · rw [if_neg z]
      rcases Nat.eq_zero_or_pos d with y | y
      · subst y
        exact absurd h4 z
      · refine Pgm.b3F_true d (i + 1) f y (by omega) (fun t ht => ?_) ?_
        · have := h3 (t + 1) (by omega)
          rw [show i + 1 + t = i + (t + 1) by omega]
          exact this
        · rw [show i + 1 + d = i + (d + 1) by omega]
          exact h4
theorem Pgm.par_5 {P : Pgm} {c d : Nat} (h : P.par c = some d) : 5 ≤ c ∧ c < P.n := by
  unfold Pgm.par Pgm.pw at h
  rcases Nat.lt_or_ge c 5 with z | z
  · rw [if_pos z] at h
    cases h
  · rw [if_neg (by omega)] at h
    refine ⟨z, ?_⟩
    rcases hx : P.2[c - 5]? with _ | x
    · rw [hx] at h
      cases h
    · have := (List.getElem?_eq_some_iff.mp hx).1
      unfold Pgm.n
      omega
/-- all ways end -/
def Acy (P : Pgm) : Prop := ∀ c, c < P.n → P.endF P.n c = true
theorem Pgm.acy {P : Pgm} (h : fstN P.b3 P.2.length 5 = none) : Acy P := by
  intro c hc
  cases he : P.endF P.n c with
  | true => rfl
  | false =>
    exfalso
    have h1 := Pgm.endF_false he
    obtain ⟨i, j, i1, i2, i3⟩ := pig P.n (P.it c) (fun i hi => by
      cases i with
      | zero => exact hc
      | succ i => exact Pgm.par_lt (h1 i (by omega)))
    have hp := h1 i (by omega)
    obtain ⟨h5, hn⟩ := Pgm.par_5 hp
    have hb : P.b3 (P.it c i) = true := Pgm.b3F_true (j - i) i P.n (by omega) (by omega) (fun t ht => h1 (i + t) (by omega)) (by rw [show i + (j - i) = j by omega]; exact i3.symm)
    have hnn : P.n = 5 + P.2.length := rfl
    have := fstN_none h (P.it c i) h5 (by omega)
    rw [hb] at this
    cases this
theorem Pgm.b3F_false {P : Pgm} {c x : Nat} : ∀ {f i : Nat}, P.b3F x f (P.par (P.it c i)) = false → P.b3F x (f + 1) (P.par (P.it c i)) = true → (∀ t, t ≤ f → P.par (P.it c (i + t)) = some (P.it c (i + t + 1))) ∧ (∀ t, 1 ≤ t → t ≤ f → P.it c (i + t) ≠ x) ∧ P.it c (i + f + 1) = x
  | 0, i, h1, h2 => by
    rcases hp : P.par (P.it c i) with _ | d
    · rw [hp] at h2
      cases h2
    · rw [hp] at h2
      have hu : P.it c (i + 1) = d := Pgm.up_some hp
      unfold Pgm.b3F at h2
      split at h2
      · rename_i z
        refine ⟨fun t ht => ?_, fun t t1 t2 => by omega, by rw [Nat.add_zero, hu]; exact z⟩
        obtain rfl : t = 0 := by omega
        rw [Nat.add_zero, hp, hu]
      · unfold Pgm.b3F at h2
        cases h2
  | f + 1, i, h1, h2 => by
    rcases hp : P.par (P.it c i) with _ | d
    · rw [hp] at h2
      cases h2
    · rw [hp] at h1 h2
      have hu : P.it c (i + 1) = d := Pgm.up_some hp
      unfold Pgm.b3F at h1 h2
      by_cases z : d = x
      · rw [if_pos z] at h1
        cases h1
      · rw [if_neg z] at h1 h2
        rw [← hu] at h1 h2
        obtain ⟨a1, a2, a3⟩ := Pgm.b3F_false h1 h2
        refine ⟨fun t ht => ?_, fun t t1 t2 => ?_, by rw [show i + (f + 1) + 1 = i + 1 + f + 1 by omega]; exact a3⟩
        · cases t with
          | zero => rw [Nat.add_zero, hp, hu]
          | succ t =>
            have := a1 t (by omega)
            rw [show i + (t + 1) = i + 1 + t by omega]
            exact this
        · by_cases y : t = 1
          · subst y; rw [hu]; exact z
          · have := a2 (t - 1) (by omega) (by omega)
            rw [show i + 1 + (t - 1) = i + t by omega] at this
            exact this
theorem Pgm.b3_more {P : Pgm} {c : Nat} (hc : c < P.n) : P.b3F c (P.n + 1) (P.par c) = P.b3 c := by
  cases hb : P.b3 c with
  | true =>
    have mono : ∀ (f : Nat) (o : Option Nat), P.b3F c f o = true → P.b3F c (f + 1) o = true := by
      intro f
      induction f with
      | zero => intro o h; cases o <;> cases h
      | succ f ih =>
        intro o h
        cases o with
        | none => cases h
        | some d =>
          unfold Pgm.b3F at h ⊢
          by_cases z : d = c
          · rw [if_pos z]
          · rw [if_neg z] at h ⊢
            exact ih _ h
    exact mono _ _ hb
  | false =>
    cases h2 : P.b3F c (P.n + 1) (P.par c) with
    | false => rfl
    | true =>
      exfalso
      obtain ⟨a1, a2, a3⟩ := Pgm.b3F_false (P := P) (c := c) (x := c) (f := P.n) (i := 0) hb h2
      obtain ⟨i, j, i1, i2, i3⟩ := pig P.n (P.it c) (fun i hi => by
        cases i with
        | zero => exact hc
        | succ i =>
          have := a1 i (by omega)
          rw [Nat.zero_add] at this
          exact Pgm.par_lt this)
      have hs := Pgm.it_shift P c i3 (P.n + 1 - j)
      rw [show j + (P.n + 1 - j) = 0 + P.n + 1 by omega, a3] at hs
      have hne := a2 (i + (P.n + 1 - j)) (by omega) (by omega)
      rw [Nat.zero_add] at hne
      exact hne hs
