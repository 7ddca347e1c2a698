/-! ===== THE CLASS' SPLIT: all words ===== -/
/-- the words of the text stand in the rows, up to the first that is wrong, or the end -/
def WS (T : Txt) (r : List (List Int32)) (n : Nat) (h : pH) : Prop := Sg h ∧ T.2 ≤ 3000 ∧ n ≤ T.2 ∧ (fxW ++ r).Nodup ∧ r.length ≤ 3000 ∧ (∀ i, i < n → tkK T i ≠ 0 ∧ tkK T i ≠ 24) ∧ (∀ i, i ≤ n → wordAt T (fxW ++ r) h i) ∧ ((tkK T n = 0 ∧ rd h 8 3 = Int32.ofNat (n + 1)) ∨ (tkK T n = 24 ∧ rd h 8 3 = Int32.ofNat (n + 2) ∧ rd h 9 (n + 1) = 0))
theorem WS.chg {A : Nat → Nat → Prop} {T : Txt} {r : List (List Int32)} {n : Nat} {h h' : pH} (q : WS T r n h) (c : Chg A h h') (hA : ∀ a k, 9 ≤ a → a ≤ 11 → ¬ A a k) (h3 : ¬ A 8 3) : WS T r n h' := by
  obtain ⟨q1, q2, q3, q4, q5, q6, q7, q8⟩ := q
  refine ⟨c.sg q1, q2, q3, q4, q5, q6, fun i hi => (q7 i hi).chg c (fun a k1 k2 => hA a i k1 k2) (fun k w hk => hk), ?_⟩
  rcases q8 with ⟨z1, z2⟩ | ⟨z1, z2, z3⟩
  · exact Or.inl ⟨z1, by rw [c.2.2.1 _ _ h3]; exact z2⟩
  · exact Or.inr ⟨z1, by rw [c.2.2.1 _ _ h3]; exact z2, by rw [c.2.2.1 _ _ (hA 9 (n + 1) (by omega) (by omega))]; exact z3⟩
theorem split_41 {N t : Nat} {T : Txt} {h : pH} (hs : Sg h) (e3 : rd h 8 3 = Int32.ofNat t) (ht : t < 3100) : fX10_split_41 N 8 (Int32.ofNat T.2) h = some (aw h t 0 0 (Int32.ofNat T.2)) := by
  unfold fX10_split_41
  rw [e10_addWord _ _ _ hs e3 ht, Option.bind_some]
  rfl
theorem split_14 {N : Nat} {T : Txt} (hN : 3300 ≤ N) : ∀ (d n p g t U : Nat) (r : List (List Int32)) (h : pH), T.2 ≤ p + d → p ≤ T.2 → g ≤ p → WI T r U t p h → SkipTo T.1 T.2 p (tkP T t) →
    ∃ h' r' m, fX10_split_14 N (n + d + 2) 8 7 (Int32.ofNat T.2) (Int32.ofNat p) (Int32.ofNat g) h = some h' ∧ WS T r' m h' ∧ Chg wdA h h'
  | 0, n, p, g, t, U, r, h, hd, hpL, hg, q, hk => by
    obtain ⟨q1, q2, q3, q4, q5, q6, q7, q8, q9⟩ := id q
    have hL := q1.1
    have hP : tkP T t = T.2 := by have := hk.1; have := hk.2.1; omega
    have hK : tkK T t = 0 := Tk_end (tk_is T t) hP
    have c := aw_chg h t 0 0 (Int32.ofNat T.2)
    obtain ⟨a1, a2, a3, a4⟩ := aw_rd q2.1 t 0 0 (Int32.ofNat T.2)
    refine ⟨aw h t 0 0 (Int32.ofNat T.2), r, t, ?_, ⟨c.sg q2.1, hL, by omega, q5, by omega, fun i hi => ⟨(q9 i hi).1, (q9 i hi).2.1⟩, fun i hi => ?_, Or.inl ⟨hK, a4⟩⟩, c.mono (fun a k z => by unfold awA at z; unfold wdA; omega)⟩
    · rw [fX10_split_14, show (3100 : Int32) = Int32.ofNat 3100 from rfl, ifLe (by decide) (by omega), if_neg (by omega), ifLe (by omega) (by omega), if_pos (by omega)]
      exact split_41 q2.1 q4 (by omega)
    · by_cases z : i = t
      · subst z
        exact ⟨by rw [hK]; exact a1, by rw [hP]; exact a3, (fun y => by rw [hK] at y; exact absurd y (by decide)), (fun y => by rw [hK] at y; exact absurd y (by decide))⟩
      · exact (q9 i (by omega)).2.2.chg c (fun a k1 k2 => by unfold awA; omega) (fun k w hk => hk)
  | d + 1, n, p, g, t, U, r, h, hd, hpL, hg, q, hk => by
    by_cases hp : p = T.2
    · obtain ⟨h', r', m, e1, e2, e3⟩ := split_14 hN d (n + 1) p g t U r h (by omega) hpL hg q hk
      rw [show n + 1 + d + 2 = n + (d + 1) + 2 by omega] at e1
      exact ⟨h', r', m, e1, e2, e3⟩
    · obtain ⟨q1, q2, q3, q4, q5, q6, q7, q8, q9⟩ := id q
      have hL := q1.1
      have step : ∀ x h1, fX10_takeWord N 8 7 (Int32.ofNat T.2) (Int32.ofNat p) h = some (x, h1) → fX10_split_14 N (n + (d + 1) + 2) 8 7 (Int32.ofNat T.2) (Int32.ofNat p) (Int32.ofNat g) h = fX10_split_14 N (n + d + 2) 8 7 (Int32.ofNat T.2) x (Int32.ofNat (g + 1)) h1 := by
        intro x h1 e
        rw [show n + (d + 1) + 2 = (n + d + 2) + 1 by omega, fX10_split_14, show (3100 : Int32) = Int32.ofNat 3100 from rfl, ifLe (by decide) (by omega), if_neg (by omega), ifLe (by omega) (by omega), if_neg (by omega), e, Option.bind_some, i_add1]
      rcases q.takeWord hN (by omega) hk with ⟨z1, z2⟩ | ⟨z1, z2, s, U', h1, z3, z4, z5⟩ | ⟨z1, z2, z3⟩
      · have qq : WI T r U t (p + 1) h := ⟨q1, q2, q3, q4, q5, by omega, by omega, by omega, q9⟩
        obtain ⟨h', r', m, e1, e2, e3⟩ := split_14 hN d n (p + 1) (g + 1) t U r h (by omega) (by omega) (by omega) qq ⟨by omega, hk.2.1, fun i i1 i2 => hk.2.2.1 i (by omega) i2, hk.2.2.2⟩
        exact ⟨h', r', m, by rw [step _ _ z2]; exact e1, e2, e3⟩
      · have hE := (tkP_le T t).2
        have hpos := tk_pos T (t := t) (fun y => by have := Tk_zero (tk_is T t) y; omega)
        obtain ⟨h', r', m, e1, e2, e3⟩ := split_14 hN d n (tkE T t) (g + 1) (t + 1) U' (r ++ s) h1 (by omega) hE (by omega) z4 (tk_skip T t)
        exact ⟨h', r', m, by rw [step _ _ z3]; exact e1, e2, z5.trans e3⟩
      · have c := aw_chg h t 24 0 (Int32.ofNat p)
        obtain ⟨a1, a2, a3, a4⟩ := aw_rd q2.1 t 24 0 (Int32.ofNat p)
        have s1 := c.sg q2.1
        have c2 := aw_chg (aw h t 24 0 (Int32.ofNat p)) (t + 1) 0 0 (Int32.ofNat T.2)
        obtain ⟨b1, b2, b3, b4⟩ := aw_rd s1 (t + 1) 0 0 (Int32.ofNat T.2)
        refine ⟨aw (aw h t 24 0 (Int32.ofNat p)) (t + 1) 0 0 (Int32.ofNat T.2), r, t, ?_, ⟨c2.sg s1, hL, by omega, q5, by omega, fun i hi => ⟨(q9 i hi).1, (q9 i hi).2.1⟩, fun i hi => ?_, Or.inr ⟨z2, b4, b1⟩⟩, (c.mono (fun a k z => by unfold awA at z; unfold wdA; omega)).trans (c2.mono (fun a k z => by unfold awA at z; unfold wdA; omega))⟩
        · rw [step _ _ z3, fX10_split_14, show (3100 : Int32) = Int32.ofNat 3100 from rfl, ifLe (by decide) (by omega), if_neg (by omega), ifLe (by omega) (by omega), if_pos (by omega)]
          exact split_41 s1 a4 (by omega)
        · by_cases z : i = t
          · subst z
            exact (show wordAt T (fxW ++ r) (aw h i 24 0 (Int32.ofNat p)) i from ⟨by rw [z2]; exact a1, by rw [← z1]; exact a3, (fun y => by rw [z2] at y; exact absurd y (by decide)), (fun y => by rw [z2] at y; exact absurd y (by decide))⟩).chg c2 (fun a k1 k2 => by unfold awA; omega) (fun k w hk => hk)
          · exact ((q9 i (by omega)).2.2.chg c (fun a k1 k2 => by unfold awA; omega) (fun k w hk => hk)).chg c2 (fun a k1 k2 => by unfold awA; omega) (fun k w hk => hk)
/-- the words behind split -/
theorem e10_split {N : Nat} {T : Txt} {h : pH} (hN : 3400 ≤ N) (hs : Sg h) (ht : TapeIs T h) : ∃ h' r n, fX10_split N 8 7 (Int32.ofNat T.2) h = some h' ∧ WS T r n h' ∧ Chg wdA h h' := by
  have s1 := hs.wr 8 3 0
  obtain ⟨h1, k1, k2, k3, k4⟩ := e10_nameFixedWords (N := N) (by omega) s1
  have hL := ht.1
  have c1 : Chg wdA h (wr h 8 3 0) := Chg.wr _ _ _ _ (Or.inr ⟨rfl, Or.inl rfl⟩)
  have c2 : Chg wdA (wr h 8 3 0) h1 := k4.mono (fun a k z => by unfold nmA at z; unfold wdA; omega)
  have qi : WI T [] 117 0 0 h1 := by
    refine ⟨(ht.chg c1 (fun i => by unfold wdA; omega)).chg k4 (fun i => by unfold nmA; omega), by rw [List.append_nil]; exact k2, k3, ?_, by rw [List.append_nil]; exact fxW_nd, Nat.zero_le _, by decide, Nat.le_refl _, fun i hi => by omega⟩
    rw [k4.2.2.1 _ _ (by unfold nmA; omega)]
    exact w_8_3 hs 0
  obtain ⟨h', r', m, e1, e2, e3⟩ := split_14 (N := N) (T := T) (by omega) T.2 (N - (T.2 + 2)) 0 0 0 117 [] h1 (by omega) (Nat.zero_le _) (Nat.le_refl _) qi (tk_skip0 T)
  rw [show N - (T.2 + 2) + T.2 + 2 = N by omega] at e1
  refine ⟨h', r', m, ?_, e2, (c1.trans c2).trans e3⟩
  unfold fX10_split
  rw [if_pos (o_8 hs), p_8_3 hs, Option.bind_some, k1, Option.bind_some, if_neg (by decide)]
  exact e1
