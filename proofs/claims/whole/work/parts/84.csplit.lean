/-! ===== THE CLASS' SPLIT: the words of the text, in rows ===== -/
/-- the text stands in the tape -/
def TapeIs (T : Txt) (h : pH) : Prop := T.2 ≤ 3000 ∧ (∀ i, i < T.2 → rd h 7 i = T.1 i) ∧ ∀ i, i < T.2 → ∃ b, b < 256 ∧ T.1 i = Int32.ofNat b
theorem TapeIs.chg {A : Nat → Nat → Prop} {T : Txt} {h h' : pH} (q : TapeIs T h) (c : Chg A h h') (hA : ∀ i, ¬ A 7 i) : TapeIs T h' := ⟨q.1, fun i hi => (c.2.2.1 _ _ (hA i)).trans (q.2.1 i hi), q.2.2⟩
/-- the name of the letters added last, and the table behind -/
theorem e10_nameW {N U m : Nat} {h : pH} {ws : List (List Int32)} (hN : 3300 ≤ N) (nt : NT h ws U) (hl : ws.length < 3100) (e5 : rd h 8 5 = Int32.ofNat (U + m)) (hU : U + m ≤ 3246) (nd : ws.Nodup) :
    ∃ k r U' h1, fX10_nameOfLetters N 8 (Int32.ofNat U) h = some (Int32.ofNat k, h1) ∧ (ws ++ r)[k]? = some (wl (rd h 12) U m) ∧ NT h1 (ws ++ r) U' ∧ rd h1 8 5 = Int32.ofNat U' ∧ (ws ++ r).Nodup ∧ r.length ≤ 1 ∧ U' ≤ U + m ∧ Chg nmA h h1 := by
  rcases e10_nameOfLetters hN nt hl e5 hU with ⟨k, z1, z2⟩ | ⟨z1, z2⟩
  · refine ⟨k, [], U, _, z2, by rw [List.append_nil]; exact z1, ?_, w_8_5 nt.1 _, by rw [List.append_nil]; exact nd, by decide, by omega, Chg.wr _ _ _ _ (Or.inr ⟨rfl, Or.inl rfl⟩)⟩
    rw [List.append_nil]
    exact nt.chg (A := fun a k => a = 8 ∧ k = 5) (Chg.wr _ _ _ _ ⟨rfl, rfl⟩) (Nat.le_refl _) (by omega) (fun i hi => by omega) (fun a k a1 a2 => by omega)
  · have nt2 := nnH_nt (m := m) nt hl
    have c2 := nnH_chg h ws.length U m (hshN (wl (rd h 12) U m))
    refine ⟨ws.length, [wl (rd h 12) U m], U + m, _, z2, ?_, nt2, ?_, ?_, Nat.le_refl 1, Nat.le_refl _, c2.mono fun a k z => ?_⟩
    · rw [List.getElem?_append_right (Nat.le_refl _), Nat.sub_self]; rfl
    · rw [c2.2.2.1 _ _ (by unfold nnA; omega)]; exact e5
    · refine List.nodup_append.mpr ⟨nd, by simp, fun a ha b hb hab => ?_⟩
      subst hab
      rw [List.mem_singleton] at hb
      subst hb
      obtain ⟨k, hk⟩ := List.getElem?_of_mem ha
      exact z1 k hk
    · unfold nnA at z; unfold nmA; omega
theorem nd_inj {ws : List (List Int32)} {w : List Int32} {i j : Nat} (nd : ws.Nodup) (hi : ws[i]? = some w) (hj : ws[j]? = some w) : i = j := by
  exact (List.getElem?_inj (List.getElem?_eq_some_iff.mp hi).1 nd).mp (hi.trans hj.symm)
/-- the kind and the value of a word that begins with a letter -/
theorem name_kind {r : List (List Int32)} {w : List Int32} {k : Nat} (nd : (fxW ++ r).Nodup) (hk : (fxW ++ r)[k]? = some w) : (k < 21 → keyS w = k + 1) ∧ (21 ≤ k → keyS w = 0) := by
  refine ⟨fun h => ?_, fun h => ?_⟩
  · rw [List.getElem?_append_left (by have : fxW.length = 29 := rfl; omega)] at hk
    exact keyS_at h hk
  · by_cases z : keyS w = 0
    · exact z
    · have h1 := keyS_fx w z
      have h2 := keyS_le w
      have h3 : (fxW ++ r)[keyS w - 1]? = some w := by
        rw [List.getElem?_append_left (by have : fxW.length = 29 := rfl; omega)]
        exact h1
      have := nd_inj nd hk h3
      omega
/-- the rows that split writes -/
def wdA : Nat → Nat → Prop := fun a k => (9 ≤ a ∧ a ≤ 16) ∨ (a = 8 ∧ (k = 3 ∨ k = 5 ∨ k = 10))
/-- word t, with its value -/
def wordAt (T : Txt) (ws : List (List Int32)) (h : pH) (t : Nat) : Prop := rd h 9 t = tkK T t ∧ rd h 11 t = Int32.ofNat (tkP T t) ∧ (tkK T t = 22 → ∃ k, 21 ≤ k ∧ rd h 10 t = Int32.ofNat k ∧ ws[k]? = some (tkW T t)) ∧ (tkK T t = 23 → rd h 10 t = tkV T t)
/-- t words are read, the tape stands at p -/
def WI (T : Txt) (r : List (List Int32)) (U t p : Nat) (h : pH) : Prop := TapeIs T h ∧ NT h (fxW ++ r) U ∧ rd h 8 5 = Int32.ofNat U ∧ rd h 8 3 = Int32.ofNat t ∧ (fxW ++ r).Nodup ∧ r.length ≤ p ∧ U ≤ 117 + p ∧ t ≤ p ∧ ∀ i, i < t → tkK T i ≠ 0 ∧ tkK T i ≠ 24 ∧ wordAt T (fxW ++ r) h i
def aw (h : pH) (t : Nat) (K V P : Int32) : pH := wr (wr (wr (wr h 9 t K) 10 t V) 11 t P) 8 3 (Int32.ofNat (t + 1))
def awA (t : Nat) : Nat → Nat → Prop := fun a k => (9 ≤ a ∧ a ≤ 11 ∧ k = t) ∨ (a = 8 ∧ k = 3)
theorem aw_chg (h : pH) (t : Nat) (K V P : Int32) : Chg (awA t) h (aw h t K V P) := by
  unfold aw
  refine (((Chg.wr _ _ _ _ ?_).trans (Chg.wr _ _ _ _ ?_)).trans (Chg.wr _ _ _ _ ?_)).trans (Chg.wr _ _ _ _ ?_) <;> unfold awA <;> omega
theorem aw_rd {h : pH} (hs : Sg h) (t : Nat) (K V P : Int32) : rd (aw h t K V P) 9 t = K ∧ rd (aw h t K V P) 10 t = V ∧ rd (aw h t K V P) 11 t = P ∧ rd (aw h t K V P) 8 3 = Int32.ofNat (t + 1) := by
  have s1 := hs.wr 9 t K
  have s2 := s1.wr 10 t V
  have s3 := s2.wr 11 t P
  unfold aw
  refine ⟨?_, ?_, ?_, w_8_3 s3 _⟩
  · rw [rd_wr_ne _ _ (by omega), rd_wr_ne _ _ (by omega), rd_wr_ne _ _ (by omega), W_9 hs]
  · rw [rd_wr_ne _ _ (by omega), rd_wr_ne _ _ (by omega), W_10 s1]
  · rw [rd_wr_ne _ _ (by omega), W_11 s2]
theorem wordAt.chg {A : Nat → Nat → Prop} {T : Txt} {ws ws' : List (List Int32)} {h h' : pH} {t : Nat} (q : wordAt T ws h t) (c : Chg A h h') (hA : ∀ a, 9 ≤ a → a ≤ 11 → ¬ A a t) (hw : ∀ (k : Nat) w, ws[k]? = some w → ws'[k]? = some w) : wordAt T ws' h' t := by
  obtain ⟨q1, q2, q3, q4⟩ := q
  refine ⟨(c.2.2.1 _ _ (hA 9 (by omega) (by omega))).trans q1, (c.2.2.1 _ _ (hA 11 (by omega) (by omega))).trans q2, fun z => ?_, fun z => (c.2.2.1 _ _ (hA 10 (by omega) (by omega))).trans (q4 z)⟩
  obtain ⟨k, k1, k2, k3⟩ := q3 z
  exact ⟨k, k1, (c.2.2.1 _ _ (hA 10 (by omega) (by omega))).trans k2, hw k _ k3⟩
/-- the state behind a further word -/
theorem WI.add {T : Txt} {r s : List (List Int32)} {U U' t p n : Nat} {h h1 : pH} {V : Int32} (q : WI T r U t p h) (nt : NT h1 (fxW ++ r ++ s) U') (c : Chg nmA h h1) (e5 : rd h1 8 5 = Int32.ofNat U') (nd : (fxW ++ r ++ s).Nodup) (hs : s.length ≤ n) (hU : U' ≤ U + n) (h1n : 1 ≤ n) (hK0 : tkK T t ≠ 0) (hK : tkK T t ≠ 24)
    (h22 : tkK T t = 22 → ∃ k, 21 ≤ k ∧ V = Int32.ofNat k ∧ (fxW ++ r ++ s)[k]? = some (tkW T t)) (h23 : tkK T t = 23 → V = tkV T t) : WI T (r ++ s) U' (t + 1) (p + n) (aw h1 t (tkK T t) V (Int32.ofNat (tkP T t))) := by
  obtain ⟨q1, q2, q3, q4, q5, q6, q7, q8, q9⟩ := q
  have c2 := aw_chg h1 t (tkK T t) V (Int32.ofNat (tkP T t))
  obtain ⟨a1, a2, a3, a4⟩ := aw_rd nt.1 t (tkK T t) V (Int32.ofNat (tkP T t))
  rw [List.append_assoc] at nt nd h22
  refine ⟨(q1.chg c (fun i => by unfold nmA; omega)).chg c2 (fun i => by unfold awA; omega), nt.chg c2 (Nat.le_refl _) (by unfold awA; omega) (fun i hi => by unfold awA; omega) (fun a k k1 k2 => by unfold awA; omega), ?_, a4, nd, by rw [List.length_append]; omega, by omega, by omega, fun i hi => ?_⟩
  · rw [c2.2.2.1 _ _ (by unfold awA; omega)]; exact e5
  · by_cases z : i = t
    · subst z
      refine ⟨hK0, hK, a1, a3, fun y => ?_, fun y => ?_⟩
      · obtain ⟨k, k1, k2, k3⟩ := h22 y
        exact ⟨k, k1, by rw [a2]; exact k2, k3⟩
      · rw [a2]; exact h23 y
    · obtain ⟨b1, b2, b3⟩ := q9 i (by omega)
      refine ⟨b1, b2, (b3.chg c (fun a k1 k2 => by unfold nmA; omega) (fun k w hk => hk)).chg c2 (fun a k1 k2 => by unfold awA; omega) (fun k w hk => ?_)⟩
      rw [← List.append_assoc, List.getElem?_append_left (List.getElem?_eq_some_iff.mp hk).1]
      exact hk
