/-! ===== THE REFERENCE: a word of an object is written ===== -/
theorem LyR.apart {hp : List Ob} {B O : Nat → Nat} : ∀ {L : List Nat} {n a : Nat}, LyR hp B O L n a → ∀ i k, i ∈ L → k ∈ L → i ≠ k → O i + obL hp i ≤ O k ∨ O k + obL hp k ≤ O i
  | [], n, a, _, i, k, hi, _, _ => by cases hi
  | x :: L, n, a, ⟨h1, h2, h3, h4, h5, h6⟩, i, k, hi, hk, hne => by
    rcases List.mem_cons.mp hi with rfl | hi'
    · rcases List.mem_cons.mp hk with rfl | hk'
      · exact absurd rfl hne
      · have := h6.bd k hk'
        omega
    · rcases List.mem_cons.mp hk with rfl | hk'
      · have := h6.bd i hi'
        omega
      · exact LyR.apart h6 i k hi' hk' hne
theorem HpR.set {P : Pgm} {hp : List Ob} {H : Nat} {B O : Nat → Nat} {L : List Nat} {h : pH} (sg : Sg h) (ho : HO P hp) (q : HpR hp H B O L h) {i j : Nat} {ob : Ob} (hi : i ∈ L) (hob : hp[i]? = some ob) (hj : j < ob.2.length) {x : Int32} {v : Vl} (hw : RV B L x (rd h 192 (O i + j)) v) : HpR (obS hp i j v) H B O L (wr h 191 (O i + j) x) := by
  obtain ⟨q1, q2, q3, q4, q5, q6, q7, q8, q9⟩ := q
  have eS : obS hp i j v = hp.set i (ob.1, ob.2.set j v) := obS_some hob j v
  have hil : i < hp.length := (List.getElem?_eq_some_iff.mp hob).1
  have eL : ∀ k, obL (obS hp i j v) k = obL hp k := fun k => by
    rw [eS]
    unfold obL
    rw [List.getElem?_set]
    by_cases z : i = k
    · subst z
      rw [if_pos rfl, if_pos hil, hob]
      dsimp only
      rw [List.length_set]
    · rw [if_neg z]
  have eT : ∀ l, tot (obS hp i j v) l = tot hp l := fun l => by
    induction l with
    | nil => rfl
    | cons k l ih =>
      show 2 + obL _ k + tot _ l = 2 + obL hp k + tot hp l
      rw [eL, ih]
  have eT2 : ∀ l, totL (obS hp i j v) l = totL hp l := fun l => by
    induction l with
    | nil => rfl
    | cons k l ih =>
      show obL _ k + totL _ l = obL hp k + totL hp l
      rw [eL, ih]
  have eLy : ∀ l n a, LyR hp B O l n a → LyR (obS hp i j v) B O l n a := fun l => by
    induction l with
    | nil => intro n a _; trivial
    | cons k l ih =>
      intro n a ⟨h1, h2, h3, h4, h5, h6⟩
      refine ⟨h1, h2, h3, h4, by rw [eS, List.length_set]; exact h5, ?_⟩
      rw [eL]
      exact ih _ _ h6
  have h5 : 5 ≤ i := (q2.bd i hi).2.2.2.2.1
  have oth : ∀ k, i ≠ k → (k ∈ L ∨ k < 5) → ObR hp B O L h k → ObR (obS hp i j v) B O L (wr h 191 (O i + j) x) k := fun k hki hk hq ob' hob' => by
    rw [eS, List.getElem?_set, if_neg hki] at hob'
    obtain ⟨c1, c2, c3, c4⟩ := hq ob' hob'
    refine ⟨by rw [rd_wr_ne _ _ (by omega)]; exact c1, by rw [rd_wr_ne _ _ (by omega)]; exact c2, by rw [rd_wr_ne _ _ (by omega)]; exact c3, fun j' v' hj' => ?_⟩
    have hjl := (List.getElem?_eq_some_iff.mp hj').1
    by_cases k5 : k < 5
    · rw [ho.1 k k5] at hob'
      obtain rfl := Option.some.inj hob'
      exact absurd hjl (Nat.not_lt_zero _)
    · have ap := q2.apart i k hi (hk.resolve_right k5) hki
      rw [obL_get hob, obL_get hob'] at ap
      rw [rd_wr_ne _ _ (by omega), rd_wr_ne _ _ (by omega)]
      exact c4 j' v' hj'
  refine ⟨fun k hk => ⟨(q1 k hk).1, (q1 k hk).2.1, oth k (by omega) (Or.inr hk) (q1 k hk).2.2⟩, eLy L 5 0 q2, by rw [rd_wr_ne _ _ (by omega)]; exact q3, by rw [rd_wr_ne _ _ (by omega), eT2]; exact q4, by rw [rd_wr_ne _ _ (by omega), eT]; exact q5, by rw [eT]; exact q6, q7, by rw [rd_wr_ne _ _ (by omega)]; exact q8, fun k hk => ?_⟩
  by_cases hki : i = k
  · subst hki
    intro ob' hob'
    rw [eS, List.getElem?_set, if_pos rfl, if_pos hil] at hob'
    obtain rfl := Option.some.inj hob'
    obtain ⟨c1, c2, c3, c4⟩ := q9 i hi ob hob
    refine ⟨by rw [rd_wr_ne _ _ (by omega)]; exact c1, by rw [rd_wr_ne _ _ (by omega)]; exact c2, ?_, fun j' v' hj' => ?_⟩
    · rw [rd_wr_ne _ _ (by omega)]
      show _ = Int32.ofNat (ob.2.set j v).length
      rw [List.length_set]; exact c3
    · have hj' : (ob.2.set j v)[j']? = some v' := hj'
      rw [List.getElem?_set] at hj'
      by_cases hjj : j = j'
      · subst hjj
        rw [if_pos rfl, if_pos hj] at hj'
        obtain rfl := Option.some.inj hj'
        rw [W_191 sg, rd_wr_ne _ _ (by omega)]
        exact hw
      · rw [if_neg hjj] at hj'
        rw [rd_wr_ne _ _ (by omega), rd_wr_ne _ _ (by omega)]
        exact c4 j' v' hj'
  · exact oth k hki (Or.inl hk) (q9 k hk)
