/-! ===== THE CLASS' OBJECTS ===== -/
theorem CT.st {P : Pgm} {D : List Int32 → Prop} {num : List Int32 → Nat} {g h : pH} (q : CT P D num g) (s : StC g h) : CT P D num h := by
  obtain ⟨q1, q2, q3, q4, q5, q6, q7, q8, q9, q10, q11⟩ := q
  have r : ∀ a k, 17 ≤ a → a ≤ 125 → rd h a k = rd g a k := s.2
  refine ⟨s.1, q2, q3, q4, (r _ _ (by omega) (by omega)).trans q5, q6, fun c hc => ?_, fun c h1 h2 => ?_, (r _ _ (by omega) (by omega)).trans q9, q10, fun m b hb => ?_⟩
  · obtain ⟨a1, a2, a3, a4⟩ := q7 c hc
    exact ⟨a1, (r _ _ (by omega) (by omega)).trans a2, (r _ _ (by omega) (by omega)).trans a3, (r _ _ (by omega) (by omega)).trans a4⟩
  · obtain ⟨a1, a2⟩ := q8 c h1 h2
    exact ⟨(r _ _ (by omega) (by omega)).trans a1, a2⟩
  · obtain ⟨a1, a2, a3, a4⟩ := q11 m b hb
    exact ⟨a1, (r _ _ (by omega) (by omega)).trans a2, (r _ _ (by omega) (by omega)).trans a3, (r _ _ (by omega) (by omega)).trans a4⟩
theorem CPr.st {P : Pgm} {g h : pH} (q : CPr P g) (s : StC g h) : CPr P h := fun c hc => (s.2 _ _ (by omega) (by omega)).trans (q c hc)
theorem Lay.mem {hp : List Ob} {A : Nat → Nat} : ∀ {L : List Nat} {a : Nat}, Lay hp A L a → ∀ i, i ∈ L → a ≤ A i ∧ A i + (2 + obL hp i) ≤ a + tot hp L ∧ 5 ≤ i ∧ i < hp.length
  | [], a, _, i, hi => by cases hi
  | j :: L, a, h, i, hi => by
    obtain ⟨h1, h2, h3, h4, h5⟩ := h
    have et : tot hp (j :: L) = 2 + obL hp j + tot hp L := rfl
    rcases List.mem_cons.mp hi with rfl | hi
    · exact ⟨by omega, by omega, h3, h4⟩
    · have := Lay.mem h5 i hi
      omega
theorem Lay.apart {hp : List Ob} {A : Nat → Nat} : ∀ {L : List Nat} {a : Nat}, Lay hp A L a → ∀ i j, i ∈ L → j ∈ L → i ≠ j → A i + (2 + obL hp i) ≤ A j ∨ A j + (2 + obL hp j) ≤ A i
  | [], a, _, i, j, hi, hj, _ => by cases hi
  | k :: L, a, h, i, j, hi, hj, hn => by
    obtain ⟨h1, h2, h3, h4, h5⟩ := h
    rcases List.mem_cons.mp hi with e | hi'
    · rcases List.mem_cons.mp hj with e' | hj'
      · exact absurd (e.trans e'.symm) hn
      · have := Lay.mem h5 j hj'
        subst e
        omega
    · rcases List.mem_cons.mp hj with e' | hj'
      · have := Lay.mem h5 i hi'
        subst e'
        omega
      · exact Lay.apart h5 i j hi' hj' hn
theorem inL {L : List Nat} {i : Nat} (hi : i ∈ L ∨ i < 5) (z : 5 ≤ i) : i ∈ L := hi.resolve_right (by omega)
theorem obL_get {hp : List Ob} {i : Nat} {ob : Ob} (h : hp[i]? = some ob) : obL hp i = ob.2.length := by unfold obL; rw [h]
theorem HpC.ad {hp : List Ob} {H : Nat} {A : Nat → Nat} {L : List Nat} {h : pH} (q : HpC hp H A L h) {i : Nat} {ob : Ob} (hi : i ∈ L ∨ i < 5) (hob : hp[i]? = some ob) : (i < 5 ∧ A i = i + 1) ∨ (5 ≤ i ∧ i ∈ L ∧ 6 ≤ A i ∧ A i + 2 + ob.2.length ≤ 10006) := by
  obtain ⟨q1, q2, q3, q4, q5, q6, q7⟩ := q
  rcases Nat.lt_or_ge i 5 with z | z
  · exact Or.inl ⟨z, q1 i z⟩
  · have hL : i ∈ L := inL hi z
    have := q2.mem i hL
    rw [obL_get hob] at this
    exact Or.inr ⟨z, hL, by omega, by omega⟩
theorem HpC.inj {hp : List Ob} {H : Nat} {A : Nat → Nat} {L : List Nat} {h : pH} (q : HpC hp H A L h) {i j : Nat} (hi : i ∈ L ∨ i < 5) (hj : j ∈ L ∨ j < 5) (e : A i = A j) : i = j := by
  obtain ⟨q1, q2, q3, q4, q5, q6, q7⟩ := q
  rcases Nat.lt_or_ge i 5 with z | z
  · rcases Nat.lt_or_ge j 5 with y | y
    · rw [q1 i z, q1 j y] at e; omega
    · have := q2.mem j (inL hj y)
      rw [q1 i z] at e; omega
  · rcases Nat.lt_or_ge j 5 with y | y
    · have := q2.mem i (inL hi z)
      rw [q1 j y] at e; omega
    · rcases Classical.em (i = j) with n | n
      · exact n
      · have := q2.apart i j (inL hi z) (inL hj y) n
        omega
theorem HpC.lt {hp : List Ob} {H : Nat} {A : Nat → Nat} {L : List Nat} {h : pH} (q : HpC hp H A L h) {i : Nat} (hi : i ∈ L ∨ i < 5) : A i < 10006 := by
  obtain ⟨q1, q2, q3, q4, q5, q6, q7⟩ := q
  rcases Nat.lt_or_ge i 5 with z | z
  · rw [q1 i z]; omega
  · have := q2.mem i (inL hi z)
    omega
/-- words that stand for the same -/
theorem Ww.eq {hp : List Ob} {H : Nat} {A : Nat → Nat} {L : List Nat} {h : pH} (q : HpC hp H A L h) {w w' : Int64} {x y : Vl} (hx : Ww A L w x) (hy : Ww A L w' y) (ht : (∃ m n, x = .inl m ∧ y = .inl n) ∨ ∃ m n, x = .inr m ∧ y = .inr n) : (w = w') ↔ x = y := by
  obtain ⟨rfl, o1⟩ := hx
  obtain ⟨rfl, o2⟩ := hy
  refine ⟨fun e => ?_, fun e => by rw [e]⟩
  rcases ht with ⟨m, n, rfl, rfl⟩ | ⟨m, n, rfl, rfl⟩
  · rw [wN_inj (show wN m = wN n from e)]
  · match m, n, e, o1, o2 with
    | none, none, _, _, _ => rfl
    | none, some j, e, _, _ => exact absurd (show wO (A j) = 0 from e.symm) (wO_ne _)
    | some i, none, e, _, _ => exact absurd (show wO (A i) = 0 from e) (wO_ne _)
    | some i, some j, e, o1, o2 =>
      have h1 := q.lt (o1 i rfl)
      have h2 := q.lt (o2 j rfl)
      rw [q.inj (o1 i rfl) (o2 j rfl) (wO_inj (by omega) (by omega) (show wO (A i) = wO (A j) from e))]
theorem HO.f5 {P : Pgm} {hp : List Ob} (ho : HO P hp) {i : Nat} {ob : Ob} (h5 : i < 5) (h : hp[i]? = some ob) : ob = (some i, []) := by
  rw [ho.1 i h5] at h
  exact (Option.some.inj h).symm
section OBJ
variable {P : Pgm} {g h : pH} {G : Gs} {A : Nat → Nat} {L : List Nat} {i N : Nat} {ob : Ob}
theorem e3_len (ho : HO P G.1) (hb : Bse g G A L h) (hi : i ∈ L ∨ i < 5) (hob : G.1[i]? = some ob) : fX3_lengthOf N 129 (wO (A i)) h = some (Int32.ofNat ob.2.length, h) := by
  have sg := hb.1.1
  unfold fX3_lengthOf
  rw [if_pos (o_129 sg), wO_to]
  rcases hb.2.2.2.ad hi hob with ⟨z1, z2⟩ | ⟨z1, z2, z3, z4⟩
  · rw [z2, show (6 : Int32) = Int32.ofNat 6 from rfl, if_pos (by rw [iLt (by omega) (by omega)]; omega), ho.f5 z1 hob]
    rfl
  · rw [show (6 : Int32) = Int32.ofNat 6 from rfl, if_neg (by rw [iLt (by omega) (by omega)]; omega), show (10005 : Int32) = Int32.ofNat 10005 from rfl, if_neg (by rw [iLe (by omega) (by omega)]; omega), R_129_0 sg, Option.bind_some, i_add1, L_c sg (by omega), Option.bind_some, (hb.2.2.2.2.2.2.2.2.2 i z2 ob hob).2.1, Int32.toInt32_toInt64]
theorem e3_has (ho : HO P G.1) (hb : Bse g G A L h) (hi : i ∈ L ∨ i < 5) (hob : G.1[i]? = some ob) (x : Int32) : fX3_has N 129 (wO (A i)) x h = some (if 0 ≤ x ∧ x < Int32.ofNat ob.2.length then 1 else 0, h) := by
  have sg := hb.1.1
  unfold fX3_has
  rw [if_pos (o_129 sg)]
  by_cases h1 : x < 0
  · rw [if_pos h1, if_neg (fun z => absurd h1 (Int32.not_lt.mpr z.1))]
  · rw [if_neg h1, e3_len ho hb hi hob, Option.bind_some]
    dsimp only
    by_cases h2 : Int32.ofNat ob.2.length ≤ x
    · rw [if_pos h2, if_neg (fun z => absurd z.2 (Int32.not_lt.mpr h2))]
    · rw [if_neg h2, if_pos ⟨Int32.not_lt.mp h1, Int32.not_le.mp h2⟩]
theorem has_1 {α : Type} {j n : Nat} (hj : j < n) (hn : n < 2 ^ 31) (x y : α) : (if 0 ≤ Int32.ofNat j ∧ Int32.ofNat j < Int32.ofNat n then x else y) = x := if_pos ⟨i_nn0 (by omega), by rw [iLt (by omega) (by omega)]; exact hj⟩
theorem e3_at (ho : HO P G.1) (hb : Bse g G A L h) (hi : i ∈ L ∨ i < 5) (hob : G.1[i]? = some ob) {j : Nat} (hj : j < ob.2.length) : ∃ w, fX3_at N 129 (wO (A i)) (Int32.ofNat j) h = some (w, h) ∧ Ww A L w (obF G.1 i j) := by
  have sg := hb.1.1
  rcases hb.2.2.2.ad hi hob with ⟨z1, z2⟩ | ⟨z1, z2, z3, z4⟩
  · rw [ho.f5 z1 hob] at hj
    exact absurd hj (Nat.not_lt_zero _)
  · refine ⟨rdJ h (cR h) (A i + 2 + j), ?_, ?_⟩
    · unfold fX3_at
      rw [if_pos (o_129 sg), e3_has ho hb hi hob, Option.bind_some]
      dsimp only
      rw [has_1 hj (by omega), if_neg (by decide), R_129_0 sg, Option.bind_some, wO_to, i_add2, ← Int32.ofNat_add, L_c sg (by omega), Option.bind_some]
    · unfold obF
      rw [hob]
      dsimp only
      have := (hb.2.2.2.2.2.2.2.2.2 i z2 ob hob).2.2 j ob.2[j] (List.getElem?_eq_getElem hj)
      rw [List.getElem?_eq_getElem hj]
      exact this
theorem e3_cls (ho : HO P G.1) (hb : Bse g G A L h) (hi : i ∈ L ∨ i < 5) (hob : G.1[i]? = some ob) : fX3_classOf N 129 (wO (A i)) h = some ((clW ob.1).toInt32, h) := by
  have sg := hb.1.1
  unfold fX3_classOf
  have hl := hb.2.2.2.lt hi
  have hp : 0 < A i := by
    rcases hb.2.2.2.ad hi hob with ⟨z1, z2⟩ | ⟨z1, z2, z3, z4⟩ <;> omega
  rw [if_pos (o_129 sg), wO_to, if_neg (by rw [show (0 : Int32) = Int32.ofNat 0 from rfl, iLe (by omega) (by omega)]; omega), show (10006 : Int32) = Int32.ofNat 10006 from rfl, if_neg (by rw [iLe (by omega) (by omega)]; omega), R_129_0 sg, Option.bind_some, L_c sg hl, Option.bind_some]
  rcases hb.2.2.2.ad hi hob with ⟨z1, z2⟩ | ⟨z1, z2, z3, z4⟩
  · rw [z2, ho.f5 z1 hob]
    have hf := hb.2.1 i z1
    rcases sg.rows.1 with ⟨e, _⟩ | ⟨e, _⟩
    · rw [e, hf.1]; rfl
    · rw [e, hf.2]; rfl
  · rw [(hb.2.2.2.2.2.2.2.2.2 i z2 ob hob).1]
end OBJ
theorem clW_to (c : Nat) : (clW (some c)).toInt32 = Int32.ofNat c := Int32.toInt32_toInt64 _
/-- objects lie where they lay: a word of one is written -/
theorem HpC.set {hp : List Ob} {H : Nat} {A : Nat → Nat} {L : List Nat} {h : pH} (sg : Sg h) (q : HpC hp H A L h) {i j : Nat} {ob : Ob} (hi : i ∈ L) (hob : hp[i]? = some ob) (hj : j < ob.2.length) {w : Int64} {v : Vl} (hw : Ww A L w v) : HpC (obS hp i j v) H A L (wrJ h (cR h) (A i + 2 + j) w) := by
  obtain ⟨q1, q2, q3, q4, q5, q6, q7⟩ := q
  have eS : obS hp i j v = hp.set i (ob.1, ob.2.set j v) := obS_some hob j v
  have hil : i < hp.length := (List.getElem?_eq_some_iff.mp hob).1
  have eL : ∀ k, obL (obS hp i j v) k = obL hp k := fun k => by
    rw [eS]
    unfold obL
    rw [List.getElem?_set]
    by_cases z : i = k
    · subst z
      rw [if_pos rfl, if_pos hil, hob]
      dsimp only
      rw [List.length_set]
    · rw [if_neg z]
  have eT : ∀ l, tot (obS hp i j v) l = tot hp l := fun l => by
    induction l with
    | nil => rfl
    | cons k l ih =>
      show 2 + obL _ k + tot _ l = 2 + obL hp k + tot hp l
      rw [eL, ih]
  have eLay : ∀ l a, Lay hp A l a → Lay (obS hp i j v) A l a := fun l => by
    induction l with
    | nil => intro a _; trivial
    | cons k l ih =>
      intro a ⟨h1, h2, h3, h4, h5⟩
      refine ⟨h1, h2, h3, by rw [eS, List.length_set]; exact h4, ?_⟩
      rw [eL]
      exact ih _ h5
  have hcr : cR (wrJ h (cR h) (A i + 2 + j) w) = cR h := cR_of (fun b => sh_wrJ _ _ _ _ b)
  refine ⟨q1, eLay L 6 q2, ?_, by rw [eT]; exact q4, q5, by rw [rd_wrJ]; exact q6, fun k hk ob' hob' => ?_⟩
  · rw [rd_wrJ, eT]; exact q3
  · rw [hcr]
    have mi := q2.mem i hi
    rw [obL_get hob] at mi
    rw [eS, List.getElem?_set] at hob'
    by_cases hki : i = k
    · subst hki
      rw [if_pos rfl, if_pos hil] at hob'
      obtain rfl := Option.some.inj hob'
      obtain ⟨c1, c2, c3⟩ := q7 i hi ob hob
      refine ⟨by rw [rdJ_wrJ_ne _ _ (by omega)]; exact c1, ?_, fun j' v' hj' => ?_⟩
      · rw [rdJ_wrJ_ne _ _ (by omega)]
        show _ = (Int32.ofNat (ob.2.set j v).length).toInt64
        rw [List.length_set]; exact c2
      · have hj' : (ob.2.set j v)[j']? = some v' := hj'
        rw [List.getElem?_set] at hj'
        by_cases hjj : j = j'
        · subst hjj
          rw [if_pos rfl, if_pos hj] at hj'
          obtain rfl := Option.some.inj hj'
          rw [W_c sg]
          exact hw
        · rw [if_neg hjj] at hj'
          rw [rdJ_wrJ_ne _ _ (by omega)]
          exact c3 j' v' hj'
    · rw [if_neg hki] at hob'
      obtain ⟨c1, c2, c3⟩ := q7 k hk ob' hob'
      have mk := q2.mem k hk
      have ap := q2.apart i k hi hk hki
      rw [obL_get hob, obL_get hob'] at ap
      refine ⟨by rw [rdJ_wrJ_ne _ _ (by omega)]; exact c1, by rw [rdJ_wrJ_ne _ _ (by omega)]; exact c2, fun j' v' hj' => ?_⟩
      have := (List.getElem?_eq_some_iff.mp hj').1
      rw [rdJ_wrJ_ne _ _ (by omega)]
      exact c3 j' v' hj'
theorem Bse.set {P : Pgm} {g h : pH} {G : Gs} {A : Nat → Nat} {L : List Nat} {i j N : Nat} {ob : Ob} {v : Vl} {w : Int64} (ho : HO P G.1) (hb : Bse g G A L h) (hi : i ∈ L ∨ i < 5) (hob : G.1[i]? = some ob) (hj : j < ob.2.length) (hw : Ww A L w v) : ∃ h', fX3_put N 129 (wO (A i)) (Int32.ofNat j) w h = some h' ∧ Bse g (obS G.1 i j v, G.2) A L h' ∧ (∀ b, sh h' b = sh h b) ∧ (∀ a k, rd h' a k = rd h a k) ∧ ∀ a k, a ≠ cR h → rdJ h' a k = rdJ h a k := by
  have sg := hb.1.1
  rcases hb.2.2.2.ad hi hob with ⟨z1, z2⟩ | ⟨z1, z2, z3, z4⟩
  · rw [ho.f5 z1 hob] at hj
    exact absurd hj (Nat.not_lt_zero _)
  · refine ⟨wrJ h (cR h) (A i + 2 + j) w, ?_, ⟨⟨sg.wrJ _ _ _, fun a k h1 h2 => (rd_wrJ _ _ _ _ _ _).trans (hb.1.2 a k h1 h2)⟩, ?_, ?_, hb.2.2.2.set sg z2 hob hj hw⟩, fun b => sh_wrJ _ _ _ _ b, fun a k => rd_wrJ _ _ _ _ _ _, fun a k hne => rdJ_wrJ_ne _ _ (fun z => hne z.1.symm)⟩
    · unfold fX3_put
      rw [if_pos (o_129 sg), e3_has ho hb hi hob, Option.bind_some]
      dsimp only
      rw [has_1 hj (by omega), if_neg (by decide), R_129_0 sg, Option.bind_some, wO_to, i_add2, ← Int32.ofNat_add, T_c sg (by omega), Option.bind_some]
    · intro k hk
      rw [rdJ_wrJ_ne _ _ (by omega), rdJ_wrJ_ne _ _ (by omega)]
      exact hb.2.1 k hk
    · obtain ⟨b1, b2, b3, b4, b5, z, b6, b7, b8, b9, b10⟩ := hb.2.2.1
      refine ⟨?_, ?_, ?_, ?_, fun j x h1 h2 => ?_, z, ?_, b7, ?_, b9, fun j x h1 => ?_⟩ <;> rw [rd_wrJ]
      · exact b1
      · exact b2
      · exact b3
      · exact b4
      · exact b5 j x h1 h2
      · exact b6
      · exact b8
      · exact b10 j x h1
