/-! ===== result(), output(), count() ===== -/
section C6
variable {N : Nat}
theorem CRs.a14 {P : Pgm} {C : Cx} {U : Nat} {g h : pH} {σ : Mst} {pc : Nat} (q : CRs P C U g h σ pc) : rd h 128 14 = match σ.2 with
    | .inl _ => 0
    | .inr (_, a) => a := by
  match σ, q with
  | (G, .inl []), q => exact q.elim
  | (G, .inl (f :: fs)), q =>
    obtain ⟨t, h13, h14, -⟩ := q
    exact h14
  | (G, .inr (k, a)), q => exact q.2.2.2.2.1
theorem inv_result {n : Nat} {h : pH} (q : Inv n h) : ∃ r h1 h2, fX11_result N 6 h = some (r, h1) ∧ fX12_result N 138 h1 = some (r, h2) ∧ Inv (n + 1) h2 ∧ Pot h h2 0 0 := by
  obtain ⟨⟨q1, q2, q3, q4, q5⟩, inp, q6, q7, q8⟩ := id q
  have hc : fX11_result N 6 h = some (rd h 128 14, h) := by
    unfold fX11_result
    rw [if_pos (o_6 q1), R_6_7 q1, Option.bind_some, g_128_14 q1, Option.bind_some]
  have nor : Nor h → ∃ r h1 h2, fX11_result N 6 h = some (r, h1) ∧ fX12_result N 138 h1 = some (r, h2) ∧ Inv (n + 1) h2 ∧ Pot h h2 0 0 := fun z => by
    refine ⟨0, h, h, by rw [hc, z.2.1], ?_, q.up, Pot.z rfl⟩
    unfold fX12_result
    rw [if_pos (o_138 q1), g_138_69 q1, Option.bind_some, z.2.2.2.2.2.2, if_pos rfl]
  rcases q8 with ⟨z1, z2, z3⟩ | ⟨W, w1, w2⟩
  · exact nor z3
  · rcases w2 with z | ⟨σ, z, ⟨pc, r1⟩, r2, r3, r4, r5, r6⟩
    · exact nor z
    · have e14 := r1.a14
      have hs := r2.sg
      refine ⟨rd h 128 14, h, h, hc, ?_, q.up, Pot.z rfl⟩
      have hpre : fX12_result N 138 h = if rd h 138 70 = 1 then some (rd h 138 77, h) else if rd h 138 70 = 2 then some (rd h 138 77, h) else some (0, h) := by
        unfold fX12_result
        rw [if_pos (o_138 q1), g_138_69 q1, Option.bind_some, hs.2.2.1, if_neg (by decide)]
        simp only [g_138_70 q1, g_138_77 q1, Option.bind_some]
      rw [hpre, hs.2.1, e14]
      match σ, r2, r5 with
      | (G, .inl fs), r2, r5 =>
        show (if (0 : Int32) = 1 then some (rd h 138 77, h) else if (0 : Int32) = 2 then some (rd h 138 77, h) else some (0, h)) = some (0, h)
        rw [if_neg (by decide), if_neg (by decide)]
      | (G, .inr (k, a)), r2, r5 =>
        have h77 : rd h 138 77 = a := r2.2.2.2.2.1
        have hk := r2.2.2.2.2.2.2.2
        have r5 : k ≤ 2 ∨ a = 0 := r5
        show (if Int32.ofNat k = 1 then some (rd h 138 77, h) else if Int32.ofNat k = 2 then some (rd h 138 77, h) else some (0, h)) = some (a, h)
        rw [h77]
        by_cases k1 : k = 1
        · rw [if_pos (by rw [k1]; rfl)]
        · rw [if_neg (show ¬ Int32.ofNat k = (1 : Int32) by rw [show (1 : Int32) = Int32.ofNat 1 from rfl, iEq (by omega) (by omega)]; exact k1)]
          by_cases k2 : k = 2
          · rw [if_pos (by rw [k2]; rfl)]
          · rw [if_neg (show ¬ Int32.ofNat k = (2 : Int32) by rw [show (2 : Int32) = Int32.ofNat 2 from rfl, iEq (by omega) (by omega)]; exact k2), r5.resolve_left (by omega)]
theorem inv_output {n : Nat} {v : Int32} {h : pH} (hn : n ≤ 1000) (q : Inv n h) : ∃ r h1 h2, fX11_output N 6 v h = some (r, h1) ∧ fX12_output N 138 v h1 = some (r, h2) ∧ Inv (n + 1) h2 ∧ Pot h h2 0 0 := by
  obtain ⟨⟨q1, q2, q3, q4, q5⟩, inp, q6, q7, q8⟩ := id q
  have hc : fX11_output N 6 v h = if v < 0 then some (0, h) else if rd h 128 19 ≤ v then some (0, h) else if (500 : Int32) ≤ v then some (0, h) else (ldI h 137 v).bind fun t6 => some (t6, h) := by
    unfold fX11_output fX5_printedAt
    rw [if_pos (o_6 q1), R_6_7 q1, Option.bind_some, if_pos (o_128 q1), g_128_19 q1, Option.bind_some, R_128_18 q1]
    by_cases z0 : v < 0
    · rw [if_pos z0, if_pos z0, Option.bind_some]
    · rw [if_neg z0, if_neg z0]
      by_cases z1 : rd h 128 19 ≤ v
      · rw [if_pos z1, if_pos z1, Option.bind_some]
      · rw [if_neg z1, if_neg z1]
        by_cases z2 : (500 : Int32) ≤ v
        · rw [if_pos z2, if_pos z2, Option.bind_some]
        · rw [if_neg z2, if_neg z2, Option.bind_some]
          cases ldI h 137 v with
          | none => rfl
          | some x => rfl
  have nor : Nor h → ∃ r h1 h2, fX11_output N 6 v h = some (r, h1) ∧ fX12_output N 138 v h1 = some (r, h2) ∧ Inv (n + 1) h2 ∧ Pot h h2 0 0 := fun z => by
    refine ⟨0, h, h, ?_, ?_, q.up, Pot.z rfl⟩
    · rw [hc, z.2.2.2.2.2.1]
      by_cases z0 : v < 0
      · rw [if_pos z0]
      · rw [if_neg z0, if_pos (Int32.not_lt.mp z0)]
    · unfold fX12_output
      rw [if_pos (o_138 q1), g_138_69 q1, Option.bind_some, z.2.2.2.2.2.2, if_pos rfl]
  rcases q8 with ⟨z1, z2, z3⟩ | ⟨W, w1, w2⟩
  · exact nor z3
  · rcases w2 with z | ⟨σ, z, ⟨pc, r1⟩, r2, r3, r4, r5, r6⟩
    · exact nor z
    · obtain ⟨-, -, -, b1, b2, b3, b4, b5, -⟩ := r1.sg
      obtain ⟨-, -, h69, d1, d2, d3, d4, d5, -⟩ := r2.sg
      have hl : σ.1.2.2.1.length ≤ 20000 * n := r6
      have hin : ∀ (m : Int32) (h1 : pH), fX12_isIn N v.toInt64 0 m.toInt64 h1 = some (if v < 0 ∨ m < v then 0 else 1, h1) := fun m h1 => isIn_eq N v 0 m h1
      have hr : fX12_output N 138 v h = if v < 0 ∨ (if (500 : Int32) < Int32.ofNat σ.1.2.2.1.length then (500 : Int32) else Int32.ofNat σ.1.2.2.1.length) - 1 < v then some (0, h) else (ldI h 183 v).bind fun t7 => some (t7, h) := by
        unfold fX12_output
        rw [if_pos (o_138 q1), g_138_69 q1, Option.bind_some, h69, if_neg (by decide), g_138_78 q1, Option.bind_some, d4, hin, Option.bind_some]
        by_cases y : v < 0 ∨ (if (500 : Int32) < Int32.ofNat σ.1.2.2.1.length then (500 : Int32) else Int32.ofNat σ.1.2.2.1.length) - 1 < v
        · rw [if_pos y, if_pos rfl, if_pos y]
        · rw [if_neg y, if_neg y]
          dsimp only
          rw [if_neg (by decide), R_138_79 q1, Option.bind_some]
      have emin : (if (500 : Int32) < Int32.ofNat σ.1.2.2.1.length then (500 : Int32) else Int32.ofNat σ.1.2.2.1.length) = Int32.ofNat (if 500 < σ.1.2.2.1.length then 500 else σ.1.2.2.1.length) := by
        by_cases y : 500 < σ.1.2.2.1.length
        · rw [if_pos (show (500 : Int32) < Int32.ofNat σ.1.2.2.1.length by rw [show (500 : Int32) = Int32.ofNat 500 from rfl, iLt (by omega) (by omega)]; exact y), if_pos y]
          rfl
        · rw [if_neg (show ¬ (500 : Int32) < Int32.ofNat σ.1.2.2.1.length by rw [show (500 : Int32) = Int32.ofNat 500 from rfl, iLt (by omega) (by omega)]; exact y), if_neg y]
      have hmin : (if 500 < σ.1.2.2.1.length then 500 else σ.1.2.2.1.length) ≤ 500 := by split <;> omega
      rw [emin] at hr
      have key : ∀ x, (fX11_output N 6 v h = some (x, h) ∧ fX12_output N 138 v h = some (x, h)) → ∃ r h1 h2, fX11_output N 6 v h = some (r, h1) ∧ fX12_output N 138 v h1 = some (r, h2) ∧ Inv (n + 1) h2 ∧ Pot h h2 0 0 := fun x y => ⟨x, h, h, y.1, y.2, q.up, Pot.z rfl⟩
      by_cases z0 : v < 0
      · exact key 0 ⟨by rw [hc, if_pos z0], by rw [hr, if_pos (Or.inl z0)]⟩
      · obtain ⟨e1, e2⟩ := i_ncl z0
        generalize v.toNatClampNeg = m at *
        subst e1
        rw [if_neg z0, b4] at hc
        by_cases zm : m < (if 500 < σ.1.2.2.1.length then 500 else σ.1.2.2.1.length)
        · have hm1 : m < σ.1.2.2.1.length ∧ m < 500 := by split at zm <;> omega
          have hget : σ.1.2.2.1[m]? = some σ.1.2.2.1[m] := List.getElem?_eq_getElem hm1.1
          refine key σ.1.2.2.1[m] ⟨?_, ?_⟩
          · rw [hc, if_neg (by rw [iLe (by omega) (by omega)]; omega), if_neg (show ¬ (500 : Int32) ≤ Int32.ofNat m by rw [show (500 : Int32) = Int32.ofNat 500 from rfl, iLe (by omega) (by omega)]; omega), L_137 q1 (by omega), Option.bind_some, b5 m _ hm1.2 hget]
          · rw [hr, if_neg (fun y => (in_rng (by omega)).mp y ⟨i_nn0 (by omega), by rw [iLt (by omega) (by omega)]; exact zm⟩), L_183 q1 (by omega), Option.bind_some, d5 m _ hm1.2 hget]
        · have hm1 : σ.1.2.2.1.length ≤ m ∨ 500 ≤ m := by split at zm <;> omega
          refine key 0 ⟨?_, ?_⟩
          · rw [hc]
            by_cases y : σ.1.2.2.1.length ≤ m
            · rw [if_pos (by rw [iLe (by omega) (by omega)]; exact y)]
            · rw [if_neg (by rw [iLe (by omega) (by omega)]; exact y), if_pos (show (500 : Int32) ≤ Int32.ofNat m by rw [show (500 : Int32) = Int32.ofNat 500 from rfl, iLe (by omega) (by omega)]; omega)]
          · rw [hr, if_pos ((in_rng (by omega)).mpr (fun y => zm (by
              have := y.2
              rw [iLt (by omega) (by omega)] at this
              exact this)))]
/-- the class collects, the reference marks -/
theorem inv_cells {n : Nat} {h : pH} {W : Wd8} {G : Gs} {f : Fm} {fs : List Fm} (hN : 400000 ≤ N) (q : Inv n h) (w1 : PrI W h) (r : RnI W h (G, .inl (f :: fs)) n) : ∃ r h1 h2, fX5_cellsReached N 128 h = some (r, h1) ∧ fX12_marked N 138 h1 = some (r, h2) ∧ rd h1 138 69 = 1 ∧ rd h1 138 70 = 0 ∧ Sg h1 ∧ Inv (n + 1) h2 ∧ Pot h h2 0 0 := by
  obtain ⟨⟨pc, r1⟩, r2, r3, r4, r5, r6⟩ := r
  obtain ⟨p1, p2, p3, p4, p5, p6, p7, p8, p9⟩ := id w1
  obtain ⟨h1, a1, a2, a3, a4, a5, a6⟩ := cells_cls (N := N) (by omega) p1 r3 r4.2 r1
  have in1 : InR G.2.1 h1 := by
    have := r2.in
    exact ⟨(a4 _ _ (by omega)).trans this.1, this.2.1, fun j y hj => (a4 _ _ (by omega)).trans (this.2.2 j y hj)⟩
  have r2' := r2.inp (h' := h1) a3 (fun a k x => a4 a k (by omega)) in1
  have r2' : RRt W.1 W.2.1 W.2.2.2.2.2.2.1 W.2.2.2.2.2.2.2.2 h1 (G, .inl (f :: fs)) := r2'
  obtain ⟨h2, b1, b2, b3⟩ := cells_ref (N := N) hN r3 r2'
  have hs := r2'.sg
  refine ⟨_, h1, h2, a1, b1, hs.2.2.1, hs.2.1, a3, Inv.go q.1 w1 (fun a k z => a4 a k (by omega)) a2 (b3.mono (fun a k z => by unfold mkA at z; unfold srA; omega)) (r2'.mk b2 b3) r3 r4 r5 (by omega), Pot.z (by rw [pileN_chg b3, a6])⟩
theorem inv_count {n : Nat} {v : Int32} {h : pH} (hN : 400000 ≤ N) (hn : n ≤ 1000) (q : Inv n h) : ∃ r h1 h2, fX11_count N 6 v h = some (r, h1) ∧ fX12_count N 138 v h1 = some (r, h2) ∧ Inv (n + 1) h2 ∧ Pot h h2 0 0 := by
  obtain ⟨⟨q1, q2, q3, ⟨L, t1, t2, t3, t4⟩, q5⟩, inp, q6, q7, q8⟩ := id q
  have hin : ∀ h1 : pH, fX12_isIn N v.toInt64 0 5 h1 = some (if v < 0 ∨ 5 < v then 0 else 1, h1) := fun h1 => isIn_eq N v 0 5 h1
  have key : ∀ x, (fX11_count N 6 v h = some (x, h) ∧ fX12_count N 138 v h = some (x, h)) → ∃ r h1 h2, fX11_count N 6 v h = some (r, h1) ∧ fX12_count N 138 v h1 = some (r, h2) ∧ Inv (n + 1) h2 ∧ Pot h h2 0 0 := fun x y => ⟨x, h, h, y.1, y.2, q.up, Pot.z rfl⟩
  by_cases v6 : v = 6
  · subst v6
    obtain ⟨z, -, -, x3, -, -⟩ := q6
    refine key (Int32.ofNat inp.length) ⟨?_, ?_⟩
    · unfold fX11_count
      rw [if_pos (o_6 q1), if_neg (by decide), if_neg (by decide), if_neg (by decide), if_neg (by decide), if_neg (by decide), if_neg (by decide), if_pos rfl, R_6_6 q1, Option.bind_some, g_126_2 q1, Option.bind_some, x3]
    · unfold fX12_count
      rw [if_pos (o_138 q1), if_pos rfl, g_138_80 q1, Option.bind_some, q7.1]
  by_cases v7 : v = 7
  · subst v7
    refine key (Int32.ofNat L) ⟨?_, ?_⟩
    · unfold fX11_count
      rw [if_pos (o_6 q1), if_neg (by decide), if_neg (by decide), if_neg (by decide), if_neg (by decide), if_neg (by decide), if_neg (by decide), if_neg (by decide), if_pos rfl, g_6_8 q1, Option.bind_some, t1]
    · unfold fX12_count
      rw [if_pos (o_138 q1), if_neg (by decide), if_pos rfl, g_138_1 q1, Option.bind_some, t2]
  by_cases hv : v < 0 ∨ 5 < v
  · have h0 : v ≠ 0 := fun z => by rw [z] at hv; exact absurd hv (by decide)
    have h1 : v ≠ 1 := fun z => by rw [z] at hv; exact absurd hv (by decide)
    have h2 : v ≠ 2 := fun z => by rw [z] at hv; exact absurd hv (by decide)
    have h3 : v ≠ 3 := fun z => by rw [z] at hv; exact absurd hv (by decide)
    have h4 : v ≠ 4 := fun z => by rw [z] at hv; exact absurd hv (by decide)
    have h5 : v ≠ 5 := fun z => by rw [z] at hv; exact absurd hv (by decide)
    refine key (-1) ⟨?_, ?_⟩
    · unfold fX11_count
      rw [if_pos (o_6 q1), if_neg h0, if_neg h1, if_neg h2, if_neg h3, if_neg h4, if_neg h5, if_neg v6, if_neg v7]
    · unfold fX12_count
      rw [if_pos (o_138 q1), if_neg v6, if_neg v7, hin, Option.bind_some, if_pos hv, if_pos rfl]
  have hcases : v = 0 ∨ v = 1 ∨ v = 2 ∨ v = 3 ∨ v = 4 ∨ v = 5 := by
    have h0 : ¬ v < 0 := fun z => hv (Or.inl z)
    have h5 : v ≤ 5 := Int32.not_lt.mp (fun z => hv (Or.inr z))
    obtain ⟨e1, e2⟩ := i_ncl h0
    have hm := (i_le_cl (v := v) (L := 5) (by omega) h0).mp h5
    generalize v.toNatClampNeg = m at *
    have : m = 0 ∨ m = 1 ∨ m = 2 ∨ m = 3 ∨ m = 4 ∨ m = 5 := by omega
    rcases this with rfl | rfl | rfl | rfl | rfl | rfl
    · exact Or.inl e1
    · exact Or.inr (Or.inl e1)
    · exact Or.inr (Or.inr (Or.inl e1))
    · exact Or.inr (Or.inr (Or.inr (Or.inl e1)))
    · exact Or.inr (Or.inr (Or.inr (Or.inr (Or.inl e1))))
    · exact Or.inr (Or.inr (Or.inr (Or.inr (Or.inr e1))))
  have hc : (v = 0 → fX11_count N 6 v h = some (rd h 128 15, h)) ∧ (v = 1 → fX11_count N 6 v h = some (rd h 128 16, h)) ∧ (v = 2 → fX11_count N 6 v h = (fX5_cellsReached N 128 h).bind fun q14 => some (q14.1, q14.2)) ∧ (v = 3 → fX11_count N 6 v h = if rd h 128 13 = 0 then some (rd h 128 11, h) else some (0, h)) ∧ (v = 4 → fX11_count N 6 v h = some (rd h 128 19, h)) ∧ (v = 5 → fX11_count N 6 v h = some (rd h 128 17, h)) := by
    refine ⟨fun z => ?_, fun z => ?_, fun z => ?_, fun z => ?_, fun z => ?_, fun z => ?_⟩
    · subst z
      unfold fX11_count
      rw [if_pos (o_6 q1), if_pos rfl, R_6_7 q1, Option.bind_some, g_128_15 q1, Option.bind_some]
    · subst z
      unfold fX11_count
      rw [if_pos (o_6 q1), if_neg (by decide), if_pos rfl, R_6_7 q1, Option.bind_some, g_128_16 q1, Option.bind_some]
    · subst z
      unfold fX11_count
      rw [if_pos (o_6 q1), if_neg (by decide), if_neg (by decide), if_pos rfl, R_6_7 q1, Option.bind_some]
    · subst z
      unfold fX11_count fX5_methodsOpen
      rw [if_pos (o_6 q1), if_neg (by decide), if_neg (by decide), if_neg (by decide), if_pos rfl, R_6_7 q1, Option.bind_some, if_pos (o_128 q1), g_128_13 q1, Option.bind_some, g_128_11 q1, Option.bind_some]
      split <;> rfl
    · subst z
      unfold fX11_count
      rw [if_pos (o_6 q1), if_neg (by decide), if_neg (by decide), if_neg (by decide), if_neg (by decide), if_pos rfl, R_6_7 q1, Option.bind_some, g_128_19 q1, Option.bind_some]
    · subst z
      unfold fX11_count
      rw [if_pos (o_6 q1), if_neg (by decide), if_neg (by decide), if_neg (by decide), if_neg (by decide), if_neg (by decide), if_pos rfl, R_6_7 q1, Option.bind_some, g_128_17 q1, Option.bind_some]
  have nor : Nor h → ∃ r h1 h2, fX11_count N 6 v h = some (r, h1) ∧ fX12_count N 138 v h1 = some (r, h2) ∧ Inv (n + 1) h2 ∧ Pot h h2 0 0 := fun z => by
    refine key 0 ⟨?_, ?_⟩
    · rcases hcases with y | y | y | y | y | y
      · rw [hc.1 y, z.2.2.1]
      · rw [hc.2.1 y, z.2.2.2.1]
      · rw [hc.2.2.1 y]
        unfold fX5_cellsReached
        rw [if_pos (o_128 q1), g_128_13 q1, Option.bind_some, z.1, if_neg (by decide), Option.bind_some]
      · rw [hc.2.2.2.1 y, z.1, if_neg (by decide)]
      · rw [hc.2.2.2.2.1 y, z.2.2.2.2.2.1]
      · rw [hc.2.2.2.2.2 y, z.2.2.2.2.1]
    · unfold fX12_count
      rw [if_pos (o_138 q1), if_neg v6, if_neg v7, hin, Option.bind_some, if_neg hv]
      dsimp only
      rw [if_neg (by decide), g_138_69 q1, Option.bind_some, z.2.2.2.2.2.2, if_pos rfl]
  rcases q8 with ⟨z1, z2, z3⟩ | ⟨W, w1, w2⟩
  · exact nor z3
  · rcases w2 with z | ⟨σ, z, r⟩
    · exact nor z
    · obtain ⟨⟨pc, r1⟩, r2, r3, r4, r5, r6⟩ := id r
      obtain ⟨-, e13, -, b1, b2, b3, b4, -⟩ := r1.sg
      obtain ⟨-, e70, h69, d1, d2, d3, d4, -⟩ := r2.sg
      have hpre : ∀ h1 : pH, Sg h1 → rd h1 138 69 = 1 → fX12_count N 138 v h1 = if v = 0 then some (rd h1 138 75, h1) else if v = 1 then some (rd h1 138 74, h1) else if v = 2 then (if rd h1 138 70 = 0 then ((fX12_marked N 138 h1).bind fun q16 => some (q16.1, q16.2)) else some (0, h1)) else if v = 3 then some (rd h1 138 93, h1) else if v = 4 then some (rd h1 138 78, h1) else some (rd h1 138 76, h1) := fun h1 s1 x69 => by
        unfold fX12_count
        rw [if_pos (o_138 s1), if_neg v6, if_neg v7, hin, Option.bind_some, if_neg hv]
        dsimp only
        rw [if_neg (by decide), g_138_69 s1, Option.bind_some, x69, if_neg (by decide), g_138_75 s1, Option.bind_some, g_138_74 s1, Option.bind_some, g_138_70 s1, Option.bind_some, g_138_93 s1, Option.bind_some, g_138_78 s1, Option.bind_some, g_138_76 s1, Option.bind_some]
      rcases hcases with y | y | y | y | y | y
      · refine key (Int32.ofNat σ.1.2.2.2.1.1) ⟨by rw [hc.1 y, b1], ?_⟩
        rw [hpre h q1 h69, if_pos y, d1]
      · refine key (Int32.ofNat σ.1.2.2.2.1.2.1) ⟨by rw [hc.2.1 y, b2], ?_⟩
        rw [hpre h q1 h69, if_neg (by rw [y]; decide), if_pos y, d2]
      · match σ, r, r1, r2, r3, e13, e70 with
        | (G, .inl []), r, r1, r2, r3, e13, e70 => exact r1.elim
        | (G, .inl (f :: fs)), r, r1, r2, r3, e13, e70 =>
          obtain ⟨x, h1, h2, a1, a2, a3, a4, a5, a6, a7⟩ := inv_cells (N := N) hN q w1 r
          refine ⟨x, h1, h2, ?_, ?_, a6, a7⟩
          · rw [hc.2.2.1 y, a1, Option.bind_some]
          · rw [hpre h1 a5 a3, if_neg (by rw [y]; decide), if_neg (by rw [y]; decide), if_pos y, a4, if_pos rfl, a2, Option.bind_some]
        | (G, .inr (k, a)), r, r1, r2, r3, e13, e70 =>
          have hk := r2.2.2.2.2.2.2.2
          have e13 : rd h 128 13 = Int32.ofNat k := e13
          have e70 : rd h 138 70 = Int32.ofNat k := e70
          refine key 0 ⟨?_, ?_⟩
          · rw [hc.2.2.1 y]
            unfold fX5_cellsReached
            rw [if_pos (o_128 q1), g_128_13 q1, Option.bind_some, e13, if_neg (by rw [iZ (by omega)]; omega), Option.bind_some]
          · rw [hpre h q1 h69, if_neg (by rw [y]; decide), if_neg (by rw [y]; decide), if_pos y, e70, if_neg (by rw [iZ (by omega)]; omega)]
      · match σ, r1, r2, r3, e13, e70 with
        | (G, .inl []), r1, r2, r3, e13, e70 => exact r1.elim
        | (G, .inl (f :: fs)), r1, r2, r3, e13, e70 =>
          have e13 : rd h 128 13 = 0 := e13
          have e11 : rd h 128 11 = Int32.ofNat (fs.length + 1) := by
            obtain ⟨t, h13, h14, A, L, hb, b, M, X, o, k1, k2, k3, k4, k5, k6⟩ := r1
            exact k5
          have e93 : rd h 138 93 = Int32.ofNat (fs.length + 1) := by
            obtain ⟨t, ⟨q1, q2, B, O, L, lt, pt, trs, q3, q4, q5, q6, q7, q8⟩, htd, hl⟩ := r2
            exact q6
          refine key (Int32.ofNat (fs.length + 1)) ⟨?_, ?_⟩
          · rw [hc.2.2.2.1 y, e13, if_pos rfl, e11]
          · rw [hpre h q1 h69, if_neg (by rw [y]; decide), if_neg (by rw [y]; decide), if_neg (by rw [y]; decide), if_pos y, e93]
        | (G, .inr (k, a)), r1, r2, r3, e13, e70 =>
          have hk := r2.2.2.2.2.2.2.2
          have e13 : rd h 128 13 = Int32.ofNat k := e13
          have e93 : rd h 138 93 = 0 := r2.2.2.2.2.2.2.1
          refine key 0 ⟨?_, ?_⟩
          · rw [hc.2.2.2.1 y, e13, if_neg (by rw [iZ (by omega)]; omega)]
          · rw [hpre h q1 h69, if_neg (by rw [y]; decide), if_neg (by rw [y]; decide), if_neg (by rw [y]; decide), if_pos y, e93]
      · refine key (Int32.ofNat σ.1.2.2.1.length) ⟨by rw [hc.2.2.2.2.1 y, b4], ?_⟩
        rw [hpre h q1 h69, if_neg (by rw [y]; decide), if_neg (by rw [y]; decide), if_neg (by rw [y]; decide), if_neg (by rw [y]; decide), if_pos y, d4]
      · refine key (Int32.ofNat σ.1.2.2.2.1.2.2) ⟨by rw [hc.2.2.2.2.2 y, b3], ?_⟩
        rw [hpre h q1 h69, if_neg (by rw [y]; decide), if_neg (by rw [y]; decide), if_neg (by rw [y]; decide), if_neg (by rw [y]; decide), if_neg (by rw [y]; decide), d3]
end C6
