/-! ===== THE REFERENCE'S STEPS: taking the thing on top, values ===== -/
def ROp (P : Pgm) (S : Tks) (num : List Int32 → Nat) (g h : pH) (G : Gs) (i : Nat × Nat × Nat) (lo : List Vl) (ops : List (Bool × Vl)) (E : EnvV) (xs : List Xi) (ks : List Si) (fs : List Fm) (t1 t2 t3 : List It) (B O : Nat → Nat) (L : List Nat) (lb pb : Nat) (tr' : List (Nat × Nat)) : Prop := (rd h 138 70 = 0 ∧ rd h 138 77 = 0 ∧ RBs g G B O L h) ∧ FrR B L h fs.length (i, lo, ops, E, xs, ks) lb pb ∧ LwR B L h fs lb pb tr' ∧ rd h 138 100 = Int32.ofNat (pb + (um ops).length) ∧ rd h 138 93 = Int32.ofNat (fs.length + 1) ∧ TdH (t1 ++ (t2 ++ (8, Int32.ofNat i.2.1) :: t3)) h ∧ TrH (tyE pb ks ++ tr') h ∧ TdX P S num i.1 E g t1 (nx xs) ∧ t1.length ≤ 3000 ∧ TdK P num i.1 (P.mty i.2.1) g ks t2 ∧ TdF P S num g fs t3
section RO
variable {P : Pgm} {S : Tks} {num : List Int32 → Nat} {N : Nat} {g h : pH} {G : Gs} {i : Nat × Nat × Nat} {lo : List Vl} {ops : List (Bool × Vl)} {E : EnvV} {xs : List Xi} {ks : List Si} {fs : List Fm} {t1 t2 t3 : List It} {B O : Nat → Nat} {L : List Nat} {lb pb : Nat} {tr' : List (Nat × Nat)}
theorem ROp.rrs (q : ROp P S num g h G i lo ops E xs ks fs t1 t2 t3 B O L lb pb tr') : RRs P S num g h (G, .inl ((i, lo, ops, E, xs, ks) :: fs)) := by
  obtain ⟨⟨q1, q2, q3⟩, q4, q5, q6, q7, q8, q9, q10, q11, q12, q13⟩ := q
  exact ⟨_, q1, q2, B, O, L, lb + lo.length, pb + (um ops).length, tyE pb ks ++ tr', q3, ⟨lb, pb, tr', q4, rfl, rfl, rfl, q5⟩, q6, q7, ⟨t1, t2, t3, rfl, q10, q11, q12, q13⟩, q8, q9⟩
theorem ROp.st (q : ROp P S num g h G i lo ops E xs ks fs t1 t2 t3 B O L lb pb tr') : StV g h := q.1.2.2.1
def cuA (a k : Nat) : Prop := a = 138 ∧ (k = 75 ∨ k = 103)
/-- the thing on top is taken, a step is counted -/
theorem r_take {it : It} {T : List It} {fs : List Fm} (hq : RRq g h G fs (it :: T)) (hl : T.length < 400000) : RRq g (wr (wr h 138 75 (Int32.ofNat (G.2.2.2.1.1 + 1))) 138 103 (Int32.ofNat T.length)) (cntS G) fs T ∧ Chg cuA h (wr (wr h 138 75 (Int32.ofNat (G.2.2.2.1.1 + 1))) 138 103 (Int32.ofNat T.length)) ∧ fX12_stepOnce N 138 h = if Int32.ofNat it.1 = 0 then (fX12_leaf N 138 it.2 (wr (wr h 138 75 (Int32.ofNat (G.2.2.2.1.1 + 1))) 138 103 (Int32.ofNat T.length))).bind fun h17 => fX12_stepOnce_93 N 138 h17 else if Int32.ofNat it.1 = 1 then (fX12_work N 138 it.2 (wr (wr h 138 75 (Int32.ofNat (G.2.2.2.1.1 + 1))) 138 103 (Int32.ofNat T.length))).bind fun h17 => fX12_stepOnce_93 N 138 h17 else if Int32.ofNat it.1 = 2 then (fX12_half N 138 it.2 (wr (wr h 138 75 (Int32.ofNat (G.2.2.2.1.1 + 1))) 138 103 (Int32.ofNat T.length))).bind fun h17 => fX12_stepOnce_93 N 138 h17 else (fX12_done N 138 it.2 (wr (wr h 138 75 (Int32.ofNat (G.2.2.2.1.1 + 1))) 138 103 (Int32.ofNat T.length))).bind fun h17 => fX12_stepOnce_93 N 138 h17 := by
  obtain ⟨h70, h77, B, O, L, lt, pt, trs, hb, hlw, h100, h93, hth, htr⟩ := hq
  have sg := hb.1.1
  have s1 := sg.wr 138 75 (Int32.ofNat (G.2.2.2.1.1 + 1))
  have s2 := s1.wr 138 103 (Int32.ofNat T.length)
  have c1 : Chg (fun a k => a = 138 ∧ k = 75) h (wr h 138 75 (Int32.ofNat (G.2.2.2.1.1 + 1))) := Chg.wr h 138 75 _ ⟨rfl, rfl⟩
  have c2 : Chg (fun a k => a = 138 ∧ k = 103) (wr h 138 75 (Int32.ofNat (G.2.2.2.1.1 + 1))) (wr (wr h 138 75 (Int32.ofNat (G.2.2.2.1.1 + 1))) 138 103 (Int32.ofNat T.length)) := Chg.wr _ 138 103 _ ⟨rfl, rfl⟩
  have c : Chg cuA h (wr (wr h 138 75 (Int32.ofNat (G.2.2.2.1.1 + 1))) 138 103 (Int32.ofNat T.length)) := (c1.mono (fun a k z => ⟨z.1, Or.inl z.2⟩)).trans (c2.mono (fun a k z => ⟨z.1, Or.inr z.2⟩))
  have hth1 : TdH (it :: T) (wr h 138 75 (Int32.ofNat (G.2.2.2.1.1 + 1))) := hth.chg c1 (by omega) (fun a k z _ => by omega)
  obtain ⟨p1, p2, p3, p4⟩ := hth1.pop s1
  have e75 : rd h 138 75 = Int32.ofNat G.2.2.2.1.1 := hb.2.1.1
  refine ⟨⟨(c.2.2.1 _ _ (by unfold cuA; omega)).trans h70, (c.2.2.1 _ _ (by unfold cuA; omega)).trans h77, B, O, L, lt, pt, trs, ?_, hlw.chg c (fun a n _ _ _ => by unfold cuA; omega) (fun a k _ _ => by unfold cuA; omega) (fun a k _ _ => by unfold cuA; omega), (c.2.2.1 _ _ (by unfold cuA; omega)).trans h100, (c.2.2.1 _ _ (by unfold cuA; omega)).trans h93, p1, htr.chg c (by unfold cuA; omega) (fun a k z _ => by unfold cuA; omega)⟩, c, ?_⟩
  · obtain ⟨b1, b2, b3, b4⟩ := hb
    refine ⟨b1.chg c (fun a k z => by unfold cuA; omega), ?_, (c.2.2.1 _ _ (by unfold cuA; omega)).trans b3, b4.chg c (fun a k z => by unfold cuA; omega)⟩
    obtain ⟨d1, d2, d3, d4, d5, d6, d7, d8⟩ := b2
    refine ⟨?_, (c.2.2.1 _ _ (by unfold cuA; omega)).trans d2, (c.2.2.1 _ _ (by unfold cuA; omega)).trans d3, (c.2.2.1 _ _ (by unfold cuA; omega)).trans d4, fun j x j1 j2 => (c.2.2.1 _ _ (by unfold cuA; omega)).trans (d5 j x j1 j2), (c.2.2.1 _ _ (by unfold cuA; omega)).trans d6, d7, fun j x j1 => (c.2.2.1 _ _ (by unfold cuA; omega)).trans (d8 j x j1)⟩
    rw [rd_wr_ne _ _ (by omega), w_138_75 sg]
    rfl
  · unfold fX12_stepOnce
    rw [if_pos (o_138 sg), g_138_75 sg, Option.bind_some, e75, i_add1, p_138_75 sg, Option.bind_some, g_138_103 s1, Option.bind_some, p4, i_sub1, p_138_103 s1, Option.bind_some, R_138_105 s2, Option.bind_some, g_138_103 s2, Option.bind_some, w_138_103 s1, L_202 s2 hl, Option.bind_some, rd_wr_ne _ _ (by omega), p3, R_138_104 s2]
    simp only [Option.bind_some]
    rw [L_201 s2 hl, Option.bind_some, rd_wr_ne _ _ (by omega), p2]
theorem um_drop : ∀ (ops : List (Bool × Vl)) (j : Nat), ∃ p, um ops = p ++ um (ops.drop j)
  | [], j => ⟨[], by rw [List.drop_nil]; rfl⟩
  | x :: ops, 0 => ⟨[], rfl⟩
  | (true, v) :: ops, j + 1 => by
    obtain ⟨p, hp⟩ := um_drop ops j
    exact ⟨p, hp⟩
  | (false, v) :: ops, j + 1 => by
    obtain ⟨p, hp⟩ := um_drop ops j
    refine ⟨v :: p, ?_⟩
    show v :: um ops = v :: (p ++ um (ops.drop j))
    rw [hp]
/-- parts are taken, and a word is put in their place -/
theorem ROp.val {x f : Int32} {v : Vl} {j : Nat} {h1 : pH} {xs' : List Xi} {A : Nat → Nat → Prop} (q : ROp P S num g h G i lo ops E xs' ks fs t1 t2 t3 B O L lb pb tr') (c : Chg A h h1) (hA : ∀ a k, A a k → a = 138 ∧ k = 100 ∨ (a = 199 ∨ a = 200) ∧ pb + (um (ops.drop j)).length ≤ k) (h100 : rd h1 138 100 = Int32.ofNat (pb + (um (ops.drop j)).length)) (hv : RV B L x f v) (hx : TdX P S num i.1 E g t1 (nx xs)) (hl : (ops.drop j).length + 1 ≤ 1999) (hfs : fs.length + 1 ≤ 100) : ∃ h2, fX12_push N 138 x f h1 = some h2 ∧ ROp P S num g h2 G i lo ((false, v) :: ops.drop j) E xs ks fs t1 t2 t3 B O L lb pb tr' ∧ Chg fmA h h2 := by
  obtain ⟨⟨q1, q2, q3⟩, q4, q5, q6, q7, q8, q9, q10, q11, q12, q13⟩ := q
  have sg1 : Sg h1 := c.sg q3.1.1
  have hpb : pb ≤ 1999 * fs.length := q4.2.2.2.2.2.2.1
  have hul := um_le (ops.drop j)
  obtain ⟨h2, p1, p2, p3, p4, p5⟩ := r_push (N := N) (x := x) (f := f) sg1 h100 (by omega) hv.f01
  have c2 : Chg (fun a k => (a = 138 ∧ k = 100) ∨ ((a = 199 ∨ a = 200) ∧ pb + (um (ops.drop j)).length ≤ k)) h h2 := (c.mono (fun a k z => by have := hA a k z; omega)).trans (p2.mono (fun a k z => by unfold puA at z; omega))
  have hfm : ∀ a k, (fun a k => (a = 138 ∧ k = 100) ∨ ((a = 199 ∨ a = 200) ∧ pb + (um (ops.drop j)).length ≤ k)) a k → fmA a k := fun a k z => by
    have z : (a = 138 ∧ k = 100) ∨ ((a = 199 ∨ a = 200) ∧ pb + (um (ops.drop j)).length ≤ k) := z
    unfold fmA
    omega
  refine ⟨h2, p1, ⟨⟨(c2.2.2.1 _ _ (by omega)).trans q1, (c2.2.2.1 _ _ (by omega)).trans q2, q3.chg c2 hfm⟩, ?_, q5.chg c2 (fun a n _ _ _ => by omega) (fun a k _ _ => by omega) (fun a k _ _ => by omega), ?_, (c2.2.2.1 _ _ (by omega)).trans q7, q8.chg c2 (by omega) (fun a k z _ => by omega), q9.chg c2 (by omega) (fun a k z _ => by omega), hx, q11, q12, q13⟩, c2.mono hfm⟩
  · obtain ⟨k1, k2, k3, k4, k5, k6, k7, k8, k9, k10, k11, k12, k13, k14⟩ := q4
    obtain ⟨p, hp⟩ := um_drop ops j
    refine ⟨(c2.2.2.1 _ _ (by omega)).trans k1, k2, (c2.2.2.1 _ _ (by omega)).trans k3, (c2.2.2.1 _ _ (by omega)).trans k4, (c2.2.2.1 _ _ (by omega)).trans k5, k6, k7, k8, hl, k10, k11, fun j' v' hj => ?_, fun j' v' hj => ?_, fun v' hv' => ?_⟩
    · rw [c2.2.2.1 _ _ (by omega), c2.2.2.1 _ _ (by omega)]
      exact k12 j' v' hj
    · show RV B L (rd h2 199 (pb + ((um (ops.drop j)).length + 1) - 1 - j')) (rd h2 200 (pb + ((um (ops.drop j)).length + 1) - 1 - j')) v'
      match j', hj with
      | 0, hj =>
        obtain rfl : v = v' := Option.some.inj hj
        rw [show pb + ((um (ops.drop j)).length + 1) - 1 - 0 = pb + (um (ops.drop j)).length by omega, p4, p5]
        exact hv
      | j' + 1, hj =>
        have hj : (um (ops.drop j))[j']? = some v' := hj
        have hjl := (List.getElem?_eq_some_iff.mp hj).1
        have hj2 : (um ops)[p.length + j']? = some v' := by
          rw [hp, List.getElem?_append_right (by omega), show p.length + j' - p.length = j' by omega]
          exact hj
        have := k13 _ v' hj2
        dsimp only at this
        rw [hp, List.length_append, show pb + (p.length + (um (ops.drop j)).length) - 1 - (p.length + j') = pb + ((um (ops.drop j)).length + 1) - 1 - (j' + 1) by omega] at this
        rw [c2.2.2.1 _ _ (by omega), c2.2.2.1 _ _ (by omega)]
        exact this
    · rcases List.mem_cons.mp hv' with z | z
      · cases z
      · exact k14 v' (List.mem_of_mem_drop z)
  · rw [p3]; rfl
/-- the words on top -/
theorem ROp.top {v : Vl} {j : Nat} (q : ROp P S num g h G i lo ops E xs ks fs t1 t2 t3 B O L lb pb tr') (hj : (um ops)[j]? = some v) : RV B L (rd h 199 (pb + (um ops).length - 1 - j)) (rd h 200 (pb + (um ops).length - 1 - j)) v := q.2.1.2.2.2.2.2.2.2.2.2.2.2.2.1 j v hj
theorem ROp.self (q : ROp P S num g h G i lo ops E xs ks fs t1 t2 t3 B O L lb pb tr') : rd h 193 fs.length = Int32.ofNat (B i.2.2) ∧ (i.2.2 ∈ L ∨ i.2.2 < 5) := ⟨q.2.1.1, q.2.1.2.1⟩
end RO
/-- numbers of objects, places of words -/
theorem LyR.bd {hp : List Ob} {B O : Nat → Nat} : ∀ {L : List Nat} {n a : Nat}, LyR hp B O L n a → ∀ i, i ∈ L → n ≤ B i ∧ B i < n + L.length ∧ a ≤ O i ∧ O i + obL hp i ≤ a + totL hp L ∧ 5 ≤ i ∧ i < hp.length
  | [], n, a, _, i, hi => by cases hi
  | j :: L, n, a, ⟨h1, h2, h3, h4, h5, h6⟩, i, hi => by
    have e : totL hp (j :: L) = obL hp j + totL hp L := rfl
    rw [List.length_cons, e]
    rcases List.mem_cons.mp hi with rfl | hi
    · omega
    · have := LyR.bd h6 i hi
      omega
theorem totL_tot (hp : List Ob) : ∀ (L : List Nat), totL hp L + 2 * L.length = tot hp L
  | [] => rfl
  | i :: L => by
    have := totL_tot hp L
    show obL hp i + totL hp L + 2 * (L.length + 1) = (2 + obL hp i) + tot hp L
    omega
theorem HpR.at {hp : List Ob} {H : Nat} {B O : Nat → Nat} {L : List Nat} {h : pH} (q : HpR hp H B O L h) {i : Nat} (hi : i ∈ L ∨ i < 5) : B i < 5005 ∧ ObR hp B O L h i ∧ O i + (if i < 5 then 0 else obL hp i) ≤ 10000 := by
  obtain ⟨b1, b2, b3, b4, b5, b6, b7, b8, b9⟩ := q
  have := totL_tot hp L
  by_cases h5 : i < 5
  · obtain ⟨c1, c2, c3⟩ := b1 i h5
    rw [if_pos h5]
    exact ⟨by omega, c3, by omega⟩
  · have hi := hi.resolve_right h5
    have hb := b2.bd i hi
    rw [if_neg h5]
    exact ⟨by omega, b9 i hi, by omega⟩
