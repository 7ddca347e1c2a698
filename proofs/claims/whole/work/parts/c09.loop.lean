/-! ===== THE LAW'S LOOP ===== -/
def PtI (nc ns : Nat) (h : pH) : Prop := ∃ a b, nc = 199 + a ∧ ns = 1707826 + b ∧ 100 * a ≤ b ∧ b + pot 2000 ≤ pot (pileN h)
theorem PtI.add {nc ns nc' ns' : Nat} {h h' : pH} (q : PtI nc ns h) (p : Pot h h' nc' ns') : PtI (nc + nc') (ns + ns') h' := by
  obtain ⟨a, b, q1, q2, q3, q4⟩ := q
  obtain ⟨p1, p2⟩ := p
  exact ⟨a + nc', b + ns', by omega, by omega, by omega, by omega⟩
theorem PtI.z {nc ns : Nat} {h h' : pH} (q : PtI nc ns h) (p : Pot h h' 0 0) : PtI nc ns h' := q.add p
theorem pot_le {n : Nat} (h : n ≤ 400000) : pot n ≤ 1200000 := by
  unfold pot
  split <;> omega
theorem PtI.end {nc ns : Nat} {h : pH} (q : PtI nc ns h) (sg : Sg h) : nc ≤ 105980 ∧ ns ≤ 8784308 := by
  obtain ⟨a, b, q1, q2, q3, q4⟩ := q
  have := pot_le sg.pile.2.2.2.2
  omega
theorem law_lt {L i : Nat} (hL : L ≤ 4000) (hi : i ≤ 4000) : (Int32.ofNat L - 6 < Int32.ofNat i) ↔ L < i + 6 := by
  have e1 : (Int32.ofNat i).toInt = i := Int32.toInt_ofNat_of_lt (by omega)
  rcases Nat.lt_or_ge L 6 with h | h
  · have : L = 0 ∨ L = 1 ∨ L = 2 ∨ L = 3 ∨ L = 4 ∨ L = 5 := by omega
    have e2 : (Int32.ofNat L - 6).toInt < 0 := by
      rcases this with rfl | rfl | rfl | rfl | rfl | rfl <;> decide
    rw [Int32.lt_iff_toInt_lt, e1]
    omega
  · rw [show (6 : Int32) = Int32.ofNat 6 from rfl, i_subk h, iLt (by omega) (by omega)]
    omega
section LL
variable {X : pX} {N : Nat}
def LawR (X : pX) (N f : Nat) (k nc ns : Nat) (h : pH) : Prop := ∃ q, fL_law_18 X N f 6 138 (Int32.ofNat (6 * k)) nc ns h = some q ∧ q.1 = 1 ∧ q.2.2.1 ≤ 105980 ∧ q.2.2.2 ≤ 8784308
theorem law_348 {f k nc ns : Nat} {h : pH} (h1 : LawR X N f (k + 1) nc ns h) : ∃ q, fL_law_348 X N (fL_law_18 X N f) 6 138 (Int32.ofNat (6 * k)) nc ns h = some q ∧ q.1 = 1 ∧ q.2.2.1 ≤ 105980 ∧ q.2.2.2 ≤ 8784308 := by
  unfold fL_law_348
  have e : Int32.ofNat (6 * k) + 6 = Int32.ofNat (6 * (k + 1)) := by
    rw [show (6 : Int32) = Int32.ofNat 6 from rfl, ← Int32.ofNat_add]
    congr 1
  rw [e]
  exact h1
theorem law_loop (hX : X.1 ≤ 3072) (hN : 100000000000 ≤ N) : ∀ (r k f nc ns : Nat) (h : pH), X.1 / 6 = k + r → r < f → Inv k h → PtI nc ns h → LawR X N f k nc ns h
  | 0, k, f + 1, nc, ns, h, hk, hf, q, p => by
    have sg := q.1.1
    refine ⟨(1, h, nc, ns), ?_, rfl, (p.end sg).1, (p.end sg).2⟩
    rw [fL_law_18, if_pos ((law_lt (by omega) (by omega)).mpr (by omega))]
  | r + 1, k, f + 1, nc, ns, h, hk, hf, q, p => by
    have ld : ∀ j, j < 6 → ldS X (Int32.ofNat (6 * k + j)) = some (X.2 (6 * k + j)) := fun j hj => by
      unfold ldS
      rw [if_neg (i_out (by omega) (by omega)), i_cl (by omega)]
    have l0 : ldS X (Int32.ofNat (6 * k)) = some (X.2 (6 * k)) := ld 0 (by omega)
    have l1 : ldS X (Int32.ofNat (6 * k) + 1) = some (X.2 (6 * k + 1)) := by
      rw [show (1 : Int32) = Int32.ofNat 1 from rfl, ← Int32.ofNat_add]
      exact ld 1 (by omega)
    have l2 : ldS X (Int32.ofNat (6 * k) + 2) = some (X.2 (6 * k + 2)) := by
      rw [show (2 : Int32) = Int32.ofNat 2 from rfl, ← Int32.ofNat_add]
      exact ld 2 (by omega)
    have l3 : ldS X (Int32.ofNat (6 * k) + 3) = some (X.2 (6 * k + 3)) := by
      rw [show (3 : Int32) = Int32.ofNat 3 from rfl, ← Int32.ofNat_add]
      exact ld 3 (by omega)
    have l4 : ldS X (Int32.ofNat (6 * k) + 4) = some (X.2 (6 * k + 4)) := by
      rw [show (4 : Int32) = Int32.ofNat 4 from rfl, ← Int32.ofNat_add]
      exact ld 4 (by omega)
    have l5 : ldS X (Int32.ofNat (6 * k) + 5) = some (X.2 (6 * k + 5)) := by
      rw [show (5 : Int32) = Int32.ofNat 5 from rfl, ← Int32.ofNat_add]
      exact ld 5 (by omega)
    have next : ∀ (nc' ns' : Nat) (h' : pH), Inv (k + 1) h' → PtI nc' ns' h' → ∃ q, fL_law_348 X N (fL_law_18 X N f) 6 138 (Int32.ofNat (6 * k)) nc' ns' h' = some q ∧ q.1 = 1 ∧ q.2.2.1 ≤ 105980 ∧ q.2.2.2 ≤ 8784308 := fun nc' ns' h' q' p' => law_348 (law_loop hX hN r (k + 1) f nc' ns' h' (by omega) (by omega) q' p')
    unfold LawR
    rw [fL_law_18, if_neg (fun z => by have := (law_lt (L := X.1) (i := 6 * k) (by omega) (by omega)).mp z; omega), l0, Option.bind_some]
    by_cases c0 : (X.2 (6 * k) &&& (15 : Int32)) = 0
    · obtain ⟨r0, h1, h2, a1, a2, a3, a4⟩ := inv_feed (N := N) (a := X.2 (6 * k + 1)) (b := X.2 (6 * k + 2)) (c := X.2 (6 * k + 3)) (d := X.2 (6 * k + 4)) (e := X.2 (6 * k + 5)) (by omega) q
      rw [if_pos c0, l1, l2, l3, l4, l5]
      simp only [Option.bind_some]
      rw [a1]
      simp only [Option.bind_some]
      rw [a2]
      simp only [Option.bind_some]
      rw [if_pos trivial]
      exact next nc ns h2 a3 (p.z a4)
    rw [if_neg c0]
    by_cases c1 : (X.2 (6 * k) &&& (15 : Int32)) = 1
    · obtain ⟨r0, h1, h2, a1, a2, a3, a4⟩ := inv_end (N := N) (v := X.2 (6 * k + 1)) q
      rw [if_pos c1, l1]
      simp only [Option.bind_some]
      rw [a1]
      simp only [Option.bind_some]
      rw [a2]
      simp only [Option.bind_some]
      rw [if_pos trivial]
      exact next nc ns h2 a3 (p.z a4)
    rw [if_neg c1]
    by_cases c2 : (X.2 (6 * k) &&& (15 : Int32)) = 2
    · obtain ⟨r0, h1, h2, a1, a2, a3, a4⟩ := inv_prog (N := N) (by omega) q
      rw [if_pos c2, a1]
      simp only [Option.bind_some]
      rw [a2]
      simp only [Option.bind_some]
      rw [if_pos trivial]
      exact next nc ns h2 a3 (p.z a4)
    rw [if_neg c2]
    by_cases c3 : (X.2 (6 * k) &&& (15 : Int32)) = 3
    · obtain ⟨r0, h1, h2, a1, a2, a3, a4⟩ := inv_heap (N := N) (v := X.2 (6 * k + 1)) q
      rw [if_pos c3, l1]
      simp only [Option.bind_some]
      rw [a1]
      simp only [Option.bind_some]
      rw [a2]
      simp only [Option.bind_some]
      rw [if_pos trivial]
      exact next nc ns h2 a3 (p.z a4)
    rw [if_neg c3]
    by_cases c4 : (X.2 (6 * k) &&& (15 : Int32)) = 4
    · obtain ⟨r0, h1, h2, a1, a2, a3, a4⟩ := inv_input (N := N) (a := X.2 (6 * k + 1)) (b := X.2 (6 * k + 2)) (c := X.2 (6 * k + 3)) q
      rw [if_pos c4, l1, l2, l3]
      simp only [Option.bind_some]
      rw [a1]
      simp only [Option.bind_some]
      rw [a2]
      simp only [Option.bind_some]
      rw [if_pos trivial]
      exact next nc ns h2 a3 (p.z a4)
    rw [if_neg c4]
    by_cases c5 : (X.2 (6 * k) &&& (15 : Int32)) = 5
    · obtain ⟨r0, h1, h2, nc', ns', a1, a2, a3, a4⟩ := inv_start (N := N) hN q
      rw [if_pos c5, a1]
      simp only [Option.bind_some]
      rw [a2]
      simp only [Option.bind_some]
      rw [if_pos trivial]
      exact next (nc + nc') (ns + ns') h2 a3 (p.add a4)
    rw [if_neg c5]
    by_cases c6 : (X.2 (6 * k) &&& (15 : Int32)) = 6
    · obtain ⟨r0, h1, h2, nc', ns', a1, a2, a3, a4⟩ := inv_step (N := N) (v := X.2 (6 * k + 1)) hN (by omega) q
      rw [if_pos c6, l1]
      simp only [Option.bind_some]
      rw [a1]
      simp only [Option.bind_some]
      rw [a2]
      simp only [Option.bind_some]
      rw [if_pos trivial]
      exact next (nc + nc') (ns + ns') h2 a3 (p.add a4)
    rw [if_neg c6]
    by_cases c7 : (X.2 (6 * k) &&& (15 : Int32)) = 7
    · obtain ⟨r0, h1, h2, a1, a2, a3, a4⟩ := inv_result (N := N) q
      rw [if_pos c7, a1]
      simp only [Option.bind_some]
      rw [a2]
      simp only [Option.bind_some]
      rw [if_pos trivial]
      exact next nc ns h2 a3 (p.z a4)
    rw [if_neg c7]
    by_cases c8 : (X.2 (6 * k) &&& (15 : Int32)) = 8
    · obtain ⟨r0, h1, h2, a1, a2, a3, a4⟩ := inv_output (N := N) (v := X.2 (6 * k + 1)) (by omega) q
      rw [if_pos c8, l1]
      simp only [Option.bind_some]
      rw [a1]
      simp only [Option.bind_some]
      rw [a2]
      simp only [Option.bind_some]
      rw [if_pos trivial]
      exact next nc ns h2 a3 (p.z a4)
    rw [if_neg c8]
    by_cases c9 : (X.2 (6 * k) &&& (15 : Int32)) = 9
    · obtain ⟨r0, h1, h2, a1, a2, a3, a4⟩ := inv_count (N := N) (v := X.2 (6 * k + 1)) (by omega) (by omega) q
      rw [if_pos c9, l1]
      simp only [Option.bind_some]
      rw [a1]
      simp only [Option.bind_some]
      rw [a2]
      simp only [Option.bind_some]
      rw [if_pos trivial]
      exact next nc ns h2 a3 (p.z a4)
    rw [if_neg c9]
    exact next nc ns h q.up p
end LL
