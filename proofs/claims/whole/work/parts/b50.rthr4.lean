/-! ===== THE REFERENCE'S STEPS: throwing ===== -/
def thA (a k : Nat) : Prop := fmA a k ∨ (a = 138 ∧ k = 76)
/-- what the reference's tables hold of the program -/
def Str (P : Pgm) (S : Tks) (D : List Int32 → Prop) (num : List Int32 → Nat) (g : pH) : Prop := PgF P S ∧ RT P D num g ∧ RPr P g
theorem FsT.fks {P : Pgm} {S : Tks} {hp : List Ob} : ∀ {fs : List Fm} {pre : List (Bool × Nat)}, FsT P S hp fs pre → ∀ f, f ∈ fs → FK P S hp f
  | [], _, _, f, hf => by cases hf
  | x :: fs, pre, h, f, hf => by
    rcases List.mem_cons.mp hf with rfl | hf
    · exact h.1.fk
    · exact FsT.fks h.2 f hf
section TW
variable {P : Pgm} {S : Tks} {D : List Int32 → Prop} {num : List Int32 → Nat} {N : Nat} {g h : pH} {G : Gs} {i : Nat × Nat × Nat} {lo : List Vl} {ops : List (Bool × Vl)} {E : EnvV} {xs : List Xi} {ks : List Si} {fs : List Fm} {t1 t2 t3 : List It} {B O : Nat → Nat} {L : List Nat} {lb pb : Nat} {tr' : List (Nat × Nat)}
theorem r_thr {o dd : Nat} {fl : List Vl} {pre : List (Bool × Nat)} (hN : 400000 ≤ N) (hst : Str P S D num g) (q : ROp P S num g h G i lo ops E xs ks fs t1 t2 t3 B O L lb pb tr') (hho : HO P G.1) (hob : G.1[o]? = some (some dd, fl)) (ho : o ∈ L ∨ o < 5) (hfk : FK P S G.1 (i, lo, ops, E, xs, ks)) (hfs : FsT P S G.1 fs pre) (hn : fs.length + 1 ≤ 100) : ∃ h', fX12_throwsObject N 138 (Int32.ofNat (B o)) h = some h' ∧ RRs P S num g h' (P.thr G o ((i, lo, ops, E, xs, ks) :: fs)) ∧ Chg thA h h' := by
  obtain ⟨hP, hrt, hrp⟩ := hst
  have ha := hP.1
  obtain ⟨⟨q1, q2, q3⟩, q4, q5, q6, q7, q8, q9, q10, q11, q12, q13⟩ := q
  have st := q3.1
  have sg := st.1
  have hdn : dd < P.n := (hho.2 o _ hob).2.1
  have s1 := sg.wr 138 76 (Int32.ofNat (G.2.2.2.1.2.2 + 1))
  have c1 : Chg (fun a k => a = 138 ∧ k = 76) h (wr h 138 76 (Int32.ofNat (G.2.2.2.1.2.2 + 1))) := Chg.wr h 138 76 _ ⟨rfl, rfl⟩
  have st1 : StV g (wr h 138 76 (Int32.ofNat (G.2.2.2.1.2.2 + 1))) := st.chg c1 (fun a k z => by omega)
  have e76 : rd h 138 76 = Int32.ofNat G.2.2.2.1.2.2 := q3.2.1.2.2.1
  obtain ⟨b1, b2, -⟩ := q3.2.2.2.at ho
  have e185 : rd h 185 (B o) = Int32.ofNat dd := (b2 _ hob).1
  have hlw : LwR B L h ((i, lo, ops, E, xs, ks) :: fs) (lb + lo.length) (pb + (um ops).length) (tyE pb ks ++ tr') := ⟨lb, pb, tr', q4, rfl, rfl, rfl, q5⟩
  have htd : TdF P S num g ((i, lo, ops, E, xs, ks) :: fs) (t1 ++ (t2 ++ (8, Int32.ofNat i.2.1) :: t3)) := ⟨t1, t2, t3, rfl, q10, q11, q12, q13⟩
  have htl := htd.len hlw
  rw [List.length_cons] at htl
  have hall : ∀ f, f ∈ (i, lo, ops, E, xs, ks) :: fs → FK P S G.1 f := fun f hf => by
    rcases List.mem_cons.mp hf with rfl | hf
    · exact hfk
    · exact hfs.fks f hf
  have key := thr_fs (P := P) (S := S) (D := D) (num := num) (N := N) (dd := dd) (o := o) (g := g) (hp := G.1) (B := B) (L := L) (by omega) hrt hrp ha hdn ho ((i, lo, ops, E, xs, ks) :: fs) (wr h 138 76 (Int32.ofNat (G.2.2.2.1.2.2 + 1))) (t1 ++ (t2 ++ (8, Int32.ofNat i.2.1) :: t3)) (lb + lo.length) (pb + (um ops).length) (tyE pb ks ++ tr') N st1 hall (by rw [List.length_cons]; exact hn) ⟨hlw.chg c1 (fun a n _ _ _ => by omega) (fun a k _ _ => by omega) (fun a k _ _ => by omega), htd, q8.chg c1 (by omega) (fun a k z _ => by omega), q9.chg c1 (by omega) (fun a k z _ => by omega), by rw [List.length_cons]; exact (c1.2.2.1 _ _ (by omega)).trans q7⟩ (by omega)
  have eth : fX12_throwsObject N 138 (Int32.ofNat (B o)) h = fX12_throwsObject_17 N N 138 (Int32.ofNat (B o)) (Int32.ofNat dd) (wr h 138 76 (Int32.ofNat (G.2.2.2.1.2.2 + 1))) := by
    unfold fX12_throwsObject
    rw [if_pos (o_138 sg), g_138_76 sg, Option.bind_some, e76, i_add1, p_138_76 sg, Option.bind_some, R_138_83 s1, Option.bind_some, L_185 s1 (by omega), Option.bind_some, rd_wr_ne _ _ (by omega), e185]
  rw [eth]
  have hcl : (obC G.1 o).getD 0 = dd := by unfold obC; rw [hob]; rfl
  have cn : ∀ h', (∀ a k, a = 183 ∨ a = 184 ∨ (a = 138 ∧ (k = 74 ∨ k = 75 ∨ k = 76 ∨ k = 78 ∨ k = 80)) → rd h' a k = rd (wr h 138 76 (Int32.ofNat (G.2.2.2.1.2.2 + 1))) a k) → CnR (G.1, G.2.1, G.2.2.1, (G.2.2.2.1.1, G.2.2.2.1.2.1, G.2.2.2.1.2.2 + 1), G.2.2.2.2) h' := fun h' e => by
    obtain ⟨d1, d2, d3, d4, d5, d6, d7, d8⟩ := q3.2.1
    refine ⟨(e _ _ (by omega)).trans ((c1.2.2.1 _ _ (by omega)).trans d1), (e _ _ (by omega)).trans ((c1.2.2.1 _ _ (by omega)).trans d2), (e _ _ (by omega)).trans (w_138_76 sg _), (e _ _ (by omega)).trans ((c1.2.2.1 _ _ (by omega)).trans d4), fun j x j1 j2 => (e _ _ (by omega)).trans ((c1.2.2.1 _ _ (by omega)).trans (d5 j x j1 j2)), (e _ _ (by omega)).trans ((c1.2.2.1 _ _ (by omega)).trans d6), d7, fun j x j1 => (e _ _ (by omega)).trans ((c1.2.2.1 _ _ (by omega)).trans (d8 j x j1))⟩
  unfold Pgm.thr
  rw [hcl]
  rcases hth : P.thF dd o ((i, lo, ops, E, xs, ks) :: fs) with _ | fs'
  · rw [hth] at key
    obtain ⟨h', r1, r2, r3, r4, r5, r6⟩ := key
    refine ⟨h', r1, ⟨st1.chg r6 (fun a k z => by unfold fmA; omega), cn h' (fun a k z => r6.2.2.1 _ _ (by unfold fmA; omega)), (r6.2.2.1 _ _ (by unfold fmA; omega)).trans ((c1.2.2.1 _ _ (by omega)).trans q3.2.2.1), r2, r3, r4, r5, by omega, by omega⟩, (c1.mono (fun a k z => Or.inr z)).trans (r6.mono (fun a k z => Or.inl z))⟩
  · rw [hth] at key
    obtain ⟨h', t', lt', pt', trs', r1, ⟨w1, w2, w3, w4, w5⟩, r3, r4⟩ := key
    refine ⟨h', r1, ⟨t', (r4.2.2.1 _ _ (by unfold fmB2; omega)).trans ((c1.2.2.1 _ _ (by omega)).trans q1), (r4.2.2.1 _ _ (by unfold fmB2; omega)).trans ((c1.2.2.1 _ _ (by omega)).trans q2), B, O, L, lt', pt', trs', ⟨st1.chg r4 (fun a k z => by unfold fmB2; omega), cn h' (fun a k z => r4.2.2.1 _ _ (by unfold fmB2; omega)), (r4.2.2.1 _ _ (by unfold fmB2; omega)).trans ((c1.2.2.1 _ _ (by omega)).trans q3.2.2.1), (q3.2.2.2.chg c1 (fun a k z => by omega)).chg r4 (fun a k z => by unfold fmB2; omega)⟩, w1, r3, w5, w2, w3, w4⟩, (c1.mono (fun a k z => Or.inr z)).trans (r4.mono (fun a k z => Or.inl (by unfold fmB2 at z; unfold fmA; omega)))⟩
theorem r_flt {n : Nat} {pre : List (Bool × Nat)} (hN : 400000 ≤ N) (hst : Str P S D num g) (q : ROp P S num g h G i lo ops E xs ks fs t1 t2 t3 B O L lb pb tr') (hho : HO P G.1) (hn5 : n < 5) (hfk : FK P S G.1 (i, lo, ops, E, xs, ks)) (hfs : FsT P S G.1 fs pre) (hn : fs.length + 1 ≤ 100) : ∃ h', fX12_faults N 138 (Int32.ofNat n) h = some h' ∧ RRs P S num g h' (P.thr G n ((i, lo, ops, E, xs, ks) :: fs)) ∧ Chg thA h h' := by
  obtain ⟨h', r1, r2, r3⟩ := r_thr hN hst q hho (hho.1 n hn5) (Or.inr hn5) hfk hfs hn
  have hB : B n = n := (q.1.2.2.2.2.2.1 n hn5).1
  rw [hB] at r1
  refine ⟨h', ?_, r2, r3⟩
  unfold fX12_faults
  rw [if_pos (o_138 q.st.1), r1, Option.bind_some]
end TW
