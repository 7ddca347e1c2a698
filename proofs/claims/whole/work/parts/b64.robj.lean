/-! ===== THE REFERENCE'S STEPS: a gift to a field or an element ===== -/
section DF
variable {P : Pgm} {S : Tks} {D : List Int32 → Prop} {num : List Int32 → Nat} {N : Nat} {g h : pH} {G : Gs} {i : Nat × Nat × Nat} {lo : List Vl} {ops : List (Bool × Vl)} {E : EnvV} {xs : List Xi} {ks : List Si} {fs : List Fm} {t1 t2 t3 : List It} {B O : Nat → Nat} {L : List Nat} {lb pb : Nat} {tr' : List (Nat × Nat)}
def obA (a k : Nat) : Prop := a = 191 ∨ (a = 138 ∧ k = 100)
/-- a word of an object is written, parts are taken -/
theorem ROp.obj {o j d : Nat} {ob : Ob} {x : Int32} {v : Vl} {E' : EnvV} (q : ROp P S num g h G i lo ops E [] ks fs [] t2 t3 B O L lb pb tr') (ho : HO P G.1) (hi : o ∈ L) (hob : G.1[o]? = some ob) (hj : j < ob.2.length) (hw : RV B L x (rd h 192 (O o + j)) v) : RRs P S num g (wr (wr h 191 (O o + j) x) 138 100 (Int32.ofNat (pb + (um (ops.drop d)).length))) ((obS G.1 o j v, G.2), .inl ((i, lo, ops.drop d, E', [], ks) :: fs)) ∧ Chg obA h (wr (wr h 191 (O o + j) x) 138 100 (Int32.ofNat (pb + (um (ops.drop d)).length))) := by
  have sg := q.st.1
  have s1 := sg.wr 191 (O o + j) x
  have c1 : Chg (fun a _ => a = 191) h (wr h 191 (O o + j) x) := Chg.wr h 191 _ _ rfl
  obtain ⟨⟨q1, q2, q3⟩, q4, q5, q6, q7, q8, q9, q10, q11, q12, q13⟩ := q
  have q' : ROp P S num g (wr h 191 (O o + j) x) (obS G.1 o j v, G.2) i lo ops E [] ks fs [] t2 t3 B O L lb pb tr' := ⟨⟨(c1.2.2.1 _ _ (by omega)).trans q1, (c1.2.2.1 _ _ (by omega)).trans q2, q3.1.chg c1 (fun a k z => by omega), q3.2.1.chg c1 (fun a k z => by omega), (c1.2.2.1 _ _ (by omega)).trans q3.2.2.1, q3.2.2.2.set sg ho hi hob hj hw⟩, q4.chg c1 (fun a _ _ => by omega) (fun a k _ _ _ => by omega) (fun a k _ _ _ => by omega), q5.chg c1 (fun a n _ _ _ => by omega) (fun a k _ _ => by omega) (fun a k _ _ => by omega), (c1.2.2.1 _ _ (by omega)).trans q6, (c1.2.2.1 _ _ (by omega)).trans q7, q8.chg c1 (by omega) (fun a k z _ => by omega), q9.chg c1 (by omega) (fun a k z _ => by omega), q10, q11, q12, q13⟩
  have q2' : ROp P S num g (wr (wr h 191 (O o + j) x) 138 100 (Int32.ofNat (pb + (um (ops.drop d)).length))) (obS G.1 o j v, G.2) i lo (ops.drop d) E [] ks fs [] t2 t3 B O L lb pb tr' := q'.cut (j := d) (Chg.wr _ 138 100 _ ⟨rfl, rfl⟩) (w_138_100 s1 _) rfl
  refine ⟨?_, (c1.mono (fun a k z => Or.inl z)).trans (Chg.wr _ 138 100 _ (Or.inr ⟨rfl, rfl⟩))⟩
  obtain ⟨g1, g2, g3, g4, g5, g6, g7, g8, g9⟩ := q2'
  exact ROp.rrs (B := B) (O := O) (L := L) (t1 := []) (t2 := t2) (t3 := t3) (lb := lb) (pb := pb) (tr' := tr') ⟨g1, g2.re g2.2.2.2.2.2.2.2.2.2.1 g2.2.2.2.2.2.2.2.2.2.2.1, g3, g4, g5, g6, g7, rfl, g9⟩
/-- values of one type have one mark -/
theorem RV.mark {hp : List Ob} {x f y f' : Int32} {v w : Vl} {t : Nat} (hv : RV B L x f v) (hw : RV B L y f' w) (tv : VT P hp v t) (tw : VT P hp w t) : RV B L y f w := by
  have hf : ∀ {x f : Int32} {v : Vl}, RV B L x f v → VT P hp v t → f = if t = 0 ∨ t = 1 ∨ t = 3 then 0 else 1 := fun {x f v} h1 h2 => by
    rcases h2 with ⟨rfl, n, rfl⟩ | ⟨rfl, rfl | rfl⟩ | ⟨rfl, rfl⟩ | ⟨ht, rfl⟩ | ⟨rfl, k, fl, rfl, _⟩ | ⟨ht, k, c, fl, rfl, _⟩
    · exact h1.2
    · exact h1.2
    · exact h1.2
    · exact h1.2
    · rw [if_neg (by omega)]; exact h1.2
    · exact h1.2.1
    · rw [if_neg (by omega)]; exact h1.2.1
  have e1 := hf hv tv
  have e2 := hf hw tw
  rw [e1, ← e2]
  exact hw
end DF
