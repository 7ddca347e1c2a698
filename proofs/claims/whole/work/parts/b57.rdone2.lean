/-! ===== THE REFERENCE'S STEPS: rounds, printing, a variable with a value ===== -/
section DO
variable {P : Pgm} {S : Tks} {D : List Int32 → Prop} {num : List Int32 → Nat} {N : Nat} {g h : pH} {G : Gs} {i : Nat × Nat × Nat} {lo : List Vl} {ops : List (Bool × Vl)} {E : EnvV} {xs : List Xi} {ks : List Si} {fs : List Fm} {t1 t2 t3 : List It} {B O : Nat → Nat} {L : List Nat} {lb pb : Nat} {tr' : List (Nat × Nat)}
theorem done_whil {s p n l : Nat} {e a r : Tr} {o : Option Nat} {v : Vl} (q : ROp P S num g h G i lo [(false, v)] E [] ks fs [] t2 t3 B O L lb pb tr') (hlo : lo.length = E.1.length) (hv : v = .inl 0 ∨ v = .inl 1) (hr : RTb P num i.1 (P.mty i.2.1) g (bWhil p e a r) E o s n l) (hkl : ks.length ≤ 102) (hT : t2.length + t3.length + 20 < 400000) (hfs : fs.length + 1 ≤ 100) : ∃ h2, fX12_done N 138 (Int32.ofNat s) h = some h2 ∧ RRs P S num g h2 (P.actS G i lo [(false, v)] fs (bWhil p e a r) E ks) ∧ Chg thA h h2 := by
  have st := q.st
  have sg := st.1
  obtain ⟨h100, tp, hb, hol⟩ := q.tp hfs
  have h100 : rd h 138 100 = Int32.ofNat (pb + 1) := h100
  have tp : RV B L (rd h 199 pb) (rd h 200 pb) v := tp
  have hr0 := hr
  obtain ⟨hr1, b1, b2, b3⟩ := hr
  obtain ⟨z1, z2, z3⟩ := sz_whil p e a r
  rw [z1] at b1; rw [z2] at b2; rw [z3] at b3
  rw [RTc_whil] at hr1
  obtain ⟨-, ⟨r1, -⟩, -, r4, r5, -⟩ := hr1
  have hs : s < 1600 := by omega
  have h93 := q.2.2.2.2.1
  have h195 : rd h 195 fs.length = Int32.ofNat lo.length := q.2.1.2.2.2.1
  have s1 := sg.wr 138 100 (Int32.ofNat pb)
  have cw : Chg thA h (wr h 138 100 (Int32.ofNat pb)) := Chg.wr h 138 100 _ (Or.inl (by unfold fmA; omega))
  have q2 : ROp P S num g (wr h 138 100 (Int32.ofNat pb)) G i lo [] E [] ks fs [] t2 t3 B O L lb pb tr' := q.cut (j := 1) (Chg.wr h 138 100 _ ⟨rfl, rfl⟩) (w_138_100 sg _) rfl
  have st2 := q2.st
  rw [(done_pre (N := N) st hs r1 h93 h100).2 rfl, g_138_100 sg, Option.bind_some, h100, i_sub1, p_138_100 sg, Option.bind_some, R_138_101 s1, Option.bind_some, L_199 s1 (by omega), Option.bind_some, rd_wr_ne _ _ (by omega)]
  rcases hv with rfl | rfl
  · rw [tp.1, if_pos rfl]
    exact ⟨_, rfl, q2.rrs, cw⟩
  · rw [tp.1, if_neg (by decide)]
    have hl0 : (t2 ++ (8, Int32.ofNat i.2.1) :: t3).length = t2.length + (t3.length + 1) := by rw [List.length_append, List.length_cons]
    have td0 : TdH (t2 ++ (8, Int32.ofNat i.2.1) :: t3) (wr h 138 100 (Int32.ofNat pb)) := q2.2.2.2.2.2.1
    obtain ⟨h3, a1, a2, a3⟩ := r_todo (N := N) (k := 4) (y := Int32.ofNat s) s1 td0 (by omega)
    have a1 : fX12_todo N 138 4 (Int32.ofNat s) (wr h 138 100 (Int32.ofNat pb)) = some h3 := a1
    have st3 : StV g h3 := st2.chg a3 (fun a k z => by unfold tdA; omega)
    obtain ⟨h4, c1, c2, c3⟩ := r_todo (N := N) (k := 0) (y := rd g 154 s) st3.1 a2 (by rw [List.length_cons]; omega)
    have c1 : fX12_todo N 138 0 (rd g 154 s) h3 = some h4 := c1
    have st4 : StV g h4 := st3.chg c3 (fun a k z => by unfold tdA; omega)
    obtain ⟨h5, d1, d2, d3⟩ := r_todo (N := N) (k := 5) (y := Int32.ofNat lo.length) st4.1 c2 (by rw [List.length_cons, List.length_cons]; omega)
    have d1 : fX12_todo N 138 5 (Int32.ofNat lo.length) h4 = some h5 := d1
    have st5 : StV g h5 := st4.chg d3 (fun a k z => by unfold tdA; omega)
    obtain ⟨h6, f1, f2, f3⟩ := r_todo (N := N) (k := 3) (y := rd g 159 s) st5.1 d2 (by rw [List.length_cons, List.length_cons, List.length_cons]; omega)
    have f1 : fX12_todo N 138 3 (rd g 159 s) h5 = some h6 := f1
    have e195 : rd h4 195 fs.length = Int32.ofNat lo.length := by
      rw [c3.2.2.1 _ _ (by unfold tdA; omega), a3.2.2.1 _ _ (by unfold tdA; omega), rd_wr_ne _ _ (by omega)]
      exact h195
    have cc : Chg (tdB (t2 ++ (8, Int32.ofNat i.2.1) :: t3).length) (wr h 138 100 (Int32.ofNat pb)) h6 := (a3.mono (fun a k z => z.b (Nat.le_refl _))).trans ((c3.mono (fun a k z => z.b (by rw [List.length_cons]; omega))).trans ((d3.mono (fun a k z => z.b (by rw [List.length_cons, List.length_cons]; omega))).trans (f3.mono (fun a k z => z.b (by rw [List.length_cons, List.length_cons, List.length_cons]; omega)))))
    have q3 : ROp P S num g h6 G i lo [] E [] ((0, E, a, false) :: (3, E, bWhil p e a r, false) :: ks) fs [] ([(3, rd g 159 s)] ++ ([(5, Int32.ofNat lo.length), (0, rd g 154 s), (4, Int32.ofNat s)] ++ t2)) t3 B O L lb pb tr' := q2.td cc f2 rfl (Nat.zero_le _) ⟨_, _, rfl, by
        rw [KtI_eq, if_pos rfl]
        exact ⟨none, s + 1, n + sz e, l + ls e, ⟨r5, by omega, by omega, by omega⟩, by rw [r4]⟩, _, _, rfl, by
        rw [KtI_eq, if_neg (by omega), if_neg (by omega), if_neg (by omega), if_pos rfl]
        exact ⟨o, s, n, l, hr0, by rw [hlo]⟩, q2.2.2.2.2.2.2.2.2.2.1⟩ rfl (by show ks.length + 1 + 1 ≤ 104; omega)
    refine ⟨h6, ?_, q3.rrs, cw.trans (cc.mono (fun a k z => Or.inl (by unfold tdB at z; unfold fmA; omega)))⟩
    rw [a1, Option.bind_some, R_138_29 st3.1, Option.bind_some, L_154 st3.1 hs, Option.bind_some, st3.2.1 154 s (by omega) (by omega), c1, Option.bind_some, R_138_96 st4.1, Option.bind_some, L_195 st4.1 (by omega), Option.bind_some, e195, d1, Option.bind_some, R_138_34 st5.1, Option.bind_some, L_159 st5.1 hs, Option.bind_some, st5.2.1 159 s (by omega) (by omega), f1, Option.bind_some]
/-- a number is printed -/
def prA (a k : Nat) : Prop := fmA a k ∨ a = 183 ∨ (a = 138 ∧ k = 78)
theorem done_print {s : Nat} {x : Int32} {E' : EnvV} (q : ROp P S num g h G i lo [(false, .inl x)] E [] ks fs [] t2 t3 B O L lb pb tr') (hs : s < 1600) (e151 : rd g 151 s = 6) (hpr : G.2.2.1.length < 2000000000) (hfs : fs.length + 1 ≤ 100) : ∃ h2, fX12_done N 138 (Int32.ofNat s) h = some h2 ∧ RRs P S num g h2 ((G.1, G.2.1, G.2.2.1 ++ [x], G.2.2.2), .inl ((i, lo, [], E', [], ks) :: fs)) ∧ Chg prA h h2 := by
  have st := q.st
  have sg := st.1
  obtain ⟨h100, tp, hb, hol⟩ := q.tp hfs
  have h100 : rd h 138 100 = Int32.ofNat (pb + 1) := h100
  have tp : RV B L (rd h 199 pb) (rd h 200 pb) (.inl x) := tp
  have h93 := q.2.2.2.2.1
  obtain ⟨d1, d2, d3, d4, d5, d6, d7, d8⟩ := q.1.2.2.2.1
  have key : ∀ h1 : pH, Chg (fun a k => a = 183 ∧ G.2.2.1.length ≤ k) h h1 → (∀ j y, j < 500 → (G.2.2.1 ++ [x])[j]? = some y → rd h1 183 j = y) → ∃ h2, fX12_done_295 N 138 h1 = some h2 ∧ RRs P S num g h2 ((G.1, G.2.1, G.2.2.1 ++ [x], G.2.2.2), .inl ((i, lo, [], E', [], ks) :: fs)) ∧ Chg prA h h2 := fun h1 c1 hpri => by
    have sg1 : Sg h1 := c1.sg sg
    have s2 := sg1.wr 138 78 (Int32.ofNat (G.2.2.1.length + 1))
    have c2 : Chg (fun a k => a = 183 ∨ (a = 138 ∧ (k = 78 ∨ k = 100))) h (wr (wr h1 138 78 (Int32.ofNat (G.2.2.1.length + 1))) 138 100 (Int32.ofNat pb)) := (c1.mono (fun a k z => Or.inl z.1)).trans ((Chg.wr _ 138 78 _ (by omega)).trans (Chg.wr _ 138 100 _ (by omega)))
    have e78 : rd h1 138 78 = Int32.ofNat G.2.2.1.length := (c1.2.2.1 _ _ (by omega)).trans d4
    have e100 : rd (wr h1 138 78 (Int32.ofNat (G.2.2.1.length + 1))) 138 100 = Int32.ofNat (pb + 1) := by
      rw [rd_wr_ne _ _ (by omega), c1.2.2.1 _ _ (by omega)]
      exact h100
    refine ⟨wr (wr h1 138 78 (Int32.ofNat (G.2.2.1.length + 1))) 138 100 (Int32.ofNat pb), ?_, ?_, c2.mono (fun a k z => by unfold prA fmA; omega)⟩
    · unfold fX12_done_295
      rw [g_138_78 sg1, Option.bind_some, e78, i_add1, p_138_78 sg1, Option.bind_some, g_138_100 s2, Option.bind_some, e100, i_sub1, p_138_100 s2, Option.bind_some]
    · obtain ⟨⟨q1, q2, q3⟩, q4, q5, q6, q7, q8, q9, q10, q11, q12, q13⟩ := q
      refine ROp.rrs (B := B) (O := O) (L := L) (lb := lb) (pb := pb) (tr' := tr') (t1 := []) (t2 := t2) (t3 := t3) ⟨⟨(c2.2.2.1 _ _ (by omega)).trans q1, (c2.2.2.1 _ _ (by omega)).trans q2, q3.1.chg c2 (fun a k z => by omega), ?_, (c2.2.2.1 _ _ (by omega)).trans q3.2.2.1, q3.2.2.2.chg c2 (fun a k z => by omega)⟩, ?_, q5.chg c2 (fun a n _ _ _ => by omega) (fun a k _ _ => by omega) (fun a k _ _ => by omega), w_138_100 s2 _, (c2.2.2.1 _ _ (by omega)).trans q7, q8.chg c2 (by omega) (fun a k z _ => by omega), q9.chg c2 (by omega) (fun a k z _ => by omega), rfl, q11, q12, q13⟩
      · refine ⟨(c2.2.2.1 _ _ (by omega)).trans d1, (c2.2.2.1 _ _ (by omega)).trans d2, (c2.2.2.1 _ _ (by omega)).trans d3, ?_, fun j y hj hy => ?_, (c2.2.2.1 _ _ (by omega)).trans d6, d7, fun j y hy => (c2.2.2.1 _ _ (by omega)).trans (d8 j y hy)⟩
        · rw [rd_wr_ne _ _ (by omega), w_138_78 sg1]
          show Int32.ofNat (G.2.2.1.length + 1) = Int32.ofNat (G.2.2.1 ++ [x]).length
          rw [List.length_append]; rfl
        · rw [rd_wr_ne _ _ (by omega), rd_wr_ne _ _ (by omega)]
          exact hpri j y hj hy
      · obtain ⟨k1, k2, k3, k4, k5, k6, k7, k8, k9, k10, k11, k12, k13, k14⟩ := q4
        refine ⟨(c2.2.2.1 _ _ (by omega)).trans k1, k2, (c2.2.2.1 _ _ (by omega)).trans k3, (c2.2.2.1 _ _ (by omega)).trans k4, (c2.2.2.1 _ _ (by omega)).trans k5, k6, k7, k8, Nat.zero_le _, k10, k11, fun j' v' hj => ?_, fun j' v' hj => (by cases hj), fun v' hv' => (by cases hv')⟩
        rw [c2.2.2.1 _ _ (by omega), c2.2.2.1 _ _ (by omega)]
        exact k12 j' v' hj
  have old : ∀ j y, j < G.2.2.1.length → (G.2.2.1 ++ [x])[j]? = some y → G.2.2.1[j]? = some y := fun j y hj hy => by
    rw [List.getElem?_append_left hj] at hy
    exact hy
  unfold fX12_done
  rw [if_pos (o_138 sg), g_138_93 sg, Option.bind_some, g_138_100 sg, Option.bind_some, h100, i_sub1, R_138_26 sg, Option.bind_some, L_151 sg hs, Option.bind_some, st.2.1 151 s (by omega) (by omega), e151, if_neg (by decide), if_neg (by decide), if_neg (by decide), if_neg (by decide), if_neg (by decide), if_neg (by decide), if_pos (by decide), g_138_78 sg, Option.bind_some, d4]
  by_cases h500 : 500 ≤ G.2.2.1.length
  · rw [if_pos (show (500 : Int32) ≤ Int32.ofNat G.2.2.1.length by rw [show (500 : Int32) = Int32.ofNat 500 from rfl, iLe (by omega) (by omega)]; exact h500)]
    exact key h (Chg.refl _ _) (fun j y hj hy => d5 j y hj (old j y (by omega) hy))
  · rw [if_neg (show ¬ (500 : Int32) ≤ Int32.ofNat G.2.2.1.length by rw [show (500 : Int32) = Int32.ofNat 500 from rfl, iLe (by omega) (by omega)]; exact h500), R_138_79 sg, Option.bind_some]
    simp only [Option.bind_some]
    rw [R_138_101 sg, Option.bind_some, L_199 sg (by omega), Option.bind_some, tp.1, T_183 sg (by omega), Option.bind_some]
    refine key _ (Chg.wr h 183 G.2.2.1.length _ ⟨rfl, Nat.le_refl _⟩) (fun j y hj hy => ?_)
    by_cases hjl : j < G.2.2.1.length
    · rw [rd_wr_ne _ _ (by omega)]
      exact d5 j y hj (old j y hjl hy)
    · have hjx : j = G.2.2.1.length := by
        have := (List.getElem?_eq_some_iff.mp hy).1
        rw [List.length_append] at this
        have e1 : [x].length = 1 := rfl
        omega
      subst hjx
      rw [List.getElem?_append_right (Nat.le_refl _), Nat.sub_self] at hy
      obtain rfl : x = y := Option.some.inj hy
      exact W_183 sg _ _
end DO
