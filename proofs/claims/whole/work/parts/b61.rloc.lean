/-! ===== THE REFERENCE'S STEPS: variables get values ===== -/
section DV
variable {P : Pgm} {S : Tks} {D : List Int32 → Prop} {num : List Int32 → Nat} {N : Nat} {g h : pH} {G : Gs} {i : Nat × Nat × Nat} {lo : List Vl} {ops : List (Bool × Vl)} {E : EnvV} {xs : List Xi} {ks : List Si} {fs : List Fm} {t1 t2 t3 : List It} {B O : Nat → Nat} {L : List Nat} {lb pb : Nat} {tr' : List (Nat × Nat)}
/-- the variables change, the part on top is taken -/
theorem ROp.loc {lo' : List Vl} {v : Vl} {h1 : pH} {E' : EnvV} {A : Nat → Nat → Prop} (q : ROp P S num g h G i lo [(false, v)] E [] ks fs [] t2 t3 B O L lb pb tr') (c : Chg A h h1) (hA : ∀ a k, A a k → (a = 138 ∧ k = 100) ∨ (a = 195 ∧ k = fs.length) ∨ ((a = 197 ∨ a = 198) ∧ lb ≤ k)) (h100 : rd h1 138 100 = Int32.ofNat pb) (h195 : rd h1 195 fs.length = Int32.ofNat lo'.length) (hl : lo'.length ≤ 899) (hv : ∀ (j : Nat) (u : Vl), lo'[j]? = some u → RV B L (rd h1 197 (lb + j)) (rd h1 198 (lb + j)) u) : RRs P S num g h1 (G, .inl ((i, lo', [], E', [], ks) :: fs)) ∧ Chg fmA h h1 := by
  obtain ⟨⟨q1, q2, q3⟩, q4, q5, q6, q7, q8, q9, q10, q11, q12, q13⟩ := q
  have n : ∀ a k, ¬ ((a = 138 ∧ k = 100) ∨ (a = 195 ∧ k = fs.length) ∨ ((a = 197 ∨ a = 198) ∧ lb ≤ k)) → ¬ A a k := fun a k z y => z (hA a k y)
  have hfm : ∀ a k, A a k → fmA a k := fun a k z => by
    have := hA a k z
    unfold fmA
    omega
  refine ⟨ROp.rrs (B := B) (O := O) (L := L) (lb := lb) (pb := pb) (tr' := tr') (t1 := []) (t2 := t2) (t3 := t3) ⟨⟨(c.2.2.1 _ _ (n _ _ (by omega))).trans q1, (c.2.2.1 _ _ (n _ _ (by omega))).trans q2, q3.chg c hfm⟩, ?_, q5.chg c (fun a k _ _ hk => n _ _ (by omega)) (fun a k _ hk => n _ _ (by omega)) (fun a k _ hk => n _ _ (by omega)), h100, (c.2.2.1 _ _ (n _ _ (by omega))).trans q7, q8.chg c (n _ _ (by omega)) (fun a k z _ => n _ _ (by omega)), q9.chg c (n _ _ (by omega)) (fun a k z _ => n _ _ (by omega)), rfl, q11, q12, q13⟩, c.mono hfm⟩
  obtain ⟨k1, k2, k3, k4, k5, k6, k7, k8, k9, k10, k11, k12, k13, k14⟩ := q4
  exact ⟨(c.2.2.1 _ _ (n _ _ (by omega))).trans k1, k2, (c.2.2.1 _ _ (n _ _ (by omega))).trans k3, h195, (c.2.2.1 _ _ (n _ _ (by omega))).trans k5, k6, k7, hl, Nat.zero_le _, k10, k11, hv, fun j' v' hj => (by cases hj), fun v' hv' => (by cases hv')⟩
theorem done_tellv {s : Nat} {v : Vl} {E' : EnvV} (q : ROp P S num g h G i lo [(false, v)] E [] ks fs [] t2 t3 B O L lb pb tr') (hs : s < 1600) (e151 : rd g 151 s = 0) (e158 : rd g 158 s = Int32.ofNat lo.length) (hl : lo.length + 1 ≤ 899) (hfs : fs.length + 1 ≤ 100) : ∃ h2, fX12_done N 138 (Int32.ofNat s) h = some h2 ∧ RRs P S num g h2 (G, .inl ((i, lo ++ [v], [], E', [], ks) :: fs)) ∧ Chg fmA h h2 := by
  have st := q.st
  have sg := st.1
  obtain ⟨h100, tp, hb, hol⟩ := q.tp hfs
  have h100 : rd h 138 100 = Int32.ofNat (pb + 1) := h100
  have tp : RV B L (rd h 199 pb) (rd h 200 pb) v := tp
  have hb : pb + 1 < 200000 := hb
  have hlb : lb ≤ 899 * fs.length := q.2.1.2.2.2.2.2.1
  have h194 : rd h 194 fs.length = Int32.ofNat lb := q.2.1.2.2.1
  have h93 := q.2.2.2.2.1
  have k12 := q.2.1.2.2.2.2.2.2.2.2.2.2.2.1
  obtain ⟨h1, f1, f2, f3, f4⟩ := r_setL (N := N) (n := fs.length) (lb := lb) (j := lo.length) (x := rd h 199 pb) (f := rd h 200 pb) sg (by omega) h194 (by omega) tp.f01
  have st1 : StV g h1 := st.chg f2 (fun a k z => by unfold slA; omega)
  have s2 := st1.1.wr 195 fs.length (Int32.ofNat (lo.length + 1))
  have c : Chg (fun a k => (a = 138 ∧ k = 100) ∨ (a = 195 ∧ k = fs.length) ∨ ((a = 197 ∨ a = 198) ∧ k = lb + lo.length)) h (wr (wr h1 195 fs.length (Int32.ofNat (lo.length + 1))) 138 100 (Int32.ofNat pb)) := (f2.mono (fun a k z => by unfold slA at z; omega)).trans ((Chg.wr _ 195 _ _ (by omega)).trans (Chg.wr _ 138 100 _ (by omega)))
  have e100 : rd (wr h1 195 fs.length (Int32.ofNat (lo.length + 1))) 138 100 = Int32.ofNat (pb + 1) := by
    rw [rd_wr_ne _ _ (by omega), f2.2.2.1 _ _ (by unfold slA; omega)]
    exact h100
  obtain ⟨r1, r2⟩ := q.loc (E' := E') (lo' := lo ++ [v]) c (fun a k z => by omega) (w_138_100 s2 _) (by
    rw [rd_wr_ne _ _ (by omega), W_195 st1.1, List.length_append]; rfl) (by rw [List.length_append]; exact hl) (fun j u hj => by
    by_cases hjl : j < lo.length
    · rw [List.getElem?_append_left hjl] at hj
      rw [c.2.2.1 _ _ (by omega), c.2.2.1 _ _ (by omega)]
      exact k12 j u hj
    · rw [List.getElem?_append_right (by omega)] at hj
      have hj0 : j - lo.length = 0 := by
        have := (List.getElem?_eq_some_iff.mp hj).1
        have e1 : [v].length = 1 := rfl
        omega
      rw [hj0] at hj
      obtain rfl : v = u := Option.some.inj hj
      rw [show j = lo.length by omega, rd_wr_ne _ _ (by omega), rd_wr_ne _ _ (by omega), rd_wr_ne _ _ (by omega), rd_wr_ne _ _ (by omega), f3, f4]
      exact tp)
  refine ⟨_, ?_, r1, r2⟩
  unfold fX12_done
  rw [if_pos (o_138 sg), g_138_93 sg, Option.bind_some, h93, i_sub1, g_138_100 sg, Option.bind_some, h100, i_sub1, R_138_26 sg, Option.bind_some, L_151 sg hs, Option.bind_some, st.2.1 151 s (by omega) (by omega), e151, if_pos rfl, R_138_33 sg, Option.bind_some, L_158 sg hs, Option.bind_some, st.2.1 158 s (by omega) (by omega), e158, R_138_101 sg, Option.bind_some, L_199 sg (by omega), Option.bind_some, R_138_102 sg, Option.bind_some, L_200 sg (by omega), Option.bind_some, f1, Option.bind_some, R_138_96 st1.1, Option.bind_some, R_138_33 st1.1, Option.bind_some, L_158 st1.1 hs, Option.bind_some, st1.2.1 158 s (by omega) (by omega), e158, i_add1, T_195 st1.1 (by omega), Option.bind_some, g_138_100 s2, Option.bind_some, e100, i_sub1, p_138_100 s2, Option.bind_some]
end DV
