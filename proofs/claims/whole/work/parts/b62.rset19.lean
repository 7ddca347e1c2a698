/-! ===== THE REFERENCE'S STEPS: a gift to a variable ===== -/
section DG
variable {P : Pgm} {S : Tks} {D : List Int32 → Prop} {num : List Int32 → Nat} {N : Nat} {g h : pH} {G : Gs} {i : Nat × Nat × Nat} {lo : List Vl} {ops : List (Bool × Vl)} {E : EnvV} {xs : List Xi} {ks : List Si} {fs : List Fm} {t1 t2 t3 : List It} {B O : Nat → Nat} {L : List Nat} {lb pb : Nat} {tr' : List (Nat × Nat)}
theorem done_8 {s : Nat} (st : StV g h) (hs : s < 1600) (e151 : rd g 151 s = 8) : fX12_done N 138 (Int32.ofNat s) h = (fX12_sets N 138 (Int32.ofNat s) h).bind fun h1 => some h1 := by
  have sg := st.1
  unfold fX12_done
  rw [if_pos (o_138 sg), g_138_93 sg, Option.bind_some, g_138_100 sg, Option.bind_some, R_138_26 sg, Option.bind_some, L_151 sg hs, Option.bind_some, st.2.1 151 s (by omega) (by omega), e151, if_neg (by decide), if_neg (by decide), if_neg (by decide), if_neg (by decide), if_neg (by decide), if_neg (by decide), if_neg (by decide)]
  rfl
theorem sets_19 {s p j : Nat} {v : Vl} {E' : EnvV} (q : ROp P S num g h G i lo [(false, v)] E [] ks fs [] t2 t3 B O L lb pb tr') (hs : s < 1600) (hp : p < 3200) (e155 : rd g 155 s = Int32.ofNat p) (e144 : rd g 144 p = 19) (e147 : rd g 147 p = Int32.ofNat j) (hj : j < lo.length) (hfs : fs.length + 1 ≤ 100) : ∃ h2, fX12_sets N 138 (Int32.ofNat s) h = some h2 ∧ RRs P S num g h2 (G, .inl ((i, lo.set j v, [], E', [], ks) :: fs)) ∧ Chg fmA h h2 := by
  have st := q.st
  have sg := st.1
  obtain ⟨h100, tp, hb, hol⟩ := q.tp hfs
  have h100 : rd h 138 100 = Int32.ofNat (pb + 1) := h100
  have tp : RV B L (rd h 199 pb) (rd h 200 pb) v := tp
  have hb : pb + 1 < 200000 := hb
  have hlb : lb ≤ 899 * fs.length := q.2.1.2.2.2.2.2.1
  have hl8 : lo.length ≤ 899 := q.2.1.2.2.2.2.2.2.2.1
  have h194 : rd h 194 fs.length = Int32.ofNat lb := q.2.1.2.2.1
  have h195 : rd h 195 fs.length = Int32.ofNat lo.length := q.2.1.2.2.2.1
  have h93 := q.2.2.2.2.1
  have k12 := q.2.1.2.2.2.2.2.2.2.2.2.2.2.1
  obtain ⟨h1, f1, f2, f3, f4⟩ := r_setL (N := N) (n := fs.length) (lb := lb) (j := j) (x := rd h 199 pb) (f := rd h 200 pb) sg (by omega) h194 (by omega) tp.f01
  have st1 : StV g h1 := st.chg f2 (fun a k z => by unfold slA; omega)
  have c : Chg (fun a k => (a = 138 ∧ k = 100) ∨ ((a = 197 ∨ a = 198) ∧ k = lb + j)) h (wr h1 138 100 (Int32.ofNat pb)) := (f2.mono (fun a k z => by unfold slA at z; omega)).trans (Chg.wr _ 138 100 _ (by omega))
  have e100 : rd h1 138 100 = Int32.ofNat (pb + 1) := by
    rw [f2.2.2.1 _ _ (by unfold slA; omega)]
    exact h100
  obtain ⟨r1, r2⟩ := q.loc (E' := E') (lo' := lo.set j v) c (fun a k z => by omega) (w_138_100 st1.1 _) (by
    rw [c.2.2.1 _ _ (by omega), List.length_set]; exact h195) (by rw [List.length_set]; exact hl8) (fun j' u hj' => by
    by_cases hjj : j' = j
    · subst hjj
      rw [List.getElem?_set_self hj] at hj'
      obtain rfl : v = u := Option.some.inj hj'
      rw [rd_wr_ne _ _ (by omega), rd_wr_ne _ _ (by omega), f3, f4]
      exact tp
    · rw [List.getElem?_set_ne (by omega)] at hj'
      rw [c.2.2.1 _ _ (by omega), c.2.2.1 _ _ (by omega)]
      exact k12 j' u hj')
  refine ⟨_, ?_, r1, r2⟩
  unfold fX12_sets
  rw [if_pos (o_138 sg), R_138_30 sg, Option.bind_some, L_155 sg hs, Option.bind_some, st.2.1 155 s (by omega) (by omega), e155, g_138_100 sg, Option.bind_some, h100, i_sub1, R_138_101 sg, Option.bind_some, L_199 sg (by omega), Option.bind_some, R_138_102 sg, Option.bind_some, L_200 sg (by omega), Option.bind_some, R_138_16 sg, Option.bind_some, L_144 sg hp, Option.bind_some, st.2.1 144 p (by omega) (by omega), e144, if_pos rfl, g_138_93 sg, Option.bind_some, h93, i_sub1, R_138_19 sg, Option.bind_some, L_147 sg hp, Option.bind_some, st.2.1 147 p (by omega) (by omega), e147, f1, Option.bind_some, g_138_100 st1.1, Option.bind_some, e100, i_sub1, p_138_100 st1.1, Option.bind_some]
end DG
