/-! ===== THE REFERENCE'S STEPS: a gift to an own field ===== -/
section DH
variable {P : Pgm} {S : Tks} {D : List Int32 → Prop} {num : List Int32 → Nat} {N : Nat} {g h : pH} {G : Gs} {i : Nat × Nat × Nat} {lo : List Vl} {ops : List (Bool × Vl)} {E : EnvV} {xs : List Xi} {ks : List Si} {fs : List Fm} {t1 t2 t3 : List It} {B O : Nat → Nat} {L : List Nat} {lb pb : Nat} {tr' : List (Nat × Nat)}
theorem sets_20 {s p j d t : Nat} {v : Vl} {fl : List Vl} {E' : EnvV} (q : ROp P S num g h G i lo [(false, v)] E [] ks fs [] t2 t3 B O L lb pb tr') (ho : HO P G.1) (hs : s < 1600) (hp : p < 3200) (e155 : rd g 155 s = Int32.ofNat p) (e144 : rd g 144 p = 20) (e147 : rd g 147 p = Int32.ofNat j) (hse : G.1[i.2.2]? = some (some d, fl)) (hj : j < fl.length) (tv : VT P G.1 v t) (tw : VT P G.1 (obF G.1 i.2.2 j) t) (hfs : fs.length + 1 ≤ 100) : ∃ h2, fX12_sets N 138 (Int32.ofNat s) h = some h2 ∧ RRs P S num g h2 ((obS G.1 i.2.2 j v, G.2), .inl ((i, lo, [], E', [], ks) :: fs)) ∧ Chg obA h h2 := by
  have st := q.st
  have sg := st.1
  obtain ⟨h100, tp, hb, hol⟩ := q.tp hfs
  have h100 : rd h 138 100 = Int32.ofNat (pb + 1) := h100
  have tp : RV B L (rd h 199 pb) (rd h 200 pb) v := tp
  have hb : pb + 1 < 200000 := hb
  have h93 := q.2.2.2.2.1
  obtain ⟨se1, se2⟩ := q.self
  obtain ⟨f1, f2, f3, f4, f5⟩ := q.1.2.2.2.2.2.fld ho se2 hse hj
  obtain ⟨r1, r2⟩ := q.obj (E' := E') (d := 1) ho f1 hse hj (f5.mark tp tw tv)
  have s1 := sg.wr 191 (O i.2.2 + j) (rd h 199 pb)
  refine ⟨_, ?_, r1, r2⟩
  unfold fX12_sets
  rw [if_pos (o_138 sg), R_138_30 sg, Option.bind_some, L_155 sg hs, Option.bind_some, st.2.1 155 s (by omega) (by omega), e155, g_138_100 sg, Option.bind_some, h100, i_sub1, R_138_101 sg, Option.bind_some, L_199 sg (by omega), Option.bind_some, R_138_102 sg, Option.bind_some, L_200 sg (by omega), Option.bind_some, R_138_16 sg, Option.bind_some, L_144 sg hp, Option.bind_some, st.2.1 144 p (by omega) (by omega), e144, if_neg (by decide)]
  simp only [Option.bind_some]
  rw [L_144 sg hp, Option.bind_some, st.2.1 144 p (by omega) (by omega), e144, if_pos rfl, R_138_91 sg, Option.bind_some, R_138_84 sg, Option.bind_some, R_138_94 sg, Option.bind_some, g_138_93 sg, Option.bind_some, h93, i_sub1, L_193 sg (by omega), Option.bind_some, se1, L_186 sg f2, Option.bind_some, f3, R_138_19 sg, Option.bind_some, L_147 sg hp, Option.bind_some, st.2.1 147 p (by omega) (by omega), e147, ← Int32.ofNat_add, T_191 sg f4, Option.bind_some, g_138_100 s1, Option.bind_some, rd_wr_ne _ _ (by omega), h100, i_sub1, p_138_100 s1, Option.bind_some]
  rfl
end DH
