/-! ===== THE REFERENCE'S STEPS: a gift to another's field ===== -/
section DI
variable {P : Pgm} {S : Tks} {D : List Int32 → Prop} {num : List Int32 → Nat} {N : Nat} {g h : pH} {G : Gs} {i : Nat × Nat × Nat} {lo : List Vl} {ops : List (Bool × Vl)} {E : EnvV} {xs : List Xi} {ks : List Si} {fs : List Fm} {t1 t2 t3 : List It} {B O : Nat → Nat} {L : List Nat} {lb pb : Nat} {tr' : List (Nat × Nat)}
def thO (a k : Nat) : Prop := thA a k ∨ obA a k
theorem sets_6 {s p j u t : Nat} {v x : Vl} {E' : EnvV} {pre : List (Bool × Nat)} (hN : 400000 ≤ N) (hst : Str P S D num g) (q : ROp P S num g h G i lo [(false, v), (false, x)] E [] ks fs [] t2 t3 B O L lb pb tr') (ho : HO P G.1) (hfk : FK P S G.1 (i, lo, [(false, v), (false, x)], E, [], ks)) (hfs' : FsT P S G.1 fs pre) (hs : s < 1600) (hp : p < 3200) (e155 : rd g 155 s = Int32.ofNat p) (e144 : rd g 144 p = 6) (e147 : rd g 147 p = Int32.ofNat j) (tx : VT P G.1 x u) (hu : 10 ≤ u) (tv : VT P G.1 v t) (hfl : ∀ o c fl, x = .inr (some o) → G.1[o]? = some (some c, fl) → P.und c (u - 10) = true → j < fl.length ∧ VT P G.1 (obF G.1 o j) t) (hfs : fs.length + 1 ≤ 100) : ∃ h2, fX12_sets N 138 (Int32.ofNat s) h = some h2 ∧ RRs P S num g h2 (match (generalizing := false) x with
    | .inr (some o) => ((obS G.1 o j v, G.2), .inl ((i, lo, [], E', [], ks) :: fs))
    | _ => P.thr G 0 ((i, lo, [(false, v), (false, x)], E, [], ks) :: fs)) ∧ Chg thO h h2 := by
  have st := q.st
  have sg := st.1
  obtain ⟨h100, tp, tpx, hb, hol⟩ := q.tp2 hfs
  have h100 : rd h 138 100 = Int32.ofNat (pb + 2) := h100
  have tp : RV B L (rd h 199 (pb + 1)) (rd h 200 (pb + 1)) v := tp
  have tpx : RV B L (rd h 199 pb) (rd h 200 pb) x := tpx
  have hb : pb + 2 < 200000 := hb
  unfold fX12_sets
  rw [if_pos (o_138 sg), R_138_30 sg, Option.bind_some, L_155 sg hs, Option.bind_some, st.2.1 155 s (by omega) (by omega), e155, g_138_100 sg, Option.bind_some, h100, i_sub1, R_138_101 sg, Option.bind_some, L_199 sg (by omega), Option.bind_some, R_138_102 sg, Option.bind_some, L_200 sg (by omega), Option.bind_some, R_138_16 sg, Option.bind_some, L_144 sg hp, Option.bind_some, st.2.1 144 p (by omega) (by omega), e144, if_neg (by decide)]
  simp only [Option.bind_some]
  rw [L_144 sg hp, Option.bind_some, st.2.1 144 p (by omega) (by omega), e144, if_neg (by decide)]
  simp only [Option.bind_some]
  rw [if_neg (by decide), i_sub1, L_199 sg (by omega), Option.bind_some]
  rcases tx.obj hu with rfl | ⟨o, c, fl, rfl, hob, hund⟩
  · obtain ⟨h2, r1, r2, r3⟩ := r_flt (n := 0) hN hst q ho (by omega) hfk hfs' hfs
    have r1 : fX12_faults N 138 0 h = some h2 := r1
    rw [tpx.1, if_neg (by decide), r1, Option.bind_some]
    exact ⟨h2, rfl, r2, r3.mono (fun a k z => Or.inl z)⟩
  · obtain ⟨e1, e2, e3⟩ := tpx
    obtain ⟨hj, tw⟩ := hfl o c fl rfl hob hund
    obtain ⟨f1, f2, f3, f4, f5⟩ := q.1.2.2.2.2.2.fld ho e3 hob hj
    obtain ⟨r1, r2⟩ := q.obj (E' := E') (d := 2) ho f1 hob hj (f5.mark tp tw tv)
    have s1 := sg.wr 191 (O o + j) (rd h 199 (pb + 1))
    refine ⟨_, ?_, r1, r2.mono (fun a k z => Or.inr z)⟩
    rw [e1, if_pos (i_nn0 (by omega)), R_138_91 sg, Option.bind_some, R_138_84 sg, Option.bind_some, L_186 sg f2, Option.bind_some, f3, R_138_19 sg, Option.bind_some, L_147 sg hp, Option.bind_some, st.2.1 147 p (by omega) (by omega), e147, ← Int32.ofNat_add, T_191 sg f4, Option.bind_some, g_138_100 s1, Option.bind_some, rd_wr_ne _ _ (by omega), h100, i_sub2, p_138_100 s1, Option.bind_some]
    rfl
end DI
