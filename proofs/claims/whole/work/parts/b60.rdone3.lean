/-! ===== THE REFERENCE'S STEPS: return, throw, a variable with a value ===== -/
section DP
variable {P : Pgm} {S : Tks} {D : List Int32 → Prop} {num : List Int32 → Nat} {N : Nat} {g h : pH} {G : Gs} {i : Nat × Nat × Nat} {lo : List Vl} {ops : List (Bool × Vl)} {E : EnvV} {xs : List Xi} {ks : List Si} {fs : List Fm} {t1 t2 t3 : List It} {B O : Nat → Nat} {L : List Nat} {lb pb : Nat} {tr' : List (Nat × Nat)}
theorem done_3 {s : Nat} (st : StV g h) (hs : s < 1600) (e151 : rd g 151 s = 3) : fX12_done N 138 (Int32.ofNat s) h = (fX12_returns N 138 (Int32.ofNat s) h).bind fun h58 => some h58 := by
  have sg := st.1
  unfold fX12_done
  rw [if_pos (o_138 sg), g_138_93 sg, Option.bind_some, g_138_100 sg, Option.bind_some, R_138_26 sg, Option.bind_some, L_151 sg hs, Option.bind_some, st.2.1 151 s (by omega) (by omega), e151, if_neg (by decide), if_neg (by decide), if_neg (by decide), if_pos (by decide)]
theorem done_40 {s : Nat} (hN : 400000 ≤ N) (q : ROp P S num g h G i lo ops E [] ks fs [] t2 t3 B O L lb pb tr') (hs : s < 1600) (e151 : rd g 151 s = 3) (e154 : rd g 154 s = -1) (hcap : ∀ f2 fs2, fs = f2 :: fs2 → f2.2.2.1.length + 1 ≤ 1999) (hfs : fs.length + 1 ≤ 100) : ∃ h2, fX12_done N 138 (Int32.ofNat s) h = some h2 ∧ RRs P S num g h2 (retM G true (.inl 0) fs) ∧ Chg fmA h h2 := by
  have st := q.st
  have sg := st.1
  obtain ⟨h2, r1, r2, r3⟩ := rr_ret (z := true) (v := .inl 0) (x := 0) (f := 0) hN q (fun _ => rfl) ⟨rfl, rfl⟩ (fun _ => ⟨0, rfl⟩) hcap hfs
  have r1 : fX12_returns_60 N N 138 0 0 0 h = some h2 := r1
  refine ⟨h2, ?_, r2, r3⟩
  rw [done_3 st hs e151]
  unfold fX12_returns
  rw [if_pos (o_138 sg), R_138_29 sg, Option.bind_some, L_154 sg hs, Option.bind_some, st.2.1 154 s (by omega) (by omega), e154, if_pos (by decide)]
  unfold fX12_returns_14 fX12_returns_34 fX12_returns_57 fX12_returns_58
  rw [if_pos rfl, if_pos rfl, r1, Option.bind_some]
theorem done_41 {s j : Nat} {v : Vl} (hN : 400000 ≤ N) (q : ROp P S num g h G i lo [(false, v)] E [] ks fs [] t2 t3 B O L lb pb tr') (hs : s < 1600) (hj : j < 3200) (e151 : rd g 151 s = 3) (e154 : rd g 154 s = Int32.ofNat j) (hm : fs = [] → ∃ n, v = .inl n) (hcap : ∀ f2 fs2, fs = f2 :: fs2 → f2.2.2.1.length + 1 ≤ 1999) (hfs : fs.length + 1 ≤ 100) : ∃ h2, fX12_done N 138 (Int32.ofNat s) h = some h2 ∧ RRs P S num g h2 (retM G false v fs) ∧ Chg fmA h h2 := by
  have st := q.st
  have sg := st.1
  obtain ⟨h100, tp, hb, hol⟩ := q.tp hfs
  have h100 : rd h 138 100 = Int32.ofNat (pb + 1) := h100
  have tp : RV B L (rd h 199 pb) (rd h 200 pb) v := tp
  have hb : pb + 1 < 200000 := hb
  obtain ⟨h2, r1, r2, r3⟩ := rr_ret (z := false) (v := v) hN q (fun z => by cases z) tp hm hcap hfs
  have r1 : fX12_returns_60 N N 138 1 (rd h 199 pb) (rd h 200 pb) h = some h2 := r1
  refine ⟨h2, ?_, r2, r3⟩
  rw [done_3 st hs e151]
  unfold fX12_returns
  rw [if_pos (o_138 sg), R_138_29 sg, Option.bind_some, L_154 sg hs, Option.bind_some, st.2.1 154 s (by omega) (by omega), e154, if_neg (i_nneg (by omega))]
  unfold fX12_returns_14
  rw [if_neg (by decide), R_138_101 sg, Option.bind_some, g_138_100 sg, Option.bind_some, h100, i_sub1, L_199 sg (by omega), Option.bind_some]
  unfold fX12_returns_34 fX12_returns_57 fX12_returns_58
  rw [if_neg (by decide), R_138_102 sg, Option.bind_some, g_138_100 sg, Option.bind_some, h100, i_sub1, L_200 sg (by omega), Option.bind_some]
  rcases tp.f01 with z | z
  · rw [z] at r1
    rw [z, if_pos rfl, r1, Option.bind_some]
  · rw [z] at r1
    rw [z, if_neg (by decide), r1, Option.bind_some]
theorem done_42 {s t : Nat} {v : Vl} {pre : List (Bool × Nat)} (hN : 400000 ≤ N) (hst : Str P S D num g) (q : ROp P S num g h G i lo [(false, v)] E [] ks fs [] t2 t3 B O L lb pb tr') (ho : HO P G.1) (hfk : FK P S G.1 (i, lo, [(false, v)], E, [], ks)) (hfs' : FsT P S G.1 fs pre) (hv : VT P G.1 v t) (ht : 10 ≤ t) (hs : s < 1600) (e151 : rd g 151 s = 4) (hfs : fs.length + 1 ≤ 100) : ∃ h2, fX12_done N 138 (Int32.ofNat s) h = some h2 ∧ RRs P S num g h2 (match v with
    | .inr (some o) => P.thr G o ((i, lo, [(false, v)], E, [], ks) :: fs)
    | _ => P.thr G 0 ((i, lo, [(false, v)], E, [], ks) :: fs)) ∧ Chg thA h h2 := by
  have st := q.st
  have sg := st.1
  obtain ⟨h100, tp, hb, hol⟩ := q.tp hfs
  have h100 : rd h 138 100 = Int32.ofNat (pb + 1) := h100
  have tp : RV B L (rd h 199 pb) (rd h 200 pb) v := tp
  have hb : pb + 1 < 200000 := hb
  unfold fX12_done
  rw [if_pos (o_138 sg), g_138_93 sg, Option.bind_some, g_138_100 sg, Option.bind_some, h100, i_sub1, R_138_26 sg, Option.bind_some, L_151 sg hs, Option.bind_some, st.2.1 151 s (by omega) (by omega), e151, if_neg (by decide), if_neg (by decide), if_neg (by decide), if_neg (by decide), if_pos (by decide), R_138_101 sg, Option.bind_some, L_199 sg (by omega), Option.bind_some]
  rcases hv.obj ht with rfl | ⟨o, c, fl, rfl, hob, -⟩
  · obtain ⟨h2, r1, r2, r3⟩ := r_flt (n := 0) hN hst q ho (by omega) hfk hfs' hfs
    have r1 : fX12_faults N 138 0 h = some h2 := r1
    rw [tp.1, if_neg (by decide), r1, Option.bind_some]
    exact ⟨h2, rfl, r2, r3⟩
  · obtain ⟨e1, e2, e3⟩ := tp
    have hB := (q.1.2.2.2.2.2.at e3).1
    obtain ⟨h2, r1, r2, r3⟩ := r_thr hN hst q ho hob e3 hfk hfs' hfs
    rw [e1, if_pos (i_nn0 (by omega))]
    simp only [Option.bind_some]
    rw [L_199 sg (by omega), Option.bind_some, e1, r1, Option.bind_some]
    exact ⟨h2, rfl, r2, r3⟩
end DP
