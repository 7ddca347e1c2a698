/-! ===== THE REFERENCE'S STEPS: a gift to an element ===== -/
section DJ
variable {P : Pgm} {S : Tks} {D : List Int32 → Prop} {num : List Int32 → Nat} {N : Nat} {g h : pH} {G : Gs} {i : Nat × Nat × Nat} {lo : List Vl} {ops : List (Bool × Vl)} {E : EnvV} {xs : List Xi} {ks : List Si} {fs : List Fm} {t1 t2 t3 : List It} {B O : Nat → Nat} {L : List Nat} {lb pb : Nat} {tr' : List (Nat × Nat)}
theorem i_sub3 (n : Nat) : Int32.ofNat (n + 3) - 3 = Int32.ofNat n := i_subk (a := n + 3) (k := 3) (by omega)
theorem sets_7 {s p : Nat} {n : Int32} {v x : Vl} {E' : EnvV} {pre : List (Bool × Nat)} (hN : 400000 ≤ N) (hst : Str P S D num g) (q : ROp P S num g h G i lo [(false, v), (false, .inl n), (false, x)] E [] ks fs [] t2 t3 B O L lb pb tr') (ho : HO P G.1) (hfk : FK P S G.1 (i, lo, [(false, v), (false, .inl n), (false, x)], E, [], ks)) (hfs' : FsT P S G.1 fs pre) (hs : s < 1600) (hp : p < 3200) (e155 : rd g 155 s = Int32.ofNat p) (e144 : rd g 144 p = 7) (tx : VT P G.1 x 2) (tv : VT P G.1 v 0) (hfs : fs.length + 1 ≤ 100) : ∃ h2, fX12_sets N 138 (Int32.ofNat s) h = some h2 ∧ RRs P S num g h2 (match (generalizing := false) x with
    | .inr (some o) => if 0 ≤ n ∧ n < Int32.ofNat (obL G.1 o) then ((obS G.1 o n.toNatClampNeg v, G.2), .inl ((i, lo, [], E', [], ks) :: fs)) else P.thr G 1 ((i, lo, [(false, v), (false, .inl n), (false, x)], E, [], ks) :: fs)
    | _ => P.thr G 0 ((i, lo, [(false, v), (false, .inl n), (false, x)], E, [], ks) :: fs)) ∧ Chg thO h h2 := by
  have st := q.st
  have sg := st.1
  have h100 : rd h 138 100 = Int32.ofNat (pb + 3) := q.2.2.2.1
  have hpb : pb ≤ 1999 * fs.length := q.2.1.2.2.2.2.2.2.1
  have tp : RV B L (rd h 199 (pb + 2)) (rd h 200 (pb + 2)) v := q.top (j := 0) (v := v) rfl
  have ty : RV B L (rd h 199 (pb + 1)) (rd h 200 (pb + 1)) (.inl n) := q.top (j := 1) (v := .inl n) rfl
  have tpx : RV B L (rd h 199 pb) (rd h 200 pb) x := q.top (j := 2) (v := x) rfl
  obtain ⟨m, rfl⟩ := tv.int
  have hpre : fX12_sets N 138 (Int32.ofNat s) h = (fX12_isPlace N 138 (rd h 199 pb) n h).bind fun q33 => if q33.1 = 0 then some q33.2 else ((getR q33.2 138 12 91).bind fun t35 =>
  (getR q33.2 138 12 84).bind fun t36 =>
  (ldI q33.2 t36 (rd h 199 pb)).bind fun t37 =>
  (stI q33.2 t35 (t37 + n) m).bind fun h38 =>
  (getI h38 138 12 100).bind fun t39 =>
  (putI h38 138 12 100 (t39 - (3 : Int32))).bind fun h40 =>
  some h40) := by
    unfold fX12_sets
    rw [if_pos (o_138 sg), R_138_30 sg, Option.bind_some, L_155 sg hs, Option.bind_some, st.2.1 155 s (by omega) (by omega), e155, g_138_100 sg, Option.bind_some, h100, i_sub1, R_138_101 sg, Option.bind_some, L_199 sg (by omega), Option.bind_some, R_138_102 sg, Option.bind_some, L_200 sg (by omega), Option.bind_some, R_138_16 sg, Option.bind_some, L_144 sg hp, Option.bind_some, st.2.1 144 p (by omega) (by omega), e144, if_neg (by decide)]
    simp only [Option.bind_some]
    rw [L_144 sg hp, Option.bind_some, st.2.1 144 p (by omega) (by omega), e144, if_neg (by decide)]
    simp only [Option.bind_some]
    rw [if_pos trivial, i_sub2, i_sub1, L_199 sg (by omega), Option.bind_some, L_199 sg (by omega), Option.bind_some, ty.1, tp.1]
  rw [hpre]
  rcases r_place (n := n) hN hst q ho hfk hfs' hfs tpx tx with ⟨rfl, h2, r1, r2, r3⟩ | ⟨ii, fl, rfl, hob, e3, e4, hB, hh⟩
  · rw [r1, Option.bind_some]
    exact ⟨h2, rfl, r2, r3.mono (fun a k z => Or.inl z)⟩
  · have hobl : obL G.1 ii = fl.length := by unfold obL; rw [hob]
    dsimp only
    rw [hobl]
    rcases hh with ⟨hr, h2, r1, r2, r3⟩ | ⟨hr, r1, d1, d2⟩
    · rw [if_neg hr, r1, Option.bind_some]
      exact ⟨h2, rfl, r2, r3.mono (fun a k z => Or.inl z)⟩
    · obtain ⟨f1, f2, f3, f4, f5⟩ := q.1.2.2.2.2.2.fld ho e3 hob (show n.toNatClampNeg < fl.length from d2)
      have hg : fl[n.toNatClampNeg]? = some fl[n.toNatClampNeg] := List.getElem?_eq_getElem d2
      obtain ⟨m', hm⟩ := (ho.2 ii _ hob).2 _ (List.mem_of_getElem? hg)
      have hobf : obF G.1 ii n.toNatClampNeg = .inl m' := by
        rw [obF_get hob]
        show (fl[n.toNatClampNeg]?).getD (.inl 0) = _
        rw [hg]
        exact hm
      rw [hobf] at f5
      have hw : RV B L m (rd h 192 (O ii + n.toNatClampNeg)) (.inl m) := ⟨rfl, f5.2⟩
      obtain ⟨r4, r5⟩ := q.obj (E' := E') (d := 3) ho f1 hob (show n.toNatClampNeg < fl.length from d2) hw
      have s1 := sg.wr 191 (O ii + n.toNatClampNeg) m
      rw [if_pos hr, r1, Option.bind_some]
      refine ⟨_, ?_, r4, r5.mono (fun a k z => Or.inr z)⟩
      dsimp only
      have e5 : Int32.ofNat (O ii) + n = Int32.ofNat (O ii + n.toNatClampNeg) := by
        rw [Int32.ofNat_add, ← d1]
      rw [if_neg (by decide), R_138_91 sg, Option.bind_some, R_138_84 sg, Option.bind_some, e4, L_186 sg f2, Option.bind_some, f3, e5, T_191 sg f4, Option.bind_some, g_138_100 s1, Option.bind_some, rd_wr_ne _ _ (by omega), h100, i_sub3, p_138_100 s1, Option.bind_some]
      rfl
end DJ
