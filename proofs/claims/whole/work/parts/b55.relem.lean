/-! ===== THE REFERENCE'S STEPS: elements ===== -/
theorem in_rng {n : Int32} {len : Nat} (hl : len ≤ 20000) : (n < 0 ∨ Int32.ofNat len - 1 < n) ↔ ¬ (0 ≤ n ∧ n < Int32.ofNat len) := by
  have h0 : (0 : Int32).toInt = 0 := rfl
  have e : (Int32.ofNat len).toInt = len := Int32.toInt_ofNat_of_lt (by omega)
  rcases len with _ | m
  · have e1 : (Int32.ofNat 0 - 1).toInt = -1 := by decide
    simp only [Int32.lt_iff_toInt_lt, Int32.le_iff_toInt_le, e1, e, h0]
    omega
  · have e2 : (Int32.ofNat m).toInt = m := Int32.toInt_ofNat_of_lt (by omega)
    rw [i_sub1]
    simp only [Int32.lt_iff_toInt_lt, Int32.le_iff_toInt_le, e2, e, h0]
    omega
section WE
variable {P : Pgm} {S : Tks} {D : List Int32 → Prop} {num : List Int32 → Nat} {N : Nat} {g h : pH} {G : Gs} {i : Nat × Nat × Nat} {lo : List Vl} {ops : List (Bool × Vl)} {E : EnvV} {xs : List Xi} {ks : List Si} {fs : List Fm} {t1 t2 t3 : List It} {B O : Nat → Nat} {L : List Nat} {lb pb : Nat} {tr' : List (Nat × Nat)}
/-- is there such an element? -/
theorem r_place {a f n : Int32} {x : Vl} {pre : List (Bool × Nat)} (hN : 400000 ≤ N) (hst : Str P S D num g) (q : ROp P S num g h G i lo ops E xs ks fs t1 t2 t3 B O L lb pb tr') (ho : HO P G.1) (hfk : FK P S G.1 (i, lo, ops, E, xs, ks)) (hfs' : FsT P S G.1 fs pre) (hfs : fs.length + 1 ≤ 100) (hx : RV B L a f x) (ht : VT P G.1 x 2) : (x = .inr none ∧ ∃ h', fX12_isPlace N 138 a n h = some (0, h') ∧ RRs P S num g h' (P.thr G 0 ((i, lo, ops, E, xs, ks) :: fs)) ∧ Chg thA h h') ∨ ∃ ii fl, x = .inr (some ii) ∧ G.1[ii]? = some (none, fl) ∧ (ii ∈ L ∨ ii < 5) ∧ a = Int32.ofNat (B ii) ∧ B ii < 5200 ∧ ((¬ (0 ≤ n ∧ n < Int32.ofNat fl.length) ∧ ∃ h', fX12_isPlace N 138 a n h = some (0, h') ∧ RRs P S num g h' (P.thr G 1 ((i, lo, ops, E, xs, ks) :: fs)) ∧ Chg thA h h') ∨ ((0 ≤ n ∧ n < Int32.ofNat fl.length) ∧ fX12_isPlace N 138 a n h = some (1, h) ∧ n = Int32.ofNat n.toNatClampNeg ∧ n.toNatClampNeg < fl.length)) := by
  have st := q.st
  have sg := st.1
  rcases ht.row with rfl | ⟨ii, fl, rfl, hob⟩
  · refine Or.inl ⟨rfl, ?_⟩
    obtain ⟨h2, r1, r2, r3⟩ := r_flt (n := 0) hN hst q ho (by omega) hfk hfs' hfs
    have r1 : fX12_faults N 138 0 h = some h2 := r1
    refine ⟨h2, ?_, r2, r3⟩
    unfold fX12_isPlace
    rw [if_pos (o_138 sg), hx.1, if_neg (by decide), r1, Option.bind_some]
  · obtain ⟨e1, e2, e3⟩ := hx
    obtain ⟨b1, b2, -⟩ := q.1.2.2.2.2.2.at e3
    obtain ⟨-, -, c3, -⟩ := b2 _ hob
    have c3 : rd h 187 (B ii) = Int32.ofNat fl.length := c3
    have hl : fl.length ≤ 11000 := (ho.2 ii _ hob).1
    have hin : fX12_isIn N n.toInt64 0 (Int32.ofNat fl.length - 1).toInt64 h = some (if n < 0 ∨ Int32.ofNat fl.length - 1 < n then 0 else 1, h) := isIn_eq N n 0 (Int32.ofNat fl.length - 1) h
    refine Or.inr ⟨ii, fl, rfl, hob, e3, e1, by omega, ?_⟩
    have pre : fX12_isPlace N 138 a n h = (if (if n < 0 ∨ Int32.ofNat fl.length - 1 < n then (0 : Int32) else 1) = 0 then ((fX12_faults N 138 (1 : Int32) h).bind fun h6 => some ((0 : Int32), h6)) else some ((1 : Int32), h)) := by
      unfold fX12_isPlace
      rw [if_pos (o_138 sg), e1, if_pos (i_nn0 (by omega)), R_138_85 sg, Option.bind_some, L_187 sg (by omega), Option.bind_some, c3, hin, Option.bind_some]
    rw [pre]
    by_cases hr : 0 ≤ n ∧ n < Int32.ofNat fl.length
    · refine Or.inr ⟨hr, ?_, ?_⟩
      · rw [if_neg (show ¬ (n < 0 ∨ Int32.ofNat fl.length - 1 < n) from fun z => (in_rng (by omega)).mp z hr), if_neg (by decide)]
      · have hnn : ¬ n < 0 := Int32.not_lt.mpr hr.1
        obtain ⟨d1, d2⟩ := i_ncl hnn
        refine ⟨d1, ?_⟩
        have hlt := hr.2
        rw [d1, iLt d2 (by omega)] at hlt
        exact hlt
    · refine Or.inl ⟨hr, ?_⟩
      obtain ⟨h2, r1, r2, r3⟩ := r_flt (n := 1) hN hst q ho (by omega) hfk hfs' hfs
      have r1 : fX12_faults N 138 1 h = some h2 := r1
      rw [if_pos (show n < 0 ∨ Int32.ofNat fl.length - 1 < n from (in_rng (by omega)).mpr hr), if_pos rfl, r1, Option.bind_some]
      exact ⟨h2, rfl, r2, r3⟩
theorem work_12 {v w j u t t' : Nat} {s : Bool} {a : Tr} {a0 : List (Bool × Nat)} {pre : List (Bool × Nat)} (hN : 400000 ≤ N) (hst : Str P S D num g) (q : ROp P S num g h G i lo ops E xs ks fs t1 t2 t3 B O L lb pb tr') (ho : HO P G.1) (hfk : FK P S G.1 (i, lo, ops, E, xs, ks)) (hfs' : FsT P S G.1 fs pre) (hops : OT P G.1 ops (popT 12 s [t, t'] ++ a0)) (ht : P.opT i.1 E 12 w [t, t'] = some [u]) (hj : j < 3200) (e144 : rd g 144 j = (P.rnK num i.1 E 12 v w a [t, t']).1) (hfs : fs.length + 1 ≤ 100) : ∃ h2, fX12_work N 138 (Int32.ofNat j) h = some h2 ∧ RRs P S num g h2 (P.actX G i lo ops E 12 v w [t, t'] xs ks fs) ∧ Chg thA h h2 := by
  have ht : eqT [t, t'] [2, 0] 0 = some [u] := ht
  obtain ⟨-, e2⟩ := eqT_one ht
  injection e2 with e3 e4
  injection e4 with e5 e6
  subst e3
  subst e5
  have e144 : rd g 144 j = 7 := e144
  rw [popT_2 (by omega)] at hops
  match ops, hops, q, hfk with
  | (z1, y) :: (z2, x) :: ops', hops, q, hfk =>
    obtain ⟨hz1, hy, hz2, hx, -⟩ := hops
    obtain rfl : z1 = false := hz1
    obtain rfl : z2 = false := hz2
    have hy : VT P G.1 y 0 := hy
    have hx : VT P G.1 x 2 := hx
    obtain ⟨n, rfl⟩ := hy.int
    have st := q.st
    have sg := st.1
    obtain ⟨h100, ty, tx, hb, hol⟩ := q.tp2 hfs
    have s1 := sg.wr 138 100 (Int32.ofNat (pb + (um ops').length))
    have hpre : fX12_work N 138 (Int32.ofNat j) h = (fX12_isPlace N 138 (rd h 199 (pb + (um ops').length)) n h).bind fun q84 => if q84.1 = 0 then some q84.2 else ((getI q84.2 138 12 100).bind fun t86 =>
  (putI q84.2 138 12 100 (t86 - (2 : Int32))).bind fun h87 =>
  (getR h87 138 12 91).bind fun t88 =>
  (getR h87 138 12 84).bind fun t89 =>
  (ldI h87 t89 (rd h 199 (pb + (um ops').length))).bind fun t90 =>
  (ldI h87 t88 (t90 + n)).bind fun t91 =>
  (fX12_push N 138 t91 (0 : Int32) h87).bind fun h92 =>
  some h92) := by
      unfold fX12_work
      rw [if_pos (o_138 sg), g_138_100 sg, Option.bind_some, h100, i_sub1, R_138_16 sg, Option.bind_some, L_144 sg hj, Option.bind_some, st.2.1 144 j (by omega) (by omega), e144, if_neg (by decide), if_pos (by decide), R_138_101 sg, Option.bind_some, i_sub1, L_199 sg (by omega), Option.bind_some]
      simp only [Option.bind_some]
      rw [L_199 sg (by omega), Option.bind_some, ty.1]
    rw [hpre]
    rcases r_place (n := n) hN hst q ho hfk hfs' hfs tx hx with ⟨rfl, h2, r1, r2, r3⟩ | ⟨ii, fl, rfl, hob, e3, e4, hB, hh⟩
    · rw [r1, Option.bind_some]
      exact ⟨h2, rfl, r2, r3⟩
    · have hobl : obL G.1 ii = fl.length := by unfold obL; rw [hob]
      have hact : P.actX G i lo ((false, .inl n) :: (false, .inr (some ii)) :: ops') E 12 v w [2, 0] xs ks fs = match (if 0 ≤ n ∧ n < Int32.ofNat (obL G.1 ii) then .inl (obF G.1 ii n.toNatClampNeg) else .inr 1 : Vl ⊕ Nat) with
          | .inl x' => (G, .inl ((i, lo, (false, x') :: ops', E, xs, ks) :: fs))
          | .inr m => P.thr G m ((i, lo, (false, .inl n) :: (false, .inr (some ii)) :: ops', E, xs, ks) :: fs) := rfl
      rw [hact, hobl]
      rcases hh with ⟨hr, h2, r1, r2, r3⟩ | ⟨hr, r1, d1, d2⟩
      · rw [if_neg hr, r1, Option.bind_some]
        exact ⟨h2, rfl, r2, r3⟩
      · obtain ⟨f1, f2, f3, f4, f5⟩ := q.1.2.2.2.2.2.fld ho e3 hob (show n.toNatClampNeg < fl.length from d2)
        have hg : fl[n.toNatClampNeg]? = some fl[n.toNatClampNeg] := List.getElem?_eq_getElem d2
        obtain ⟨m, hm⟩ := (ho.2 ii _ hob).2 _ (List.mem_of_getElem? hg)
        have hobf : obF G.1 ii n.toNatClampNeg = .inl m := by
          rw [obF_get hob]
          show (fl[n.toNatClampNeg]?).getD (.inl 0) = _
          rw [hg]
          exact hm
        rw [if_pos hr, r1, Option.bind_some]
        dsimp only
        rw [hobf] at f5 ⊢
        obtain ⟨h3, p1, p2, p3⟩ := q.rep2 (N := N) (w := m) (f := 0) (v := .inl m) hfs ⟨rfl, rfl⟩
        rw [if_neg (by decide), g_138_100 sg, Option.bind_some, h100, i_sub2, p_138_100 sg, Option.bind_some, R_138_91 s1, Option.bind_some, R_138_84 s1, Option.bind_some, e4, L_186 s1 f2, Option.bind_some, rd_wr_ne _ _ (by omega), f3, d1, ← Int32.ofNat_add, L_191 s1 f4, Option.bind_some, rd_wr_ne _ _ (by omega), f5.1, p1, Option.bind_some]
        exact ⟨h3, rfl, p2, p3.mono (fun a k z => Or.inl z)⟩
  | [], hops, q, hfk => exact hops.elim
  | [_], hops, q, hfk => exact hops.2.2.elim
end WE
