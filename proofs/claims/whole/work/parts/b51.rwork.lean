/-! ===== THE REFERENCE'S STEPS: fields, signs ===== -/
section WK
variable {P : Pgm} {S : Tks} {D : List Int32 → Prop} {num : List Int32 → Nat} {N : Nat} {g h : pH} {G : Gs} {i : Nat × Nat × Nat} {lo : List Vl} {ops : List (Bool × Vl)} {E : EnvV} {xs : List Xi} {ks : List Si} {fs : List Fm} {t1 t2 t3 : List It} {B O : Nat → Nat} {L : List Nat} {lb pb : Nat} {tr' : List (Nat × Nat)}
/-- the word on top, and where it lies -/
theorem ROp.tp {o2 : Vl} {ops' : List (Bool × Vl)} (q : ROp P S num g h G i lo ((false, o2) :: ops') E xs ks fs t1 t2 t3 B O L lb pb tr') (hfs : fs.length + 1 ≤ 100) : rd h 138 100 = Int32.ofNat (pb + (um ops').length + 1) ∧ RV B L (rd h 199 (pb + (um ops').length)) (rd h 200 (pb + (um ops').length)) o2 ∧ pb + (um ops').length + 1 < 200000 ∧ ops'.length + 1 ≤ 1999 := by
  have h100 := q.2.2.2.1
  have hpb : pb ≤ 1999 * fs.length := q.2.1.2.2.2.2.2.2.1
  have hol : ops'.length + 1 ≤ 1999 := q.2.1.2.2.2.2.2.2.2.2.1
  have hul := um_le ops'
  have eu : (um ((false, o2) :: ops')).length = (um ops').length + 1 := rfl
  have tp := q.top (j := 0) (v := o2) rfl
  rw [eu, show pb + ((um ops').length + 1) - 1 - 0 = pb + (um ops').length by omega] at tp
  rw [eu] at h100
  exact ⟨h100, tp, by omega, hol⟩
/-- the word on top becomes another -/
theorem ROp.rep {o2 v : Vl} {x f : Int32} {ops' : List (Bool × Vl)} (q : ROp P S num g h G i lo ((false, o2) :: ops') E xs ks fs t1 t2 t3 B O L lb pb tr') (hfs : fs.length + 1 ≤ 100) (hv : RV B L x f v) : ∃ h2, fX12_push N 138 x f (wr h 138 100 (Int32.ofNat (pb + (um ops').length))) = some h2 ∧ RRs P S num g h2 (G, .inl ((i, lo, (false, v) :: ops', E, xs, ks) :: fs)) ∧ Chg fmA h h2 := by
  obtain ⟨a1, a2, a3, a4⟩ := q.tp hfs
  obtain ⟨h2, p1, p2, p3⟩ := ROp.val (N := N) (j := 1) (A := fun a k => a = 138 ∧ k = 100) (xs := xs) (h1 := wr h 138 100 (Int32.ofNat (pb + (um ops').length))) q (Chg.wr h 138 100 _ ⟨rfl, rfl⟩) (fun _ _ z => Or.inl z) (w_138_100 q.st.1 _) hv q.2.2.2.2.2.2.2.1 a4 hfs
  exact ⟨h2, p1, p2.rrs, p3⟩
theorem work_9 {v w j u t : Nat} {s : Bool} {a : Tr} {a0 : List (Bool × Nat)} {pre : List (Bool × Nat)} (hN : 400000 ≤ N) (hst : Str P S D num g) (q : ROp P S num g h G i lo ops E xs ks fs t1 t2 t3 B O L lb pb tr') (ho : HO P G.1) (hfk : FK P S G.1 (i, lo, ops, E, xs, ks)) (hfs' : FsT P S G.1 fs pre) (hops : OT P G.1 ops (popT 9 s [t] ++ a0)) (ht : P.opT i.1 E 9 w [t] = some [u]) (hj : j < 3200) (e144 : rd g 144 j = (P.rnK num i.1 E 9 v w a [t]).1) (e147 : rd g 147 j = (P.rnK num i.1 E 9 v w a [t]).2) (hfs : fs.length + 1 ≤ 100) : ∃ h2, fX12_work N 138 (Int32.ofNat j) h = some h2 ∧ RRs P S num g h2 (P.actX G i lo ops E 9 v w [t] xs ks fs) ∧ Chg thA h h2 := by
  have hP := hst.1
  have ha := hP.1
  rw [popT_1 (by omega)] at hops
  have ht : P.dotT (P.1 w) t = some [u] := ht
  match ops, hops, q, hfk with
  | (z, o2) :: ops', hops, q, hfk =>
    obtain ⟨hz, hv, -⟩ := hops
    have hz : z = decide (t = 3) := hz
    have hv : VT P G.1 o2 t := hv
    have ht2 : t = 2 ∨ 10 ≤ t := by
      unfold Pgm.dotT at ht
      by_cases h2 : t = 2 ∧ P.1 w = knW 7
      · exact Or.inl h2.1
      · rw [if_neg h2] at ht
        rcases hm : P.fldT (P.1 w) t with _ | m
        · rw [hm] at ht; cases ht
        · exact Or.inr (fldT_10 hm)
    obtain rfl : z = false := by rw [hz]; exact decide_eq_false (by omega)
    have st := q.st
    have sg := st.1
    obtain ⟨h100, tp, hb, hol⟩ := q.tp hfs
    have c1 : Chg (fun a k => a = 138 ∧ k = 100) h (wr h 138 100 (Int32.ofNat (pb + (um ops').length))) := Chg.wr h 138 100 _ ⟨rfl, rfl⟩
    have s1 := sg.wr 138 100 (Int32.ofNat (pb + (um ops').length))
    have st1 : StV g (wr h 138 100 (Int32.ofNat (pb + (um ops').length))) := st.chg c1 (fun a k z => by omega)
    have hpre : fX12_work N 138 (Int32.ofNat j) h = fX12_work_80 N 138 (Int32.ofNat j) (Int32.ofNat (pb + (um ops').length)) h := by
      unfold fX12_work
      rw [if_pos (o_138 sg), g_138_100 sg, Option.bind_some, h100, i_sub1, R_138_16 sg, Option.bind_some, L_144 sg hj, Option.bind_some, st.2.1 144 j (by omega) (by omega), e144]
      rcases rnK_9 (P := P) (num := num) (c := i.1) (E := E) (v := v) (w := w) (a := a) (l := [t]) with z | z
      · rw [z]; rfl
      · rw [z]; rfl
    have hov : opV ((false, o2) :: ops') ([t].length - 1) = o2 := rfl
    have hact : ∀ r, P.wkV i.1 E i.2.2 lo G.1 9 v w [t] o2 o2 = r → P.actX G i lo ((false, o2) :: ops') E 9 v w [t] xs ks fs = match r with
        | .inl x => (G, .inl ((i, lo, (false, x) :: ops', E, xs, ks) :: fs))
        | .inr n => P.thr G n ((i, lo, (false, o2) :: ops', E, xs, ks) :: fs) := fun r hr => by
      rw [← hr]
      rfl
    rw [hpre]
    unfold fX12_work_80
    rw [R_138_101 sg, Option.bind_some, L_199 sg (by omega), Option.bind_some]
    rcases o2 with n | _ | ii
    · exfalso
      rcases ht2 with rfl | h10
      · rcases hv.row with z | ⟨_, _, z, _⟩ <;> cases z
      · rcases hv.obj h10 with z | ⟨_, _, _, z, _⟩ <;> cases z
    · obtain ⟨h2, r1, r2, r3⟩ := r_flt (n := 0) hN hst q ho (by omega) hfk hfs' hfs
      have r1 : fX12_faults N 138 0 h = some h2 := r1
      rw [tp.1, if_neg (by decide), r1, Option.bind_some, hact (.inr 0) rfl]
      exact ⟨h2, rfl, r2, r3⟩
    · obtain ⟨e1, e2, e3⟩ := tp
      obtain ⟨b1, b2, b3⟩ := q.1.2.2.2.2.2.at e3
      have hii := hv.lt
      have hob : G.1[ii]? = some G.1[ii] := List.getElem?_eq_getElem hii
      obtain ⟨c2, c3, c4, c5⟩ := b2 _ hob
      have e186 : rd (wr h 138 100 (Int32.ofNat (pb + (um ops').length))) 186 (B ii) = Int32.ofNat (O ii) := by rw [rd_wr_ne _ _ (by omega)]; exact c3
      have e187 : rd (wr h 138 100 (Int32.ofNat (pb + (um ops').length))) 187 (B ii) = Int32.ofNat (G.1[ii]).2.length := by rw [rd_wr_ne _ _ (by omega)]; exact c4
      rw [e1, if_pos (i_nn0 (by omega)), R_138_84 sg, Option.bind_some, L_186 sg (by omega), Option.bind_some, c3, R_138_19 sg, Option.bind_some, L_147 sg hj, Option.bind_some, st.2.1 147 j (by omega) (by omega), g_138_100 sg, Option.bind_some, h100, i_sub1, p_138_100 sg, Option.bind_some, R_138_16 s1, Option.bind_some, L_144 s1 hj, Option.bind_some, st1.2.1 144 j (by omega) (by omega)]
      unfold Pgm.rnK at e144 e147
      rw [if_neg (by omega), if_pos rfl] at e144 e147
      by_cases h2 : t = 2 ∧ P.1 w = knW 7
      · rw [if_pos (show lget [t] 0 = 2 ∧ P.1 w = knW 7 from h2)] at e144 e147
        rw [e144, if_pos rfl, R_138_85 s1, Option.bind_some, L_187 s1 (by omega), Option.bind_some, e187]
        obtain ⟨h3, r1, r2, r3⟩ := q.rep (N := N) (x := Int32.ofNat (G.1[ii]).2.length) (f := 0) (v := .inl (Int32.ofNat (obL G.1 ii))) hfs ⟨by unfold obL; rw [hob], rfl⟩
        rw [r1, Option.bind_some, hact (.inl (.inl (Int32.ofNat (obL G.1 ii)))) (by
          show (if lget [t] 0 = 2 ∧ P.1 w = knW 7 then _ else _) = _
          rw [if_pos (show lget [t] 0 = 2 ∧ P.1 w = knW 7 from h2)])]
        exact ⟨h3, rfl, r2, r3.mono (fun a k z => Or.inl z)⟩
      · rw [if_neg (show ¬ (lget [t] 0 = 2 ∧ P.1 w = knW 7) from h2)] at e144 e147
        unfold Pgm.dotT at ht
        rw [if_neg h2] at ht
        rcases hm : P.fldT (P.1 w) t with _ | m
        · rw [hm] at ht; cases ht
        · have e147 : rd g 147 j = Int32.ofNat (P.mo m) := by
            rw [e147]
            show P.moO (P.fldT (P.1 w) t) = _
            rw [hm]; rfl
          have h10 := fldT_10 hm
          rcases hv.obj h10 with z | ⟨i', c', fl, z, z2, z3⟩
          · cases z
          · obtain rfl : ii = i' := by injection z with z; exact Option.some.inj z
            have hml := fld_lt ha ho z2 z3 hm
            obtain ⟨f1, f2, f3, f4, f5⟩ := q.1.2.2.2.2.2.fld ho e3 z2 hml
            obtain ⟨h3, r1, r2, r3⟩ := q.rep (N := N) hfs f5
            have e144 : rd g 144 j = 6 := e144
            rw [e144, if_neg (by decide), R_138_91 s1, Option.bind_some, e147, ← Int32.ofNat_add, L_191 s1 f4, Option.bind_some, R_138_92 s1, Option.bind_some, L_192 s1 f4, Option.bind_some, rd_wr_ne _ _ (by omega), rd_wr_ne _ _ (by omega), r1, Option.bind_some, hact (.inl (obF G.1 ii (P.mo m))) (by
              show (if lget [t] 0 = 2 ∧ P.1 w = knW 7 then _ else _) = _
              rw [if_neg (show ¬ (lget [t] 0 = 2 ∧ P.1 w = knW 7) from h2)]
              show Sum.inl (obF G.1 ii (P.foO (P.fldT (P.1 w) t))) = _
              rw [hm]; rfl)]
            exact ⟨h3, rfl, r2, r3.mono (fun a k z => Or.inl z)⟩
end WK
