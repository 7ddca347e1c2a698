/-! ===== THE REFERENCE'S STEPS: a sign ahead, casts, elements ===== -/
section WD
variable {P : Pgm} {S : Tks} {D : List Int32 → Prop} {num : List Int32 → Nat} {N : Nat} {g h : pH} {G : Gs} {i : Nat × Nat × Nat} {lo : List Vl} {ops : List (Bool × Vl)} {E : EnvV} {xs : List Xi} {ks : List Si} {fs : List Fm} {t1 t2 t3 : List It} {B O : Nat → Nat} {L : List Nat} {lb pb : Nat} {tr' : List (Nat × Nat)}
/-- the word on top is written over -/
theorem ROp.ovr {o2 v : Vl} {x : Int32} {ops' : List (Bool × Vl)} (q : ROp P S num g h G i lo ((false, o2) :: ops') E xs ks fs t1 t2 t3 B O L lb pb tr') (hv : RV B L x (rd h 200 (pb + (um ops').length)) v) : RRs P S num g (wr h 199 (pb + (um ops').length) x) (G, .inl ((i, lo, (false, v) :: ops', E, xs, ks) :: fs)) ∧ Chg fmA h (wr h 199 (pb + (um ops').length) x) := by
  have sg := q.st.1
  have c : Chg (fun a k => a = 199 ∧ k = pb + (um ops').length) h (wr h 199 (pb + (um ops').length) x) := Chg.wr h 199 _ _ ⟨rfl, rfl⟩
  have hfm : ∀ a k, (fun a k => a = 199 ∧ k = pb + (um ops').length) a k → fmA a k := fun a k z => by
    have z : a = 199 ∧ k = pb + (um ops').length := z
    unfold fmA
    omega
  obtain ⟨⟨q1, q2, q3⟩, q4, q5, q6, q7, q8, q9, q10, q11, q12, q13⟩ := q
  refine ⟨ROp.rrs (B := B) (O := O) (L := L) (lb := lb) (pb := pb) (tr' := tr') (t1 := t1) (t2 := t2) (t3 := t3) ⟨⟨(c.2.2.1 _ _ (by omega)).trans q1, (c.2.2.1 _ _ (by omega)).trans q2, q3.chg c hfm⟩, ?_, q5.chg c (fun a n _ _ _ => by omega) (fun a k _ _ => by omega) (fun a k _ _ => by omega), (c.2.2.1 _ _ (by omega)).trans q6, (c.2.2.1 _ _ (by omega)).trans q7, q8.chg c (by omega) (fun a k z _ => by omega), q9.chg c (by omega) (fun a k z _ => by omega), q10, q11, q12, q13⟩, c.mono hfm⟩
  obtain ⟨k1, k2, k3, k4, k5, k6, k7, k8, k9, k10, k11, k12, k13, k14⟩ := q4
  refine ⟨(c.2.2.1 _ _ (by omega)).trans k1, k2, (c.2.2.1 _ _ (by omega)).trans k3, (c.2.2.1 _ _ (by omega)).trans k4, (c.2.2.1 _ _ (by omega)).trans k5, k6, k7, k8, k9, k10, k11, fun j' v' hj => ?_, fun j' v' hj => ?_, fun v' hv' => ?_⟩
  · rw [c.2.2.1 _ _ (by omega), c.2.2.1 _ _ (by omega)]
    exact k12 j' v' hj
  · show RV B L (rd _ 199 (pb + ((um ops').length + 1) - 1 - j')) (rd _ 200 (pb + ((um ops').length + 1) - 1 - j')) v'
    match j', hj with
    | 0, hj =>
      obtain rfl : v = v' := Option.some.inj hj
      rw [show pb + ((um ops').length + 1) - 1 - 0 = pb + (um ops').length by omega, W_199 sg, c.2.2.1 _ _ (by omega)]
      exact hv
    | j' + 1, hj =>
      have hj : (um ops')[j']? = some v' := hj
      have hjl := (List.getElem?_eq_some_iff.mp hj).1
      rw [c.2.2.1 _ _ (by omega), c.2.2.1 _ _ (by omega)]
      exact k13 (j' + 1) v' hj
  · rcases List.mem_cons.mp hv' with z | z
    · cases z
    · exact k14 v' (List.mem_cons_of_mem _ z)
theorem work_17 {k v w j u t : Nat} {s : Bool} {a : Tr} {a0 : List (Bool × Nat)} (q : ROp P S num g h G i lo ops E xs ks fs t1 t2 t3 B O L lb pb tr') (hk : k = 17 ∨ k = 18) (hops : OT P G.1 ops (popT k s [t] ++ a0)) (ht : P.opT i.1 E k w [t] = some [u]) (hj : j < 3200) (e144 : rd g 144 j = (P.rnK num i.1 E k v w a [t]).1) (hfs : fs.length + 1 ≤ 100) : ∃ h2, fX12_work N 138 (Int32.ofNat j) h = some h2 ∧ RRs P S num g h2 (P.actX G i lo ops E k v w [t] xs ks fs) ∧ Chg thA h h2 := by
  rw [popT_1 (by omega)] at hops
  match ops, hops, q with
  | (z, o2) :: ops', hops, q =>
    obtain ⟨hz, hv, -⟩ := hops
    have hz : z = decide (t = 3) := hz
    have hv : VT P G.1 o2 t := hv
    have ht2 : t = 0 ∧ k = 17 ∨ t = 1 ∧ k = 18 := by
      rcases hk with rfl | rfl
      · have ht : eqT [t] [0] 0 = some [u] := ht
        have e := (eqT_one ht).2
        injection e with e
        exact Or.inl ⟨e, rfl⟩
      · have ht : eqT [t] [1] 1 = some [u] := ht
        have e := (eqT_one ht).2
        injection e with e
        exact Or.inr ⟨e, rfl⟩
    obtain rfl : z = false := by rw [hz]; exact decide_eq_false (by omega)
    have st := q.st
    have sg := st.1
    obtain ⟨h100, tp, hb, hol⟩ := q.tp hfs
    have pre : ∀ K : Int32, rd g 144 j = K → fX12_work N 138 (Int32.ofNat j) h = (if K = 13 then ((getR h 138 12 101).bind fun t105 =>
  (getR h 138 12 101).bind fun t106 =>
  (ldI h t106 (Int32.ofNat (pb + (um ops').length))).bind fun t107 =>
  (stI h t105 (Int32.ofNat (pb + (um ops').length)) (-t107)).bind fun h108 =>
  some h108) else if K = 14 then ((getR h 138 12 101).bind fun t109 =>
  (getR h 138 12 101).bind fun t110 =>
  (ldI h t110 (Int32.ofNat (pb + (um ops').length))).bind fun t111 =>
  (stI h t109 (Int32.ofNat (pb + (um ops').length)) ((1 : Int32) - t111)).bind fun h112 =>
  some h112) else fX12_work N 138 (Int32.ofNat j) h) := fun K hK => by
      by_cases h13 : K = 13
      · subst h13
        unfold fX12_work
        rw [if_pos (o_138 sg), g_138_100 sg, Option.bind_some, h100, i_sub1, R_138_16 sg, Option.bind_some, L_144 sg hj, Option.bind_some, st.2.1 144 j (by omega) (by omega), hK]
        rfl
      · rw [if_neg h13]
        by_cases h14 : K = 14
        · subst h14
          unfold fX12_work
          rw [if_pos (o_138 sg), g_138_100 sg, Option.bind_some, h100, i_sub1, R_138_16 sg, Option.bind_some, L_144 sg hj, Option.bind_some, st.2.1 144 j (by omega) (by omega), hK]
          rfl
        · rw [if_neg h14]
    rcases ht2 with ⟨rfl, rfl⟩ | ⟨rfl, rfl⟩
    · obtain ⟨n, rfl⟩ := hv.int
      have e144 : rd g 144 j = 13 := e144
      obtain ⟨e1, e2⟩ := tp
      obtain ⟨r1, r2⟩ := q.ovr (x := -n) (v := .inl (-n)) ⟨rfl, e2⟩
      refine ⟨_, ?_, r1, r2.mono (fun a k z => Or.inl z)⟩
      rw [pre 13 e144, if_pos rfl, R_138_101 sg]
      simp only [Option.bind_some]
      rw [L_199 sg (by omega), Option.bind_some, e1, T_199 sg (by omega), Option.bind_some]
    · have e144 : rd g 144 j = 14 := e144
      have fin : ∀ n : Int32, o2 = .inl n → P.actX G i lo ((false, o2) :: ops') E 18 v w [1] xs ks fs = (G, .inl ((i, lo, (false, .inl (1 - n)) :: ops', E, xs, ks) :: fs)) → ∃ h2, fX12_work N 138 (Int32.ofNat j) h = some h2 ∧ RRs P S num g h2 (P.actX G i lo ((false, o2) :: ops') E 18 v w [1] xs ks fs) ∧ Chg thA h h2 := fun n hn hact => by
        rw [hact]
        subst hn
        obtain ⟨e1, e2⟩ := tp
        obtain ⟨r1, r2⟩ := q.ovr (x := 1 - n) (v := .inl (1 - n)) ⟨rfl, e2⟩
        refine ⟨_, ?_, r1, r2.mono (fun a k z => Or.inl z)⟩
        rw [pre 14 e144, if_neg (by decide), if_pos rfl, R_138_101 sg]
        simp only [Option.bind_some]
        rw [L_199 sg (by omega), Option.bind_some, e1, T_199 sg (by omega), Option.bind_some]
      rcases hv.bool with rfl | rfl
      · exact fin 0 rfl rfl
      · exact fin 1 rfl rfl
/-- casts, and questions what an object is -/
theorem work_15 {k v w j u t : Nat} {s : Bool} {a : Tr} {a0 : List (Bool × Nat)} {pre : List (Bool × Nat)} (hN : 400000 ≤ N) (hst : Str P S D num g) (q : ROp P S num g h G i lo ops E xs ks fs t1 t2 t3 B O L lb pb tr') (ho : HO P G.1) (hfk : FK P S G.1 (i, lo, ops, E, xs, ks)) (hfs' : FsT P S G.1 fs pre) (hk : k = 15 ∨ k = 16) (hops : OT P G.1 ops (popT k s [t] ++ a0)) (ht : P.opT i.1 E k w [t] = some [u]) (hj : j < 3200) (e144 : rd g 144 j = (P.rnK num i.1 E k v w a [t]).1) (e147 : rd g 147 j = (P.rnK num i.1 E k v w a [t]).2) (hfs : fs.length + 1 ≤ 100) : ∃ h2, fX12_work N 138 (Int32.ofNat j) h = some h2 ∧ RRs P S num g h2 (P.actX G i lo ops E k v w [t] xs ks fs) ∧ Chg thA h h2 := by
  have ha := hst.1.1
  rw [popT_1 (by omega)] at hops
  match ops, hops, q, hfk with
  | (z, o2) :: ops', hops, q, hfk =>
    obtain ⟨hz, hv, -⟩ := hops
    have hz : z = decide (t = 3) := hz
    have hv : VT P G.1 o2 t := hv
    have hd : ∃ d, P.fnd (P.1 w) = some d ∧ (t = 4 ∨ 10 ≤ t) := by
      rcases hk with rfl | rfl
      · have ht : (if obT t = true then P.clsT (P.1 w) else none) = some [u] := ht
        by_cases hob : obT t = true
        · rw [if_pos hob] at ht
          obtain ⟨d, hd, -⟩ := clsT_some ht
          exact ⟨d, hd, of_decide_eq_true hob⟩
        · rw [if_neg hob] at ht; cases ht
      · have ht : (if obT t = true then (if (P.fnd (P.1 w)).isSome = true then some [1] else none) else none) = some [u] := ht
        by_cases hob : obT t = true
        · rw [if_pos hob] at ht
          rcases hf : P.fnd (P.1 w) with _ | d
          · rw [hf] at ht; cases ht
          · exact ⟨d, rfl, of_decide_eq_true hob⟩
        · rw [if_neg hob] at ht; cases ht
    obtain ⟨d, hd, ht2⟩ := hd
    obtain rfl : z = false := by rw [hz]; exact decide_eq_false (by omega)
    have hdn := (Pgm.fnd_lt hd).1
    have st := q.st
    have sg := st.1
    obtain ⟨h100, tp, hb, hol⟩ := q.tp hfs
    have s1 := sg.wr 138 100 (Int32.ofNat (pb + (um ops').length))
    have e147 : rd g 147 j = Int32.ofNat d := by
      rw [e147]
      unfold Pgm.rnK
      rw [if_neg (by omega), if_neg (by omega), if_pos (by omega)]
      show oI (-1) (P.fnd (P.1 w)) = _
      rw [hd]; rfl
    have e144 : rd g 144 j = if k = 15 then 10 else 11 := by
      rw [e144, rnK_v (by omega) (by omega)]
      rcases hk with rfl | rfl <;> rfl
    have hpre : fX12_work N 138 (Int32.ofNat j) h = fX12_work_236 N 138 (Int32.ofNat j) (Int32.ofNat (pb + (um ops').length)) h := by
      unfold fX12_work
      rw [if_pos (o_138 sg), g_138_100 sg, Option.bind_some, h100, i_sub1, R_138_16 sg, Option.bind_some, L_144 sg hj, Option.bind_some, st.2.1 144 j (by omega) (by omega), e144]
      rcases hk with rfl | rfl
      · rfl
      · rfl
    have w280 : ∀ (x : Int32) (r : Bool), fX12_work_280 N 138 (Int32.ofNat j) x (if r = true then 1 else 0) h = if k = 15 then (if x < 0 then some h else if r = true then some h else ((fX12_faults N 138 (3 : Int32) h).bind fun h29 => some h29)) else fX12_work_329 N 138 (if r = true then 1 else 0) (wr h 138 100 (Int32.ofNat (pb + (um ops').length))) := fun x r => by
      unfold fX12_work_280
      rw [R_138_16 sg, Option.bind_some, L_144 sg hj, Option.bind_some, st.2.1 144 j (by omega) (by omega), e144]
      rcases hk with rfl | rfl
      · rw [if_pos rfl, if_pos rfl, if_pos rfl]
        cases r <;> rfl
      · rw [if_neg (show ¬ 16 = 15 by omega), if_neg (show ¬ (11 : Int32) = 10 by decide), g_138_100 sg, Option.bind_some, h100, i_sub1, p_138_100 sg, Option.bind_some]
        cases r <;> rfl
    have w329 : ∀ r : Bool, ∃ h2, fX12_work_329 N 138 (if r = true then 1 else 0) (wr h 138 100 (Int32.ofNat (pb + (um ops').length))) = some h2 ∧ RRs P S num g h2 (G, .inl ((i, lo, (false, bV r) :: ops', E, xs, ks) :: fs)) ∧ Chg thA h h2 := fun r => by
      obtain ⟨h3, p1, p2, p3⟩ := q.rep (N := N) (x := if r = true then 1 else 0) (f := 0) (v := bV r) hfs ⟨rfl, rfl⟩
      refine ⟨h3, ?_, p2, p3.mono (fun a k z => Or.inl z)⟩
      unfold fX12_work_329
      rw [p1, Option.bind_some]
    rw [hpre]
    unfold fX12_work_236 fX12_work_279
    rw [R_138_101 sg, Option.bind_some, L_199 sg (by omega), Option.bind_some]
    have hnull : o2 = .inr none ∨ ∃ ii c fl, o2 = .inr (some ii) ∧ G.1[ii]? = some (some c, fl) := by
      rcases ht2 with rfl | h10
      · exact Or.inl hv.null
      · rcases hv.obj h10 with z | ⟨ii, c, fl, z, z2, _⟩
        · exact Or.inl z
        · exact Or.inr ⟨ii, c, fl, z, z2⟩
    rcases hnull with rfl | ⟨ii, c, fl, rfl, hob⟩
    · have hw := w280 (-1) false
      rw [tp.1, if_pos (by decide)]
      have hw : fX12_work_280 N 138 (Int32.ofNat j) (-1) 0 h = _ := hw
      rw [hw]
      rcases hk with rfl | rfl
      · rw [if_pos rfl, if_pos (by decide)]
        exact ⟨h, rfl, q.rrs, Chg.refl _ _⟩
      · rw [if_neg (by omega)]
        exact w329 false
    · obtain ⟨e1, e2, e3⟩ := tp
      obtain ⟨b1, b2, -⟩ := q.1.2.2.2.2.2.at e3
      have e185 : rd h 185 (B ii) = Int32.ofNat c := (b2 _ hob).1
      have hcn : c < P.n := (ho.2 ii _ hob).2.1
      have hn4 := hst.1.2.2.2.2.1
      have hisA : P.isA G.1 ii (P.fnd (P.1 w)) = P.und c d := by
        rw [hd]
        show (match obC G.1 ii with
          | some c => P.und c d
          | none => false) = _
        have : obC G.1 ii = some c := by unfold obC; rw [hob]
        rw [this]
      rw [e1, if_neg (i_nneg (by omega)), R_138_83 sg, Option.bind_some, L_185 sg (by omega), Option.bind_some, e185, if_neg (i_nneg (by omega))]
      simp only [Option.bind_some]
      rw [L_185 sg (by omega), Option.bind_some, e185, R_138_19 sg, Option.bind_some, L_147 sg hj, Option.bind_some, st.2.1 147 j (by omega) (by omega), e147, (st.rt hst.2.1).isUnder (st.rpr hst.2.2) ha (by omega) hcn hdn, Option.bind_some]
      dsimp only
      have h15 : k = 15 → P.actX G i lo ((false, .inr (some ii)) :: ops') E k v w [t] xs ks fs = if P.und c d = true then (G, .inl ((i, lo, (false, .inr (some ii)) :: ops', E, xs, ks) :: fs)) else P.thr G 3 ((i, lo, (false, .inr (some ii)) :: ops', E, xs, ks) :: fs) := fun hk => by
        subst hk
        show (match (if P.isA G.1 ii (P.fnd (P.1 w)) = true then .inl (.inr (some ii)) else .inr 3 : Vl ⊕ Nat) with
          | .inl x => (G, Sum.inl ((i, lo, (false, x) :: ops', E, xs, ks) :: fs))
          | .inr n => P.thr G n ((i, lo, (false, .inr (some ii)) :: ops', E, xs, ks) :: fs)) = _
        rw [hisA]
        cases P.und c d <;> rfl
      have h16 : k = 16 → P.actX G i lo ((false, .inr (some ii)) :: ops') E k v w [t] xs ks fs = (G, .inl ((i, lo, (false, bV (P.und c d)) :: ops', E, xs, ks) :: fs)) := fun hk => by
        subst hk
        show (G, Sum.inl ((i, lo, (false, bV (P.isA G.1 ii (P.fnd (P.1 w)))) :: ops', E, xs, ks) :: fs)) = _
        rw [hisA]
      rcases hu : P.und c d with _ | _
      · rw [if_pos (show kI false = 0 from rfl)]
        have hw : fX12_work_280 N 138 (Int32.ofNat j) (Int32.ofNat (B ii)) 0 h = _ := w280 (Int32.ofNat (B ii)) false
        rw [hw]
        rcases hk with rfl | rfl
        · rw [if_pos rfl, if_neg (i_nneg (by omega)), if_neg (by decide), h15 rfl, hu, if_neg (by decide)]
          obtain ⟨h2, r1, r2, r3⟩ := r_flt (n := 3) hN hst q ho (by omega) hfk hfs' hfs
          have r1 : fX12_faults N 138 3 h = some h2 := r1
          rw [r1, Option.bind_some]
          exact ⟨h2, rfl, r2, r3⟩
        · rw [if_neg (by omega), h16 rfl, hu]
          exact w329 false
      · rw [if_neg (show ¬ kI true = 0 by decide)]
        have hw : fX12_work_280 N 138 (Int32.ofNat j) (Int32.ofNat (B ii)) 1 h = _ := w280 (Int32.ofNat (B ii)) true
        rw [hw]
        rcases hk with rfl | rfl
        · rw [if_pos rfl, if_neg (i_nneg (by omega)), if_pos rfl, h15 rfl, hu, if_pos rfl]
          exact ⟨h, rfl, q.rrs, Chg.refl _ _⟩
        · rw [if_neg (by omega), h16 rfl, hu]
          exact w329 true
end WD
