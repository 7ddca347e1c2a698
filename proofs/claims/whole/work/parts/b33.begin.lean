/-! ===== A RUN BEGINS: the pure machine, the class ===== -/
theorem sum_mf (P : Pgm) : ∀ n, sumN (fun e => P.mf (e + 1) - P.mf e) n = P.mf n
  | 0 => (Pgm.mf_5 (by omega)).symm
  | n + 1 => by
    show sumN _ n + (P.mf (n + 1) - P.mf n) = _
    rw [sum_mf P n]
    have := Pgm.mf_mono (P := P) (c := n)
    omega
theorem nf_sum {P : Pgm} (ha : Acy P) : ∀ (k c : Nat), P.dep c = k → c < P.n → P.nf c ≤ sumN (fun e => if P.dep e ≤ k then P.own e else 0) P.n := by
  intro k
  induction k using Nat.strongRecOn with
  | ind k ih =>
    intro c hk hc
    rw [Pgm.nf_eq ha hc]
    unfold Pgm.abv
    rcases hp : P.par c with _ | e
    · show 0 + P.own c ≤ _
      rw [sumN_one (i := c) (c := P.own c) (g := fun e => if e = c then 0 else if P.dep e ≤ k then P.own e else 0) (fun x hx => by rw [if_neg hx]) (by rw [if_pos (by omega), if_pos rfl]; omega) hc]
      omega
    · have hd := Pgm.dep_par ha hp
      have he : e < P.n := by
        have := Pgm.und_lt ha hc (Pgm.und_up ha hp (P.und_refl e))
        exact this
      have i1 := ih (P.dep e) (by omega) e rfl he
      have h1 : sumN (fun x => if P.dep x ≤ P.dep e then P.own x else 0) P.n ≤ sumN (fun x => if x = c then 0 else if P.dep x ≤ k then P.own x else 0) P.n := sumN_le (fun x _ => by
        by_cases hx : x = c
        · rw [if_pos hx, hx, if_neg (by omega)]
          exact Nat.le_refl _
        · rw [if_neg hx]
          by_cases h2 : P.dep x ≤ P.dep e
          · rw [if_pos h2, if_pos (by omega)]
            exact Nat.le_refl _
          · rw [if_neg h2]
            exact Nat.zero_le _)
      have h2 : sumN (fun x => if P.dep x ≤ k then P.own x else 0) P.n = sumN (fun x => if x = c then 0 else if P.dep x ≤ k then P.own x else 0) P.n + P.own c := sumN_one (i := c) (fun x hx => by rw [if_neg hx]) (by rw [if_pos (by omega), if_pos rfl]; omega) hc
      rw [h2]
      show P.nf e + P.own c ≤ _
      omega
theorem nf_ms {P : Pgm} (ha : Acy P) {c : Nat} (hc : c < P.n) : P.nf c ≤ csM P.2 := by
  have h1 := nf_sum ha _ c rfl hc
  have h2 : sumN (fun e => if P.dep e ≤ P.dep c then P.own e else 0) P.n ≤ sumN (fun e => P.mf (e + 1) - P.mf e) P.n := sumN_le (fun x _ => by
    split
    · exact P.cf_le _ _
    · exact Nat.zero_le _)
  rw [sum_mf] at h2
  have := P.mf_le P.n
  omega
def flt0 : List Ob := [(some 0, []), (some 1, []), (some 2, []), (some 3, []), (some 4, [])]
/-- the class Main and its method main -/
def Pgm.mnC (P : Pgm) : Nat := (P.fnd (knW 5)).getD 0
def Pgm.mnM (P : Pgm) : Nat := (P.had true (knW 6) P.mnC).getD 0
def Pgm.rmH (P : Pgm) (H : Nat) : Nat := if H < 2 + P.nf P.mnC then 2 + P.nf P.mnC else H
def Pgm.iniG (P : Pgm) (inp : List Int32) (H : Nat) : Gs := (flt0 ++ [(some P.mnC, (P.fts P.mnC).map dfl)], inp, [], (0, 2 + P.nf P.mnC, 0), P.rmH H)
def Pgm.ini (P : Pgm) (inp : List Int32) (H : Nat) : Mst := (P.iniG inp H, .inl [P.newF P.mnM 5 []])
theorem hm_get {P : Pgm} (ha : Acy P) (h : P.hm = true) : P.fnd (knW 5) = some P.mnC ∧ P.mnC < P.n ∧ P.had true (knW 6) P.mnC = some P.mnM ∧ ∃ b, P.ms[P.mnM]? = some b ∧ b.1 = true ∧ P.rt b.2.1 = 0 ∧ mbP b = 0 ∧ P.und P.mnC (P.ow P.mnM) = true := by
  unfold Pgm.hm at h
  rcases hc : P.fnd (knW 5) with _ | c
  · rw [hc] at h; cases h
  · rw [hc] at h
    have hcn := (Pgm.fnd_lt hc).1
    have e1 : P.mnC = c := by unfold Pgm.mnC; rw [hc]; rfl
    have h : (match P.had true (knW 6) c with | none => false | some m => match P.ms[m]? with | none => false | some b => decide (P.rt b.2.1 = 0) && decide (mbP b = 0)) = true := h
    rcases hm : P.had true (knW 6) c with _ | m
    · rw [hm] at h; cases h
    · rw [hm] at h
      have e2 : P.mnM = m := by unfold Pgm.mnM; rw [e1, hm]; rfl
      rw [e1, e2]
      obtain ⟨o1, o2, o3⟩ := Pgm.had_ow ha _ c rfl hcn hm
      obtain ⟨b, b1, b2, b3⟩ := mIs_get o3
      dsimp only at h
      rw [b1] at h
      rw [Bool.and_eq_true] at h
      exact ⟨rfl, hcn, hm, b, b1, b2, of_decide_eq_true h.1, of_decide_eq_true h.2, o1⟩
theorem n_5 (P : Pgm) : 5 ≤ P.n := by unfold Pgm.n; omega
theorem nf_0 {P : Pgm} (ha : Acy P) {c : Nat} (h : c < 5) : P.nf c = 0 := by
  have hc : c < P.n := by have := n_5 P; omega
  rw [Pgm.nf_eq ha hc]
  have hp : P.par c = none := by
    unfold Pgm.par Pgm.pw
    rw [if_pos h]
  unfold Pgm.abv Pgm.own
  rw [hp, Pgm.mf_5 (by omega), Pgm.mf_5 (by omega)]
  rfl
theorem flt_HO {P : Pgm} (ha : Acy P) : HO P flt0 := by
  refine ⟨fun i hi => ?_, fun i ob hob => ?_⟩
  · have : i = 0 ∨ i = 1 ∨ i = 2 ∨ i = 3 ∨ i = 4 := by omega
    rcases this with rfl | rfl | rfl | rfl | rfl <;> rfl
  · have hi : i < 5 := (List.getElem?_eq_some_iff.mp hob).1
    have : i = 0 ∨ i = 1 ∨ i = 2 ∨ i = 3 ∨ i = 4 := by omega
    have hob2 : ob = (some i, []) := by
      rcases this with rfl | rfl | rfl | rfl | rfl <;> exact (Option.some.inj hob).symm
    subst hob2
    refine ⟨Nat.zero_le _, ?_⟩
    refine ⟨by have := n_5 P; omega, (nf_0 ha hi).symm, fun j t v _ hv => by cases hv⟩
theorem ini_good {P : Pgm} {S : Tks} (hP : PgF P S) (hm : P.hm = true) (hms : csM P.2 ≤ 1000) {inp : List Int32} {H : Nat} (hH : H ≤ 10000) : GdM P S (P.ini inp H) := by
  obtain ⟨ha, hB, p5, p3, hrest⟩ := id hP
  obtain ⟨m1, m2, m3, b, m4, m5, m6, m7, m8⟩ := hm_get ha hm
  have hnf := nf_ms ha m2
  have hlen : ((P.fts P.mnC).map dfl).length = P.nf P.mnC := by rw [List.length_map, Pgm.fts_len ha _ _ rfl m2]
  have ho : HO P (flt0 ++ [(some P.mnC, (P.fts P.mnC).map dfl)]) := by
    refine (flt_HO ha).app (by show ((P.fts P.mnC).map dfl).length ≤ 11000; omega) ⟨m2, hlen, fun j t u ht hu => ?_⟩
    have hu : ((P.fts P.mnC).map dfl)[j]? = some u := hu
    rw [List.getElem?_map, ht] at hu
    obtain rfl := Option.some.inj hu
    obtain ⟨m', hm', rfl⟩ := Pgm.ftF_mem P P.n P.mnC t (List.mem_of_getElem? ht)
    exact VT.dfl (fld_V p3 hB hm')
  have hob : (flt0 ++ [(some P.mnC, (P.fts P.mnC).map dfl)])[5]? = some (some P.mnC, (P.fts P.mnC).map dfl) := app_get flt0 _
  have hf := newF_good hP (hp := flt0 ++ [(some P.mnC, (P.fts P.mnC).map dfl)]) (m := P.mnM) (o := 5) (as := []) m4 m5 hob m8 (by rw [m7]; rfl) (fun i v hv => by cases hv)
  refine ⟨ho, ⟨hf, ?_⟩, List.cons_ne_nil _ _, by show 1 ≤ 100; omega, ?_⟩
  · show [mk3 (P.mty (P.newF P.mnM 5 []).1.2.1)] = [mk3 0]
    have e : (P.newF P.mnM 5 []).1.2.1 = P.mnM := by unfold Pgm.newF; rw [m4]
    rw [e, mty_get m4, m6]
  · show P.rmH H ≤ 10900
    unfold Pgm.rmH
    split <;> omega
/-- what the input is -/
def InC (inp : List Int32) (h : pH) : Prop := ∃ q, rd h 126 1 = Int32.ofNat q ∧ q < 300 ∧ rd h 126 2 = Int32.ofNat inp.length ∧ inp.length ≤ 300 ∧ ∀ (j : Nat) (x : Int32), inp[j]? = some x → rd h 127 ((q + j) % 300) = x
theorem begin_cls {P : Pgm} {S : Tks} {C : Cx} {D : List Int32 → Prop} {num : List Int32 → Nat} {N H : Nat} {g h : pH} {inp : List Int32} (hN : 400000 ≤ N) (hst : Stc P S C D num g) (hm : P.hm = true) (hms : csM P.2 ≤ 1000) (hH : H ≤ 10000) (st : StC g h) (ft : FtC h) (hin : InC inp h) : ∃ h' nc ns n τ pc', fX5_begin N 128 (Int32.ofNat H) h = some (h', nc, ns) ∧ P.Sls n (P.ini inp H) τ ∧ CRs P C (msK P.ms) g h' τ pc' ∧ GdM P S τ ∧ OutG h h' ∧ Pot h h' nc ns := by
  have hP := hst.1
  obtain ⟨ha, hB, p5, p3, hrest⟩ := id hP
  obtain ⟨m1, m2, m3, b, m4, m5, m6, m7, m8⟩ := hm_get ha hm
  have hnf := nf_ms ha m2
  have sg := st.1
  have hgood := ini_good hP hm hms (inp := inp) hH
  have hfl := Pgm.fts_len ha _ _ rfl m2
  have fg : ∀ a k, ¬ (a = 128 ∧ 6 ≤ k) → rd (fgH h) a k = rd h a k := fun a k n => by
    unfold fgH
    rw [rd_wr_ne _ _ (by omega), rd_wr_ne _ _ (by omega), rd_wr_ne _ _ (by omega), rd_wr_ne _ _ (by omega), rd_wr_ne _ _ (by omega), rd_wr_ne _ _ (by omega), rd_wr_ne _ _ (by omega), rd_wr_ne _ _ (by omega), rd_wr_ne _ _ (by omega)]
  have fj : ∀ a k, rdJ (fgH h) a k = rdJ h a k := fun a k => by
    unfold fgH
    rw [rdJ_wr, rdJ_wr, rdJ_wr, rdJ_wr, rdJ_wr, rdJ_wr, rdJ_wr, rdJ_wr, rdJ_wr]
  have fsh : ∀ a, sh (fgH h) a = sh h a := fun a => by
    unfold fgH
    rw [sh_wr, sh_wr, sh_wr, sh_wr, sh_wr, sh_wr, sh_wr, sh_wr, sh_wr]
  have s1 : Sg (fgH h) := sg.of fsh
  have f11 : rd (fgH h) 128 11 = 0 ∧ rd (fgH h) 128 6 = 0 ∧ rd (fgH h) 128 14 = 0 ∧ rd (fgH h) 128 15 = 0 ∧ rd (fgH h) 128 17 = 0 ∧ rd (fgH h) 128 19 = 0 := by
    have q1 := sg.wr 128 13 (-1)
    have q2 := q1.wr 128 14 0
    have q3 := q2.wr 128 15 0
    have q4 := q3.wr 128 16 0
    have q5 := q4.wr 128 17 0
    have q6 := q5.wr 128 19 0
    have q7 := q6.wr 128 11 0
    unfold fgH
    refine ⟨?_, ?_, ?_, ?_, ?_, ?_⟩
    · rw [rd_wr_ne _ _ (by omega), rd_wr_ne _ _ (by omega), w_128_11 q6]
    · rw [rd_wr_ne _ _ (by omega), w_128_6 q7]
    · rw [rd_wr_ne _ _ (by omega), rd_wr_ne _ _ (by omega), rd_wr_ne _ _ (by omega), rd_wr_ne _ _ (by omega), rd_wr_ne _ _ (by omega), rd_wr_ne _ _ (by omega), rd_wr_ne _ _ (by omega), w_128_14 q1]
    · rw [rd_wr_ne _ _ (by omega), rd_wr_ne _ _ (by omega), rd_wr_ne _ _ (by omega), rd_wr_ne _ _ (by omega), rd_wr_ne _ _ (by omega), rd_wr_ne _ _ (by omega), w_128_15 q2]
    · rw [rd_wr_ne _ _ (by omega), rd_wr_ne _ _ (by omega), rd_wr_ne _ _ (by omega), rd_wr_ne _ _ (by omega), w_128_17 q4]
    · rw [rd_wr_ne _ _ (by omega), rd_wr_ne _ _ (by omega), rd_wr_ne _ _ (by omega), w_128_19 q5]
  have st1 : StC g (fgH h) := ⟨s1, fun a k x1 x2 => (fg a k (by omega)).trans (st.2 a k x1 x2)⟩
  obtain ⟨k5, n5⟩ := hst.ct.2.2.2.1 5 (by decide)
  obtain ⟨k6, n6⟩ := hst.ct.2.2.2.1 6 (by decide)
  have efd := (hst.ct.st st1).find (N := N) (by omega) k5
  rw [n5, m1] at efd
  have efd : fX1_find N 17 26 (fgH h) = some (Int32.ofNat P.mnC, fgH h) := efd
  have ehad := CT.had (N := N) (kk := true) (hst.ct.st st1) (hst.cp.st st1) (by omega) k6 m2
  rw [n6, m3] at ehad
  have ehad : fX6_had N 25 (Int32.ofNat P.mnC) 1 27 (fgH h) = some (Int32.ofNat P.mnM, fgH h) := ehad
  have s2 := s1.wr 128 13 0
  have s3 := s2.wr 128 16 (Int32.ofNat (2 + P.nf P.mnC))
  have s4 := s3.wr 129 2 6
  have s5 := s4.wr 129 3 (Int32.ofNat (P.rmH H))
  have hrm : P.rmH H ≤ 10000 ∧ 2 + P.nf P.mnC ≤ P.rmH H := by
    unfold Pgm.rmH
    split <;> omega
  generalize hh5 : wr (wr (wr (wr (fgH h) 128 13 0) 128 16 (Int32.ofNat (2 + P.nf P.mnC))) 129 2 6) 129 3 (Int32.ofNat (P.rmH H)) = h5 at s5
  have r5 : ∀ a k, ¬ (a = 128 ∧ 6 ≤ k) → a ≠ 129 → rd h5 a k = rd h a k := fun a k n1 n2 => by
    rw [← hh5, rd_wr_ne _ _ (by omega), rd_wr_ne _ _ (by omega), rd_wr_ne _ _ (by omega), rd_wr_ne _ _ (by omega), fg a k n1]
  have j5 : ∀ a k, rdJ h5 a k = rdJ h a k := fun a k => by rw [← hh5, rdJ_wr, rdJ_wr, rdJ_wr, rdJ_wr, fj]
  have sh5 : ∀ a, sh h5 a = sh h a := fun a => by rw [← hh5, sh_wr, sh_wr, sh_wr, sh_wr, fsh]
  have v5 : ∀ k, k ≠ 13 → k ≠ 16 → rd h5 128 k = rd (fgH h) 128 k := fun k n1 n2 => by
    rw [← hh5, rd_wr_ne _ _ (by omega), rd_wr_ne _ _ (by omega), rd_wr_ne _ _ (by omega), rd_wr_ne _ _ (by omega)]
  have v13 : rd h5 128 13 = 0 := by rw [← hh5, rd_wr_ne _ _ (by omega), rd_wr_ne _ _ (by omega), rd_wr_ne _ _ (by omega), w_128_13 s1]
  have v16 : rd h5 128 16 = Int32.ofNat (2 + P.nf P.mnC) := by rw [← hh5, rd_wr_ne _ _ (by omega), rd_wr_ne _ _ (by omega), w_128_16 s2]
  have hb5 : Bse g (flt0, inp, [], (0, 2 + P.nf P.mnC, 0), P.rmH H) (fun i => i + 1) [] h5 := by
    obtain ⟨q, i1, i2, i3, i4, i5⟩ := hin
    refine ⟨⟨s5, fun a k x1 x2 => (r5 a k (by omega) (by omega)).trans (st.2 a k x1 x2)⟩, fun i hi => by rw [j5, j5]; exact ft i hi, ⟨(v5 15 (by omega) (by omega)).trans f11.2.2.2.1, v16, (v5 17 (by omega) (by omega)).trans f11.2.2.2.2.1, (v5 19 (by omega) (by omega)).trans f11.2.2.2.2.2, fun j x _ hj => (by cases hj), q, (r5 _ _ (by omega) (by omega)).trans i1, i2, (r5 _ _ (by omega) (by omega)).trans i3, i4, fun j x hj => (r5 _ _ (by omega) (by omega)).trans (i5 j x hj)⟩, fun _ _ => rfl, trivial, ?_, Nat.zero_le _, hrm.1, ?_, fun i hi => (by cases hi)⟩
    · rw [← hh5, rd_wr_ne _ _ (by omega), w_129_2 s3]; rfl
    · rw [← hh5, w_129_3 s4]
  have hlen : ((P.fts P.mnC).map dfl).length = P.nf P.mnC := by rw [List.length_map, hfl]
  obtain ⟨h6, f1, f2, f3, f4, f5⟩ := mk_obj (N := N) (P := P) (G := (flt0, inp, [], (0, 2 + P.nf P.mnC, 0), P.rmH H)) (ob := (some P.mnC, (P.fts P.mnC).map dfl)) (cw := Int32.ofNat P.mnC) (by omega) (flt_HO ha) hb5 rfl (by show 0 + (2 + ((P.fts P.mnC).map dfl).length) ≤ P.rmH H; omega) (fun v hv => by
    obtain ⟨t, _, rfl⟩ := List.mem_map.mp hv
    exact dfl_v t)
  have f1 : fX3_makeObject N 129 (Int32.ofNat P.mnC) (Int32.ofNat ((P.fts P.mnC).map dfl).length) h5 = some (wO 6, h6) := f1
  rw [hlen] at f1
  have hb6 : Bse g (P.iniG inp H) (fun j => if j = 5 then 6 else j + 1) [5] h6 := f2
  have s6 := hb6.1.1
  have e6 : rd h6 128 6 = Int32.ofNat 0 := (f4 _ _ (by omega)).trans ((v5 6 (by omega) (by omega)).trans f11.2.1)
  have hpN6 : pileN h6 = pileN h := (pileN_of f3).trans (pileN_of sh5)
  have hp20 := sg.pile.2.2.2.1
  obtain ⟨h7, g1, g2, g3, g4⟩ := e5_push s6 e6 (by omega) N (wO 6)
  have c7 : Cg (fun k => k = 6) (fun _ => False) (fun k => k = 0) h6 h7 := g2.cg rfl
  have hb7 := c7.bse (fun k z => Or.inl z) hb6
  have r7 : ∀ k, k ≠ 6 → k ≠ 13 → k ≠ 16 → rd h7 128 k = rd (fgH h) 128 k := fun k n1 n2 n3 => (g2.2.2.1 _ _ (by omega)).trans ((f4 _ _ (by omega)).trans (v5 k n2 n3))
  obtain ⟨h8, nc, ns, o1, ⟨t', o2⟩, o3, o4⟩ := opn_cls (N := N) (m := P.mnM) (o := 5) (v := 0) (t := 1) (as := []) (fs := []) hst m4 m5 hb7 ((g2.2.2.1 _ _ (by omega)).trans ((f4 _ _ (by omega)).trans v13)) ((r7 14 (by omega) (by omega) (by omega)).trans f11.2.2.1) g3 ((r7 11 (by omega) (by omega) (by omega)).trans f11.1) (by show 0 < 100; omega) (by omega) (by rw [pileN_of g2.1]; omega) rfl m7 (by omega) (fun j x hj => by cases hj) (by
    rw [pileR_of g2.1, show 1 - 0 - 1 = 0 from rfl, g4]
    exact ⟨rfl, okV_ob (Or.inl (List.mem_singleton.mpr rfl))⟩) rfl
  have hrun : CRs P C (msK P.ms) g h8 (P.ini inp H) (P.kf P.mnM) := ⟨t', o2⟩
  obtain ⟨n, τ, h9, pc', t1, t2, t3, t4, t5⟩ := settle_cls (N := N) hN hst.cde hgood hrun
  have hout : OutG h h9 := fun a k hak => (t5.1 a k hak).trans ((o3 a k hak).trans ((g2.2.2.1 a k (by omega)).trans ((f4 a k (by omega)).trans (r5 a k (by omega) (by omega)))))
  refine ⟨h9, nc, ns, n, τ, pc', ?_, t1, t3, t4, hout, ⟨o4.1, ?_⟩⟩
  · have ehr : (if Int32.ofNat H < Int32.ofNat (2 + P.nf P.mnC) then Int32.ofNat (2 + P.nf P.mnC) else Int32.ofNat H) = Int32.ofNat (P.rmH H) := by
      unfold Pgm.rmH
      by_cases z : H < 2 + P.nf P.mnC
      · rw [if_pos (by rw [iLt (by omega) (by omega)]; exact z), if_pos z]
      · rw [if_neg (by rw [iLt (by omega) (by omega)]; exact z), if_neg z]
    have e24 : rd (wr (fgH h) 128 13 0) 24 P.mnC = Int32.ofNat (P.nf P.mnC) := by
      rw [rd_wr_ne _ _ (by omega), st1.2 24 _ (by omega) (by omega)]
      exact (hst.2.1.1.2.2.2 P.mnC m2).1
    have e24' : rd h5 24 P.mnC = Int32.ofNat (P.nf P.mnC) := by
      rw [hb5.1.2 24 _ (by omega) (by omega)]
      exact (hst.2.1.1.2.2.2 P.mnC m2).1
    have hmn : P.mnC < 400 := by have := hst.ct.2.2.2.2.2.1; omega
    have h2n : (2 : Int32) + Int32.ofNat (P.nf P.mnC) = Int32.ofNat (2 + P.nf P.mnC) := by rw [Int32.ofNat_add]; rfl
    unfold fX5_begin
    rw [if_pos (o_128 sg), e5_forget sg, Option.bind_some, R_128_0 s1, Option.bind_some, efd, Option.bind_some]
    dsimp only
    rw [R_128_1 s1, Option.bind_some, ehad, Option.bind_some]
    dsimp only
    rw [if_neg (i_nneg (by omega)), if_pos (i_nn0 (by have := (List.getElem?_eq_some_iff.mp m4).1; have := hrest.2.1; omega)), p_128_13 s1, Option.bind_some, R_128_0 s2, Option.bind_some, R_17_6 s2, Option.bind_some, L_24 s2 hmn, Option.bind_some, e24, h2n, p_128_16 s2, Option.bind_some, R_128_4 s3, Option.bind_some, g_128_16 s3, Option.bind_some, w_128_16 s2, ehr]
    have ecl : fX3_clear N 129 (Int32.ofNat (P.rmH H)) (wr (wr (fgH h) 128 13 0) 128 16 (Int32.ofNat (2 + P.nf P.mnC))) = some h5 := by
      unfold fX3_clear
      rw [if_pos (o_129 s3), p_129_2 s3, Option.bind_some, show (10000 : Int32) = Int32.ofNat 10000 from rfl, if_neg (by rw [iLt (by omega) (by omega)]; omega), p_129_3 s4, Option.bind_some, hh5]
    rw [ecl, Option.bind_some, R_128_4 s5, Option.bind_some, R_128_0 s5, Option.bind_some, R_17_6 s5, Option.bind_some, L_24 s5 hmn, Option.bind_some, e24', f1, Option.bind_some]
    dsimp only
    rw [g1, Option.bind_some, show (0 : Int32) = Int32.ofNat 0 from rfl, o1, Option.bind_some]
    dsimp only
    rw [t2, Option.bind_some, Nat.zero_add, Nat.zero_add]
  · have e1 : pileN h7 = pileN h := (pileN_of g2.1).trans hpN6
    have := o4.2
    rw [t5.2, ← e1]
    exact this
