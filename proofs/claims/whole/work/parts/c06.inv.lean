/-! ===== WHAT HOLDS BETWEEN THE CALLS ===== -/
/-- nothing runs -/
def Nor (h : pH) : Prop := rd h 128 13 = -1 ∧ rd h 128 14 = 0 ∧ rd h 128 15 = 0 ∧ rd h 128 16 = 0 ∧ rd h 128 17 = 0 ∧ rd h 128 19 = 0 ∧ rd h 138 69 = 0
abbrev Wd8 : Type := Pgm × Tks × Cx × (List Int32 → Prop) × (List Int32 → Nat) × (List Int32 → Prop) × (List Int32 → Nat) × pH × pH
/-- a program is there -/
def PrI (W : Wd8) (h : pH) : Prop := Stc W.1 W.2.1 W.2.2.1 W.2.2.2.1 W.2.2.2.2.1 W.2.2.2.2.2.2.2.1 ∧ Stw W.1 W.2.1 W.2.2.2.2.2.1 W.2.2.2.2.2.2.1 W.2.2.2.2.2.2.2.2 ∧ W.1.hm = true ∧ csM W.1.2 ≤ 1000 ∧ rd W.2.2.2.2.2.2.2.2 138 56 = 1 ∧ rd W.2.2.2.2.2.2.2.2 138 59 = Int32.ofNat W.1.mnC ∧ StC W.2.2.2.2.2.2.2.1 h ∧ StV W.2.2.2.2.2.2.2.2 h ∧ rd h 6 10 = 1
/-- it runs, or it has run -/
def RnI (W : Wd8) (h : pH) (σ : Mst) (n : Nat) : Prop := (∃ pc, CRs W.1 W.2.2.1 (msK W.1.ms) W.2.2.2.2.2.2.2.1 h σ pc) ∧ RRt W.1 W.2.1 W.2.2.2.2.2.2.1 W.2.2.2.2.2.2.2.2 h σ ∧ GdM W.1 W.2.1 σ ∧ W.1.Sls 0 σ σ ∧ Ea σ ∧ prN σ ≤ 20000 * n
def InvP (n : Nat) (inp : List Int32) (h : pH) : Prop := (rd h 6 10 = 0 ∧ rd h 138 56 = 0 ∧ Nor h) ∨ ∃ W, PrI W h ∧ (Nor h ∨ ∃ σ, σ.1.2.1 = inp ∧ RnI W h σ n)
def InvB (h : pH) : Prop := Sg h ∧ FtC h ∧ (∀ j, j < 36 → rd h 143 j = knB j) ∧ (∃ L, TpI L h) ∧ ∃ H, HsI H h
def Inv (n : Nat) (h : pH) : Prop := InvB h ∧ ∃ inp, InC inp h ∧ InR inp h ∧ InvP n inp h
theorem Nor.of {h h' : pH} (q : Nor h) (e1 : ∀ k, rd h' 128 k = rd h 128 k) (e2 : rd h' 138 69 = rd h 138 69) : Nor h' := by
  obtain ⟨q1, q2, q3, q4, q5, q6, q7⟩ := q
  exact ⟨(e1 _).trans q1, (e1 _).trans q2, (e1 _).trans q3, (e1 _).trans q4, (e1 _).trans q5, (e1 _).trans q6, e2.trans q7⟩
theorem PrI.of {W : Wd8} {h h' : pH} (q : PrI W h) (sg : Sg h') (e1 : ∀ a k, 17 ≤ a → a ≤ 125 → rd h' a k = rd h a k) (e2 : ∀ a k, (144 ≤ a ∧ a ≤ 182) ∨ (a = 138 ∧ 15 ≤ k ∧ k ≤ 68) → rd h' a k = rd h a k) (e3 : rd h' 6 10 = rd h 6 10) : PrI W h' := by
  obtain ⟨q1, q2, q3, q4, q5, q6, q7, q8, q9⟩ := q
  exact ⟨q1, q2, q3, q4, q5, q6, ⟨sg, fun a k h1 h2 => (e1 a k h1 h2).trans (q7.2 a k h1 h2)⟩, ⟨sg, fun a k h1 h2 => (e2 a k (by omega)).trans (q8.2.1 a k h1 h2), fun k h1 h2 => (e2 _ _ (by omega)).trans (q8.2.2 k h1 h2)⟩, e3.trans q9⟩
theorem st_eta {σ : Mst} {inp : List Int32} (h : σ.1.2.1 = inp) : ((σ.1.1, inp, σ.1.2.2), σ.2) = σ := by
  subst h
  rfl
def smA (a k : Nat) : Prop := a = 7 ∨ a = 139 ∨ (a = 6 ∧ (k = 8 ∨ k = 9)) ∨ (a = 138 ∧ (k = 1 ∨ k = 71 ∨ k = 80)) ∨ a = 126 ∨ a = 127 ∨ a = 184
theorem pileN_chg {A : Nat → Nat → Prop} {h h' : pH} (c : Chg A h h') : pileN h' = pileN h := pileN_of c.1
theorem Pot.z {h h' : pH} (e : pileN h' = pileN h) : Pot h h' 0 0 := ⟨Nat.le_refl _, by rw [e]; omega⟩
/-- a small call -/
theorem Inv.small {n : Nat} {h h' : pH} {inp : List Int32} (q : Inv n h) (c : Chg smA h h') (hin : InC inp h') (hin' : InR inp h') (ht : ∃ L, TpI L h') (hh : ∃ H, HsI H h') : Inv (n + 1) h' := by
  obtain ⟨⟨q1, q2, q3, -, -⟩, inp0, -, -, q6⟩ := q
  have sg := c.sg q1
  have e : ∀ a k, ¬ smA a k → rd h' a k = rd h a k := fun a k z => c.2.2.1 _ _ z
  refine ⟨⟨sg, fun i hi => by rw [c.2.2.2, c.2.2.2]; exact q2 i hi, fun j hj => (e _ _ (by unfold smA; omega)).trans (q3 j hj), ht, hh⟩, inp, hin, hin', ?_⟩
  rcases q6 with ⟨z1, z2, z3⟩ | ⟨W, w1, w2⟩
  · exact Or.inl ⟨(e _ _ (by unfold smA; omega)).trans z1, (e _ _ (by unfold smA; omega)).trans z2, z3.of (fun k => e _ _ (by unfold smA; omega)) (e _ _ (by unfold smA; omega))⟩
  · refine Or.inr ⟨W, w1.of sg (fun a k h1 h2 => e _ _ (by unfold smA; omega)) (fun a k h1 => e _ _ (by unfold smA; omega)) (e _ _ (by unfold smA; omega)), ?_⟩
    rcases w2 with z | ⟨σ, -, ⟨pc, r1⟩, r2, r3, r4, r5, r6⟩
    · exact Or.inl (z.of (fun k => e _ _ (by unfold smA; omega)) (e _ _ (by unfold smA; omega)))
    · refine Or.inr ⟨((σ.1.1, inp, σ.1.2.2), σ.2), rfl, ⟨pc, r1.inp q1 c.1 (fun a k h1 h2 h3 h4 => e _ _ (by unfold smA; omega)) c.2.2.2 hin⟩, r2.inp sg (fun a k h1 => e _ _ (by unfold smA; omega)) hin', GdM_any r3, Sls_any r4, ?_, ?_⟩
      · unfold Ea at r5 ⊢
        exact r5
      · show prN σ ≤ 20000 * (n + 1)
        omega
section C4
variable {N : Nat}
theorem inv_feed {n : Nat} {a b c d e : Int32} {h : pH} (hN : 30 ≤ N) (q : Inv n h) : ∃ r h1 h2, fX11_feed N 6 a b c d e h = some (r, h1) ∧ fX12_feed N 138 a b c d e h1 = some (r, h2) ∧ Inv (n + 1) h2 ∧ Pot h h2 0 0 := by
  obtain ⟨⟨q1, q2, q3, ⟨L, q4⟩, ⟨H, q5⟩⟩, inp, q6, q7, q8⟩ := id q
  obtain ⟨r, h1, h2, L', a1, a2, a3, a4⟩ := feed_both (N := N) (a := a) (b := b) (c := c) (d := d) (e := e) hN q1 q4
  have e : ∀ x k, ¬ (x = 7 ∨ x = 139 ∨ k = 8 ∨ k = 1) ∨ (x ≠ 6 ∧ x ≠ 138 ∧ x ≠ 7 ∧ x ≠ 139) → rd h2 x k = rd h x k := fun x k z => a4.2.2.1 _ _ (by unfold tpA; omega)
  refine ⟨r, h1, h2, a1, a2, q.small (inp := inp) (a4.mono (fun x k z => by unfold tpA at z; unfold smA; omega)) ?_ ?_ ⟨L', a3⟩ ⟨H, ?_⟩, Pot.z (pileN_chg a4)⟩
  · obtain ⟨z, x1, x2, x3, x4, x5⟩ := q6
    exact ⟨z, (e _ _ (by omega)).trans x1, x2, (e _ _ (by omega)).trans x3, x4, fun j y hj => (e _ _ (by omega)).trans (x5 j y hj)⟩
  · exact ⟨(e _ _ (by omega)).trans q7.1, q7.2.1, fun j y hj => (e _ _ (by omega)).trans (q7.2.2 j y hj)⟩
  · exact ⟨(e _ _ (by omega)).trans q5.1, (e _ _ (by omega)).trans q5.2.1, q5.2.2⟩
theorem inv_end {n : Nat} {v : Int32} {h : pH} (q : Inv n h) : ∃ r h1 h2, fX11_end N 6 v h = some (r, h1) ∧ fX12_end N 138 v h1 = some (r, h2) ∧ Inv (n + 1) h2 ∧ Pot h h2 0 0 := by
  obtain ⟨⟨q1, q2, q3, ⟨L, q4⟩, ⟨H, q5⟩⟩, inp, q6, q7, q8⟩ := id q
  obtain ⟨r, h1, h2, L', a1, a2, a3, a4⟩ := end_both (N := N) (v := v) q1 q4
  have e : ∀ x k, ¬ ((x = 6 ∧ k = 8) ∨ (x = 138 ∧ k = 1)) → rd h2 x k = rd h x k := fun x k z => a4.2.2.1 _ _ z
  refine ⟨r, h1, h2, a1, a2, q.small (inp := inp) (a4.mono (fun x k z => by unfold smA; omega)) ?_ ?_ ⟨L', a3⟩ ⟨H, ?_⟩, Pot.z (pileN_chg a4)⟩
  · obtain ⟨z, x1, x2, x3, x4, x5⟩ := q6
    exact ⟨z, (e _ _ (by omega)).trans x1, x2, (e _ _ (by omega)).trans x3, x4, fun j y hj => (e _ _ (by omega)).trans (x5 j y hj)⟩
  · exact ⟨(e _ _ (by omega)).trans q7.1, q7.2.1, fun j y hj => (e _ _ (by omega)).trans (q7.2.2 j y hj)⟩
  · exact ⟨(e _ _ (by omega)).trans q5.1, (e _ _ (by omega)).trans q5.2.1, q5.2.2⟩
theorem inv_heap {n : Nat} {v : Int32} {h : pH} (q : Inv n h) : ∃ r h1 h2, fX11_heap N 6 v h = some (r, h1) ∧ fX12_heap N 138 v h1 = some (r, h2) ∧ Inv (n + 1) h2 ∧ Pot h h2 0 0 := by
  obtain ⟨⟨q1, q2, q3, ⟨L, q4⟩, ⟨H, q5⟩⟩, inp, q6, q7, q8⟩ := id q
  obtain ⟨r, h1, h2, H', a1, a2, a3, a4⟩ := heap_both (N := N) (v := v) q1 q5
  have e : ∀ x k, ¬ ((x = 6 ∧ k = 9) ∨ (x = 138 ∧ k = 71)) → rd h2 x k = rd h x k := fun x k z => a4.2.2.1 _ _ z
  refine ⟨r, h1, h2, a1, a2, q.small (inp := inp) (a4.mono (fun x k z => by unfold smA; omega)) ?_ ?_ ⟨L, ?_⟩ ⟨H', a3⟩, Pot.z (pileN_chg a4)⟩
  · obtain ⟨z, x1, x2, x3, x4, x5⟩ := q6
    exact ⟨z, (e _ _ (by omega)).trans x1, x2, (e _ _ (by omega)).trans x3, x4, fun j y hj => (e _ _ (by omega)).trans (x5 j y hj)⟩
  · exact ⟨(e _ _ (by omega)).trans q7.1, q7.2.1, fun j y hj => (e _ _ (by omega)).trans (q7.2.2 j y hj)⟩
  · obtain ⟨t1, t2, t3, t4⟩ := q4
    exact ⟨(e _ _ (by omega)).trans t1, (e _ _ (by omega)).trans t2, t3, fun i hi => by rw [e _ _ (by omega), e _ _ (by omega)]; exact t4 i hi⟩
theorem inv_input {n : Nat} {a b c : Int32} {h : pH} (q : Inv n h) : ∃ r h1 h2, fX11_input N 6 a b c h = some (r, h1) ∧ fX12_input N 138 a b c h1 = some (r, h2) ∧ Inv (n + 1) h2 ∧ Pot h h2 0 0 := by
  obtain ⟨⟨q1, q2, q3, ⟨L, q4⟩, ⟨H, q5⟩⟩, inp, q6, q7, q8⟩ := id q
  obtain ⟨r, h1, h2, inp', a1, a2, a3, a4, a5, a6⟩ := input_both (N := N) (a := a) (b := b) (c := c) q1 q6 q7
  have e : ∀ x k, ¬ (x = 127 ∨ (x = 126 ∧ k = 2) ∨ x = 184 ∨ (x = 138 ∧ k = 80)) → rd h2 x k = rd h x k := fun x k z => a6.2.2.1 _ _ z
  refine ⟨r, h1, h2, a1, a2, q.small (inp := inp') (a6.mono (fun x k z => by unfold smA; omega)) a4 a5 ⟨L, ?_⟩ ⟨H, ?_⟩, Pot.z (pileN_chg a6)⟩
  · obtain ⟨t1, t2, t3, t4⟩ := q4
    exact ⟨(e _ _ (by omega)).trans t1, (e _ _ (by omega)).trans t2, t3, fun i hi => by rw [e _ _ (by omega), e _ _ (by omega)]; exact t4 i hi⟩
  · exact ⟨(e _ _ (by omega)).trans q5.1, (e _ _ (by omega)).trans q5.2.1, q5.2.2⟩
/-- program() -/
theorem inv_prog {n : Nat} {h : pH} (hN : 10000 ≤ N) (q : Inv n h) : ∃ r h1 h2, fX11_program N 6 h = some (r, h1) ∧ fX12_program N 138 h1 = some (r, h2) ∧ Inv (n + 1) h2 ∧ Pot h h2 0 0 := by
  obtain ⟨⟨q1, q2, q3, ⟨L, t1, t2, t3, t4⟩, ⟨H, q5⟩⟩, inp, q6, q7, q8⟩ := q
  have ht0 : TapeIs (fun i => rd h 7 i, L) h := ⟨t3, fun i _ => rfl, fun i hi => (t4 i hi).2⟩
  obtain ⟨h1, a1, -, -, a2, -⟩ := e11_prog (N := N) (T := (fun i => rd h 7 i, L)) hN q1 ht0 t1
  have s1 := a2.sg q1
  obtain ⟨T, b1, b2, h2, c1, c2, c3, c4, c5⟩ := e12_prog2 (N := N) (L := L) hN s1 (by rw [a2.2.2.1 _ _ (by unfold clsA; omega)]; exact t2) t3 (fun j hj => by rw [a2.2.2.1 _ _ (by unfold clsA; omega)]; exact q3 j hj)
  have b2 : ∀ i, i < L → T.1 i = rd h 139 i := fun i hi => by rw [b2 i hi, a2.2.2.1 _ _ (by unfold clsA; omega)]
  have hT : TapeIs T h := ⟨by omega, fun i hi => by rw [b2 i (by omega)]; exact (t4 i (by omega)).1, fun i hi => by
    obtain ⟨x1, b, x2, x3⟩ := t4 i (by omega)
    exact ⟨b, x2, by rw [b2 i (by omega), ← x1]; exact x3⟩⟩
  obtain ⟨h1', d1, d2, d3, d4, d5⟩ := e11_prog (N := N) (T := T) hN q1 hT (by rw [b1]; exact t1)
  have hh : h1 = h1' := by
    rw [a1] at d1
    exact (Prod.mk.inj (Option.some.inj d1)).2
  subst hh
  have s2 := c4.sg s1
  have cc : Chg (fun a k => clsA a k ∨ refB a k) h h2 := (d4.mono (fun a k z => Or.inl z)).trans (c4.mono (fun a k z => Or.inr z))
  have e : ∀ a k, ¬ (clsA a k ∨ refB a k) → rd h2 a k = rd h a k := fun a k z => cc.2.2.1 _ _ z
  have e2 : ∀ a k, ¬ refB a k → rd h2 a k = rd h1 a k := fun a k z => c4.2.2.1 _ _ z
  have fg : rd (fgH h) 128 13 = -1 ∧ rd (fgH h) 128 14 = 0 ∧ rd (fgH h) 128 15 = 0 ∧ rd (fgH h) 128 16 = 0 ∧ rd (fgH h) 128 17 = 0 ∧ rd (fgH h) 128 19 = 0 := by
    have z1 := q1.wr 128 13 (-1)
    have z2 := z1.wr 128 14 0
    have z3 := z2.wr 128 15 0
    have z4 := z3.wr 128 16 0
    have z5 := z4.wr 128 17 0
    unfold fgH
    refine ⟨?_, ?_, ?_, ?_, ?_, ?_⟩
    · rw [rd_wr_ne _ _ (by omega), rd_wr_ne _ _ (by omega), rd_wr_ne _ _ (by omega), rd_wr_ne _ _ (by omega), rd_wr_ne _ _ (by omega), rd_wr_ne _ _ (by omega), rd_wr_ne _ _ (by omega), rd_wr_ne _ _ (by omega), w_128_13 q1]
    · rw [rd_wr_ne _ _ (by omega), rd_wr_ne _ _ (by omega), rd_wr_ne _ _ (by omega), rd_wr_ne _ _ (by omega), rd_wr_ne _ _ (by omega), rd_wr_ne _ _ (by omega), rd_wr_ne _ _ (by omega), w_128_14 z1]
    · rw [rd_wr_ne _ _ (by omega), rd_wr_ne _ _ (by omega), rd_wr_ne _ _ (by omega), rd_wr_ne _ _ (by omega), rd_wr_ne _ _ (by omega), rd_wr_ne _ _ (by omega), w_128_15 z2]
    · rw [rd_wr_ne _ _ (by omega), rd_wr_ne _ _ (by omega), rd_wr_ne _ _ (by omega), rd_wr_ne _ _ (by omega), rd_wr_ne _ _ (by omega), w_128_16 z3]
    · rw [rd_wr_ne _ _ (by omega), rd_wr_ne _ _ (by omega), rd_wr_ne _ _ (by omega), rd_wr_ne _ _ (by omega), w_128_17 z4]
    · rw [rd_wr_ne _ _ (by omega), rd_wr_ne _ _ (by omega), rd_wr_ne _ _ (by omega), w_128_19 z5]
  have k128 : ∀ k, rd h2 128 k = rd (fgH h) 128 k := fun k => (e2 _ _ (by unfold refB; omega)).trans (d3 k)
  have nor : Nor h2 := ⟨(k128 _).trans fg.1, (k128 _).trans fg.2.1, (k128 _).trans fg.2.2.1, (k128 _).trans fg.2.2.2.1, (k128 _).trans fg.2.2.2.2.1, (k128 _).trans fg.2.2.2.2.2, c3⟩
  refine ⟨(prO T).1, h1, h2, d1, c1, ⟨⟨s2, fun i hi => by rw [cc.2.2.2, cc.2.2.2]; exact q2 i hi, fun j hj => (e _ _ (by unfold clsA refB; omega)).trans (q3 j hj), ⟨0, (e2 _ _ (by unfold refB; omega)).trans d2, c2, by omega, fun i hi => absurd hi (by omega)⟩, H, (e _ _ (by unfold clsA refB; omega)).trans q5.1, (e _ _ (by unfold clsA refB; omega)).trans q5.2.1, q5.2.2⟩, inp, ?_, ⟨(e _ _ (by unfold clsA refB; omega)).trans q7.1, q7.2.1, fun j y hj => (e _ _ (by unfold clsA refB; omega)).trans (q7.2.2 j y hj)⟩, ?_⟩, Pot.z (pileN_chg cc)⟩
  · obtain ⟨z, x1, x2, x3, x4, x5⟩ := q6
    exact ⟨z, (e _ _ (by unfold clsA refB; omega)).trans x1, x2, (e _ _ (by unfold clsA refB; omega)).trans x3, x4, fun j y hj => (e _ _ (by unfold clsA refB; omega)).trans (x5 j y hj)⟩
  · cases hq : (prO T).2 with
    | none =>
      rw [hq] at c5 d5
      exact Or.inl ⟨(e2 _ _ (by unfold refB; omega)).trans d5, c5, nor⟩
    | some cs =>
      rw [hq] at c5 d5
      obtain ⟨x1, r, nn, x2⟩ := d5
      obtain ⟨y1, y2, y3, D', num', y4, y5, y6, y7⟩ := c5
      have rt : RT (tkW T, cs) D' num' h2 := y4.1.1
      have hn := rt.2.2.2.2.2.1
      have hm := rt.2.2.2.2.2.2.2.2.2.2.1
      obtain ⟨pf, hmm⟩ := PgF_of (by omega) hq y2 hn hm
      obtain ⟨t', hq2, -, -⟩ := prO_some hq
      have hk := msK_3000 (N := N) hN q1 hT (by rw [b1]; exact t1) hq2
      have hmg := hm_get y2 hmm
      have hml := Pgm.ms_len (tkW T, cs)
      refine Or.inr ⟨((tkW T, cs), tkS T, cxT T r nn, (fun w => w ∈ fxW ++ r), nmb r, D', num', h1, h2), ⟨⟨pf, x2, fun w => rfl, hk⟩, ⟨⟨pf, rt, y4.1.2.1⟩, y4, y5, y6, y7⟩, hmm, ?_, y1, ?_, ⟨s2, fun a k h1 h2 => e2 _ _ (by unfold refB; omega)⟩, ⟨s2, fun a k _ _ => rfl, fun k _ _ => rfl⟩, (e2 _ _ (by unfold refB; omega)).trans x1⟩, Or.inl nor⟩
      · show csM (tkW T, cs).2 ≤ 1000
        omega
      · show rd h2 138 59 = Int32.ofNat (Pgm.mnC (tkW T, cs))
        rw [y3, hmg.1]
        rfl
end C4
