/-! ===== start(), step() ===== -/
section C5
variable {N : Nat}
theorem CRs.in {P : Pgm} {C : Cx} {U : Nat} {g h : pH} {σ : Mst} {pc : Nat} (q : CRs P C U g h σ pc) : InC σ.1.2.1 h ∧ FtC h ∧ StC g h := by
  have z := q.sg
  exact ⟨z.2.2.2.2.2.2.2.2, z.2.2.1, z.1⟩
theorem RRt.in {P : Pgm} {S : Tks} {num : List Int32 → Nat} {g h : pH} {σ : Mst} (q : RRt P S num g h σ) : InR σ.1.2.1 h := by
  have z := q.sg
  exact ⟨z.2.2.2.2.2.2.2.2.1, z.2.2.2.2.2.2.2.2.2.1, z.2.2.2.2.2.2.2.2.2.2⟩
/-- both sides have gone on -/
theorem Inv.go {n : Nat} {h h1 h2 : pH} {W : Wd8} {σ : Mst} {pc : Nat} (b : InvB h) (w : PrI W h) (ho : OutG h h1) (r1 : CRs W.1 W.2.2.1 (msK W.1.ms) W.2.2.2.2.2.2.2.1 h1 σ pc) (c : Chg srA h1 h2) (r2 : RRt W.1 W.2.1 W.2.2.2.2.2.2.1 W.2.2.2.2.2.2.2.2 h2 σ) (r3 : GdM W.1 W.2.1 σ) (r4 : W.1.Sls 0 σ σ) (r5 : Ea σ) (r6 : prN σ ≤ 20000 * n) : Inv n h2 := by
  obtain ⟨q1, q2, q3, ⟨L, t1, t2, t3, t4⟩, ⟨H, s1, s2, s3⟩⟩ := b
  obtain ⟨i1, i2, i3⟩ := r1.in
  have sg1 := i3.1
  have sg2 := r2.sg.1.1
  have e : ∀ a k, (a < 126 ∨ (138 ≤ a ∧ a < 205)) ∧ ¬ srA a k → rd h2 a k = rd h a k := fun a k z => (c.2.2.1 _ _ z.2).trans (ho a k z.1)
  have hin : InC σ.1.2.1 h2 := by
    obtain ⟨z, x1, x2, x3, x4, x5⟩ := i1
    exact ⟨z, (c.2.2.1 _ _ (by unfold srA; omega)).trans x1, x2, (c.2.2.1 _ _ (by unfold srA; omega)).trans x3, x4, fun j y hj => (c.2.2.1 _ _ (by unfold srA; omega)).trans (x5 j y hj)⟩
  have r1' := r1.inp (h' := h2) sg1 c.1 (fun a k h1 h2 h3 h4 => c.2.2.1 _ _ (by unfold srA; omega)) c.2.2.2 hin
  rw [st_eta rfl] at r1'
  refine ⟨⟨sg2, r1'.in.2.1, fun j hj => (e _ _ ⟨by omega, by unfold srA; omega⟩).trans (q3 j hj), ⟨L, (e _ _ ⟨by omega, by unfold srA; omega⟩).trans t1, (e _ _ ⟨by omega, by unfold srA; omega⟩).trans t2, t3, fun i hi => by rw [e _ _ ⟨by omega, by unfold srA; omega⟩, e _ _ ⟨by omega, by unfold srA; omega⟩]; exact t4 i hi⟩, H, (e _ _ ⟨by omega, by unfold srA; omega⟩).trans s1, (e _ _ ⟨by omega, by unfold srA; omega⟩).trans s2, s3⟩, σ.1.2.1, hin, r2.in, Or.inr ⟨W, w.of sg2 (fun a k h1 h2 => e _ _ ⟨by omega, by unfold srA; omega⟩) (fun a k h1 => e _ _ ⟨by omega, by unfold srA; omega⟩) (e _ _ ⟨by omega, by unfold srA; omega⟩), Or.inr ⟨σ, rfl, ⟨pc, r1'⟩, r2, r3, r4, r5, r6⟩⟩⟩
theorem Inv.up {n : Nat} {h : pH} (q : Inv n h) : Inv (n + 1) h := by
  obtain ⟨q1, inp, q2, q3, q4⟩ := q
  refine ⟨q1, inp, q2, q3, ?_⟩
  rcases q4 with z | ⟨W, w1, w2⟩
  · exact Or.inl z
  · refine Or.inr ⟨W, w1, ?_⟩
    rcases w2 with z | ⟨σ, z, r1, r2, r3, r4, r5, r6⟩
    · exact Or.inl z
    · exact Or.inr ⟨σ, z, r1, r2, r3, r4, r5, by omega⟩
theorem inv_start {n : Nat} {h : pH} (hN : 100000000000 ≤ N) (q : Inv n h) : ∃ r h1 h2 nc ns, fX11_start N 6 h = some (r, h1, nc, ns) ∧ fX12_start N 138 h1 = some (r, h2) ∧ Inv (n + 1) h2 ∧ Pot h h2 nc ns := by
  obtain ⟨qb, inp, q6, q7, q8⟩ := id q
  obtain ⟨q1, q2, q3, q4, ⟨H, s1, s2, s3⟩⟩ := id qb
  rcases q8 with ⟨z1, z2, z3⟩ | ⟨W, w1, w2⟩
  · refine ⟨0, h, h, 0, 0, ?_, ?_, q.up, Pot.z rfl⟩
    · unfold fX11_start
      rw [if_pos (o_6 q1), g_6_10 q1, Option.bind_some, z1, if_pos rfl]
    · unfold fX12_start
      rw [if_pos (o_138 q1), g_138_56 q1, Option.bind_some, z2, if_pos rfl]
  · obtain ⟨p1, p2, p3, p4, p5, p6, p7, p8, p9⟩ := id w1
    obtain ⟨h1, nc, ns, m, τ, pc, a1, a2, a3, a4, a5, a6⟩ := begin_cls (N := N) (inp := inp) (by omega) p1 p3 p4 s3 p7 q2 q6
    have sg1 := a3.in.2.2.1
    have st1 : StV W.2.2.2.2.2.2.2.2 h1 := ⟨sg1, fun a k x1 x2 => (a5 a k (by omega)).trans (p8.2.1 a k x1 x2), fun k x1 x2 => (a5 _ _ (by omega)).trans (p8.2.2 k x1 x2)⟩
    have in1 : InR inp h1 := ⟨(a5 _ _ (by omega)).trans q7.1, q7.2.1, fun j y hj => (a5 _ _ (by omega)).trans (q7.2.2 j y hj)⟩
    obtain ⟨h2, m', τ', b1, b2, b3, b4, b5⟩ := start_ref (N := N) (inp := inp) (H := H) hN p2 p3 p4 s3 st1 p5 p6 ((a5 _ _ (by omega)).trans s2) in1
    obtain rfl := Sls_det a2 b2
    refine ⟨1, h1, h2, nc, ns, ?_, b1, Inv.go qb w1 a5 a3 b5 b3 a4 (Sls_stl a2) (Sls_ea a2 trivial) ?_, ⟨a6.1, by rw [pileN_chg b5]; exact a6.2⟩⟩
    · unfold fX11_start
      rw [if_pos (o_6 q1), g_6_10 q1, Option.bind_some, p9, if_neg (by decide), R_6_7 q1, Option.bind_some, g_6_9 q1, Option.bind_some, s1, a1, Option.bind_some, Nat.zero_add, Nat.zero_add]
    · have : prN τ = 0 := by
        unfold prN
        rw [Sls_G a2]
        rfl
      omega
theorem inv_step {n : Nat} {v : Int32} {h : pH} (hN : 100000000000 ≤ N) (hn : n ≤ 1000) (q : Inv n h) : ∃ r h1 h2 nc ns, fX11_step N 6 v h = some (r, h1, nc, ns) ∧ fX12_step N 138 v h1 = some (r, h2) ∧ Inv (n + 1) h2 ∧ Pot h h2 nc ns := by
  obtain ⟨qb, inp, q6, q7, q8⟩ := id q
  obtain ⟨q1, q2, q3, q4, q5⟩ := id qb
  have hin : ∀ h1 : pH, fX12_isIn N v.toInt64 0 20000 h1 = some (if v < 0 ∨ 20000 < v then 0 else 1, h1) := fun h1 => isIn_eq N v 0 20000 h1
  have hno : v < 0 ∨ ¬ v ≤ 20000 → ∃ r h1 h2 nc ns, fX11_step N 6 v h = some (r, h1, nc, ns) ∧ fX12_step N 138 v h1 = some (r, h2) ∧ Inv (n + 1) h2 ∧ Pot h h2 nc ns := fun hv => by
    refine ⟨-1, h, h, 0, 0, ?_, ?_, q.up, Pot.z rfl⟩
    · unfold fX11_step
      rw [if_pos (o_6 q1)]
      by_cases z : v < 0
      · rw [if_pos z]
      · rw [if_neg z, if_neg (hv.resolve_left z)]
    · unfold fX12_step
      rw [if_pos (o_138 q1), g_138_69 q1, Option.bind_some]
      by_cases z : rd h 138 69 = 0
      · rw [if_pos z]
      · rw [if_neg z, hin, Option.bind_some, if_pos (hv.imp id (fun y => Int32.not_le.mp y)), if_pos rfl]
  by_cases h0 : v < 0
  · exact hno (Or.inl h0)
  by_cases hv : v ≤ 20000
  · obtain ⟨d1, d2⟩ := i_ncl h0
    have hm := (i_le_cl (v := v) (L := 20000) (by omega) h0).mp hv
    have nor : Nor h → ∃ r h1 h2 nc ns, fX11_step N 6 v h = some (r, h1, nc, ns) ∧ fX12_step N 138 v h1 = some (r, h2) ∧ Inv (n + 1) h2 ∧ Pot h h2 nc ns := fun z => by
      refine ⟨-1, h, h, 0, 0, ?_, ?_, q.up, Pot.z rfl⟩
      · have er : fX5_run N 128 v h = some (-1, h, 0, 0) := by
          unfold fX5_run
          obtain ⟨d, hd⟩ : ∃ d, N = d + 1 := ⟨N - 1, by omega⟩
          have e0 : fX5_run_2 N N 128 v 0 0 0 h = fX5_run_2 N (d + 1) 128 v 0 0 0 h := by rw [← hd]
          rw [if_pos (o_128 q1), e0, fX5_run_2]
          by_cases z0 : v ≤ 0
          · rw [if_pos z0, g_128_13 q1, Option.bind_some, z.1]
          · rw [if_neg z0, g_128_13 q1, Option.bind_some, z.1, if_neg (by decide), Option.bind_some]
        unfold fX11_step
        rw [if_pos (o_6 q1), if_neg h0, if_pos hv, R_6_7 q1, Option.bind_some, er, Option.bind_some]
        rfl
      · unfold fX12_step
        rw [if_pos (o_138 q1), g_138_69 q1, Option.bind_some, z.2.2.2.2.2.2, if_pos rfl]
    rcases q8 with ⟨z1, z2, z3⟩ | ⟨W, w1, w2⟩
    · exact nor z3
    · rcases w2 with z | ⟨σ, z, ⟨pc, r1⟩, r2, r3, r4, r5, r6⟩
      · exact nor z
      · obtain ⟨p1, p2, p3, p4, p5, p6, p7, p8, p9⟩ := id w1
        obtain ⟨h1, nc, ns, τ, pc', a1, a2, a3, a4, a5, a6, a7, a8⟩ := run_cls (N := N) (v1 := v.toNatClampNeg) (by omega) p1 hm v.toNatClampNeg N 0 0 0 σ h pc (by omega) (by omega) r3 r4 r1 (by omega)
        have sg1 := a3.in.2.2.1
        have in1 : InR σ.1.2.1 h1 := by
          have := r2.in
          exact ⟨(a6 _ _ (by omega)).trans this.1, this.2.1, fun j y hj => (a6 _ _ (by omega)).trans (this.2.2 j y hj)⟩
        have r2' := r2.inp (h' := h1) sg1 (fun a k x => a6 a k (by omega)) in1
        rw [st_eta rfl] at r2'
        obtain ⟨h2, τ', b1, b2, b3, b4, b5, b6, b7⟩ := run_ref (N := N) (v1 := v.toNatClampNeg) hN p2 hm v.toNatClampNeg N 0 σ h1 (by omega) (by omega) r3 r4 r2' (by omega)
        obtain rfl := RunS_det a2 b2
        refine ⟨cod τ, h1, h2, 0 + nc, 0 + ns, ?_, ?_, Inv.go qb w1 a6 a3 (b6.mono rnA.sr) b3 a4 a5 (RunS_ea p1.1 r3 r4 a2 r5) (by omega), ?_⟩
        · unfold fX11_step fX5_run
          rw [if_pos (o_6 q1), if_neg h0, if_pos hv, R_6_7 q1, Option.bind_some, if_pos (o_128 q1), d1, show (0 : Int32) = Int32.ofNat 0 from rfl, a1, Option.bind_some]
          dsimp only
          rw [Nat.zero_add, Nat.zero_add, Nat.zero_add, Nat.zero_add]
        · have h69 : rd h1 138 69 = 1 := r2'.sg.2.2.1
          unfold fX12_step
          rw [if_pos (o_138 sg1), g_138_69 sg1, Option.bind_some, h69, if_neg (by decide), hin, Option.bind_some, if_neg (show ¬ (v < 0 ∨ 20000 < v) from fun z => z.elim h0 (Int32.not_lt.mpr hv))]
          dsimp only
          rw [if_neg (by decide), d1]
          exact b1
        · rw [Nat.zero_add, Nat.zero_add]
          exact ⟨a7.1, by rw [pileN_chg b6]; exact a7.2⟩
  · exact hno (Or.inr hv)
end C5
