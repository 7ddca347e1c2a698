/-! ===== THE REFERENCE'S STEPS, all: pieces of expressions ===== -/
def rnA (a k : Nat) : Prop := (a = 138 ∧ 70 ≤ k ∧ k ≠ 71) ∨ (183 ≤ a ∧ a ≤ 204)
theorem fmA.rn (a k : Nat) (h : fmA a k) : rnA a k := by
  unfold fmA at h
  unfold rnA
  omega
theorem thA.rn (a k : Nat) (h : thA a k) : rnA a k := by
  rcases h with h | h
  · exact fmA.rn a k h
  · unfold rnA
    omega
theorem inA.rn (a k : Nat) (h : inA a k) : rnA a k := by
  unfold inA at h
  unfold rnA
  omega
theorem prA.rn (a k : Nat) (h : prA a k) : rnA a k := by
  rcases h with h | h | h
  · exact fmA.rn a k h
  · unfold rnA
    omega
  · unfold rnA
    omega
theorem mdB.rn (a k : Nat) (h : mdB a k) : rnA a k := by
  rcases h with h | h | h
  · exact fmA.rn a k h
  · unfold swA at h
    unfold rnA
    omega
  · unfold rnA
    omega
theorem mtB.rn (a k : Nat) (h : mtB a k) : rnA a k := by
  rcases h with h | h
  · exact mdB.rn a k h
  · exact thA.rn a k h
theorem thO.rn (a k : Nat) (h : thO a k) : rnA a k := by
  rcases h with h | h
  · exact thA.rn a k h
  · unfold obA at h
    unfold rnA
    omega
section RX
variable {P : Pgm} {S : Tks} {D : List Int32 → Prop} {num : List Int32 → Nat} {N : Nat} {g h : pH} {G : Gs} {i : Nat × Nat × Nat} {lo : List Vl} {ops : List (Bool × Vl)} {E : EnvV} {xs : List Xi} {ks : List Si} {fs : List Fm} {t1 t2 t3 : List It} {B O : Nat → Nat} {L : List Nat} {lb pb : Nat} {tr' : List (Nat × Nat)}
theorem ROp.of {x : Xi} (q : RRq g h G ((i, lo, ops, E, x :: xs, ks) :: fs) (t1 ++ (t2 ++ (8, Int32.ofNat i.2.1) :: t3))) (hx : TdX P S num i.1 E g t1 (nx xs)) (hl : t1.length ≤ 3000) (hk : TdK P num i.1 (P.mty i.2.1) g ks t2) (hf : TdF P S num g fs t3) : ∃ B O L lb pb tr', ROp P S num g h G i lo ops E xs ks fs t1 t2 t3 B O L lb pb tr' := by
  obtain ⟨q1, q2, B, O, L, lt, pt, trs, q3, ⟨lb, pb, tr', F, e1, e2, e3, hL⟩, q5, q6, q7, q8⟩ := q
  have e2 : pt = pb + (um ops).length := e2
  have e3 : trs = tyE pb ks ++ tr' := e3
  rw [e2] at q5
  rw [e3] at q8
  exact ⟨B, O, L, lb, pb, tr', ⟨q1, q2, q3⟩, F, hL, q5, q6, q7, q8, hx, hl, hk, hf⟩
theorem ROp.of0 (q : RRq g h G ((i, lo, ops, E, [], ks) :: fs) (t2 ++ (8, Int32.ofNat i.2.1) :: t3)) {s : Si} {ks' : List Si} (hks : ks = s :: ks') (hs : s.1 = 1) (hk : TdK P num i.1 (P.mty i.2.1) g ks' t2) (hf : TdF P S num g fs t3) : ∃ B O L lb pb tr', ROp P S num g h G i lo ops E [] ks' fs [] t2 t3 B O L lb pb tr' := by
  obtain ⟨q1, q2, B, O, L, lt, pt, trs, q3, ⟨lb, pb, tr', F, e1, e2, e3, hL⟩, q5, q6, q7, q8⟩ := q
  subst hks
  obtain ⟨k, E0, b⟩ := s
  have hs : k = 1 := hs
  subst hs
  have e2 : pt = pb + (um ops).length := e2
  have e3 : trs = tyE pb ((1, E0, b) :: ks') ++ tr' := e3
  have ety : tyE pb ((1, E0, b) :: ks') = tyE pb ks' := by
    show (if (1 : Nat) = 4 then _ else _) = _
    rw [if_neg (by omega)]
  rw [e2] at q5
  rw [e3, ety] at q8
  refine ⟨B, O, L, lb, pb, tr', ⟨q1, q2, q3⟩, F.re ?_ ?_, hL, q5, q6, q7, q8, rfl, Nat.zero_le _, hk, hf⟩
  · have h1 : (((1, E0, b) : Si) :: ks').length ≤ 104 := F.2.2.2.2.2.2.2.2.2.1
    rw [List.length_cons] at h1
    omega
  · have h1 : cty (((1, E0, b) : Si) :: ks') ≤ 51 := F.2.2.2.2.2.2.2.2.2.2.1
    have h2 : cty (((1, E0, b) : Si) :: ks') = (if (1 : Nat) = 4 then 1 else 0) + cty ks' := rfl
    rw [h2] at h1
    omega
/-- a piece -/
theorem ract_X {it : It} {x : Xi} {T : List It} (hN : 400000 ≤ N) (hst : Stw P S D num g) (ho : HO P G.1) (hf : FT P S G.1 (i, lo, ops, E, x :: xs, ks) []) (hfs : FsT P S G.1 fs [mk3 (P.mty i.2.1)]) (hl1 : fs.length + 1 ≤ 100) (q0 : RRq g h G ((i, lo, ops, E, x :: xs, ks) :: fs) T) (eT : T = t1 ++ (t2 ++ (8, Int32.ofNat i.2.1) :: t3)) (hTl : T.length ≤ 332000) (hit : StI P S num i.1 E g it [x]) (hx : TdX P S num i.1 E g t1 (nx xs)) (hl : t1.length + 1 ≤ 3000) (hk : TdK P num i.1 (P.mty i.2.1) g ks t2) (hF : TdF P S num g fs t3) : ∃ h2, (if Int32.ofNat it.1 = 0 then fX12_leaf N 138 it.2 h else if Int32.ofNat it.1 = 1 then fX12_work N 138 it.2 h else if Int32.ofNat it.1 = 2 then fX12_half N 138 it.2 h else fX12_done N 138 it.2 h) = some h2 ∧ RRs P S num g h2 (P.act G (i, lo, ops, E, x :: xs, ks) fs) ∧ Chg rnA h h2 := by
  subst eT
  obtain ⟨B, O, L, lb, pb, tr', q⟩ := ROp.of q0 hx (by omega) hk hF
  have hxh := hf.2.2.2.2.2.2.2.1
  have hlo := hf.2.2.2.2.1
  have hse := hf.2.2.1
  have hop := hf.2.2.2.2.2.2.1
  have hfk0 := hf.fk
  obtain ⟨i0, j0⟩ := it
  rcases hit with ⟨h0, k, v, w, j, hlf, hj, hj2, e144, e147, hy⟩ | ⟨h0, hit⟩
  · obtain rfl : i0 = 0 := h0
    obtain rfl : j0 = Int32.ofNat j := hj
    obtain rfl : x = .inl (k, v, w, false, []) := (List.cons.inj hy).1
    have hk50 : k ≠ 50 ∧ k ≠ 51 := by unfold lfK at hlf; omega
    obtain ⟨a0, t, p1, p2, p3, p4⟩ := hf.pop hk50.1 hk50.2
    have hol : ops.length + 1 ≤ 1999 := by
      have := XH.le p4.2.2.2.2.2.2.2.1
      have e : 1 + (ops.drop 0).length ≤ 1999 := this
      rw [List.drop_zero] at e
      omega
    rw [if_pos (show Int32.ofNat ((0, Int32.ofNat j) : It).1 = 0 from rfl)]
    show ∃ h2, fX12_leaf N 138 (Int32.ofNat j) h = some h2 ∧ RRs P S num g h2 (P.actX G i lo ops E k v w [] xs ks fs) ∧ Chg rnA h h2
    by_cases h5 : k = 5
    · subst h5
      obtain ⟨h2, r1, r2, r3⟩ := leaf_5 (N := N) (v := v) (w := w) (by omega) q hj2 e144 hol hl1
      exact ⟨h2, r1, r2, r3.mono (fun a k z => z.elim (fmA.rn a k) (inA.rn a k))⟩
    · by_cases h13 : k = 13
      · subst h13
        obtain ⟨h2, r1, r2, r3⟩ := leaf_13 hN hst q ho p2 hj2 e144 e147 hol hl1
        exact ⟨h2, r1, r2, r3.mono mdB.rn⟩
      · obtain ⟨h2, r1, r2, r3⟩ := leaf_v (N := N) hst.1.1 q ho hse hlo hlf h5 h13 p2 hj2 e144 e147 hol hl1
        exact ⟨h2, r1, r2, r3.mono fmA.rn⟩
  · rcases hit with ⟨z, _⟩ | ⟨h1, k, v, w, z, l, j, a, hj, hj2, e144, e147, ez, e182, hkk, hy⟩ | ⟨h1, k, b, n, l, j, hkk, hj, hj2, e144, ob, hte, hrx, e146, n1, n2, hy⟩
    · omega
    · obtain rfl : i0 = 1 := h1
      obtain rfl : j0 = Int32.ofNat j := hj
      obtain rfl : x = .inl (k, v, w, z, l) := (List.cons.inj hy).1
      obtain ⟨a0, t, p1, p2, p3, p4⟩ := hf.pop (by omega) (by omega)
      have fk : FK P S G.1 (i, lo, ops, E, xs, ks) := p4.fk
      rw [if_neg (show ¬ Int32.ofNat ((1, Int32.ofNat j) : It).1 = 0 from (by show ¬ Int32.ofNat 1 = 0; decide)), if_pos (show Int32.ofNat ((1, Int32.ofNat j) : It).1 = 1 from rfl)]
      show ∃ h2, fX12_work N 138 (Int32.ofNat j) h = some h2 ∧ RRs P S num g h2 (P.actX G i lo ops E k v w l xs ks fs) ∧ Chg rnA h h2
      have hlen := p3.2.1
      unfold arK at hlen
      by_cases h30 : k = 30
      · subst h30
        obtain ⟨h2, r1, r2, r3⟩ := work_30 hN hst q ho fk hfs p1 p2 p3 hj2 e144 e147 ez (e182 rfl) (by omega) hl1
        exact ⟨h2, r1, r2, r3.mono thA.rn⟩
      rw [if_neg h30] at hlen
      by_cases h2k : k = 12 ∨ (19 ≤ k ∧ k ≤ 27)
      · rw [if_pos h2k] at hlen
        match l, hlen, p1, p2, e144, e147 with
        | [u, u'], _, p1, p2, e144, e147 =>
          by_cases h12 : k = 12
          · subst h12
            obtain ⟨h2, r1, r2, r3⟩ := work_12 hN hst.1 q ho fk hfs p1 p2 hj2 e144 hl1
            exact ⟨h2, r1, r2, r3.mono thA.rn⟩
          · obtain ⟨h2, r1, r2, r3⟩ := work_bin hN hst.1 q ho fk hfs (by omega) (by omega) p1 p2 hj2 e144 e147 hl1
            exact ⟨h2, r1, r2, r3.mono thA.rn⟩
      · rw [if_neg h2k, if_pos (by omega)] at hlen
        match l, hlen, p1, p2, e144, e147 with
        | [u], _, p1, p2, e144, e147 =>
          by_cases h9 : k = 9
          · subst h9
            obtain ⟨h2, r1, r2, r3⟩ := work_9 hN hst.1 q ho fk hfs p1 p2 hj2 e144 e147 hl1
            exact ⟨h2, r1, r2, r3.mono thA.rn⟩
          by_cases h14 : k = 14
          · subst h14
            obtain ⟨h2, r1, r2, r3⟩ := work_14 hN hst q ho fk hfs p1 p2 hj2 e144 hl1
            exact ⟨h2, r1, r2, r3.mono mtB.rn⟩
          by_cases h15 : k = 15 ∨ k = 16
          · obtain ⟨h2, r1, r2, r3⟩ := work_15 hN hst.1 q ho fk hfs h15 p1 p2 hj2 e144 e147 hl1
            exact ⟨h2, r1, r2, r3.mono thA.rn⟩
          · obtain ⟨h2, r1, r2, r3⟩ := work_17 (N := N) q (by omega) p1 p2 hj2 e144 hl1
            exact ⟨h2, r1, r2, r3.mono thA.rn⟩
    · obtain rfl : i0 = 2 := h1
      obtain rfl : j0 = Int32.ofNat j := hj
      obtain rfl : x = .inr (k, b) := (List.cons.inj hy).1
      rw [if_neg (show ¬ Int32.ofNat ((2, Int32.ofNat j) : It).1 = 0 from (by show ¬ Int32.ofNat 2 = 0; decide)), if_neg (show ¬ Int32.ofNat ((2, Int32.ofNat j) : It).1 = 1 from (by show ¬ Int32.ofNat 2 = 1; decide)), if_pos (show Int32.ofNat ((2, Int32.ofNat j) : It).1 = 2 from rfl)]
      show ∃ h2, fX12_half N 138 (Int32.ofNat j) h = some h2 ∧ RRs P S num g h2 (P.actH G i lo ops E k b xs ks fs) ∧ Chg rnA h h2
      obtain ⟨a, a', o1, o2, -⟩ := hop
      obtain ⟨a0, o3, -⟩ := o2
      have o3 : a = mk3 1 :: a0 := o3
      subst o3
      have o1 : OT P G.1 ops (mk3 1 :: a0) := o1
      match ops, o1, q with
      | op :: ops', o1, q =>
        obtain ⟨o3, o4, -⟩ := o1
        have o4 : VT P G.1 op.2 1 := o4
        obtain ⟨h2, r1, r2, r3⟩ := half_v (N := N) q (by omega) hx hkk hj2 e144 ob hte hrx e146 n1 n2 rfl o3 o4.bool hl hl1
        exact ⟨h2, r1, r2, r3.mono fmA.rn⟩
      | [], o1, q => exact o1.elim
end RX
