/-! ===== THE REFERENCE'S STEPS: signs between two parts; a sign ahead of one ===== -/
theorem i_sub2 (a : Nat) : Int32.ofNat (a + 2) - 2 = Int32.ofNat a := i_subk (a := a + 2) (k := 2) (by omega)
section WC
variable {P : Pgm} {S : Tks} {D : List Int32 → Prop} {num : List Int32 → Nat} {N : Nat} {g h : pH} {G : Gs} {i : Nat × Nat × Nat} {lo : List Vl} {ops : List (Bool × Vl)} {E : EnvV} {xs : List Xi} {ks : List Si} {fs : List Fm} {t1 t2 t3 : List It} {B O : Nat → Nat} {L : List Nat} {lb pb : Nat} {tr' : List (Nat × Nat)}
theorem rnK_sg {k v w c : Nat} {a : Tr} {l : List Nat} (hk1 : 19 ≤ k) (hk2 : k ≤ 27) : P.rnK num c E k v w a l = (15, sgC k) := by
  unfold Pgm.rnK
  rw [if_neg (by omega), if_neg (by omega), if_neg (by omega)]
  unfold ofN
  rw [if_neg (by omega), if_neg (by omega)]
  have hk : k = 19 ∨ k = 20 ∨ k = 21 ∨ k = 22 ∨ k = 23 ∨ k = 24 ∨ k = 25 ∨ k = 26 ∨ k = 27 := by omega
  rcases hk with rfl | rfl | rfl | rfl | rfl | rfl | rfl | rfl | rfl <;> rfl
theorem work_bin {k v w j u t t' : Nat} {s : Bool} {a : Tr} {a0 : List (Bool × Nat)} {pre : List (Bool × Nat)} (hN : 400000 ≤ N) (hst : Str P S D num g) (q : ROp P S num g h G i lo ops E xs ks fs t1 t2 t3 B O L lb pb tr') (ho : HO P G.1) (hfk : FK P S G.1 (i, lo, ops, E, xs, ks)) (hfs' : FsT P S G.1 fs pre) (hk1 : 19 ≤ k) (hk2 : k ≤ 27) (hops : OT P G.1 ops (popT k s [t, t'] ++ a0)) (ht : P.opT i.1 E k w [t, t'] = some [u]) (hj : j < 3200) (e144 : rd g 144 j = (P.rnK num i.1 E k v w a [t, t']).1) (e147 : rd g 147 j = (P.rnK num i.1 E k v w a [t, t']).2) (hfs : fs.length + 1 ≤ 100) : ∃ h2, fX12_work N 138 (Int32.ofNat j) h = some h2 ∧ RRs P S num g h2 (P.actX G i lo ops E k v w [t, t'] xs ks fs) ∧ Chg thA h h2 := by
  rw [rnK_sg hk1 hk2] at e144 e147
  dsimp only at e144 e147
  rw [popT_2 (by omega)] at hops
  match ops, hops, q, hfk with
  | (z1, y) :: (z2, x) :: ops', hops, q, hfk =>
    obtain ⟨hz1, hy, hz2, hx, -⟩ := hops
    have hz1 : z1 = decide (t' = 3) := hz1
    have hz2 : z2 = decide (t = 3) := hz2
    have hy : VT P G.1 y t' := hy
    have hx : VT P G.1 x t := hx
    have hty : (t ≠ 3 ∧ t' ≠ 3) ∧ ((∃ n m, x = .inl n ∧ y = .inl m) ∨ ∃ a b, x = .inr a ∧ y = .inr b) ∧ (k ≤ 25 → ∃ n m, x = .inl n ∧ y = .inl m) := by
      unfold Pgm.opT at ht
      rw [if_neg (by omega), if_neg (by omega), if_neg (by omega), if_neg (by omega), if_neg (by omega), if_neg (by omega), if_neg (by omega), if_neg (by omega), if_neg (by omega), if_neg (by omega), if_neg (by omega), if_neg (by omega), if_neg (by omega), if_neg (by omega), if_neg (by omega), if_neg (by omega)] at ht
      have num0 : ∀ r, eqT [t, t'] [0, 0] r = some [u] → (t ≠ 3 ∧ t' ≠ 3) ∧ ((∃ n m, x = .inl n ∧ y = .inl m) ∨ ∃ a b, x = .inr a ∧ y = .inr b) ∧ (k ≤ 25 → ∃ n m, x = .inl n ∧ y = .inl m) := fun r hr => by
        obtain ⟨-, e2⟩ := eqT_one hr
        injection e2 with e3 e4
        injection e4 with e5 e6
        subst e3
        subst e5
        obtain ⟨n, rfl⟩ := hx.int
        obtain ⟨m, rfl⟩ := hy.int
        exact ⟨⟨by omega, by omega⟩, Or.inl ⟨n, m, rfl, rfl⟩, fun _ => ⟨n, m, rfl, rfl⟩⟩
      by_cases h24 : k = 24 ∨ k = 25
      · rw [if_pos h24] at ht
        exact num0 _ ht
      · rw [if_neg h24] at ht
        by_cases h26 : k = 26 ∨ k = 27
        · rw [if_pos h26] at ht
          dsimp only at ht
          by_cases hc : P.cmpT t t' = true
          · unfold Pgm.cmpT at hc
            by_cases h01 : t = 0 ∨ t = 1
            · rw [if_pos h01] at hc
              have hc := of_decide_eq_true hc
              subst hc
              have both : ∀ v, VT P G.1 v t → ∃ n, v = .inl n := fun v hv => by
                rcases h01 with rfl | rfl
                · exact hv.int
                · rcases hv.bool with z | z
                  · exact ⟨_, z⟩
                  · exact ⟨_, z⟩
              obtain ⟨n, rfl⟩ := both x hx
              obtain ⟨m, rfl⟩ := both y hy
              exact ⟨⟨by omega, by omega⟩, Or.inl ⟨n, m, rfl, rfl⟩, fun z => by omega⟩
            · rw [if_neg h01] at hc
              obtain ⟨c1, c2⟩ := Bool.and_eq_true_iff.mp hc
              obtain ⟨c2, -⟩ := Bool.and_eq_true_iff.mp c2
              have c1 : t = 2 ∨ t = 4 ∨ 10 ≤ t := of_decide_eq_true c1
              have c2 : t' = 2 ∨ t' = 4 ∨ 10 ≤ t' := of_decide_eq_true c2
              have both : ∀ v r, (r = 2 ∨ r = 4 ∨ 10 ≤ r) → VT P G.1 v r → ∃ n, v = .inr n := fun v r hr hv => by
                rcases hr with rfl | rfl | hr
                · rcases hv.row with z | ⟨_, _, z, _⟩
                  · exact ⟨_, z⟩
                  · exact ⟨_, z⟩
                · exact ⟨_, hv.null⟩
                · rcases hv.obj hr with z | ⟨_, _, _, z, _⟩
                  · exact ⟨_, z⟩
                  · exact ⟨_, z⟩
              obtain ⟨n, rfl⟩ := both x t c1 hx
              obtain ⟨m, rfl⟩ := both y t' c2 hy
              exact ⟨⟨by omega, by omega⟩, Or.inr ⟨n, m, rfl, rfl⟩, fun z => by omega⟩
          · rw [if_neg hc] at ht; cases ht
        · rw [if_neg h26] at ht
          exact num0 _ ht
    obtain ⟨⟨n1, n2⟩, sort, ints⟩ := hty
    obtain rfl : z1 = false := by rw [hz1]; exact decide_eq_false n2
    obtain rfl : z2 = false := by rw [hz2]; exact decide_eq_false n1
    have st := q.st
    have sg := st.1
    obtain ⟨h100, ty, tx, hb, hol⟩ := q.tp2 hfs
    have s1 := sg.wr 138 100 (Int32.ofNat (pb + (um ops').length))
    have st1 : StV g (wr h 138 100 (Int32.ofNat (pb + (um ops').length))) := st.chg (Chg.wr (A := fun a k => a = 138 ∧ k = 100) h 138 100 _ ⟨rfl, rfl⟩) (fun a k z => by omega)
    have heq := RV.eq q.1.2.2.2.2.2 tx ty sort
    obtain ⟨w1, w2, w3⟩ := wkd_v (N := N) (h := wr h 138 100 (Int32.ofNat (pb + (um ops').length))) (x := x) (y := y) hk1 hk2 (fun hk => by
      obtain ⟨n, m, rfl, rfl⟩ := ints hk
      exact ⟨by rw [tx.1], by rw [ty.1]⟩) heq
    have hpre : fX12_work N 138 (Int32.ofNat j) h = fX12_work_434 N 138 (Int32.ofNat j) (Int32.ofNat (pb + (um ops').length + 1)) h := by
      unfold fX12_work
      rw [if_pos (o_138 sg), g_138_100 sg, Option.bind_some, h100, i_sub1, R_138_16 sg, Option.bind_some, L_144 sg hj, Option.bind_some, st.2.1 144 j (by omega) (by omega), e144]
      rfl
    have hact : P.actX G i lo ((false, y) :: (false, x) :: ops') E k v w [t, t'] xs ks fs = match sgW k x y with
        | .inl x' => (G, .inl ((i, lo, (false, x') :: ops', E, xs, ks) :: fs))
        | .inr n => P.thr G n ((i, lo, (false, y) :: (false, x) :: ops', E, xs, ks) :: fs) := by
      unfold Pgm.actX Pgm.wkV
      rw [if_neg (by omega), if_neg (by omega), if_neg (by omega), if_neg (by omega), if_neg (by omega), if_neg (by omega), if_neg (by omega), if_neg (by omega), if_neg (by omega), if_neg (by omega), if_neg (by omega), if_neg (by omega), if_neg (by omega), if_neg (by omega)]
      rfl
    have go483 : ∀ x', sgW k x y = .inl x' → ∃ h2, fX12_work_483 N 138 (Int32.ofNat j) (rd h 199 (pb + (um ops').length + 1)) (rd h 199 (pb + (um ops').length)) h = some h2 ∧ RRs P S num g h2 (P.actX G i lo ((false, y) :: (false, x) :: ops') E k v w [t, t'] xs ks fs) ∧ Chg thA h h2 := fun x' hx' => by
      obtain ⟨r, r1, rfl⟩ := w1 x' hx'
      obtain ⟨h3, p1, p2, p3⟩ := q.rep2 (N := N) (w := r) (f := 0) (v := .inl r) hfs ⟨rfl, rfl⟩
      rw [hact, hx']
      refine ⟨h3, ?_, p2, p3.mono (fun a k z => Or.inl z)⟩
      unfold fX12_work_483
      rw [g_138_100 sg, Option.bind_some, h100, i_sub2, p_138_100 sg, Option.bind_some, R_138_19 s1, Option.bind_some, L_147 s1 hj, Option.bind_some, st1.2.1 147 j (by omega) (by omega), e147, r1, Option.bind_some]
      dsimp only
      rw [p1, Option.bind_some]
    have hflt : ∃ h2, fX12_work_477 N 138 h = some h2 ∧ RRs P S num g h2 (P.thr G 2 ((i, lo, (false, y) :: (false, x) :: ops', E, xs, ks) :: fs)) ∧ Chg thA h h2 := by
      obtain ⟨h2, r1, r2, r3⟩ := r_flt (n := 2) hN hst q ho (by omega) hfk hfs' hfs
      have r1 : fX12_faults N 138 2 h = some h2 := r1
      refine ⟨h2, ?_, r2, r3⟩
      unfold fX12_work_477
      rw [r1, Option.bind_some]
    rw [hpre]
    unfold fX12_work_434
    rw [R_138_101 sg, Option.bind_some, L_199 sg (by omega), Option.bind_some, i_sub1]
    simp only [Option.bind_some]
    rw [L_199 sg (by omega), Option.bind_some]
    by_cases hb0 : rd h 199 (pb + (um ops').length + 1) = 0
    · rw [if_pos hb0, R_138_19 sg, Option.bind_some, L_147 sg hj, Option.bind_some, st.2.1 147 j (by omega) (by omega), e147]
      rcases hsg : sgW k x y with x' | n
      · have hk20 : k ≠ 20 ∧ k ≠ 21 := by
          refine ⟨fun z => w3 ⟨x', hsg⟩ (Or.inl z) hb0, fun z => w3 ⟨x', hsg⟩ (Or.inr z) hb0⟩
        have hs47 : sgC k ≠ 47 ∧ sgC k ≠ 37 := by
          have hk : k = 19 ∨ k = 22 ∨ k = 23 ∨ k = 24 ∨ k = 25 ∨ k = 26 ∨ k = 27 := by omega
          rcases hk with rfl | rfl | rfl | rfl | rfl | rfl | rfl <;> exact ⟨by decide, by decide⟩
        rw [if_neg hs47.1]
        simp only [Option.bind_some]
        rw [L_147 sg hj, Option.bind_some, st.2.1 147 j (by omega) (by omega), e147, if_neg hs47.2]
        exact go483 x' hsg
      · obtain ⟨rfl, -, hk20⟩ := w2 n hsg
        rw [hact, hsg]
        rcases hk20 with rfl | rfl
        · rw [if_pos (by rfl)]
          exact hflt
        · rw [if_neg (by decide)]
          simp only [Option.bind_some]
          rw [L_147 sg hj, Option.bind_some, st.2.1 147 j (by omega) (by omega), e147, if_pos (by rfl)]
          exact hflt
    · rw [if_neg hb0]
      rcases hsg : sgW k x y with x' | n
      · exact go483 x' hsg
      · exact absurd (w2 n hsg).2.1 hb0
  | [], hops, q, hfk => exact hops.elim
  | [_], hops, q, hfk => exact hops.2.2.elim
end WC
