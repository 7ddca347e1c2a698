/-! ===== THE REFERENCE'S TYPER: while, if, try ===== -/
theorem ob_some {α : Type} (x : Option α) : (x.bind fun y => some y) = x := by cases x <;> rfl
theorem Pgm.bc_vl {P : Pgm} {S : Tks} {c : Nat} {E : EnvV} {x : Tr} (ox : Ox S x) : P.bcE c E x = (P.vlT c E x false).bind fun t => if t = 1 then some E else none := by
  unfold Pgm.bcE Pgm.vlT
  cases hte : P.te c E x with
  | none => exact if_neg (fun z => by cases z)
  | some r =>
    obtain ⟨t, rfl, _⟩ := ox.te_one hte
    show _ = (if t = 3 ∧ false = false then none else some t).bind fun t => if t = 1 then some E else none
    by_cases z : t = 1
    · rw [if_pos (by rw [z]), if_neg (show ¬ (t = 3 ∧ false = false) from fun u => by omega), Option.bind_some, if_pos z]
    · rw [if_neg (fun u => z (by injection u with u; injection u))]
      by_cases y : t = 3
      · rw [if_pos (show t = 3 ∧ false = false from ⟨y, rfl⟩)]; rfl
      · rw [if_neg (show ¬ (t = 3 ∧ false = false) from fun u => y u.1), Option.bind_some, if_neg z]
theorem one_cond {S : Tks} {P : Pgm} {D : List Int32 → Prop} {num : List Int32 → Nat} {rc : Nat → List Value → pH → Option (Option Value × pH)} {c mth N s p n l kk d0 : Nat} {E : EnvV} {x : Tr} {d : Int32} {h : pH} (hN : 5000 ≤ N) (ha : Acy P) (hc : c < P.n) (p3 : P.P3) (ox : Ox S x) (q : RSt P D num c mth E h) (rn : RN P D num h x n l) (hsl : s < 1600) (hn : n + sz x ≤ 3200) (hl : l + ls x ≤ 3200) (hk : kk = 1 ∨ kk = 2) (st : St h s (Int32.ofNat kk) p n (Int32.ofNat (n + sz x - 1))) : match P.bcE c E x with
    | none => ∃ h1, fX12_checkOne N rc 138 (Int32.ofNat s) d h = some (wr h1 138 58 (Int32.ofNat p)) ∧ Chg (ndA n (n + sz x)) h h1
    | some _ => ∃ h1, fX12_checkOne N rc 138 (Int32.ofNat s) d h = rcV rc (if kk = 1 then 298 else 302) [.ref 138, .int (Int32.ofNat s), .int d] h1 ∧ RSt P D num c mth E h1 ∧ RXn P num c E h1 x n l ∧ Chg (ndA n (n + sz x)) h h1 := by
  have hs := q.1.1.1.1
  have hn4 := q.1.1.1.n400
  have A := one_exp (S := S) (rc := rc) (N := N) (call := false) (d := d) hN ha hc p3 ox q rn hsl hn hl st (by omega) (by rw [decide_eq_false (by omega)]) (fun z => by omega)
  rw [Pgm.bc_vl ox]
  cases hv : P.vlT c E x false with
  | none => rw [hv] at A; exact A
  | some t =>
    rw [hv] at A
    obtain ⟨h1, e1, e2, e3, e4, e5, e6, g⟩ := A
    have q1 := q.nd g
    have hs1 := q1.1.1.1.1
    have htl := tOk_lt hn4 e5
    rw [Option.bind_some, e1]
    unfold fX12_checkOne_41
    rw [e2, Option.bind_some]
    have main : match (if t = 1 then some E else none) with
        | none => ∃ h1, fX12_checkOne_345 N rc 138 (Int32.ofNat s) d (Int32.ofNat kk) 1 (Int32.ofNat t) h1 = some (wr h1 138 58 (Int32.ofNat p)) ∧ Chg (ndA n (n + sz x)) h h1
        | some _ => fX12_checkOne_345 N rc 138 (Int32.ofNat s) d (Int32.ofNat kk) 1 (Int32.ofNat t) h1 = rcV rc (if kk = 1 then 298 else 302) [.ref 138, .int (Int32.ofNat s), .int d] h1 := by
      have pre : ∀ h2, fX12_checkOne_345 N rc 138 (Int32.ofNat s) d (Int32.ofNat kk) 1 (Int32.ofNat t) h2 = if t = 1 then fX12_checkOne_366 N rc 138 (Int32.ofNat s) d (Int32.ofNat kk) 1 h2 else fX12_checkOne_366 N rc 138 (Int32.ofNat s) d (Int32.ofNat kk) 0 h2 := fun h2 => by
        unfold fX12_checkOne_345
        rw [if_neg (show ¬ (1 : Int32) = 0 by decide)]
        have := ifEq (x := fX12_checkOne_361 N rc 138 (Int32.ofNat s) d (Int32.ofNat kk) 1 h2) (y := fX12_checkOne_360 N rc 138 (Int32.ofNat s) d (Int32.ofNat kk) h2) (d := inferInstance) (a := t) (b := 1) (by omega) (by omega)
        exact this
      by_cases z : t = 1
      · rw [if_pos z, pre, if_pos z]
        unfold fX12_checkOne_366
        rcases hk with rfl | rfl
        · rw [if_neg (show ¬ (1 : Int32) = 0 by decide), if_neg (show ¬ Int32.ofNat 1 = 3 by decide), if_neg (show ¬ Int32.ofNat 1 = 4 by decide), if_pos (show Int32.ofNat 1 = 1 from rfl), if_pos (o_138 hs1), Option.bind_some, ob_some]
          rfl
        · rw [if_neg (show ¬ (1 : Int32) = 0 by decide), if_neg (show ¬ Int32.ofNat 2 = 3 by decide), if_neg (show ¬ Int32.ofNat 2 = 4 by decide), if_neg (show ¬ Int32.ofNat 2 = 1 by decide), if_pos (show Int32.ofNat 2 = 2 from rfl), if_pos (o_138 hs1), Option.bind_some, ob_some]
          rfl
      · rw [if_neg z]
        refine ⟨h1, ?_, g⟩
        rw [pre, if_neg z]
        exact one366_bad (N := N) (rc := rc) (d := d) (k := Int32.ofNat kk) hs1 hsl q1.2.2 (by rw [g.2.2.1 _ _ (by unfold ndA; omega)]; exact st.2.1)
    have fin : match (if t = 1 then some E else none) with
        | none => ∃ h2, fX12_checkOne_345 N rc 138 (Int32.ofNat s) d (Int32.ofNat kk) 1 (Int32.ofNat t) h1 = some (wr h2 138 58 (Int32.ofNat p)) ∧ Chg (ndA n (n + sz x)) h h2
        | some _ => ∃ h2, fX12_checkOne_345 N rc 138 (Int32.ofNat s) d (Int32.ofNat kk) 1 (Int32.ofNat t) h1 = rcV rc (if kk = 1 then 298 else 302) [.ref 138, .int (Int32.ofNat s), .int d] h2 ∧ RSt P D num c mth E h2 ∧ RXn P num c E h2 x n l ∧ Chg (ndA n (n + sz x)) h h2 := by
      by_cases z : t = 1
      · rw [if_pos z] at main ⊢
        exact ⟨h1, main, q1, e6, g⟩
      · rw [if_neg z]
        refine ⟨h1, ?_, g⟩
        unfold fX12_checkOne_345
        rw [if_neg (show ¬ (1 : Int32) = 0 by decide), if_neg (show ¬ Int32.ofNat t = 1 from i_ne (b := 1) (by omega) (by omega) z)]
        exact one366_bad (N := N) (rc := rc) (d := d) (k := Int32.ofNat kk) hs1 hsl q1.2.2 (by rw [g.2.2.1 _ _ (by unfold ndA; omega)]; exact st.2.1)
    rcases hk with rfl | rfl
    · exact fin
    · exact fin
theorem i_3mul (d : Nat) : (3 : Int32) * Int32.ofNat d = Int32.ofNat (3 * d) := by
  rw [show (3 : Int32) = Int32.ofNat 3 from rfl, ← Int32.ofNat_mul]
theorem RKp.chg {E : EnvV} {n v : Nat} {A : Nat → Nat → Prop} {h h' : pH} (q : RKp E n v h) (g : Chg A h h') (hA : ∀ k, 1000 * v ≤ k → k < 1000 * v + n → ¬ A 181 k) : RKp E n v h' := fun i hi => by rw [g.2.2.1 _ _ (hA _ (by omega) (by omega))]; exact q i hi
/-- keep what is set now, and take up what was kept -/
theorem RSc.swap {P : Pgm} {D : List Int32 → Prop} {num : List Int32 → Nat} {E Ea : EnvV} {N d : Nat} {h : pH} (hN : 1100 ≤ N) (hd : d ≤ 31) (hs : Sg h) (q : RSc P D num Ea h) (h1 : Ea.1 = E.1) (r : RKp E E.1.length (3 * d) h) : ∃ h9 h10 h11, fX12_keepSets N 138 (Int32.ofNat (3 * d) + 1) h = some h9 ∧ putZ h9 138 12 66 (kI E.2.1) = some h10 ∧ fX12_backSets N 138 (Int32.ofNat (3 * d)) h10 = some h11 ∧ RSc P D num E h11 ∧ RKp Ea E.1.length (3 * d + 1) h11 ∧ Chg (fun a k => (a = 181 ∧ 1000 * (3 * d + 1) ≤ k ∧ k < 1000 * (3 * d + 1) + 1000) ∨ a = 180 ∨ (a = 138 ∧ k = 66)) h h11 := by
  have hlen := q.2.1
  rw [h1] at hlen
  obtain ⟨h9, a1, a2, a3, a4⟩ := RSc.keepSets (N := N) (v := 3 * d + 1) hN (by omega) hs q
  have hs9 : Sg h9 := hs.of a4.1
  obtain ⟨h10, h11, b1, b2, b3, b4⟩ := RSc.back (N := N) (v := 3 * d) hN (by omega) hs9 a2 h1 (r.chg a4 (fun k k1 k2 => by omega))
  rw [h1] at a3
  refine ⟨h9, h10, h11, by rw [i_add1]; exact a1, b1, b2, b3, a3.chg b4 (fun k _ _ => by omega), (a4.mono (fun a k z => Or.inl z)).trans (b4.mono (fun a k z => by omega))⟩
theorem one_while {S : Tks} {P : Pgm} {D : List Int32 → Prop} {num : List Int32 → Nat} {c mt mth N m s p n l d j : Nat} {E : EnvV} {x a : Tr} {h : pH} (hN : 5000 ≤ N) (ha : Acy P) (hc : c < P.n) (p3 : P.P3) (ox : Ox S x) (ga : GK S m a) (pa : PlB a) (RBa : RunR P D num c mt mth N a) (q : RSt P D num c mth E h) (rn : RN P D num h x n l) (rb : RBn P D num h a none (s + 1) (n + sz x) (l + ls x)) (st : St h s 2 p n (Int32.ofNat (n + sz x - 1))) (h159 : rd h 159 s = fsB a (s + 1)) (b1 : s + 1 + stB a ≤ 1600) (b2 : n + sz x + szB a ≤ 3200) (b3 : l + ls x + lsB a ≤ 3200) (b4 : d + 1 + dp a ≤ 31) (b5 : E.1.length + nv a ≤ 999) (b6 : 3 * dp a + 2 ≤ j) : OnR P D num c mth d s (s + 1 + stB a) n (n + sz x + szB a) (fun _ h1 => RXn P num c E h1 x n l ∧ RTc P num c mt h1 a E none (s + 1) (n + sz x) (l + ls x)) (sB (oS p (P.bcE c E x)) fun _ => sB (P.chk c mt a E) fun _ => .inr E) (fX12_checkOne N (gX12_checkWhile N (j + 1 + 1)) 138 (Int32.ofNat s) (Int32.ofNat d) h) E h := by
  have A := one_cond (S := S) (rc := gX12_checkWhile N (j + 1 + 1)) (N := N) (d0 := 0) (d := Int32.ofNat d) (kk := 2) hN ha hc p3 ox q rn (by omega) (by omega) (by omega) (Or.inr rfl) st
  cases hb : P.bcE c E x with
  | none =>
    rw [hb] at A
    obtain ⟨h1, e1, g⟩ := A
    exact q.bad (g.mono (fun a k z => z.mono (Nat.le_refl _) (by omega))) e1
  | some E0 =>
    rw [hb] at A
    obtain ⟨h1, e1, q1, rx, g⟩ := A
    have hs1 := q1.1.1.1.1
    have gt : Chg (tsA d s (s + 1 + stB a) n (n + sz x + szB a)) h h1 := g.mono (fun a k z => Or.inl (z.mono (Nat.le_refl _) (by omega)))
    obtain ⟨h2, k1, k2, k3, k4⟩ := RSc.keepSets (N := N) (v := 3 * d) (by omega) (by omega) hs1 q1.1.2.1
    have hs2 : Sg h2 := hs1.of k4.1
    have q2 : RSt P D num c mth E h2 := q1.sc k4 (fun a k z => by unfold rkA rtA at z; omega) (by omega) (by omega) (by omega) k2 q1.1.2.2.2.1 q1.1.2.2.2.2
    have g12 : Chg (tsA d s (s + 1 + stB a) n (n + sz x + szB a)) h1 h2 := k4.mono (fun a k z => by unfold tsA; omega)
    have rb2 : RBn P D num h2 a none (s + 1) (n + sz x) (l + ls x) := RBn.ag m a _ _ _ _ ga (RBn.ag m a _ _ _ _ ga rb (AgT.of (d := 0) (s0 := 0) (s1 := 0) (g.mono (fun a k z => ndA.ts z)) (Or.inr (by omega)) (Or.inr (Nat.le_refl _)))) ⟨fun a k i1 i2 _ _ => k4.2.2.1 _ _ (by omega), fun k => k4.2.2.1 _ _ (by omega), fun a m i1 _ _ => k4.2.2.1 _ _ (by omega), fun m => k4.2.2.1 _ _ (by omega)⟩
    have r159 : rd h2 159 s = fsB a (s + 1) := by rw [k4.2.2.1 _ _ (by omega), g.2.2.1 _ _ (by unfold ndA; omega)]; exact h159
    obtain ⟨h6, e6, g6, o6⟩ := RunR.block (S := S) (N := N) (d := d + 1) (j := j) hN ga pa RBa q2 rb2 b1 b2 b3 b4 b5 b6
    have hs6 : Sg h6 := hs2.of g6.1
    have g26 : Chg (tsA d s (s + 1 + stB a) n (n + sz x + szB a)) h2 h6 := g6.mono (fun a k z => z.mono (by omega) (by omega) (Nat.le_refl _) (by omega) (Nat.le_refl _))
    have kp6 : RKp E E.1.length (3 * d) h6 := k3.chg g6 (fun k i1 i2 => by unfold tsA ndA; have := q1.1.2.1.2.1; omega)
    have pre : fX12_checkOne N (gX12_checkWhile N (j + 1 + 1)) 138 (Int32.ofNat s) (Int32.ofNat d) h = (putZ h6 138 12 66 (kI E.2.1)).bind fun h7 => (fX12_backSets N 138 (Int32.ofNat (3 * d)) h7).bind fun h8 => some h8 := by
      rw [e1, if_neg (show ¬ 2 = 1 by omega), rcW]
      unfold fX12_checkWhile
      rw [if_pos (o_138 hs1), g_138_66 hs1, Option.bind_some, q1.1.2.1.2.2.2.1, i_3mul, k1, Option.bind_some, R_138_34 hs2, Option.bind_some, L_159 hs2 (by omega), Option.bind_some, r159, if_pos (o_138 hs2), Option.bind_some, i_add1, rcB, e6, Option.bind_some]
    have fin : ∀ Ea, RSc P D num Ea h6 → Ea.1 = E.1 → ∃ h8, fX12_checkOne N (gX12_checkWhile N (j + 1 + 1)) 138 (Int32.ofNat s) (Int32.ofNat d) h = some h8 ∧ RSc P D num E h8 ∧ Chg (fun a k => a = 180 ∨ (a = 138 ∧ k = 66)) h6 h8 := by
      intro Ea qa ea
      obtain ⟨h7, h8, c1, c2, c3, c4⟩ := RSc.back (N := N) (v := 3 * d) (by omega) (by omega) hs6 qa ea kp6
      exact ⟨h8, by rw [pre, c1, Option.bind_some, c2, Option.bind_some], c3, c4⟩
    show OnR P D num c mth d s (s + 1 + stB a) n (n + sz x + szB a) _ (sB (P.chk c mt a E) fun _ => .inr E) _ E h
    cases hr : P.chk c mt a E with
    | inl p' =>
      rw [hr] at o6
      obtain ⟨o1, E1, o2, o3⟩ := o6
      obtain ⟨h8, f1, f2, f3⟩ := fin E1 o2 o3
      exact ⟨h8, f1, (gt.trans g12).trans (g26.trans (f3.mono (fun a k z => by unfold tsA; omega))), by rw [f3.2.2.1 _ _ (by omega)]; exact o1, E, f2, Pfx.refl E⟩
    | inr E1 =>
      rw [hr] at o6
      obtain ⟨o1, o2⟩ := o6
      obtain ⟨h8, f1, f2, f3⟩ := fin (E.cut E1) o1.1.2.1 rfl
      have ag8 : ∀ {t t' v v' y y'}, AgT h6 h8 t t' v v' y y' := fun {t t' v v' y y'} => ⟨fun a k i1 i2 _ _ => f3.2.2.1 _ _ (by omega), fun k => f3.2.2.1 _ _ (by omega), fun a m i1 _ _ => f3.2.2.1 _ _ (by omega), fun m => f3.2.2.1 _ _ (by omega)⟩
      refine ⟨h8, f1, (gt.trans g12).trans (g26.trans (f3.mono (fun a k z => by unfold tsA; omega))), o1.sc f3 (fun a k z => by unfold rkA rtA at z; omega) (by omega) (by omega) (by omega) f2 q1.1.2.2.2.1 q1.1.2.2.2.2, ?_, RTc.ag m a E none _ _ _ ga o2 ag8⟩
      have rx2 : RXn P num c E h2 x n l := RXn.ag x n l rx (fun a m i1 _ _ => k4.2.2.1 _ _ (by omega)) (fun m _ _ => k4.2.2.1 _ _ (by omega))
      have rx6 : RXn P num c E h6 x n l := RXn.ag x n l rx2 (fun a m i1 i2 i3 => g6.2.2.1 _ _ (by unfold tsA ndA; omega)) (fun m _ _ => g6.2.2.1 _ _ (by unfold tsA ndA; omega))
      exact RXn.ag x n l rx6 (fun a m i1 _ _ => f3.2.2.1 _ _ (by omega)) (fun m _ _ => f3.2.2.1 _ _ (by omega))
