/-! ===== THE REFERENCE'S TYPER: if ===== -/
theorem blkbad {rc : Nat → List Value → pH → Option (Option Value × pH)} {N p : Nat} {v d : Int32} {h : pH} (hN : 0 < N) (hs : Sg h) (hp : p < 2 ^ 31) (h58 : rd h 138 58 = Int32.ofNat p) : fX12_checkBlock N rc 138 v d h = some (wr h 138 62 (rd h 138 62)) := by
  unfold fX12_checkBlock
  obtain ⟨N', hN'⟩ : ∃ N', N = N' + 1 := ⟨N - 1, by omega⟩
  rw [if_pos (o_138 hs), g_138_62 hs, Option.bind_some]
  have := blk_bad (rc := rc) (N := N) (k := N') (d := d) (hd := rd h 138 62) (v := v) hs hp h58
  rw [← hN'] at this
  exact this
theorem RSc.same62 {P : Pgm} {D : List Int32 → Prop} {num : List Int32 → Nat} {E : EnvV} {h : pH} (hs : Sg h) (q : RSc P D num E h) : RSc P D num E (wr h 138 62 (rd h 138 62)) := by
  obtain ⟨q1, q2, q3, q4, q5⟩ := q
  refine ⟨by rw [w_138_62 hs]; exact q1, q2, fun i x hx => ?_, by rw [rd_wr_ne _ _ (by omega)]; exact q4, fun i hi => ?_⟩
  · obtain ⟨a1, a2, a3, a4⟩ := q3 i x hx
    exact ⟨a1, by rw [rd_wr_ne _ _ (by omega)]; exact a2, by rw [rd_wr_ne _ _ (by omega)]; exact a3, a4⟩
  · obtain ⟨b, b1, b2⟩ := q5 i hi
    exact ⟨b, by rw [rd_wr_ne _ _ (by omega)]; exact b1, b2⟩
/-- joined with itself, where sets have grown -/
theorem RSc.join_grow {P : Pgm} {D : List Int32 → Prop} {num : List Int32 → Nat} {E E1 : EnvV} {h : pH} (gw : E.grow E1) (q : RSc P D num (E.join (E.cut E1) E) h) : RSc P D num E h := by
  obtain ⟨q1, q2, q3, q4, q5⟩ := q
  have hdead : (E1.2.1 && E.2.1) = E.2.1 := by
    cases hd : E.2.1 with
    | true => rw [gw.1 hd]; rfl
    | false => rw [Bool.and_false]
  refine ⟨q1, q2, q3, by rw [← hdead]; exact q4, fun i hi => ?_⟩
  obtain ⟨b, b1, b2⟩ := q5 i hi
  refine ⟨b, b1, fun z => ?_⟩
  have b3 := b2 (by show (E1.2.1 && E.2.1) = false; rw [hdead]; exact z)
  have b3 : b = ((E.cut E1).isS i && E.isS i) := b3
  rw [b3]
  have hE : E.isS i = E.2.2 i := by unfold EnvV.isS; rw [z, Bool.false_or]
  rw [hE]
  cases he : E.2.2 i with
  | false => rw [Bool.and_false]
  | true =>
    have : E1.isS i = true := gw.2 i hi (by rw [hE]; exact he)
    have : (E.cut E1).isS i = true := this
    rw [this]; rfl
theorem EnvV.join_cut (E E1 E2 : EnvV) : E.join (E.cut E1) (E.cut E2) = E.join E1 E2 := rfl
theorem one_if {S : Tks} {P : Pgm} {D : List Int32 → Prop} {num : List Int32 → Nat} {c mt mth N m s p n l d j ff : Nat} {E : EnvV} {x a b : Tr} {h : pH} (hN : 5000 ≤ N) (ha : Acy P) (hc : c < P.n) (p3 : P.P3) (hff : ff = 1 ∨ (ff = 0 ∧ b = nl)) (ox : Ox S x) (ga : GK S m a) (gb : GK S m b) (pa : PlB a) (pb : PlB b) (RBa : RunR P D num c mt mth N a) (RBb : RunR P D num c mt mth N b) (q : RSt P D num c mth E h) (rn : RN P D num h x n l) (rb : RBn P D num h a none (s + 1) (n + sz x) (l + ls x)) (rbb : RBn P D num h b none (s + 1 + stB a) (n + sz x + szB a) (l + ls x + lsB a)) (st : St h s 1 p n (Int32.ofNat (n + sz x - 1))) (h155 : rd h 155 s = Int32.ofNat ff) (h159 : rd h 159 s = fsB a (s + 1)) (h160 : rd h 160 s = fsB b (s + 1 + stB a)) (b1 : s + 1 + stB a + stB b ≤ 1600) (b2 : n + sz x + szB a + szB b ≤ 3200) (b3 : l + ls x + lsB a + lsB b ≤ 3200) (b4 : d + 1 + dp a ≤ 31) (b4' : d + 1 + dp b ≤ 31) (b5 : E.1.length + nv a ≤ 999) (b5' : E.1.length + nv b ≤ 999) (b6 : 3 * dp a + 2 ≤ j) (b6' : 3 * dp b + 2 ≤ j) : OnR P D num c mth d s (s + 1 + stB a + stB b) n (n + sz x + szB a + szB b) (fun _ h1 => RXn P num c E h1 x n l ∧ RTc P num c mt h1 a E none (s + 1) (n + sz x) (l + ls x) ∧ RTc P num c mt h1 b E none (s + 1 + stB a) (n + sz x + szB a) (l + ls x + lsB a)) (sB (oS p (P.bcE c E x)) fun _ => sB (P.chk c mt a E) fun E1 => if ff = 1 then sB (P.chk c mt b E) fun E2 => .inr (E.join E1 E2) else .inr E) (fX12_checkOne N (gX12_checkWhile N (j + 1 + 1)) 138 (Int32.ofNat s) (Int32.ofNat d) h) E h := by
  have A := one_cond (S := S) (rc := gX12_checkWhile N (j + 1 + 1)) (N := N) (d0 := 0) (d := Int32.ofNat d) (kk := 1) hN ha hc p3 ox q rn (by omega) (by omega) (by omega) (Or.inl rfl) st
  cases hb : P.bcE c E x with
  | none =>
    rw [hb] at A
    obtain ⟨h1, e1, g⟩ := A
    exact q.bad (g.mono (fun a k z => z.mono (Nat.le_refl _) (by omega))) e1
  | some E0 =>
    rw [hb] at A
    obtain ⟨h1, e1, q1, rx, g⟩ := A
    have hs1 := q1.1.1.1.1
    have hel := q1.1.2.1.2.1
    have gt : Chg (tsA d s (s + 1 + stB a + stB b) n (n + sz x + szB a + szB b)) h h1 := g.mono (fun a k z => Or.inl (z.mono (Nat.le_refl _) (by omega)))
    obtain ⟨h2, k1, k2, k3, k4⟩ := RSc.keepSets (N := N) (v := 3 * d) (by omega) (by omega) hs1 q1.1.2.1
    have hs2 : Sg h2 := hs1.of k4.1
    have q2 : RSt P D num c mth E h2 := q1.sc k4 (fun a k z => by unfold rkA rtA at z; omega) (by omega) (by omega) (by omega) k2 q1.1.2.2.2.1 q1.1.2.2.2.2
    have g12 : Chg (tsA d s (s + 1 + stB a + stB b) n (n + sz x + szB a + szB b)) h1 h2 := k4.mono (fun a k z => by unfold tsA; omega)
    have ag2 : ∀ {t t' v v' y y'}, AgT h1 h2 t t' v v' y y' := fun {t t' v v' y y'} => ⟨fun a k i1 i2 _ _ => k4.2.2.1 _ _ (by omega), fun k => k4.2.2.1 _ _ (by omega), fun a m i1 _ _ => k4.2.2.1 _ _ (by omega), fun m => k4.2.2.1 _ _ (by omega)⟩
    have ag1 : ∀ {t t' v v' y y'}, n + sz x ≤ v → AgT h h1 t t' v v' y y' := fun {t t' v v' y y'} hv => AgT.of (d := 0) (s0 := 0) (s1 := 0) (g.mono (fun a k z => ndA.ts z)) (Or.inr (by omega)) (Or.inr hv)
    have rb2 : RBn P D num h2 a none (s + 1) (n + sz x) (l + ls x) := RBn.ag m a _ _ _ _ ga (RBn.ag m a _ _ _ _ ga rb (ag1 (Nat.le_refl _))) ag2
    have rbb2 : RBn P D num h2 b none (s + 1 + stB a) (n + sz x + szB a) (l + ls x + lsB a) := RBn.ag m b _ _ _ _ gb (RBn.ag m b _ _ _ _ gb rbb (ag1 (by omega))) ag2
    have r2 : ∀ a', 151 ≤ a' → a' ≤ 161 → rd h2 a' s = rd h a' s := fun a' i1 i2 => by rw [k4.2.2.1 _ _ (by omega), g.2.2.1 _ _ (by unfold ndA; omega)]
    have r159 : rd h2 159 s = fsB a (s + 1) := by rw [r2 _ (by omega) (by omega)]; exact h159
    have rx2 : RXn P num c E h2 x n l := RXn.ag x n l rx (fun a m i1 _ _ => k4.2.2.1 _ _ (by omega)) (fun m _ _ => k4.2.2.1 _ _ (by omega))
    obtain ⟨h6, e6, g6, o6⟩ := RunR.block (S := S) (N := N) (d := d + 1) (j := j) hN ga pa RBa q2 rb2 (by omega) (by omega) (by omega) b4 b5 b6
    have hs6 : Sg h6 := hs2.of g6.1
    have g26 : Chg (tsA d s (s + 1 + stB a + stB b) n (n + sz x + szB a + szB b)) h2 h6 := g6.mono (fun a k z => z.mono (by omega) (by omega) (by omega) (by omega) (by omega))
    have kp6 : RKp E E.1.length (3 * d) h6 := k3.chg g6 (fun k i1 i2 => by unfold tsA ndA; omega)
    -- behind the first block: some Ea
    have swp : ∀ Ea, RSc P D num Ea h6 → Ea.1 = E.1 → ∃ h11, RSc P D num E h11 ∧ RKp Ea E.1.length (3 * d + 1) h11 ∧ Chg (fun a k => (a = 181 ∧ 1000 * (3 * d + 1) ≤ k ∧ k < 1000 * (3 * d + 1) + 1000) ∨ a = 180 ∨ (a = 138 ∧ k = 66)) h6 h11 ∧ fX12_checkOne N (gX12_checkWhile N (j + 1 + 1)) 138 (Int32.ofNat s) (Int32.ofNat d) h = (if Int32.ofNat ff = (1 : Int32) then (fX12_checkBlock N (gX12_checkWhile N j) 138 (fsB b (s + 1 + stB a)) (Int32.ofNat (d + 1)) h11).bind fun h18 => fX12_joinSets N 138 (Int32.ofNat (3 * d + 1)) (kI Ea.2.1) h18 else fX12_joinSets N 138 (Int32.ofNat (3 * d + 1)) (kI Ea.2.1) h11) := by
      intro Ea qa ea
      obtain ⟨h9, h10, h11, c1, c2, c3, c4, c5, c6⟩ := RSc.swap (N := N) (d := d) (by omega) (by omega) hs6 qa ea kp6
      have hs11 : Sg h11 := hs6.of c6.1
      refine ⟨h11, c4, c5, c6, ?_⟩
      have r11 : ∀ a', 151 ≤ a' → a' ≤ 160 → a' ≠ 156 → a' ≠ 158 → rd h11 a' s = rd h a' s := fun a' i1 i2 i3 i4 => by rw [c6.2.2.1 _ _ (by omega), g6.2.2.1 _ _ (by unfold tsA ndA; omega), r2 _ i1 (by omega)]
      rw [e1, if_pos rfl, rcIf]
      unfold fX12_checkIf fX12_checkIf_75
      rw [if_pos (o_138 hs1), g_138_66 hs1, Option.bind_some, q1.1.2.1.2.2.2.1, i_3mul, k1, Option.bind_some, R_138_34 hs2, Option.bind_some, L_159 hs2 (by omega), Option.bind_some, r159, if_pos (o_138 hs2), Option.bind_some, i_add1, rcB, e6, Option.bind_some, g_138_66 hs6, Option.bind_some, qa.2.2.2.1, c1, Option.bind_some, c2, Option.bind_some, c3, Option.bind_some, R_138_30 hs11, Option.bind_some, L_155 hs11 (by omega), Option.bind_some, r11 _ (by omega) (by omega) (by omega) (by omega), h155, R_138_35 hs11, Option.bind_some, L_160 hs11 (by omega), Option.bind_some, r11 _ (by omega) (by omega) (by omega) (by omega), h160, if_pos (o_138 hs11), Option.bind_some, rcB, i_add1, ob_some]
      congr 1
      exact congrArg _ (funext fun h18 => ob_some _)
    have jn : ∀ Ea E2 h18, RSc P D num E2 h18 → E2.1 = E.1 → RKp Ea E.1.length (3 * d + 1) h18 → Sg h18 → ∃ h19, fX12_joinSets N 138 (Int32.ofNat (3 * d + 1)) (kI Ea.2.1) h18 = some h19 ∧ RSc P D num (E.join Ea E2) h19 ∧ Chg (fun a k => a = 180 ∨ (a = 138 ∧ k = 66)) h18 h19 := fun Ea E2 h18 i1 i2 i3 i4 => RSc.joinSets (N := N) (by omega) (by omega) i4 i1 i2 i3
    have small : ∀ {u v : pH}, Chg (fun a k => a = 180 ∨ (a = 138 ∧ k = 66)) u v → Chg (tsA d s (s + 1 + stB a + stB b) n (n + sz x + szB a + szB b)) u v := fun z => z.mono (fun a k z => by unfold tsA; omega)
    have small2 : ∀ {u v : pH}, Chg (fun a k => (a = 181 ∧ 1000 * (3 * d + 1) ≤ k ∧ k < 1000 * (3 * d + 1) + 1000) ∨ a = 180 ∨ (a = 138 ∧ k = 66)) u v → Chg (tsA d s (s + 1 + stB a + stB b) n (n + sz x + szB a + szB b)) u v := fun z => z.mono (fun a k z => by unfold tsA; omega)
    show OnR P D num c mth d s (s + 1 + stB a + stB b) n (n + sz x + szB a + szB b) _ (sB (P.chk c mt a E) fun E1 => if ff = 1 then sB (P.chk c mt b E) fun E2 => .inr (E.join E1 E2) else .inr E) _ E h
    cases hr : P.chk c mt a E with
    | inl p' =>
      have hp' := Pgm.chk_place m a E p' ga pa hr
      rw [hr] at o6
      obtain ⟨o1, E1, o2, o3⟩ := o6
      obtain ⟨h11, s1, s2, s3, s4⟩ := swp E1 o2 o3
      have hs11 : Sg h11 := hs6.of s3.1
      have r58 : rd h11 138 58 = Int32.ofNat p' := by rw [s3.2.2.1 _ _ (by omega)]; exact o1
      rw [s4]
      rcases hff with rfl | ⟨rfl, _⟩
      · rw [if_pos (show Int32.ofNat 1 = 1 from rfl), blkbad (by omega) hs11 (by omega) r58, Option.bind_some]
        have gw : Chg (fun a k => a = 138 ∧ k = 62) h11 (wr h11 138 62 (rd h11 138 62)) := Chg.wr _ _ _ _ ⟨rfl, rfl⟩
        obtain ⟨h19, t1, t2, t3⟩ := jn E1 E _ (s1.same62 hs11) rfl (s2.chg gw (fun k _ _ => by omega)) (hs11.wr 138 62 _)
        exact ⟨h19, t1, ((gt.trans g12).trans (g26.trans (small2 s3))).trans ((gw.mono (fun a k z => by unfold tsA; omega)).trans (small t3)), by rw [t3.2.2.1 _ _ (by omega), rd_wr_ne _ _ (by omega)]; exact r58, _, t2, Pfx.same rfl⟩
      · rw [if_neg (show ¬ Int32.ofNat 0 = 1 by decide)]
        obtain ⟨h19, t1, t2, t3⟩ := jn E1 E _ s1 rfl s2 hs11
        exact ⟨h19, t1, ((gt.trans g12).trans (g26.trans (small2 s3))).trans (small t3), by rw [t3.2.2.1 _ _ (by omega)]; exact r58, _, t2, Pfx.same rfl⟩
    | inr E1 =>
      rw [hr] at o6
      obtain ⟨o1, o2⟩ := o6
      obtain ⟨h11, s1, s2, s3, s4⟩ := swp (E.cut E1) o1.1.2.1 rfl
      have hs11 : Sg h11 := hs6.of s3.1
      have q11 : RSt P D num c mth E h11 := o1.sc s3 (fun a k z => by unfold rkA rtA at z; omega) (by omega) (by omega) (by omega) s1 q1.1.2.2.2.1 q1.1.2.2.2.2
      have ag11 : ∀ {t t' v v' y y'}, AgT h6 h11 t t' v v' y y' := fun {t t' v v' y y'} => ⟨fun a k i1 i2 _ _ => s3.2.2.1 _ _ (by omega), fun k => s3.2.2.1 _ _ (by omega), fun a m i1 _ _ => s3.2.2.1 _ _ (by omega), fun m => s3.2.2.1 _ _ (by omega)⟩
      have rx6 : RXn P num c E h6 x n l := RXn.ag x n l rx2 (fun a m i1 i2 i3 => g6.2.2.1 _ _ (by unfold tsA ndA; omega)) (fun m _ _ => g6.2.2.1 _ _ (by unfold tsA ndA; omega))
      have rx11 : RXn P num c E h11 x n l := RXn.ag x n l rx6 (fun a m i1 _ _ => s3.2.2.1 _ _ (by omega)) (fun m _ _ => s3.2.2.1 _ _ (by omega))
      have rta11 : RTc P num c mt h11 a E none (s + 1) (n + sz x) (l + ls x) := RTc.ag m a E none _ _ _ ga o2 ag11
      have rbb11 : RBn P D num h11 b none (s + 1 + stB a) (n + sz x + szB a) (l + ls x + lsB a) := RBn.ag m b _ _ _ _ gb (RBn.ag m b _ _ _ _ gb rbb2 (AgT.of g6 (Or.inr (Nat.le_refl _)) (Or.inr (Nat.le_refl _)))) ag11
      rw [s4]
      rcases hff with rfl | ⟨rfl, hbn⟩
      · rw [if_pos (show Int32.ofNat 1 = 1 from rfl)]
        show OnR P D num c mth d s (s + 1 + stB a + stB b) n (n + sz x + szB a + szB b) _ (sB (P.chk c mt b E) fun E2 => .inr (E.join E1 E2)) _ E h
        obtain ⟨h18, e18, g18, o18⟩ := RunR.block (S := S) (N := N) (d := d + 1) (j := j) hN gb pb RBb q11 rbb11 b1 b2 b3 b4' b5' b6'
        have hs18 : Sg h18 := hs11.of g18.1
        have gA : Chg (tsA d s (s + 1 + stB a + stB b) n (n + sz x + szB a + szB b)) h11 h18 := g18.mono (fun a k z => z.mono (by omega) (by omega) (Nat.le_refl _) (by omega) (Nat.le_refl _))
        have kp18 : RKp (E.cut E1) E.1.length (3 * d + 1) h18 := s2.chg g18 (fun k i1 i2 => by unfold tsA ndA; omega)
        rw [e18, Option.bind_some]
        cases hr2 : P.chk c mt b E with
        | inl p' =>
          rw [hr2] at o18
          obtain ⟨v1, E2, v2, v3⟩ := o18
          obtain ⟨h19, t1, t2, t3⟩ := jn (E.cut E1) E2 _ v2 v3 kp18 hs18
          exact ⟨h19, t1, (((gt.trans g12).trans (g26.trans (small2 s3))).trans gA).trans (small t3), by rw [t3.2.2.1 _ _ (by omega)]; exact v1, _, t2, Pfx.same rfl⟩
        | inr E2 =>
          rw [hr2] at o18
          obtain ⟨v1, v2⟩ := o18
          obtain ⟨h19, t1, t2, t3⟩ := jn (E.cut E1) (E.cut E2) _ v1.1.2.1 rfl kp18 hs18
          rw [EnvV.join_cut] at t2
          have ag19 : ∀ {t t' v v' y y'}, AgT h18 h19 t t' v v' y y' := fun {t t' v v' y y'} => ⟨fun a k i1 i2 _ _ => t3.2.2.1 _ _ (by omega), fun k => t3.2.2.1 _ _ (by omega), fun a m i1 _ _ => t3.2.2.1 _ _ (by omega), fun m => t3.2.2.1 _ _ (by omega)⟩
          refine ⟨h19, t1, (((gt.trans g12).trans (g26.trans (small2 s3))).trans gA).trans (small t3), v1.sc t3 (fun a k z => by unfold rkA rtA at z; omega) (by omega) (by omega) (by omega) t2 (EnvV.one_same rfl q1.1.2.2.2.1) (EnvV.no3_same rfl q1.1.2.2.2.2), ?_, RTc.ag m a E none _ _ _ ga (RTc.ag m a E none _ _ _ ga rta11 (AgT.of g18 (Or.inl (Nat.le_refl _)) (Or.inl (Nat.le_refl _)))) ag19, RTc.ag m b E none _ _ _ gb v2 ag19⟩
          have rx18 : RXn P num c E h18 x n l := RXn.ag x n l rx11 (fun a m i1 i2 i3 => g18.2.2.1 _ _ (by unfold tsA ndA; omega)) (fun m _ _ => g18.2.2.1 _ _ (by unfold tsA ndA; omega))
          exact RXn.ag x n l rx18 (fun a m i1 _ _ => t3.2.2.1 _ _ (by omega)) (fun m _ _ => t3.2.2.1 _ _ (by omega))
      · rw [if_neg (show ¬ Int32.ofNat 0 = 1 by decide)]
        obtain ⟨h19, t1, t2, t3⟩ := jn (E.cut E1) E _ s1 rfl s2 hs11
        have t4 := t2.join_grow (Pgm.chk_grow m a E E1 ga hr)
        have ag19 : ∀ {t t' v v' y y'}, AgT h11 h19 t t' v v' y y' := fun {t t' v v' y y'} => ⟨fun a k i1 i2 _ _ => t3.2.2.1 _ _ (by omega), fun k => t3.2.2.1 _ _ (by omega), fun a m i1 _ _ => t3.2.2.1 _ _ (by omega), fun m => t3.2.2.1 _ _ (by omega)⟩
        refine ⟨h19, t1, ((gt.trans g12).trans (g26.trans (small2 s3))).trans (small t3), q11.sc t3 (fun a k z => by unfold rkA rtA at z; omega) (by omega) (by omega) (by omega) t4 q1.1.2.2.2.1 q1.1.2.2.2.2, RXn.ag x n l rx11 (fun a m i1 _ _ => t3.2.2.1 _ _ (by omega)) (fun m _ _ => t3.2.2.1 _ _ (by omega)), RTc.ag m a E none _ _ _ ga rta11 ag19, ?_⟩
        rw [hbn]
        trivial
