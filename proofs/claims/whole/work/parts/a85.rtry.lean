/-! ===== THE REFERENCE'S TYPER: try, and all rows of statements ===== -/
theorem one_try {S : Tks} {P : Pgm} {D : List Int32 → Prop} {num : List Int32 → Nat} {c mt mth N m s p n l d j cw w : Nat} {E : EnvV} {a b : Tr} {h : pH} (hN : 5000 ≤ N) (ga : GK S m a) (gb : GK S m b) (pa : PlB a) (pb : PlB b) (RBa : RunR P D num c mt mth N a) (RBb : RunR P D num c mt mth N b) (q : RSt P D num c mth E h) (rb : RBn P D num h a none (s + 1) n l) (rbb : RBn P D num h b none (s + 1 + stB a) (n + szB a) (l + lsB a)) (st : St h s 5 p n (-1)) (hcw : rd h 156 s = tyM num P (4 + cw) ∧ D (P.1 cw)) (hw : rd h 157 s = Int32.ofNat (num (P.1 w)) ∧ D (P.1 w)) (h159 : rd h 159 s = fsB a (s + 1)) (h160 : rd h 160 s = fsB b (s + 1 + stB a)) (hp0 : p ≤ 3000) (b1 : s + 1 + stB a + stB b ≤ 1600) (b2 : n + szB a + szB b ≤ 3200) (b3 : l + lsB a + lsB b ≤ 3200) (b4 : d + 1 + dp a ≤ 31) (b4' : d + 1 + dp b ≤ 31) (b5 : E.1.length + nv a ≤ 999) (b5' : E.1.length + 1 + nv b ≤ 999) (b6 : 3 * dp a + 2 ≤ j) (b6' : 3 * dp b + 2 ≤ j) : OnR P D num c mth d s (s + 1 + stB a + stB b) n (n + szB a + szB b) (fun _ h1 => RTc P num c mt h1 a E none (s + 1) n l ∧ ∀ d' E0, P.fnd (P.1 cw) = some d' → P.ctE E cw w = some E0 → rd h1 156 s = Int32.ofNat (10 + d') ∧ rd h1 158 s = Int32.ofNat E.1.length ∧ RTc P num c mt h1 b E0 none (s + 1 + stB a) (n + szB a) (l + lsB a)) (sB (P.chk c mt a E) fun E1 => sB (oS p (P.ctE E cw w)) fun E0 => sB (P.chk c mt b E0) fun E2 => .inr (E.join E1 E2)) (fX12_checkOne N (gX12_checkWhile N (j + 1 + 1)) 138 (Int32.ofNat s) (Int32.ofNat d) h) E h := by
  have hs := q.1.1.1.1
  have hn4 := q.1.1.1.n400
  have hel := q.1.2.1.2.1
  obtain ⟨st1, st2, st3, st4⟩ := st
  obtain ⟨h2, k1, k2, k3, k4⟩ := RSc.keepSets (N := N) (v := 3 * d) (by omega) (by omega) hs q.1.2.1
  have hs2 : Sg h2 := hs.of k4.1
  have q2 : RSt P D num c mth E h2 := q.sc k4 (fun a k z => by unfold rkA rtA at z; omega) (by omega) (by omega) (by omega) k2 q.1.2.2.2.1 q.1.2.2.2.2
  have g02 : Chg (tsA d s (s + 1 + stB a + stB b) n (n + szB a + szB b)) h h2 := k4.mono (fun a k z => by unfold tsA; omega)
  have ag2 : ∀ {t t' v v' y y'}, AgT h h2 t t' v v' y y' := fun {t t' v v' y y'} => ⟨fun a k i1 i2 _ _ => k4.2.2.1 _ _ (by omega), fun k => k4.2.2.1 _ _ (by omega), fun a m i1 _ _ => k4.2.2.1 _ _ (by omega), fun m => k4.2.2.1 _ _ (by omega)⟩
  have r2 : ∀ a', 151 ≤ a' → a' ≤ 161 → rd h2 a' s = rd h a' s := fun a' i1 i2 => k4.2.2.1 _ _ (by omega)
  have r159 : rd h2 159 s = fsB a (s + 1) := by rw [r2 _ (by omega) (by omega)]; exact h159
  obtain ⟨h6, e6, g6, o6⟩ := RunR.block (S := S) (N := N) (d := d + 1) (j := j) hN ga pa RBa q2 (RBn.ag m a _ _ _ _ ga rb ag2) (by omega) (by omega) (by omega) b4 b5 b6
  have hs6 : Sg h6 := hs2.of g6.1
  have g26 : Chg (tsA d s (s + 1 + stB a + stB b) n (n + szB a + szB b)) h2 h6 := g6.mono (fun a k z => z.mono (by omega) (by omega) (by omega) (by omega) (by omega))
  have kp6 : RKp E E.1.length (3 * d) h6 := k3.chg g6 (fun k i1 i2 => by unfold tsA ndA; omega)
  have r6 : ∀ a', 151 ≤ a' → a' ≤ 160 → rd h6 a' s = rd h a' s := fun a' i1 i2 => by rw [g6.2.2.1 _ _ (by unfold tsA ndA; omega), r2 _ i1 (by omega)]
  have pre0 : fX12_checkOne N (gX12_checkWhile N (j + 1 + 1)) 138 (Int32.ofNat s) (Int32.ofNat d) h = fX12_checkTry N (gX12_checkWhile N (j + 1)) 138 (Int32.ofNat s) (Int32.ofNat d) h := by
    unfold fX12_checkOne
    rw [if_pos (o_138 hs), R_138_26 hs, Option.bind_some, L_151 hs (by omega), Option.bind_some, st1, R_138_29 hs, Option.bind_some, L_154 hs (by omega), Option.bind_some, st4, if_pos (show (-1 : Int32) < 0 by decide)]
    unfold fX12_checkOne_36 fX12_checkOne_41
    rw [e12_tov0 hs (by omega) st4, Option.bind_some]
    show fX12_checkOne_366 N (gX12_checkWhile N (j + 1 + 1)) 138 (Int32.ofNat s) (Int32.ofNat d) 5 1 h = _
    unfold fX12_checkOne_366
    rw [if_neg (show ¬ (1 : Int32) = 0 by decide), if_neg (show ¬ (5 : Int32) = 3 by decide), if_neg (show ¬ (5 : Int32) = 4 by decide), if_neg (show ¬ (5 : Int32) = 1 by decide), if_neg (show ¬ (5 : Int32) = 2 by decide), if_pos rfl, if_pos (o_138 hs), Option.bind_some, ob_some, rcT]
  have pre : fX12_checkTry N (gX12_checkWhile N (j + 1)) 138 (Int32.ofNat s) (Int32.ofNat d) h = if rd h6 138 58 < 0 then ((getI h6 138 12 66).bind fun t12 => (fX12_keepSets N 138 (Int32.ofNat (3 * d) + (1 : Int32)) h6).bind fun h13 => (putZ h13 138 12 66 (kI E.2.1)).bind fun h14 => (fX12_backSets N 138 (Int32.ofNat (3 * d)) h14).bind fun h15 => (getR h15 138 12 31).bind fun t16 => (ldI h15 t16 (Int32.ofNat s)).bind fun t17 => (fX12_meant N 138 t17 h15).bind fun q18 => if q18.1 = (5 : Int32) then fX12_checkTry_91 N (gX12_checkWhile N (j + 1)) 138 (Int32.ofNat s) q18.2 else ((getR q18.2 138 12 32).bind fun t20 => (ldI q18.2 t20 (Int32.ofNat s)).bind fun t21 => (fX12_variableOf N 138 t21 q18.2).bind fun q22 => if q22.1 < 0 then ((getR q22.2 138 12 31).bind fun t24 => (stI q22.2 t24 (Int32.ofNat s) q18.1).bind fun h25 => (getR h25 138 12 33).bind fun t26 => (getI h25 138 12 62).bind fun t27 => (stI h25 t26 (Int32.ofNat s) t27).bind fun h28 => (getR h28 138 12 32).bind fun t29 => (ldI h28 t29 (Int32.ofNat s)).bind fun t30 => (fX12_addVariable N 138 t30 q18.1 (1 : Int32) h28).bind fun h31 => (getR h31 138 12 35).bind fun t32 => (ldI h31 t32 (Int32.ofNat s)).bind fun t33 => (if isO h31 138 12 = true then some () else none).bind fun _ => (rcV (gX12_checkWhile N (j + 1)) 282 [.ref 138, .int t33, .int (Int32.ofNat (d + 1))] h31).bind fun h35 => (getI h35 138 12 62).bind fun t36 => (putI h35 138 12 62 (t36 - (1 : Int32))).bind fun h37 => (fX12_joinSets N 138 (Int32.ofNat (3 * d) + (1 : Int32)) t12 h37).bind fun h38 => some h38) else fX12_checkTry_91 N (gX12_checkWhile N (j + 1)) 138 (Int32.ofNat s) q22.2)) else some h6 := by
    unfold fX12_checkTry
    rw [if_pos (o_138 hs), g_138_66 hs, Option.bind_some, q.1.2.1.2.2.2.1, i_3mul, k1, Option.bind_some, R_138_34 hs2, Option.bind_some, L_159 hs2 (by omega), Option.bind_some, r159, if_pos (o_138 hs2), Option.bind_some, i_add1, rcB, e6, Option.bind_some, g_138_58 hs6, Option.bind_some]
  rw [pre0, pre]
  have small : ∀ {u v : pH}, Chg (fun a k => a = 180 ∨ (a = 138 ∧ k = 66)) u v → Chg (tsA d s (s + 1 + stB a + stB b) n (n + szB a + szB b)) u v := fun z => z.mono (fun a k z => by unfold tsA; omega)
  have small2 : ∀ {u v : pH}, Chg (fun a k => (a = 181 ∧ 1000 * (3 * d + 1) ≤ k ∧ k < 1000 * (3 * d + 1) + 1000) ∨ a = 180 ∨ (a = 138 ∧ k = 66)) u v → Chg (tsA d s (s + 1 + stB a + stB b) n (n + szB a + szB b)) u v := fun z => z.mono (fun a k z => by unfold tsA; omega)
  cases hr : P.chk c mt a E with
  | inl p' =>
    have hp' := Pgm.chk_place m a E p' ga pa hr
    rw [hr] at o6
    obtain ⟨o1, E1, o2, o3⟩ := o6
    rw [o1, if_neg (i_nneg (by omega))]
    exact ⟨h6, rfl, g02.trans g26, o1, E1, o2, Pfx.same o3⟩
  | inr E1 =>
    rw [hr] at o6
    obtain ⟨o1, o2⟩ := o6
    obtain ⟨h9, h10, h11, c1, c2, c3, c4, c5, c6⟩ := RSc.swap (E := E) (N := N) (d := d) (by omega) (by omega) hs6 o1.1.2.1 rfl kp6
    have hs11 : Sg h11 := hs6.of c6.1
    have q11 : RSt P D num c mth E h11 := o1.sc c6 (fun a k z => by unfold rkA rtA at z; omega) (by omega) (by omega) (by omega) c4 q.1.2.2.2.1 q.1.2.2.2.2
    have ag11 : ∀ {t t' v v' y y'}, AgT h6 h11 t t' v v' y y' := fun {t t' v v' y y'} => ⟨fun a k i1 i2 _ _ => c6.2.2.1 _ _ (by omega), fun k => c6.2.2.1 _ _ (by omega), fun a m i1 _ _ => c6.2.2.1 _ _ (by omega), fun m => c6.2.2.1 _ _ (by omega)⟩
    have r11 : ∀ a', 151 ≤ a' → a' ≤ 160 → rd h11 a' s = rd h a' s := fun a' i1 i2 => by rw [c6.2.2.1 _ _ (by omega), r6 _ i1 i2]
    have G11 := (g02.trans g26).trans (small2 c6)
    have rta11 : RTc P num c mt h11 a E none (s + 1) n l := RTc.ag m a E none _ _ _ ga o2 ag11
    have rt := q11.1.1.1
    have hrt0 : P.fnd (P.1 cw) = none → P.rt (4 + cw) = 5 := by
      intro z
      unfold Pgm.rt
      rw [if_neg (by omega), show 4 + cw - 4 = cw by omega, z]
    have hrt1 : ∀ d', P.fnd (P.1 cw) = some d' → P.rt (4 + cw) = 10 + d' := by
      intro d' z
      unfold Pgm.rt
      rw [if_neg (by omega), show 4 + cw - 4 = cw by omega, z]
    have hul := tOk_lt hn4 (P.rt_ok (y := 4 + cw))
    have mn := rt.meant (N := N) (y := 4 + cw) (by omega) (Or.inr (by rw [show 4 + cw - 4 = cw by omega]; exact hcw.2))
    have vo := q11.1.2.1.variableOf (N := N) (by omega) hs11 rt.2.1 rt.2.2.1 q11.1.2.2.2.1 hw.2
    have bad : fX12_checkTry_91 N (gX12_checkWhile N (j + 1)) 138 (Int32.ofNat s) h11 = some (wr h11 138 58 (Int32.ofNat p)) := by
      unfold fX12_checkTry_91
      rw [R_138_27 hs11, Option.bind_some, L_152 hs11 (by omega), Option.bind_some, r11 _ (by omega) (by omega), st2, e12_isBad hs11 (by rw [q11.2.2]; decide), Option.bind_some]
    have badR : OnR P D num c mth d s (s + 1 + stB a + stB b) n (n + szB a + szB b) (fun _ h1 => RTc P num c mt h1 a E none (s + 1) n l ∧ ∀ d' E0, P.fnd (P.1 cw) = some d' → P.ctE E cw w = some E0 → rd h1 156 s = Int32.ofNat (10 + d') ∧ rd h1 158 s = Int32.ofNat E.1.length ∧ RTc P num c mt h1 b E0 none (s + 1 + stB a) (n + szB a) (l + lsB a)) (.inl p) (some (wr h11 138 58 (Int32.ofNat p))) E h := by
      have gw : Chg (fun a k => a = 138 ∧ k = 58) h11 (wr h11 138 58 (Int32.ofNat p)) := Chg.wr _ _ _ _ ⟨rfl, rfl⟩
      exact ⟨_, rfl, G11.trans (gw.mono (fun a k z => by unfold tsA; omega)), w_138_58 hs11 _, E, c4.chg gw (fun a k z => by omega), Pfx.refl E⟩
    rw [o1.2.2, if_pos (show (-1 : Int32) < 0 by decide), g_138_66 hs6, Option.bind_some, o1.1.2.1.2.2.2.1, c1, Option.bind_some, c2, Option.bind_some, c3, Option.bind_some, R_138_31 hs11, Option.bind_some, L_156 hs11 (by omega), Option.bind_some, r11 _ (by omega) (by omega), hcw.1, mn, Option.bind_some]
    dsimp only
    rw [R_138_32 hs11, Option.bind_some, L_157 hs11 (by omega), Option.bind_some, r11 _ (by omega) (by omega), hw.1, vo, Option.bind_some]
    dsimp only
    rw [i_neg_oI (fun e he => by have := (EnvV.fnd_lt he).1; omega), show (5 : Int32) = Int32.ofNat 5 from rfl, ifEq (by omega) (by omega), bad]
    show OnR P D num c mth d s (s + 1 + stB a + stB b) n (n + szB a + szB b) _ (sB (oS p (P.ctE E cw w)) fun E0 => sB (P.chk c mt b E0) fun E2 => .inr (E.join E1 E2)) _ E h
    rcases hf : P.fnd (P.1 cw) with _ | dd
    · have h5 : P.rt (4 + cw) = 5 := hrt0 hf
      have hct : P.ctE E cw w = none := by unfold Pgm.ctE; rw [hf]; rfl
      rw [if_pos h5, hct]
      rw [hf] at badR
      exact badR
    · have hdd := (Pgm.fnd_lt hf).1
      have h10d : P.rt (4 + cw) = 10 + dd := hrt1 dd hf
      rw [if_neg (by omega), h10d]
      rcases hfw : E.fnd (P.1 w) with _ | jj
      · have hct : P.ctE E cw w = some (E.add (P.1 w) (10 + dd) true) := by unfold Pgm.ctE; rw [hf, Option.bind_some, if_pos hfw]
        rw [if_pos (show (none : Option Nat).isNone = true from rfl), hct]
        -- the variable is told
        have hs12 := hs11.wr 156 s (Int32.ofNat (10 + dd))
        have hs13 := hs12.wr 158 s (Int32.ofNat E.1.length)
        have g13 : Chg (fun a k => (a = 156 ∨ a = 158) ∧ k = s) h11 (wr (wr h11 156 s (Int32.ofNat (10 + dd))) 158 s (Int32.ofNat E.1.length)) := (Chg.wr _ _ _ _ (by omega)).trans (Chg.wr _ _ _ _ (by omega))
        obtain ⟨h31, a1, a2, a3⟩ := RSc.addVariable (N := N) (s := true) (t := 10 + dd) hs13 (c4.chg g13 (fun a k z => by omega)) hw.2 (Or.inr ⟨by omega, by omega⟩) (by omega) (by omega)
        have hs31 : Sg h31 := hs13.of a3.1
        have g31 : Chg (fun a k => (a = 138 ∧ k = 62) ∨ a = 178 ∨ a = 179 ∨ a = 180 ∨ ((a = 156 ∨ a = 158) ∧ k = s)) h11 h31 := (g13.mono (fun a k z => by omega)).trans (a3.mono (fun a k z => by omega))
        have q31 : RSt P D num c mth (E.add (P.1 w) (10 + dd) true) h31 := q11.sc g31 (fun a k z => by unfold rkA rtA at z; omega) (by omega) (by omega) (by omega) a2 (EnvV.one_add q.1.2.2.2.1 hfw) (EnvV.no3_add q.1.2.2.2.2 (by omega))
        have ag31 : ∀ {t t' v v' y y'}, s + 1 ≤ t → AgT h11 h31 t t' v v' y y' := fun {t t' v v' y y'} ht => ⟨fun a k i1 i2 i3 i4 => g31.2.2.1 _ _ (by omega), fun k => g31.2.2.1 _ _ (by omega), fun a m i1 _ _ => g31.2.2.1 _ _ (by omega), fun m => g31.2.2.1 _ _ (by omega)⟩
        have rbb31 : RBn P D num h31 b none (s + 1 + stB a) (n + szB a) (l + lsB a) := RBn.ag m b _ _ _ _ gb (RBn.ag m b _ _ _ _ gb (RBn.ag m b _ _ _ _ gb (RBn.ag m b _ _ _ _ gb rbb ag2) (AgT.of g6 (Or.inr (Nat.le_refl _)) (Or.inr (Nat.le_refl _)))) ag11) (ag31 (by omega))
        have r160 : rd h31 160 s = fsB b (s + 1 + stB a) := by rw [g31.2.2.1 _ _ (by omega), r11 _ (by omega) (by omega)]; exact h160
        obtain ⟨h35, e35, g35, o35⟩ := RunR.block (S := S) (N := N) (d := d + 1) (j := j) hN gb pb RBb q31 rbb31 b1 b2 b3 b4' (by rw [EnvV.add_len]; exact b5') b6'
        have hs35 : Sg h35 := hs31.of g35.1
        have g3135 : Chg (tsA d s (s + 1 + stB a + stB b) n (n + szB a + szB b)) h31 h35 := g35.mono (fun a k z => z.mono (by omega) (by omega) (Nat.le_refl _) (by omega) (Nat.le_refl _))
        have g1131 : Chg (tsA d s (s + 1 + stB a + stB b) n (n + szB a + szB b)) h11 h31 := g31.mono (fun a k z => by unfold tsA; omega)
        have kp35 : RKp (E.cut E1) E.1.length (3 * d + 1) h35 := (c5.chg g31 (fun k _ _ => by omega)).chg g35 (fun k i1 i2 => by unfold tsA ndA; omega)
        have r62 : rd h11 138 62 = Int32.ofNat E.1.length := c4.1
        have head : ∀ E2, RSc P D num E2 h35 → E2.1 = (E.add (P.1 w) (10 + dd) true).1 → ∃ h38, (fX12_joinSets N 138 (Int32.ofNat (3 * d) + (1 : Int32)) (kI (E.cut E1).2.1) (wr h35 138 62 (Int32.ofNat E.1.length))) = some h38 ∧ rd h35 138 62 - 1 = Int32.ofNat E.1.length ∧ RSc P D num (E.join (E.cut E1) (E.cut E2)) h38 ∧ Chg (fun a k => a = 180 ∨ (a = 138 ∧ (k = 62 ∨ k = 66))) h35 h38 := by
          intro E2 v2 v3
          have px : Pfx E E2 := (Pfx.add E (P.1 w) (10 + dd) true).trans (Pfx.same v3)
          have cu := v2.cut hs35 px
          have gw : Chg (fun a k => a = 138 ∧ k = 62) h35 (wr h35 138 62 (Int32.ofNat E.1.length)) := Chg.wr _ _ _ _ ⟨rfl, rfl⟩
          obtain ⟨h38, t1, t2, t3⟩ := RSc.joinSets (N := N) (v := 3 * d + 1) (E0 := E) (E1 := E.cut E1) (by omega) (by omega) (hs35.wr 138 62 _) cu rfl (kp35.chg gw (fun k _ _ => by omega))
          refine ⟨h38, by rw [i_add1]; exact t1, ?_, t2, (gw.mono (fun a k z => by omega)).trans (t3.mono (fun a k z => by omega))⟩
          rw [v2.1, v3, EnvV.add_len, ← i_add1]
          simp
        have body : ∀ E2, RSc P D num E2 h35 → E2.1 = (E.add (P.1 w) (10 + dd) true).1 → ∃ h38, RSc P D num (E.join (E.cut E1) (E.cut E2)) h38 ∧ Chg (fun a k => a = 180 ∨ (a = 138 ∧ (k = 62 ∨ k = 66))) h35 h38 ∧ ((getR h11 138 12 31).bind fun t24 => (stI h11 t24 (Int32.ofNat s) (Int32.ofNat (10 + dd))).bind fun h25 => (getR h25 138 12 33).bind fun t26 => (getI h25 138 12 62).bind fun t27 => (stI h25 t26 (Int32.ofNat s) t27).bind fun h28 => (getR h28 138 12 32).bind fun t29 => (ldI h28 t29 (Int32.ofNat s)).bind fun t30 => (fX12_addVariable N 138 t30 (Int32.ofNat (10 + dd)) (1 : Int32) h28).bind fun h31 => (getR h31 138 12 35).bind fun t32 => (ldI h31 t32 (Int32.ofNat s)).bind fun t33 => (if isO h31 138 12 = true then some () else none).bind fun _ => (rcV (gX12_checkWhile N (j + 1)) 282 [.ref 138, .int t33, .int (Int32.ofNat (d + 1))] h31).bind fun h35 => (getI h35 138 12 62).bind fun t36 => (putI h35 138 12 62 (t36 - (1 : Int32))).bind fun h37 => (fX12_joinSets N 138 (Int32.ofNat (3 * d) + (1 : Int32)) (kI (E.cut E1).2.1) h37).bind fun h38 => some h38) = some h38 := by
          intro E2 v2 v3
          obtain ⟨h38, t1, t2, t3, t4⟩ := head E2 v2 v3
          refine ⟨h38, t3, t4, ?_⟩
          rw [R_138_31 hs11, Option.bind_some, T_156 hs11 (by omega), Option.bind_some, R_138_33 hs12, Option.bind_some, g_138_62 hs12, Option.bind_some, rd_wr_ne _ _ (by omega), r62, T_158 hs12 (by omega), Option.bind_some, R_138_32 hs13, Option.bind_some, L_157 hs13 (by omega), Option.bind_some, rd_wr_ne _ _ (by omega), rd_wr_ne _ _ (by omega), r11 _ (by omega) (by omega), hw.1, show (1 : Int32) = kI true from rfl, a1, Option.bind_some, R_138_35 hs31, Option.bind_some, L_160 hs31 (by omega), Option.bind_some, r160, if_pos (o_138 hs31), Option.bind_some, rcB, e35, Option.bind_some, g_138_62 hs35, Option.bind_some, show kI true = (1 : Int32) from rfl, t2, p_138_62 hs35, Option.bind_some, t1, Option.bind_some]
        have small3 : ∀ {u v : pH}, Chg (fun a k => a = 180 ∨ (a = 138 ∧ (k = 62 ∨ k = 66))) u v → Chg (tsA d s (s + 1 + stB a + stB b) n (n + szB a + szB b)) u v := fun z => z.mono (fun a k z => by unfold tsA; omega)
        show OnR P D num c mth d s (s + 1 + stB a + stB b) n (n + szB a + szB b) _ (sB (P.chk c mt b (E.add (P.1 w) (10 + dd) true)) fun E2 => .inr (E.join E1 E2)) _ E h
        cases hr2 : P.chk c mt b (E.add (P.1 w) (10 + dd) true) with
        | inl p' =>
          rw [hr2] at o35
          obtain ⟨v1, E2, v2, v3⟩ := o35
          obtain ⟨h38, t1, t2, t3⟩ := body E2 v2 v3
          exact ⟨h38, t3, (G11.trans (g1131.trans g3135)).trans (small3 t2), by rw [t2.2.2.1 _ _ (by omega)]; exact v1, _, t1, Pfx.same rfl⟩
        | inr E2 =>
          rw [hr2] at o35
          obtain ⟨v1, v2⟩ := o35
          obtain ⟨h38, t1, t2, t3⟩ := body _ v1.1.2.1 rfl
          have ej : E.join (E.cut E1) (E.cut ((E.add (P.1 w) (10 + dd) true).cut E2)) = E.join E1 E2 := rfl
          rw [ej] at t1
          have ag38 : ∀ {t t' v v' y y'}, AgT h35 h38 t t' v v' y y' := fun {t t' v v' y y'} => ⟨fun a k i1 i2 _ _ => t2.2.2.1 _ _ (by omega), fun k => t2.2.2.1 _ _ (by omega), fun a m i1 _ _ => t2.2.2.1 _ _ (by omega), fun m => t2.2.2.1 _ _ (by omega)⟩
          refine ⟨h38, t3, (G11.trans (g1131.trans g3135)).trans (small3 t2), v1.sc t2 (fun a k z => by unfold rkA rtA at z; omega) (by omega) (by omega) (by omega) t1 (EnvV.one_same rfl q.1.2.2.2.1) (EnvV.no3_same rfl q.1.2.2.2.2), RTc.ag m a E none _ _ _ ga (RTc.ag m a E none _ _ _ ga (RTc.ag m a E none _ _ _ ga rta11 (ag31 (Nat.le_refl _))) (AgT.of g35 (Or.inl (Nat.le_refl _)) (Or.inl (Nat.le_refl _)))) ag38, fun d' E0 u1 u2 => ?_⟩
          obtain rfl := Option.some.inj u1
          obtain rfl := Option.some.inj u2
          refine ⟨?_, ?_, RTc.ag m b _ none _ _ _ gb v2 ag38⟩
          · rw [t2.2.2.1 _ _ (by omega), g35.2.2.1 _ _ (by unfold tsA ndA; omega), a3.2.2.1 _ _ (by omega), rd_wr_ne _ _ (by omega)]
            exact W_156 hs11 _ _
          · rw [t2.2.2.1 _ _ (by omega), g35.2.2.1 _ _ (by unfold tsA ndA; omega), a3.2.2.1 _ _ (by omega)]
            exact W_158 hs12 _ _
      · have hct : P.ctE E cw w = none := by unfold Pgm.ctE; rw [hf, Option.bind_some, if_neg (fun u => by rw [hfw] at u; cases u)]
        rw [if_neg (show ¬ (some jj).isNone = true from Bool.false_ne_true), hct]
        rw [hf, hct] at badR
        exact badR
