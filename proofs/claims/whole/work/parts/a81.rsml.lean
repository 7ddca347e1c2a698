/-! ===== THE REFERENCE'S TYPER: return, throw, print, call, tell, give ===== -/
theorem one_work {S : Tks} {P : Pgm} {D : List Int32 → Prop} {num : List Int32 → Nat} {rc : Nat → List Value → pH → Option (Option Value × pH)} {c mt mth N s p n l k d0 : Nat} {E : EnvV} {x : Tr} {d : Int32} {h : pH} (hN : 5000 ≤ N) (ha : Acy P) (hc : c < P.n) (p3 : P.P3) (hm : mth < 750) (hmt : rd h 170 mth = Int32.ofNat mt) (hmo : P.tOk mt) (hk : (k = 40 ∧ x = nl) ∨ ((k = 41 ∨ k = 42 ∨ k = 43 ∨ (k = 52 ∧ isCallE x = true)) ∧ Ox S x)) (q : RSt P D num c mth E h) (rn : RN P D num h x n l) (hsl : s < 1600) (hn : n + sz x ≤ 3200) (hl : l + ls x ≤ 3200) (st : St h s (sK k) p n (if k = 40 then -1 else Int32.ofNat (n + sz x - 1))) : OnR P D num c mth d0 s (s + 1) n (n + sz x) (fun _ h1 => RXn P num c E h1 x n l ∧ ∀ t, P.te c E x = some [t] → rd h1 148 (n + sz x - 1) = Int32.ofNat t) (oS p (P.wkE c mt E k x)) (fX12_checkOne N rc 138 (Int32.ofNat s) d h) E h := by
  have hs := q.1.1.1.1
  have hn4 := q.1.1.1.n400
  have hml := tOk_lt hn4 hmo
  rcases hk with ⟨rfl, rfl⟩ | ⟨hk, ox⟩
  · rw [if_pos rfl] at st
    obtain ⟨s1, s2, s3, s4⟩ := st
    have s1 : rd h 151 s = 3 := s1
    have hpre : fX12_checkOne N rc 138 (Int32.ofNat s) d h = (getR h 138 12 47).bind fun t62 => (getI h 138 12 61).bind fun t63 => (ldI h t62 t63).bind fun t64 => if t64 = (3 : Int32) then fX12_checkOne_310 N rc 138 (Int32.ofNat s) d 3 h else fX12_checkOne_314 N rc 138 (Int32.ofNat s) d 3 h := by
      unfold fX12_checkOne
      rw [if_pos (o_138 hs), R_138_26 hs, Option.bind_some, L_151 hs hsl, Option.bind_some, s1, R_138_29 hs, Option.bind_some, L_154 hs hsl, Option.bind_some, s4, if_pos (show (-1 : Int32) < 0 by decide)]
      unfold fX12_checkOne_36 fX12_checkOne_41
      rw [e12_tov0 hs hsl s4, Option.bind_some]
      rfl
    rw [hpre, R_138_47 hs, Option.bind_some, g_138_61 hs, Option.bind_some, q.2.1, L_170 hs (by omega), Option.bind_some, hmt]
    show OnR P D num c mth d0 s (s + 1) n (n + sz nl) _ (oS p (if mt = 3 then some E.stop else none)) _ E h
    have h3 : (Int32.ofNat mt = 3) ↔ mt = 3 := i_is3 hn4 hmo
    by_cases z : mt = 3
    · rw [if_pos (h3.mpr z), if_pos z]
      exact one_stop (N := N) (rc := rc) (d := d) (k := 3) (Or.inl rfl) q (Chg.refl _ _) ⟨trivial, fun t ht => by cases ht⟩ rfl
    · rw [if_neg (fun y => z (h3.mp y)), if_neg z]
      exact q.bad (Chg.refl _ _) (one366_bad (N := N) (rc := rc) (d := d) (k := 3) hs hsl q.2.2 s2)
  · have hk40 : k ≠ 40 := by omega
    rw [if_neg hk40] at st
    have hkk : ∃ kk, sK k = Int32.ofNat kk ∧ kk ≤ 7 ∧ ((k = 41 ∧ kk = 3) ∨ (k = 42 ∧ kk = 4) ∨ (k = 43 ∧ kk = 6) ∨ (k = 52 ∧ kk = 7)) := by
      rcases hk with rfl | rfl | rfl | ⟨rfl, _⟩
      · exact ⟨3, rfl, by omega, by omega⟩
      · exact ⟨4, rfl, by omega, by omega⟩
      · exact ⟨6, rfl, by omega, by omega⟩
      · exact ⟨7, rfl, by omega, by omega⟩
    obtain ⟨kk, k1, k2, k3⟩ := hkk
    rw [k1] at st
    have A := one_exp (S := S) (rc := rc) (N := N) (call := decide (kk = 7)) (d := d) hN ha hc p3 ox q rn hsl hn hl st k2 rfl (fun z => by omega)
    have hwk : P.wkE c mt E k x = (P.vlT c E x (decide (kk = 7))).bind fun t => P.wkX mt E k t := by
      unfold Pgm.wkE Pgm.vlT
      rw [if_neg hk40]
      cases hte : P.te c E x with
      | none => rfl
      | some r =>
        obtain ⟨t, rfl, _⟩ := ox.te_one hte
        show P.wkX mt E k t = (if t = 3 ∧ decide (kk = 7) = false then none else some t).bind _
        by_cases z : t = 3 ∧ decide (kk = 7) = false
        · rw [if_pos z]
          have z7 : kk ≠ 7 := of_decide_eq_false z.2
          have z3 := z.1
          subst z3
          show P.wkX mt E k 3 = none
          unfold Pgm.wkX
          rcases k3 with ⟨rfl, rfl⟩ | ⟨rfl, rfl⟩ | ⟨rfl, rfl⟩ | ⟨rfl, rfl⟩
          · rw [if_pos rfl, if_neg (fun u => u.1 (Pgm.sub_3 u.2))]
          · rfl
          · rfl
          · exact absurd rfl z7
        · rw [if_neg z]
          rfl
    rw [hwk]
    cases hv : P.vlT c E x (decide (kk = 7)) with
    | none =>
      rw [hv] at A
      obtain ⟨h1, e1, g⟩ := A
      exact q.bad g e1
    | some t =>
      rw [hv] at A
      obtain ⟨h1, e1, e2, e3, e4, e5, e6, g⟩ := A
      rw [Option.bind_some]
      have q1 := q.nd g
      have hs1 := q1.1.1.1.1
      have htl := tOk_lt hn4 e5
      have s2 : rd h1 152 s = Int32.ofNat p := by rw [g.2.2.1 _ _ (by unfold ndA; omega)]; exact st.2.1
      have hmt1 : rd h1 170 mth = Int32.ofNat mt := by rw [g.2.2.1 _ _ (by unfold ndA; omega)]; exact hmt
      have bad : ∀ kx, OnR P D num c mth d0 s (s + 1) n (n + sz x) (fun _ h1 => RXn P num c E h1 x n l ∧ ∀ t, P.te c E x = some [t] → rd h1 148 (n + sz x - 1) = Int32.ofNat t) (.inl p) (fX12_checkOne_366 N rc 138 (Int32.ofNat s) d kx 0 h1) E h := fun kx => q.bad g (one366_bad hs1 hsl q1.2.2 s2)
      have Z0 : RXn P num c E h1 x n l ∧ ∀ t, P.te c E x = some [t] → rd h1 148 (n + sz x - 1) = Int32.ofNat t := ⟨e6, fun u hu => by rw [e3] at hu; injection hu with hu; injection hu with hu; rw [← hu]; exact e4⟩
      have Z1 : RXn P num c E (wr h1 138 66 1) x n l ∧ ∀ t, P.te c E x = some [t] → rd (wr h1 138 66 1) 148 (n + sz x - 1) = Int32.ofNat t := ⟨RXn.ag x n l e6 (fun a m i1 i2 i3 => rd_wr_ne _ _ (by omega)) (fun m _ _ => rd_wr_ne _ _ (by omega)), fun u hu => by rw [rd_wr_ne _ _ (by omega)]; exact Z0.2 u hu⟩
      rw [e1]
      unfold fX12_checkOne_41
      rw [e2, Option.bind_some]
      rcases k3 with ⟨rfl, rfl⟩ | ⟨rfl, rfl⟩ | ⟨rfl, rfl⟩ | ⟨rfl, rfl⟩
      · show OnR P D num c mth d0 s (s + 1) n (n + sz x) _ (oS p (if mt ≠ 3 ∧ P.sub t mt = true then some E.stop else none)) (if (0 : Int32) ≤ Int32.ofNat (n + sz x - 1) then ((getR h1 138 12 47).bind fun t53 => (getI h1 138 12 61).bind fun t54 => (ldI h1 t53 t54).bind fun t55 => if t55 = (3 : Int32) then fX12_checkOne_314 N rc 138 (Int32.ofNat s) d 3 h1 else ((getR h1 138 12 47).bind fun t57 => (getI h1 138 12 61).bind fun t58 => (ldI h1 t57 t58).bind fun t59 => (fX12_isSub N 138 (Int32.ofNat t) t59 h1).bind fun q60 => if q60.1 = 0 then fX12_checkOne_314 N rc 138 (Int32.ofNat s) d 3 q60.2 else fX12_checkOne_310 N rc 138 (Int32.ofNat s) d 3 q60.2)) else ((getR h1 138 12 47).bind fun t62 => (getI h1 138 12 61).bind fun t63 => (ldI h1 t62 t63).bind fun t64 => if t64 = (3 : Int32) then fX12_checkOne_310 N rc 138 (Int32.ofNat s) d 3 h1 else fX12_checkOne_314 N rc 138 (Int32.ofNat s) d 3 h1)) E h
        rw [if_pos (Int32.not_lt.mp (i_nneg (by omega))), R_138_47 hs1, Option.bind_some, g_138_61 hs1, Option.bind_some, q1.2.1, L_170 hs1 (by omega), Option.bind_some, hmt1]
        have h3 : (Int32.ofNat mt = 3) ↔ mt = 3 := i_is3 hn4 hmo
        by_cases z : mt = 3
        · rw [if_pos (h3.mpr z), if_neg (fun u => u.1 z)]
          exact bad 3
        · rw [if_neg (fun y => z (h3.mp y)), Option.bind_some, Option.bind_some, L_170 hs1 (by omega), Option.bind_some, hmt1, q1.1.1.1.isSub q1.1.1.2.1 ha (by omega) e5 hmo, Option.bind_some]
          dsimp only
          rw [kI_if]
          by_cases y : P.sub t mt = true
          · rw [if_pos y, if_pos ⟨z, y⟩]
            exact one_stop (N := N) (rc := rc) (d := d) (k := 3) (Or.inl rfl) q g Z1 rfl
          · rw [if_neg y, if_neg (fun u => y u.2)]
            exact bad 3
      · show OnR P D num c mth d0 s (s + 1) n (n + sz x) _ (oS p (if 10 ≤ t then some E.stop else none)) (if Int32.ofNat t < (10 : Int32) then fX12_checkOne_247 N rc 138 (Int32.ofNat s) d 4 h1 else fX12_checkOne_248 N rc 138 (Int32.ofNat s) d 4 1 h1) E h
        rw [show (10 : Int32) = Int32.ofNat 10 from rfl, ifLt (by omega) (by omega)]
        by_cases z : t < 10
        · rw [if_pos z, if_neg (by omega)]
          exact bad 4
        · rw [if_neg z, if_pos (by omega)]
          exact one_stop (N := N) (rc := rc) (d := d) (k := 4) (Or.inr rfl) q g Z1 rfl
      · show OnR P D num c mth d0 s (s + 1) n (n + sz x) _ (oS p (if t = 0 ∨ t = 1 then some E else none)) ((fX12_isPlain N 138 (Int32.ofNat t) h1).bind fun q69 => if q69.1 = 0 then fX12_checkOne_225 N rc 138 (Int32.ofNat s) d 6 q69.2 else fX12_checkOne_226 N rc 138 (Int32.ofNat s) d 6 1 q69.2) E h
        unfold fX12_isPlain
        rw [if_pos (o_138 hs1), show (0 : Int32) = Int32.ofNat 0 from rfl, show (1 : Int32) = Int32.ofNat 1 from rfl, ifEq (by omega) (by omega), ifEq (by omega) (by omega)]
        by_cases z0 : t = 0
        · rw [if_pos z0, if_pos (Or.inl z0), Option.bind_some, if_neg (show ¬ Int32.ofNat 1 = Int32.ofNat 0 by decide)]
          exact one_keep (N := N) (rc := rc) (d := d) (k := 6) (Or.inr (Or.inl rfl)) q g Z0 rfl
        · by_cases z1 : t = 1
          · rw [if_neg z0, if_pos z1, if_pos (Or.inr z1), Option.bind_some, if_neg (show ¬ Int32.ofNat 1 = Int32.ofNat 0 by decide)]
            exact one_keep (N := N) (rc := rc) (d := d) (k := 6) (Or.inr (Or.inl rfl)) q g Z0 rfl
          · rw [if_neg z0, if_neg z1, if_neg (by omega), Option.bind_some, if_pos rfl]
            exact bad 6
      · exact one_keep (N := N) (rc := rc) (d := d) (k := 7) (Or.inr (Or.inr (Or.inl rfl))) q g Z0 rfl
/-- a variable is told -/
theorem one_add {P : Pgm} {D : List Int32 → Prop} {num : List Int32 → Nat} {rc : Nat → List Value → pH → Option (Option Value × pH)} {c mth N s n n' y w d0 : Nat} {E : EnvV} {sv : Bool} {d v4 : Int32} {Z : EnvV → pH → Prop} {h h1 : pH} {x : Option pH} (q : RSt P D num c mth E h) (g : Chg (ndA n n') h h1) (hsl : s < 1600) (hw : D (P.1 w)) (h5 : P.rt y ≠ 5) (h3 : P.rt y ≠ 3) (hf : E.fnd (P.1 w) = none) (hlen : E.1.length < 999) (h157 : rd h1 157 s = Int32.ofNat (num (P.1 w))) (hv : (v4 < 0 ∧ sv = false) ∨ (¬ v4 < 0 ∧ sv = true)) (hZ : ∀ h2, Chg (fun a k => (a = 138 ∧ k = 62) ∨ a = 178 ∨ a = 179 ∨ a = 180 ∨ ((a = 156 ∨ a = 158) ∧ k = s)) h1 h2 → rd h2 158 s = Int32.ofNat E.1.length → Z (E.add (P.1 w) (P.rt y) sv) h2) (e : x = fX12_checkOne_157 N rc 138 (Int32.ofNat s) d 0 v4 (Int32.ofNat (P.rt y)) 1 h1) : OnR P D num c mth d0 s (s + 1) n n' Z (.inr (E.add (P.1 w) (P.rt y) sv)) x E h := by
  have q1 := q.nd g
  have hs1 := q1.1.1.1.1
  have r62 := q1.1.2.1.1
  have hs2 := hs1.wr 158 s (Int32.ofNat E.1.length)
  have hs3 := hs2.wr 156 s (Int32.ofNat (P.rt y))
  have g3 : Chg (fun a k => (a = 156 ∨ a = 158) ∧ k = s) h1 (wr (wr h1 158 s (Int32.ofNat E.1.length)) 156 s (Int32.ofNat (P.rt y))) := (Chg.wr _ _ _ _ (by omega)).trans (Chg.wr _ _ _ _ (by omega))
  obtain ⟨h4, a1, a2, a3⟩ := RSc.addVariable (N := N) (s := sv) hs3 (q1.1.2.1.chg g3 (fun a k z => by omega)) hw (P.rt_ok (y := y)) h5 hlen
  have g4 : Chg (fun a k => (a = 138 ∧ k = 62) ∨ a = 178 ∨ a = 179 ∨ a = 180 ∨ ((a = 156 ∨ a = 158) ∧ k = s)) h1 h4 := (g3.mono (fun a k z => by omega)).trans (a3.mono (fun a k z => by omega))
  refine ⟨h4, ?_, (g.mono (fun a k z => Or.inl z)).trans (g4.mono (fun a k z => show tsA d0 s (s + 1) n n' a k by unfold tsA; omega)), q1.sc g4 (fun a k z => by unfold rkA rtA at z; omega) (by omega) (by omega) (by omega) a2 (EnvV.one_add q1.1.2.2.2.1 hf) (EnvV.no3_add q1.1.2.2.2.2 h3), hZ h4 g4 ?_⟩
  · rw [e]
    unfold fX12_checkOne_157
    rw [if_neg (show ¬ (1 : Int32) = 0 by decide), R_138_33 hs1, Option.bind_some, g_138_62 hs1, Option.bind_some, r62, T_158 hs1 hsl, Option.bind_some, R_138_31 hs2, Option.bind_some, T_156 hs2 hsl, Option.bind_some, R_138_32 hs3, Option.bind_some, L_157 hs3 hsl, Option.bind_some, rd_wr_ne _ _ (by omega), rd_wr_ne _ _ (by omega), h157]
    unfold fX12_checkOne_201
    rcases hv with ⟨v1, rfl⟩ | ⟨v1, rfl⟩
    · rw [if_pos v1, show (0 : Int32) = kI false from rfl, a1, Option.bind_some]
      rfl
    · rw [if_neg v1, show (1 : Int32) = kI true from rfl, a1, Option.bind_some]
      rfl
  · rw [a3.2.2.1 _ _ (by omega), rd_wr_ne _ _ (by omega)]
    exact W_158 hs1 _ _
theorem one_tell {P : Pgm} {D : List Int32 → Prop} {num : List Int32 → Nat} {rc : Nat → List Value → pH → Option (Option Value × pH)} {c mth N s p n l y w d0 : Nat} {E : EnvV} {S : Tks} {d : Int32} {h : pH} (hN : 5000 ≤ N) (q : RSt P D num c mth E h) (hsl : s < 1600) (st : St h s 0 p n (-1)) (hyw : P.rt y ≠ 3) (hy : rd h 156 s = tyM num P y ∧ tyD D P y) (hw : rd h 157 s = Int32.ofNat (num (P.1 w)) ∧ D (P.1 w)) (hlen : E.1.length < 999) : OnR P D num c mth d0 s (s + 1) n n (fun _ h1 => rd h1 158 s = Int32.ofNat E.1.length) (oS p (P.tlX E y w false)) (fX12_checkOne N rc 138 (Int32.ofNat s) d h) E h := by
  have hs := q.1.1.1.1
  have hn4 := q.1.1.1.n400
  obtain ⟨s1, s2, s3, s4⟩ := st
  have rt := q.1.1.1
  have vo := q.1.2.1.variableOf (N := N) (by omega) hs rt.2.1 rt.2.2.1 q.1.2.2.2.1 hw.2
  have hul := tOk_lt hn4 (P.rt_ok (y := y))
  have hpre : fX12_checkOne N rc 138 (Int32.ofNat s) d h = if Int32.ofNat (P.rt y) = (5 : Int32) then fX12_checkOne_156 N rc 138 (Int32.ofNat s) d 0 (-1) (Int32.ofNat (P.rt y)) h else if 0 ≤ oI (-1) (E.fnd (P.1 w)) then fX12_checkOne_156 N rc 138 (Int32.ofNat s) d 0 (-1) (Int32.ofNat (P.rt y)) h else fX12_checkOne_152 N rc 138 (Int32.ofNat s) d 0 (-1) (Int32.ofNat (P.rt y)) h := by
    unfold fX12_checkOne
    rw [if_pos (o_138 hs), R_138_26 hs, Option.bind_some, L_151 hs hsl, Option.bind_some, s1, R_138_29 hs, Option.bind_some, L_154 hs hsl, Option.bind_some, s4, if_pos (show (-1 : Int32) < 0 by decide)]
    unfold fX12_checkOne_36 fX12_checkOne_41
    rw [e12_tov0 hs hsl s4, Option.bind_some, if_pos rfl]
    dsimp only
    rw [R_138_31 hs, Option.bind_some, L_156 hs hsl, Option.bind_some, hy.1, rt.meant (by omega) hy.2, Option.bind_some]
    dsimp only
    rw [if_neg (show ¬ (1 : Int32) = 0 by decide), R_138_32 hs, Option.bind_some, L_157 hs hsl, Option.bind_some, hw.1, vo, Option.bind_some]
    rfl
  rw [hpre, i_nn_oI (fun e he => by have := (EnvV.fnd_lt he).1; have := q.1.2.1.2.1; omega), show (5 : Int32) = Int32.ofNat 5 from rfl, ifEq (by omega) (by omega)]
  unfold Pgm.tlX
  by_cases z : P.rt y = 5
  · rw [if_pos z, if_neg (fun u => u.1 z)]
    exact q.bad (Chg.refl _ _) (one366_bad (N := N) (rc := rc) (d := d) (k := 0) hs hsl q.2.2 s2)
  · rw [if_neg z]
    rcases hf : E.fnd (P.1 w) with _ | j
    · rw [if_pos (show (none : Option Nat).isNone = true from rfl), if_pos ⟨z, rfl⟩]
      exact one_add (N := N) (rc := rc) (d := d) (sv := false) q (Chg.refl _ _) hsl hw.2 z hyw hf hlen hw.1 (Or.inl ⟨show (-1 : Int32) < 0 by decide, rfl⟩) (fun h2 _ r => r) rfl
    · rw [if_neg (show ¬ (some j).isNone = true from Bool.false_ne_true), if_neg (fun u => by cases u.2)]
      exact q.bad (Chg.refl _ _) (one366_bad (N := N) (rc := rc) (d := d) (k := 0) hs hsl q.2.2 s2)
theorem one_tellv {S : Tks} {P : Pgm} {D : List Int32 → Prop} {num : List Int32 → Nat} {rc : Nat → List Value → pH → Option (Option Value × pH)} {c mth N s p n l y w d0 : Nat} {E : EnvV} {e : Tr} {d : Int32} {h : pH} (hN : 5000 ≤ N) (ha : Acy P) (hc : c < P.n) (p3 : P.P3) (ox : Ox S e) (q : RSt P D num c mth E h) (rn : RN P D num h e n l) (hsl : s < 1600) (hn : n + sz e ≤ 3200) (hl : l + ls e ≤ 3200) (st : St h s 0 p n (Int32.ofNat (n + sz e - 1))) (hyw : P.rt y ≠ 3) (hy : rd h 156 s = tyM num P y ∧ tyD D P y) (hw : rd h 157 s = Int32.ofNat (num (P.1 w)) ∧ D (P.1 w)) (hlen : E.1.length < 999) : OnR P D num c mth d0 s (s + 1) n (n + sz e) (fun _ h1 => rd h1 158 s = Int32.ofNat E.1.length ∧ RXn P num c E h1 e n l) (oS p (P.tvE c E y w e)) (fX12_checkOne N rc 138 (Int32.ofNat s) d h) E h := by
  have hs := q.1.1.1.1
  have hn4 := q.1.1.1.n400
  have z1 := ox.sz1
  have hul := tOk_lt hn4 (P.rt_ok (y := y))
  have A := one_exp (S := S) (rc := rc) (N := N) (kk := 0) (call := false) (d := d) hN ha hc p3 ox q rn hsl hn hl st (by omega) rfl (fun _ => ⟨y, hy.2, hy.1⟩)
  have htv : P.tvE c E y w e = (P.vlT c E e false).bind fun t => if P.sub t (P.rt y) = true then P.tlX E y w true else none := by
    unfold Pgm.tvE Pgm.vlT
    cases hte : P.te c E e with
    | none => rfl
    | some r =>
      obtain ⟨t, rfl, _⟩ := ox.te_one hte
      show (if P.sub t (P.rt y) = true then P.tlX E y w true else none) = (if t = 3 ∧ false = false then none else some t).bind _
      by_cases z : t = 3
      · rw [if_pos (show t = 3 ∧ false = false from ⟨z, rfl⟩), if_neg (show ¬ P.sub t (P.rt y) = true from fun u => by rw [z] at u; exact hyw (Pgm.sub_3 u))]
        rfl
      · rw [if_neg (show ¬ (t = 3 ∧ false = false) from fun u => z u.1)]
        rfl
  rw [htv]
  cases hv : P.vlT c E e false with
  | none =>
    rw [hv] at A
    obtain ⟨h1, e1, g⟩ := A
    exact q.bad g e1
  | some t =>
    rw [hv] at A
    obtain ⟨h1, e1, e2, e3, e4, e5, e6, g⟩ := A
    rw [Option.bind_some]
    have q1 := q.nd g
    have hs1 := q1.1.1.1.1
    have rt := q1.1.1.1
    have r : ∀ a, 151 ≤ a → a ≤ 161 → rd h1 a s = rd h a s := fun a i1 i2 => g.2.2.1 _ _ (by unfold ndA; omega)
    have s2 : rd h1 152 s = Int32.ofNat p := by rw [r _ (by omega) (by omega)]; exact st.2.1
    have y1 : rd h1 156 s = tyM num P y := by rw [r _ (by omega) (by omega)]; exact hy.1
    have w1 : rd h1 157 s = Int32.ofNat (num (P.1 w)) := by rw [r _ (by omega) (by omega)]; exact hw.1
    have vo := q1.1.2.1.variableOf (N := N) (by omega) hs1 rt.2.1 rt.2.2.1 q1.1.2.2.2.1 hw.2
    have bad : OnR P D num c mth d0 s (s + 1) n (n + sz e) (fun _ h1 => rd h1 158 s = Int32.ofNat E.1.length ∧ RXn P num c E h1 e n l) (.inl p) (fX12_checkOne_156 N rc 138 (Int32.ofNat s) d 0 (Int32.ofNat (n + sz e - 1)) (Int32.ofNat (P.rt y)) h1) E h := q.bad g (one366_bad (N := N) (rc := rc) (d := d) (k := 0) hs1 hsl q1.2.2 s2)
    rw [e1]
    unfold fX12_checkOne_41
    rw [e2, Option.bind_some, if_pos (show Int32.ofNat 0 = 0 from rfl)]
    dsimp only
    rw [R_138_31 hs1, Option.bind_some, L_156 hs1 hsl, Option.bind_some, y1, rt.meant (by omega) hy.2, Option.bind_some]
    dsimp only
    rw [if_neg (show ¬ (1 : Int32) = 0 by decide), R_138_32 hs1, Option.bind_some, L_157 hs1 hsl, Option.bind_some, w1, vo, Option.bind_some]
    dsimp only
    rw [i_nn_oI (fun e he => by have := (EnvV.fnd_lt he).1; have := q1.1.2.1.2.1; omega), if_neg (i_nneg (a := n + sz e - 1) (by omega)), rt.isSub q1.1.1.2.1 ha (by omega) e5 P.rt_ok, Option.bind_some]
    dsimp only
    rw [kI_if, show (5 : Int32) = Int32.ofNat 5 from rfl, ifEq (by omega) (by omega)]
    by_cases z : P.rt y = 5
    · have ht0 : P.tlX E y w true = none := by unfold Pgm.tlX; rw [if_neg (fun u => u.1 z)]
      have ht1 : (if P.sub t (P.rt y) = true then P.tlX E y w true else none) = none := by rw [ht0]; split <;> rfl
      rw [if_pos z, ht1]
      exact bad
    · rw [if_neg z]
      rcases hf : E.fnd (P.1 w) with _ | j
      · have ht0 : P.tlX E y w true = some (E.add (P.1 w) (P.rt y) true) := by unfold Pgm.tlX; rw [if_pos ⟨z, hf⟩]
        rw [if_pos (show (none : Option Nat).isNone = true from rfl), ht0]
        by_cases hsb : P.sub t (P.rt y) = true
        · rw [if_pos hsb, if_pos hsb]
          exact one_add (N := N) (rc := rc) (d := d) (sv := true) q g hsl hw.2 z hyw hf hlen w1 (Or.inr ⟨i_nneg (by omega), rfl⟩) (fun h2 g2 r => ⟨r, RXn.ag e n l e6 (fun a m i1 i2 i3 => g2.2.2.1 _ _ (by omega)) (fun m _ _ => g2.2.2.1 _ _ (by omega))⟩) rfl
        · rw [if_neg hsb, if_neg hsb]
          exact bad
      · have ht0 : P.tlX E y w true = none := by unfold Pgm.tlX; rw [if_neg (fun u => by rw [hf] at u; cases u.2)]
        have ht1 : (if P.sub t (P.rt y) = true then P.tlX E y w true else none) = none := by rw [ht0]; split <;> rfl
        rw [if_neg (show ¬ (some j).isNone = true from Bool.false_ne_true), ht1]
        exact bad
/-- to a place is given -/
theorem one_give {S : Tks} {P : Pgm} {D : List Int32 → Prop} {num : List Int32 → Nat} {rc : Nat → List Value → pH → Option (Option Value × pH)} {c mth N s p n l d0 : Nat} {E : EnvV} {x y : Tr} {d : Int32} {h : pH} (hN : 5000 ≤ N) (ha : Acy P) (hc : c < P.n) (p3 : P.P3) (ox : Ox S x) (hp : isPlaceE x = true) (oy : Ox S y) (q : RSt P D num c mth E h) (rx : RN P D num h x n l) (ry : RN P D num h y (n + sz x) (l + ls x)) (hsl : s < 1600) (hn : n + sz x + sz y ≤ 3200) (hl : l + ls x + ls y ≤ 3200) (st : St h s 8 p n (Int32.ofNat (n + sz x + sz y - 1))) (h155 : rd h 155 s = Int32.ofNat (n + sz x - 1)) : OnR P D num c mth d0 s (s + 1) n (n + sz x + sz y) (fun _ h1 => RXn P num c E h1 x n l ∧ RXn P num c E h1 y (n + sz x) (l + ls x)) (oS p (P.gvE c E x y)) (fX12_checkOne N rc 138 (Int32.ofNat s) d h) E h := by
  have hs := q.1.1.1.1
  have hn4 := q.1.1.1.n400
  have z1 := ox.sz1
  have z2 := oy.sz1
  obtain ⟨s1, s2, s3, s4⟩ := st
  have A := RS.setNodes (S := S) (N := N) hN ha hc p3 ox hp oy q.1 rx ry hsl hn hl s1 h155
  have hpre : fX12_checkOne N rc 138 (Int32.ofNat s) d h = (fX12_checkNodes N 138 (Int32.ofNat s) (Int32.ofNat n) (Int32.ofNat (n + sz x + sz y - 1)) h).bind fun q81 => if q81.1 = 0 then fX12_checkOne_41 N rc 138 (Int32.ofNat s) d 8 (Int32.ofNat (n + sz x + sz y - 1)) 0 q81.2 else fX12_checkOne_36 N rc 138 (Int32.ofNat s) d 8 (Int32.ofNat (n + sz x + sz y - 1)) q81.2 := by
    unfold fX12_checkOne
    rw [if_pos (o_138 hs), R_138_26 hs, Option.bind_some, L_151 hs hsl, Option.bind_some, s1, R_138_29 hs, Option.bind_some, L_154 hs hsl, Option.bind_some, s4, if_neg (i_nneg (by omega)), R_138_28 hs, Option.bind_some, L_153 hs hsl, Option.bind_some, s3]
  rw [hpre]
  -- the place's last node, and what is given
  have key : ∀ r, P.plR c E x = some r → ∀ u, r = [u] → ∀ t, P.te c E y = some [t] → t ≠ 5 → t ≠ 3 → ∀ h1, RS P D num c E h1 → RXn P num c E h1 x n l → rd h1 148 (n + sz x - 1) = Int32.ofNat u → P.tOk u → P.tOk t → rd h1 155 s = Int32.ofNat (n + sz x - 1) → ∃ h2, fX12_checkPlace N 138 (Int32.ofNat s) (Int32.ofNat t) h1 = some (kI (P.gvE c E x y).isSome, h2) ∧ Chg (fun a _ => a = 180) h1 h2 ∧ ((P.gvE c E x y) = none → h2 = h1) ∧ ∀ E', P.gvE c E x y = some E' → RSc P D num E' h2 ∧ E'.1 = E.1 := by
    intro r hr u hu t ht h5 h3 h1 q1 rxn r148 uo to r155
    have hs1 := q1.1.1.1
    have hul := tOk_lt hn4 uo
    obtain ⟨k, v, w, a, b, hxe, hx⟩ := placeOf ox hp
    have hz : sz x = sz a + sz b + 1 := by rw [hxe, sz_nd, if_neg (by omega)]
    have hroot : n + sz x - 1 = n + sz a + sz b := by omega
    rw [hroot] at r148 r155
    rw [hxe, RXn_nd] at rxn
    obtain ⟨_, _, rxn⟩ := rxn
    obtain ⟨k1, k2, k3, k4, _⟩ := (rxn.resolve_left (by omega)).resolve_left (by omega)
    have hmm : n + sz a + sz b < 3200 := by omega
    have pre : fX12_checkPlace N 138 (Int32.ofNat s) (Int32.ofNat t) h1 = if rd h1 144 (n + sz a + sz b) = (18 : Int32) then some ((0 : Int32), h1) else if P.sub t u = true then (if rd h1 144 (n + sz a + sz b) = (19 : Int32) then (stZ h1 180 (rd h1 147 (n + sz a + sz b)) (1 : Int32)).bind fun h16 => some ((1 : Int32), h16) else some ((1 : Int32), h1)) else some ((0 : Int32), h1) := by
      unfold fX12_checkPlace
      rw [if_pos (o_138 hs1), R_138_30 hs1, Option.bind_some, L_155 hs1 hsl, Option.bind_some, r155, R_138_16 hs1, Option.bind_some, L_144 hs1 hmm, Option.bind_some, R_138_20 hs1, Option.bind_some, L_148 hs1 hmm, Option.bind_some, r148, q1.1.1.isSub q1.1.2.1 ha (by omega) to uo, Option.bind_some]
      dsimp only
      rw [kI_if, R_138_16 hs1, Option.bind_some, L_144 hs1 hmm, Option.bind_some, R_138_65 hs1, Option.bind_some, R_138_19 hs1, Option.bind_some, L_147 hs1 hmm, Option.bind_some]
    have hgv : P.gvE c E x y = (P.plT c E x).bind fun l => P.gvX c E (gk x) (P.1 (gw x)) l t := by
      unfold Pgm.gvE
      rw [ht]
      rfl
    have same : ∀ o : Option EnvV, P.gvE c E x y = o → (o = none ∨ o = some E) → fX12_checkPlace N 138 (Int32.ofNat s) (Int32.ofNat t) h1 = some (kI o.isSome, h1) → ∃ h2, fX12_checkPlace N 138 (Int32.ofNat s) (Int32.ofNat t) h1 = some (kI (P.gvE c E x y).isSome, h2) ∧ Chg (fun a _ => a = 180) h1 h2 ∧ ((P.gvE c E x y) = none → h2 = h1) ∧ ∀ E', P.gvE c E x y = some E' → RSc P D num E' h2 ∧ E'.1 = E.1 := by
      intro o ho hoo hcp
      rw [ho]
      refine ⟨h1, hcp, Chg.refl _ _, fun _ => rfl, fun E' hE => ?_⟩
      rcases hoo with rfl | rfl
      · cases hE
      · obtain rfl := Option.some.inj hE
        exact ⟨q1.2.1, rfl⟩
    have fin : ∀ (K : Int32) (bo : Bool), rd h1 144 (n + sz a + sz b) = K → K ≠ 18 → K ≠ 19 → P.sub t u = bo → P.gvE c E x y = (if bo = true then some E else none) → ∃ h2, fX12_checkPlace N 138 (Int32.ofNat s) (Int32.ofNat t) h1 = some (kI (P.gvE c E x y).isSome, h2) ∧ Chg (fun a _ => a = 180) h1 h2 ∧ ((P.gvE c E x y) = none → h2 = h1) ∧ ∀ E', P.gvE c E x y = some E' → RSc P D num E' h2 ∧ E'.1 = E.1 := by
      intro K bo hK hK1 hK2 hbo hgo
      refine same _ hgo (by cases bo; exact Or.inl rfl; exact Or.inr rfl) ?_
      rw [pre, hK, if_neg hK1, if_neg hK2, hbo]
      cases bo <;> rfl
    rw [hxe, Pgm.plR_nd] at hr
    obtain ⟨xa, xa1, hr1⟩ := Option.bind_eq_some_iff.mp hr
    clear hr
    obtain ⟨xb, xb1, hr⟩ := Option.bind_eq_some_iff.mp hr1
    clear hr1
    have hpl : P.plT c E x = some (xa ++ xb) := by rw [hxe, Pgm.plT_nd, xa1, xb1]; rfl
    rw [hpl] at hgv
    have hgv : P.gvE c E x y = P.gvX c E (gk x) (P.1 (gw x)) (xa ++ xb) t := hgv
    rw [xa1, xb1] at k1 k4
    rcases hx with ⟨rfl, rfl, rfl, hw⟩ | ⟨rfl, rfl, oa, hw⟩ | ⟨rfl, oa, ob⟩
    · have hg1 : gk x = 31 := by rw [hxe]; rfl
      have hg2 : gw x = w := by rw [hxe]; rfl
      rw [hg1, hg2] at hgv
      rw [if_pos rfl] at hr
      unfold Pgm.pnT at hr
      unfold Pgm.gvX at hgv
      unfold Pgm.rnK at k1 k4
      rw [if_pos rfl] at hgv k1 k4
      rcases hf : E.fnd (P.1 w) with _ | j
      · rw [hf] at hr hgv k1
        have hgv : P.gvE c E x y = if P.subO t (P.fldT (P.1 w) (10 + c)) = true then some E else none := hgv
        rcases hd : P.fldT (P.1 w) (10 + c) with _ | m'
        · rw [hd] at hr; cases hr
        · rw [hd] at hr hgv
          have hum : u = P.mty m' := by
            have := (tS_one hr).1
            rw [hu] at this
            injection this
          exact fin 20 (P.sub t u) k1 (by decide) (by decide) rfl (by rw [hgv, hum]; rfl)
      · rw [hf] at hr hgv k1 k4
        have hgv : P.gvE c E x y = if P.sub t (E.tyv j) = true then some (E.give j) else none := hgv
        have hum : u = E.tyv j := by
          have := (tS_one hr).1
          rw [hu] at this
          injection this
        have hj := (EnvV.fnd_lt hf).1
        have hel := q1.2.1.2.1
        have k1 : rd h1 144 (n + sz nl + sz nl) = 19 := k1
        have k4 : rd h1 147 (n + sz nl + sz nl) = Int32.ofNat j := k4
        rw [pre, k1, if_neg (by decide), if_pos rfl, k4, T_180 hs1 (by omega) (Or.inr rfl), Option.bind_some, hgv, ← hum]
        by_cases hsb : P.sub t u = true
        · rw [if_pos hsb, if_pos hsb]
          exact ⟨_, rfl, Chg.wr _ _ _ _ rfl, fun z => (by cases z), fun E' hE => by obtain rfl := Option.some.inj hE; exact ⟨q1.2.1.give hs1, rfl⟩⟩
        · rw [if_neg hsb, if_neg hsb]
          exact ⟨h1, rfl, Chg.refl _ _, fun _ => rfl, fun E' hE => by cases hE⟩
    · obtain ⟨ta, rfl, _⟩ := oa.te_one xa1
      obtain rfl : [] = xb := Option.some.inj xb1
      have hg1 : gk x = 34 := by rw [hxe]; rfl
      have hg2 : gw x = w := by rw [hxe]; rfl
      rw [hg1, hg2] at hgv
      have hgv : P.gvE c E x y = if P.subO t (P.fldT (P.1 w) ta) = true then some E else none := hgv
      rw [if_neg (by decide)] at hr
      have hr : P.dotT (P.1 w) ta = some r := hr
      unfold Pgm.dotT at hr
      have rnk : P.rnK num c E 9 v w a ([ta] ++ []) = if ta = 2 ∧ P.1 w = knW 7 then (18, 7) else (6, P.moO (P.fldT (P.1 w) ta)) := rfl
      by_cases zz : ta = 2 ∧ P.1 w = knW 7
      · have k1 : rd h1 144 (n + sz a + sz nl) = 18 := by
          rw [show rd h1 144 (n + sz a + sz nl) = (P.rnK num c E 9 v w a ([ta] ++ [])).1 from k1, rnk, if_pos zz]
        refine same none ?_ (Or.inl rfl) ?_
        · rw [hgv]
          have : P.fldT (P.1 w) ta = none := by unfold Pgm.fldT; rw [if_pos (by omega)]
          rw [this]
          rfl
        · rw [pre, k1, if_pos rfl]
          rfl
      · have k1 : rd h1 144 (n + sz a + sz nl) = 6 := by
          rw [show rd h1 144 (n + sz a + sz nl) = (P.rnK num c E 9 v w a ([ta] ++ [])).1 from k1, rnk, if_neg zz]
        rw [if_neg zz] at hr
        rcases hd : P.fldT (P.1 w) ta with _ | m'
        · rw [hd] at hr; cases hr
        · rw [hd] at hr hgv
          have hum : u = P.mty m' := by
            have := (tS_one hr).1
            rw [hu] at this
            injection this
          exact fin 6 (P.sub t u) k1 (by decide) (by decide) rfl (by rw [hgv, hum]; rfl)
    · obtain ⟨ta, rfl, _⟩ := oa.te_one xa1
      obtain ⟨tb, rfl, _⟩ := ob.te_one xb1
      have hg1 : gk x = 36 := by rw [hxe]; rfl
      rw [hg1] at hgv
      have hgv : P.gvE c E x y = if [ta, tb] = [2, 0] ∧ t = 0 then some E else none := hgv
      rw [if_neg (by decide)] at hr
      have hr : eqT [ta, tb] [2, 0] 0 = some r := hr
      obtain ⟨e1, e2⟩ := eqT_one hr
      have hu0 : u = 0 := by rw [hu] at e1; injection e1
      have k1 : rd h1 144 (n + sz a + sz b) = 7 := k1
      have hsb : P.sub t u = decide (t = 0) := by
        rw [hu0]
        unfold Pgm.sub
        by_cases z4 : t = 4
        · rw [if_pos z4, z4]; rfl
        · rw [if_neg z4, decide_eq_false (p := 10 ≤ t ∧ 10 ≤ 0) (by omega), Bool.false_and, Bool.or_false]
          by_cases z0 : t = 0
          · rw [decide_eq_true z0, decide_eq_true ⟨z0, by omega⟩]
          · rw [decide_eq_false z0, decide_eq_false (fun u => z0 u.1)]
      refine fin 7 (decide (t = 0)) k1 (by decide) (by decide) hsb ?_
      rw [hgv]
      by_cases z0 : t = 0
      · rw [if_pos ⟨e2, z0⟩, decide_eq_true z0, if_pos rfl]
      · rw [if_neg (fun u => z0 u.2), decide_eq_false z0, if_neg Bool.false_ne_true]
  have none1 : ∀ {o : Option (List Nat × Nat)}, ((P.plR c E x).bind fun r => (P.vlT c E y false).bind fun t => some (r, t)) = o → o = none → P.gvE c E x y = none := by
    intro o ho hn0
    rw [hn0] at ho
    cases hgE : P.gvE c E x y with
    | none => rfl
    | some E' =>
      exfalso
      obtain ⟨lx, t, g1, g2, g3⟩ := Pgm.gvE_some hgE
      obtain ⟨k, v, w, a, b, hxe, hx⟩ := placeOf ox hp
      have hsub : ∃ u, P.plR c E x = some [u] ∧ P.sub t u = true ∧ u ≠ 3 := by
        have h3 := fun r hr => Pgm.plR_no3 p3 (c := c) (r := r) q.1.2.2.2.2 ox hp hr
        rw [hxe, Pgm.plT_nd] at g1
        obtain ⟨xa, xa1, g1⟩ := Option.bind_eq_some_iff.mp g1
        obtain ⟨xb, xb1, g1⟩ := Option.bind_eq_some_iff.mp g1
        obtain rfl : xa ++ xb = lx := Option.some.inj g1
        have hplR : P.plR c E x = if k = 6 then P.pnT c E (P.1 w) else P.opT c E k w (xa ++ xb) := by
          rw [hxe, Pgm.plR_nd, xa1, xb1]
          rfl
        have fromS : ∀ u, P.plR c E x = tS u → u ≠ 5 → P.sub t u = true → ∃ u, P.plR c E x = some [u] ∧ P.sub t u = true ∧ u ≠ 3 := by
          intro u hpu h5u hsu
          have hpu : P.plR c E x = some [u] := by rw [hpu]; unfold tS; rw [if_neg h5u]
          obtain ⟨u2, e1, e2, e3⟩ := h3 _ hpu
          injection e1 with e1
          exact ⟨u, hpu, hsu, by rw [e1]; exact e2⟩
        rcases hx with ⟨rfl, rfl, rfl, hw⟩ | ⟨rfl, rfl, oa, hw⟩ | ⟨rfl, oa, ob⟩
        · have hg1 : gk x = 31 := by rw [hxe]; rfl
          have hg2 : gw x = w := by rw [hxe]; rfl
          rw [hg1, hg2] at g3
          rw [if_pos rfl] at hplR
          unfold Pgm.gvX at g3
          rw [if_pos rfl] at g3
          unfold Pgm.pnT at hplR
          rcases hf : E.fnd (P.1 w) with _ | j
          · rw [hf] at g3 hplR
            have g3 : (if P.subO t (P.fldT (P.1 w) (10 + c)) = true then some E else none) = some E' := g3
            rcases hd : P.fldT (P.1 w) (10 + c) with _ | m'
            · rw [hd] at g3; cases g3
            · rw [hd] at g3 hplR
              split at g3
              · rename_i hsb
                exact fromS (P.mty m') hplR (fun z => by
                  have hsb : P.sub t (P.mty m') = true := hsb
                  rw [z, Pgm.sub_5 (oy.te_one g2 |>.elim (fun t' ht' => by have := ht'.1; injection this with this; rw [this]; exact ht'.2))] at hsb; cases hsb) hsb
              · cases g3
          · rw [hf] at g3 hplR
            have g3 : (if P.sub t (E.tyv j) = true then some (E.give j) else none) = some E' := g3
            split at g3
            · rename_i hsb
              exact fromS (E.tyv j) hplR (fun z => by
                  rw [z, Pgm.sub_5 (oy.te_one g2 |>.elim (fun t' ht' => by have := ht'.1; injection this with this; rw [this]; exact ht'.2))] at hsb; cases hsb) hsb
            · cases g3
        · obtain ⟨ta, rfl, _⟩ := oa.te_one xa1
          obtain rfl : [] = xb := Option.some.inj xb1
          have hg1 : gk x = 34 := by rw [hxe]; rfl
          have hg2 : gw x = w := by rw [hxe]; rfl
          rw [hg1, hg2] at g3
          have g3 : (if P.subO t (P.fldT (P.1 w) ta) = true then some E else none) = some E' := g3
          rw [if_neg (by decide)] at hplR
          have hplR : P.plR c E x = P.dotT (P.1 w) ta := hplR
          unfold Pgm.dotT at hplR
          rcases hd : P.fldT (P.1 w) ta with _ | m'
          · rw [hd] at g3; cases g3
          · have hta : ¬ (ta = 2 ∧ P.1 w = knW 7) := by
              intro z
              unfold Pgm.fldT at hd
              rw [if_pos (by omega)] at hd
              cases hd
            rw [if_neg hta, hd] at hplR
            rw [hd] at g3
            split at g3
            · rename_i hsb
              exact fromS (P.mty m') hplR (fun z => by
                  have hsb : P.sub t (P.mty m') = true := hsb
                  rw [z, Pgm.sub_5 (oy.te_one g2 |>.elim (fun t' ht' => by have := ht'.1; injection this with this; rw [this]; exact ht'.2))] at hsb; cases hsb) hsb
            · cases g3
        · have hg1 : gk x = 36 := by rw [hxe]; rfl
          rw [hg1] at g3
          have g3 : (if xa ++ xb = [2, 0] ∧ t = 0 then some E else none) = some E' := g3
          rw [if_neg (by decide)] at hplR
          have hplR : P.plR c E x = eqT (xa ++ xb) [2, 0] 0 := hplR
          split at g3
          · rename_i hc0
            exact fromS 0 (by rw [hplR]; unfold eqT; rw [if_pos hc0.1]; rfl) (by omega) (by rw [hc0.2]; rfl)
          · cases g3
      obtain ⟨u, hu1, hu2, hu3⟩ := hsub
      have ht3 : t ≠ 3 := fun z => by rw [z] at hu2; exact hu3 (Pgm.sub_3 hu2)
      have hvl : P.vlT c E y false = some t := by
        unfold Pgm.vlT
        rw [g2]
        show (if t = 3 ∧ false = false then none else some t) = some t
        rw [if_neg (fun z => ht3 z.1)]
      rw [hu1, hvl] at ho
      cases ho
  cases hv : ((P.plR c E x).bind fun r => (P.vlT c E y false).bind fun t => some (r, t)) with
  | none =>
    rw [hv] at A
    obtain ⟨h1, e1, g⟩ := A
    rw [none1 hv rfl]
    have q1 := q.nd g
    have hs1 := q1.1.1.1.1
    have r : ∀ a, 151 ≤ a → a ≤ 161 → rd h1 a s = rd h a s := fun a i1 i2 => g.2.2.1 _ _ (by unfold ndA; omega)
    have s4' : rd h1 154 s = Int32.ofNat (n + sz x + sz y - 1) := by rw [r _ (by omega) (by omega)]; exact s4
    have htv : fX12_typeOfValue N 138 (Int32.ofNat s) h1 = some (rd h1 148 (n + sz x + sz y - 1), h1) := by
      unfold fX12_typeOfValue
      rw [if_pos (o_138 hs1), R_138_29 hs1, Option.bind_some, L_154 hs1 hsl, Option.bind_some, s4', if_pos (Int32.not_lt.mp (i_nneg (by omega))), R_138_20 hs1, Option.bind_some, Option.bind_some, L_154 hs1 hsl, Option.bind_some, s4', L_148 hs1 (by omega), Option.bind_some]
    refine q.bad g ?_
    rw [e1, Option.bind_some, if_pos rfl]
    exact one41_bad (P := P) (D := D) (num := num) (kk := 8) (by omega) hs1 hsl q1.2.2 (by rw [r _ (by omega) (by omega)]; exact s2) htv (fun z => by omega)
  | some v =>
    rw [hv] at A
    obtain ⟨r, hr, hv⟩ := Option.bind_eq_some_iff.mp hv
    obtain ⟨t, ht, hv⟩ := Option.bind_eq_some_iff.mp hv
    obtain rfl : (r, t) = v := Option.some.inj hv
    obtain ⟨h1, u, e0, e1, e2, e3, e4, e5, e6, e7, e8, g⟩ := A
    have q1 := q.nd g
    have hs1 := q1.1.1.1.1
    have rr : ∀ a, 151 ≤ a → a ≤ 161 → rd h1 a s = rd h a s := fun a i1 i2 => g.2.2.1 _ _ (by unfold ndA; omega)
    have ht3 : t ≠ 3 := by
      intro z
      unfold Pgm.vlT at ht
      rw [e4] at ht
      have ht : (if t = 3 ∧ false = false then none else some t) = some t := ht
      rw [if_pos (show t = 3 ∧ false = false from ⟨z, rfl⟩)] at ht
      cases ht
    have ht5 : t ≠ 5 := by
      obtain ⟨t', ht', h5⟩ := oy.te_one e4
      injection ht' with ht'
      rw [show t = t' from ht']; exact h5
    obtain ⟨h2, k1, k2, k3, k4⟩ := key r hr u e0 t e4 ht5 ht3 h1 q1.1 e7 e2 e3 e6 (by rw [rr _ (by omega) (by omega)]; exact h155)
    have tv := e12_tov (N := N) (t := t) hs1 hsl (show n + sz x + sz y - 1 < 3200 by omega) (by rw [rr _ (by omega) (by omega)]; exact s4) e5
    rw [e1, Option.bind_some, if_neg (show ¬ (1 : Int32) = 0 by decide)]
    unfold fX12_checkOne_36 fX12_checkOne_41
    rw [tv, Option.bind_some]
    show OnR P D num c mth d0 s (s + 1) n (n + sz x + sz y) _ _ ((fX12_checkPlace N 138 (Int32.ofNat s) (Int32.ofNat t) h1).bind fun q72 => if q72.1 = 0 then fX12_checkOne_339 N rc 138 (Int32.ofNat s) d 8 q72.2 else fX12_checkOne_340 N rc 138 (Int32.ofNat s) d 8 (1 : Int32) q72.2) E h
    rw [k1, Option.bind_some]
    dsimp only
    rw [kI_if]
    cases hgE : P.gvE c E x y with
    | none =>
      rw [k3 hgE, if_neg (show ¬ (none : Option EnvV).isSome = true from Bool.false_ne_true)]
      exact q.bad g (one366_bad (N := N) (rc := rc) (d := d) (k := 8) hs1 hsl q1.2.2 (by rw [rr _ (by omega) (by omega)]; exact s2))
    | some E' =>
      obtain ⟨m1, m2⟩ := k4 E' hgE
      rw [if_pos (show (some E').isSome = true from rfl)]
      refine ⟨h2, rfl, (g.mono (fun a k z => Or.inl z)).trans (k2.mono (fun a k z => show tsA d0 s (s + 1) n (n + sz x + sz y) a k by unfold tsA; omega)), q1.sc k2 (fun a k z => by unfold rkA rtA at z; omega) (by omega) (by omega) (by omega) m1 (EnvV.one_same m2 q1.1.2.2.2.1) (EnvV.no3_same m2 q1.1.2.2.2.2), RXn.ag x n l e7 (fun a m i1 i2 i3 => k2.2.2.1 _ _ (by omega)) (fun m _ _ => k2.2.2.1 _ _ (by omega)), RXn.ag y _ _ e8 (fun a m i1 i2 i3 => k2.2.2.1 _ _ (by omega)) (fun m _ _ => k2.2.2.1 _ _ (by omega))⟩
