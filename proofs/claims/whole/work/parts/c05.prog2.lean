/-! ===== program(), what it leaves ===== -/
def refB (a k : Nat) : Prop := (a = 138 ∧ k ≤ 69) ∨ (140 ≤ a ∧ a ≤ 182 ∧ a ≠ 143)
theorem rdA.rf2 (a k : Nat) (h : rdA a k) : refB a k := by
  unfold refB
  rcases h with h | h | h
  · rcases h with ⟨h1, h2⟩ | h | h | h | h | h
    · simp only [List.mem_cons, List.not_mem_nil, or_false] at h2
      omega
    all_goals omega
  · rcases h with ((z | z | z | z | z) | z | z) | (z | z | z | z | z)
    · rcases z with z | z | z
      · have := z.2
        simp only [List.mem_cons, List.not_mem_nil, or_false] at this
        omega
      · omega
      · omega
    all_goals omega
  · omega
theorem chA.rf2 (a k : Nat) (h : chA a k) : refB a k := by
  unfold chA at h
  unfold refB
  omega
theorem tyR2.rf2 (a k : Nat) (h : tyR2 a k) : refB a k := by
  unfold tyR2 at h
  unfold refB
  omega
theorem e12_prog2 {N L : Nat} {h : pH} (hN : 10000 ≤ N) (hs : Sg h) (e1 : rd h 138 1 = Int32.ofNat L) (hL : L ≤ 3000) (hK : ∀ j, j < 36 → rd h 143 j = knB j) : ∃ T : Txt, T.2 = L ∧ (∀ i, i < L → T.1 i = rd h 139 i) ∧ ∃ h', fX12_program N 138 h = some ((prO T).1, h') ∧ rd h' 138 1 = 0 ∧ rd h' 138 69 = 0 ∧ Chg refB h h' ∧ match (prO T).2 with
    | none => rd h' 138 56 = 0
    | some cs => rd h' 138 56 = 1 ∧ Acy (tkW T, cs) ∧ rd h' 138 59 = oI (-1) (Pgm.fnd (tkW T, cs) (knW 5)) ∧ ∃ D num, RyI (tkW T, cs) D num (Pgm.ms (tkW T, cs)).length h' ∧ msS (Pgm.ms (tkW T, cs)) ≤ 1600 ∧ msN (Pgm.ms (tkW T, cs)) ≤ 3200 ∧ msL (Pgm.ms (tkW T, cs)) ≤ 3200 := by
  obtain ⟨T, b1, b2, b3⟩ := e12_parse (N := N) (by omega) hs e1 hL hK
  refine ⟨T, b1, b2, ?_⟩
  unfold prO
  rcases hq : (tkS T).prog with ⟨cs, t'⟩ | w
  · rw [hq] at b3
    obtain ⟨h1, k', p1, p2, p9, p3, z1, z56, z69, z58, g1⟩ := b3
    have hT : T.2 ≤ 3000 := by omega
    obtain ⟨rt, rpn, r5⟩ := Parsed.rt hq p2
    obtain ⟨rq, rm⟩ := Parsed.rm p2
    have hpl := prog_mpl hT hq
    have C := RT.check1 (N := N) (L := T.2) (k := k') (by omega) rt rpn r5 rq rm hpl z58 (by rw [p9]; decide) (by rw [b1]; exact p3) (by omega)
    rw [p1]
    dsimp only
    rcases hb : Pgm.bad1 (tkW T, cs) T.2 with _ | p
    · rw [hb] at C
      obtain ⟨h2, c1, c58, c2, c3, c4, c5, c6, ha, c59, g2⟩ := C
      obtain ⟨_, bB, _⟩ := Pgm.bad1_none hb
      have gp := Pgm.gp (nmw := tkW T) hq (tkP_all hT) bB
      have gr := Pgm.gr (nmw := tkW T) hq (tkP_all hT) bB
      obtain ⟨d1, d2, d3, d4⟩ := Parsed.code (S := tkS T) p2 (fun m b hm hbm => (gp m b hm hbm).1)
      have ag : ∀ {t t' v v' y y'}, AgT h1 h2 t t' v v' y y' := fun {t t' v v' y y'} => ⟨fun a k i1 i2 _ _ => g2.2.2.1 _ _ (by unfold chA; omega), fun k => g2.2.2.1 _ _ (by unfold chA; omega), fun a m i1 _ _ => g2.2.2.1 _ _ (by unfold chA; omega), fun m => g2.2.2.1 _ _ (by unfold chA; omega)⟩
      have ry : RyI (tkW T, cs) (rD h1) (rnum h1) 0 h2 := by
        refine ⟨⟨c2, c3, c4, c5, c6⟩, c58, fun j b _ hj hbm => ?_, fun j b hj => absurd hj (Nat.not_lt_zero j)⟩
        obtain ⟨⟨n', hg'⟩, _⟩ := gp j b hj hbm
        obtain ⟨⟨u1, u2⟩, u3⟩ := d1 j b hj hbm
        exact ⟨⟨by rw [g2.2.2.1 _ _ (by unfold chA; omega)]; exact u1, by rw [g2.2.2.1 _ _ (by unfold chA; omega)]; exact u2⟩, RBn.ag n' _ _ _ _ _ hg' u3 ag⟩
      have R := RyI.prog (S := tkS T) (N := N) (by omega) ha (Pgm.p5 bB (Pgm.hF hq)) (Pgm.p3 hq) gp gr d2 d3 d4 ry
      have g12 : Chg refB h h2 := (g1.mono rdA.rf2).trans (g2.mono chA.rf2)
      have w1 : rd h2 138 1 = 0 := by rw [g2.2.2.1 _ _ (by unfold chA; omega)]; exact z1
      have w56 : rd h2 138 56 = 0 := by rw [g2.2.2.1 _ _ (by unfold chA; omega)]; exact z56
      have w69 : rd h2 138 69 = 0 := by rw [g2.2.2.1 _ _ (by unfold chA; omega)]; exact z69
      rw [c1]
      rcases hbt : Pgm.badT (tkW T, cs) with _ | p
      · rw [hbt] at R
        obtain ⟨h3, f1, f2, f3, g3⟩ := R
        exact ⟨h3, f1, by rw [g3.2.2.1 _ _ (by unfold tyR2; omega)]; exact w1, by rw [g3.2.2.1 _ _ (by unfold tyR2; omega)]; exact w69, g12.trans (g3.mono tyR2.rf2), f3, ha, by rw [g3.2.2.1 _ _ (by unfold tyR2; omega)]; exact c59, rD h1, rnum h1, f2, d2, d3, d4⟩
      · rw [hbt] at R
        obtain ⟨h3, f1, f3, g3⟩ := R
        exact ⟨h3, f1, by rw [g3.2.2.1 _ _ (by unfold tyR2; omega)]; exact w1, by rw [g3.2.2.1 _ _ (by unfold tyR2; omega)]; exact w69, g12.trans (g3.mono tyR2.rf2), f3.trans w56⟩
    · rw [hb] at C
      obtain ⟨h2, c1, g2⟩ := C
      exact ⟨h2, c1, by rw [g2.2.2.1 _ _ (by unfold chA; omega)]; exact z1, by rw [g2.2.2.1 _ _ (by unfold chA; omega)]; exact z69, (g1.mono rdA.rf2).trans (g2.mono chA.rf2), by show rd h2 138 56 = 0; rw [g2.2.2.1 _ _ (by unfold chA; omega)]; exact z56⟩
  · rw [hq] at b3
    obtain ⟨h1, p1, hw, z1, z56, z69, g1⟩ := b3
    exact ⟨h1, p1, z1, z69, g1.mono rdA.rf2, z56⟩

theorem msK_3000 {N : Nat} {T : Txt} {h : pH} {cs : List Cl} {t' : Nat} (hN : 10000 ≤ N) (hs : Sg h) (ht : TapeIs T h) (e8 : rd h 6 8 = Int32.ofNat T.2) (hq : (tkS T).prog = ok cs t') : msK (Pgm.ms (tkW T, cs)) ≤ 3000 := by
  obtain ⟨r, n, p1, p2⟩ := e11_parse (N := N) (L := T.2) (by omega) hs ht rfl e8
  obtain ⟨h1, e1, cp, ws, z8, z10, z128, g1⟩ := p1 cs t' hq
  exact (CPar.ccd (nmw := tkW T) cp).2.1
theorem tyMs_none {P : Pgm} {c : Nat} : ∀ {d m : Nat}, P.tyMs c d m = none → ∀ j, m ≤ j → j < m + d → P.tyM c j = none
  | 0, m, h, j, h1, h2 => by omega
  | d + 1, m, h, j, h1, h2 => by
    unfold Pgm.tyMs at h
    cases hq : P.tyM c m with
    | some p => rw [hq] at h; cases h
    | none =>
      rw [hq] at h
      by_cases z : j = m
      · rw [z]; exact hq
      · exact tyMs_none h j (by omega) (by omega)
theorem tyCs_none {P : Pgm} : ∀ {d c : Nat}, P.tyCs d c = none → ∀ e, c ≤ e → e < c + d → P.tyMs e (P.mf (e + 1) - P.mf e) (P.mf e) = none
  | 0, c, h, e, h1, h2 => by omega
  | d + 1, c, h, e, h1, h2 => by
    unfold Pgm.tyCs at h
    cases hq : P.tyMs c (P.mf (c + 1) - P.mf c) (P.mf c) with
    | some p => rw [hq] at h; cases h
    | none =>
      rw [hq] at h
      by_cases z : e = c
      · rw [z]; exact hq
      · exact tyCs_none h e (by omega) (by omega)
theorem badT_chk {P : Pgm} (h : P.badT = none) {m : Nat} {b : Mb} (hb : P.ms[m]? = some b) (hbm : b.1 = true) : P.chkM (P.ow m) b = none := by
  have hm := (List.getElem?_eq_some_iff.mp hb).1
  obtain ⟨o1, o2, o3⟩ := Pgm.ow_at hm
  have hc5 : 5 ≤ P.ow m := by
    rcases Nat.lt_or_ge (P.ow m) 5 with z | z
    · have := Pgm.mf_5 (P := P) (c := P.ow m + 1) (by omega)
      omega
    · exact z
  have h1 := tyCs_none h (P.ow m) hc5 (by have : P.n = 5 + P.2.length := rfl; omega)
  have h2 := tyMs_none h1 m o2 (by omega)
  unfold Pgm.tyM at h2
  rw [hb] at h2
  dsimp only at h2
  rw [hbm, if_pos rfl] at h2
  exact h2
/-- a program that is there -/
theorem prO_some {T : Txt} {cs : List Cl} (h : (prO T).2 = some cs) : ∃ t', (tkS T).prog = ok cs t' ∧ Pgm.bad1 (tkW T, cs) T.2 = none ∧ Pgm.badT (tkW T, cs) = none := by
  unfold prO at h
  rcases hq : (tkS T).prog with ⟨cs', t'⟩ | w
  · rw [hq] at h
    dsimp only at h
    rcases hb : Pgm.bad1 (tkW T, cs') T.2 with _ | p
    · rw [hb] at h
      dsimp only at h
      rcases hbt : Pgm.badT (tkW T, cs') with _ | p
      · rw [hbt] at h
        obtain rfl : cs' = cs := Option.some.inj h
        exact ⟨t', rfl, hb, hbt⟩
      · rw [hbt] at h
        cases h
    · rw [hb] at h
      cases h
  · rw [hq] at h
    cases h
theorem PgF_of {T : Txt} {cs : List Cl} (hT : T.2 ≤ 3000) (h : (prO T).2 = some cs) (ha : Acy (tkW T, cs)) (hn : Pgm.n (tkW T, cs) ≤ 340) (hm : (Pgm.ms (tkW T, cs)).length ≤ 750) : PgF (tkW T, cs) (tkS T) ∧ Pgm.hm (tkW T, cs) = true := by
  obtain ⟨t', hq, hb, hbt⟩ := prO_some h
  obtain ⟨_, bB, hm1⟩ := Pgm.bad1_none hb
  have gp := Pgm.gp (nmw := tkW T) hq (tkP_all hT) bB
  refine ⟨⟨ha, bB, Pgm.p5 bB (Pgm.hF hq), Pgm.p3 hq, by omega, by omega, fun m b hbb hbm => ?_⟩, hm1⟩
  obtain ⟨g1, g2, g3, g4⟩ := gp m b hbb hbm
  have hmem : b ∈ Pgm.ms (tkW T, cs) := List.mem_of_getElem? hbb
  obtain ⟨x, hx, hbx⟩ := List.mem_flatMap.mp hmem
  obtain ⟨v1, v2⟩ := Tks.clss_4 (tk_wsp T) (tkP_all hT) _ _ _ _ hq x hx b hbx hbm
  exact ⟨g1, g2, v1, v2, g4, badT_chk hbt hbb hbm⟩
