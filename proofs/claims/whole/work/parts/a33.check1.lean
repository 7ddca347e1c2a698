/-! ===== CLASSES, MEMBERS, MAIN: both sides ===== -/
def Pgm.bad1 (P : Pgm) (L : Nat) : Option Nat := match P.badA with
  | some p => some p
  | none => match P.badB with
    | some p => some p
    | none => if P.hm = true then none else some L
theorem Pgm.badA_none {P : Pgm} (h : P.badA = none) : fstN P.b3 P.2.length 5 = none := by
  unfold Pgm.badA at h
  split at h
  · cases h
  · split at h
    · cases h
    · split at h
      · cases h
      · assumption
theorem Pgm.badA_lt {P : Pgm} (hpl : ∀ c, 5 ≤ c → c < P.n → P.pl c ≤ 3000) {p : Nat} (h : P.badA = some p) : p ≤ 3000 := by
  have hnn : P.n = 5 + P.2.length := rfl
  have key : ∀ (f : Nat → Bool) (c : Nat), fstN f P.2.length 5 = some c → P.pl c ≤ 3000 := fun f c hc => by
    obtain ⟨h1, h2, _⟩ := fstN_some hc
    exact hpl c h1 (by omega)
  unfold Pgm.badA at h
  split at h
  · rename_i c hc
    rw [← Option.some.inj h]; exact key _ c hc
  · split at h
    · rename_i c hc
      rw [← Option.some.inj h]; exact key _ c hc
    · split at h
      · rename_i c hc
        rw [← Option.some.inj h]; exact key _ c hc
      · cases h
theorem Pgm.badBF_lt {P : Pgm} (hpl : ∀ m, P.mpl m ≤ 3000) : ∀ {d c p : Nat}, P.badBF d c = some p → p ≤ 3000
  | 0, c, p, h => by cases h
  | d + 1, c, p, h => by
    rw [show P.badBF (d + 1) c = match fstN (P.mbad c) (P.mf (c + 1) - P.mf c) (P.mf c) with
      | some m => some (P.mpl m)
      | none => P.badBF d (c + 1) from rfl] at h
    split at h
    · rw [← Option.some.inj h]; exact hpl _
    · exact Pgm.badBF_lt hpl h
theorem CM0.chg {A : Nat → Nat → Prop} {P : Pgm} {D : List Int32 → Prop} {num : List Int32 → Nat} {h h' : pH} (q : CM0 P D num h) (g : Chg A h h') (hA : ∀ a k, a = 25 ∨ a = 28 ∨ a = 31 ∨ a = 32 ∨ a = 36 ∨ a = 37 → ¬ A a k) : CM0 P D num h' := by
  obtain ⟨c1, c2, c3, c4⟩ := q
  refine ⟨by rw [g.2.2.1 _ _ (hA 25 14 (by omega))]; exact c1, c2, fun m b hb => ?_, fun i x hx => ?_⟩
  · obtain ⟨d1, d2, d3, d4⟩ := c3 m b hb
    exact ⟨d1, by rw [g.2.2.1 _ _ (hA 28 m (by omega))]; exact d2, by rw [g.2.2.1 _ _ (hA 31 m (by omega))]; exact d3, by rw [g.2.2.1 _ _ (hA 32 m (by omega))]; exact d4⟩
  · obtain ⟨d1, d2, d3, d4⟩ := c4 i x hx
    exact ⟨d1, d2, by rw [g.2.2.1 _ _ (hA 37 i (by omega))]; exact d3, by rw [g.2.2.1 _ _ (hA 36 i (by omega))]; exact d4⟩
theorem CM1.chg {A : Nat → Nat → Prop} {P : Pgm} {D : List Int32 → Prop} {num : List Int32 → Nat} {h h' : pH} (q : CM1 P D num h) (g : Chg A h h') (hA : ∀ a k, a = 25 ∨ a = 28 ∨ a = 31 ∨ a = 32 ∨ a = 36 ∨ a = 37 → ¬ A a k) : CM1 P D num h' := by
  obtain ⟨c1, c2, c3, c4⟩ := q
  refine ⟨by rw [g.2.2.1 _ _ (hA 25 14 (by omega))]; exact c1, c2, fun m b hb => ?_, fun i x hx => ?_⟩
  · obtain ⟨d2, d3, d4⟩ := c3 m b hb
    exact ⟨by rw [g.2.2.1 _ _ (hA 28 m (by omega))]; exact d2, by rw [g.2.2.1 _ _ (hA 31 m (by omega))]; exact d3, by rw [g.2.2.1 _ _ (hA 32 m (by omega))]; exact d4⟩
  · obtain ⟨d2, d3, d4⟩ := c4 i x hx
    exact ⟨d2, by rw [g.2.2.1 _ _ (hA 37 i (by omega))]; exact d3, by rw [g.2.2.1 _ _ (hA 36 i (by omega))]; exact d4⟩
theorem CT.check {P : Pgm} {D : List Int32 → Prop} {num : List Int32 → Nat} {N L : Nat} {h : pH} (hN : 1100 ≤ N) (q : CT P D num h) (qn : CPn P D num h) (h21 : ∀ c, c < P.n → rd h 21 c = -1) (m : CM0 P D num h) (hpl : ∀ m, P.mpl m ≤ 3000) : ∃ h', fX0_check N 50 (Int32.ofNat L) h = some (oI (-1) (P.bad1 L), h') ∧ (P.bad1 L = none → CT P D num h' ∧ CPr P h' ∧ CM1 P D num h' ∧ CLy P h' ∧ Acy P) ∧ Chg (fun a _ => a = 21 ∨ a = 24 ∨ a = 28 ∨ a = 30 ∨ a = 37) h h' := by
  obtain ⟨h1, e1, e2, e3⟩ := CT.badClass hN q qn h21
  have q1 := q.chg e3 (fun a k ha => by unfold ctA at ha; omega)
  have m1 := m.chg e3 (fun a k ha => by omega)
  have g1 : Chg (fun a _ => a = 21 ∨ a = 24 ∨ a = 28 ∨ a = 30 ∨ a = 37) h h1 := e3.mono (fun a k z => by omega)
  unfold fX0_check Pgm.bad1
  rw [if_pos (o_50 q.1), e1, Option.bind_some]
  dsimp only
  rw [isNone_kI (fun e he => by have := Pgm.badA_lt (fun c c1 c2 => (q.2.2.2.2.2.2.2.1 c c1 c2).2) he; omega)]
  rcases hA : P.badA with _ | p
  · have hp1 := e2 hA
    have ha := Pgm.acy (Pgm.badA_none hA)
    obtain ⟨h2, f1, f2, f3⟩ := CT.resolve hN q1 m1
    have q2 := q1.chg f3 (fun a k ha => by unfold ctA at ha; omega)
    have hp2 := hp1.chg f3 (fun k => by omega)
    have g2 : Chg (fun a _ => a = 21 ∨ a = 24 ∨ a = 28 ∨ a = 30 ∨ a = 37) h1 h2 := f3.mono (fun a k z => by omega)
    rw [if_pos (show (none : Option Nat).isNone = true from rfl), R_50_1 q1.1, Option.bind_some, f1, Option.bind_some, CM1.badMember hN q2 hp2 f2, Option.bind_some]
    dsimp only
    rw [isNone_kI (fun e he => by have := Pgm.badBF_lt hpl he; omega)]
    rcases hB : P.badB with _ | p
    · obtain ⟨h3, k1, k2, k3⟩ := CT.layOut hN ha q2 hp2
      have q3 := q2.chg k3 (fun a k ha => by unfold ctA at ha; omega)
      have hp3 := hp2.chg k3 (fun k => by omega)
      have m3 := f2.chg k3 (fun a k ha => by omega)
      have g3 : Chg (fun a _ => a = 21 ∨ a = 24 ∨ a = 28 ∨ a = 30 ∨ a = 37) h2 h3 := k3.mono (fun a k z => by omega)
      rw [if_pos (show (none : Option Nat).isNone = true from rfl), R_50_1 q2.1, Option.bind_some, k1, Option.bind_some, CM1.hasMain hN q3 hp3 m3, Option.bind_some]
      dsimp only
      rw [kI_if]
      refine ⟨h3, ?_, fun _ => ⟨q3, hp3, m3, k2, ha⟩, (g1.trans g2).trans g3⟩
      cases P.hm <;> rfl
    · exact ⟨h2, rfl, fun z => (by cases z), g1.trans g2⟩
  · exact ⟨h1, rfl, fun z => (by cases z), g1⟩
theorem RT.bad_324 {P : Pgm} {D : List Int32 → Prop} {num : List Int32 → Nat} {N p : Nat} {h : pH} (hN : 1100 ≤ N) (q : RT P D num h) (hb : rd h 138 58 = Int32.ofNat p) (hp : p < 2 ^ 31) : ∃ h', fX12_program_324 N 138 h = some (-10000 - Int32.ofNat p, h') ∧ Chg (fun a _ => a = 166) h h' := by
  have hn := q.2.2.2.2.2.1
  obtain ⟨h1, e1, e2, e3⟩ := RT.lay_326 (N := N) P.n 0 N h (by omega) (by omega) q (fun x hx => by omega)
  have q' := q.chg e3 (fun a k ha => by unfold rtA at ha; omega) (by omega) (by omega)
  have hb' : rd h1 138 58 = Int32.ofNat p := by rw [e3.2.2.1 _ _ (by omega)]; exact hb
  refine ⟨h1, ?_, e3⟩
  obtain ⟨N', rfl⟩ : ∃ N', N = N' + 1 := ⟨N - 1, by omega⟩
  have e451 : fX12_program_451 (N' + 1) 138 h1 = some (-10000 - Int32.ofNat p, h1) := by
    unfold fX12_program_451
    rw [g_138_58 q'.1, Option.bind_some, hb', if_neg (i_nneg hp), Option.bind_some]
  have e377 : fX12_program_377 (N' + 1) 138 h1 = some (-10000 - Int32.ofNat p, h1) := by
    unfold fX12_program_377
    rw [fX12_program_379, g_138_37 q'.1, Option.bind_some, g_138_58 q'.1, Option.bind_some, hb', if_pos (i_nn0 hp), e451]
    exact ite_self _
  have e0 : fX12_program_324 (N' + 1) 138 h = fX12_program_349 (N' + 1) (N' + 1) 138 0 h1 := e1
  rw [e0, fX12_program_349, g_138_37 q'.1, Option.bind_some, g_138_58 q'.1, Option.bind_some, hb', if_pos (i_nn0 hp), e377]
  exact ite_self _
theorem RT.good_324 {P : Pgm} {D : List Int32 → Prop} {num : List Int32 → Nat} {N : Nat} {h : pH} (hN : 1100 ≤ N) (ha : Acy P) (q : RT P D num h) (hp : RPr P h) (hb : rd h 138 58 = -1) : ∃ h', fX12_program_324 N 138 h = fX12_program_377 N 138 h' ∧ RLy P h' ∧ Chg (fun a _ => a = 166 ∨ a = 175) h h' := by
  have hn := q.2.2.2.2.2.1
  obtain ⟨h1, e1, e2, e3⟩ := RT.lay_326 (N := N) P.n 0 N h (by omega) (by omega) q (fun x hx => by omega)
  have q' := q.chg e3 (fun a k ha => by unfold rtA at ha; omega) (by omega) (by omega)
  have hp' : RPr P h1 := fun c hc => by rw [e3.2.2.1 _ _ (by omega)]; exact hp c hc
  obtain ⟨h2, f1, f2, f3⟩ := RT.lay_349 hN ha P.n 0 N (fun _ => false) h1 (by omega) (by omega) q' hp' (fun c hc => ⟨e2 c hc, fun z => Bool.noConfusion z⟩) (by rw [e3.2.2.1 _ _ (by omega)]; exact hb) (fun x hx => by omega)
  refine ⟨h2, ?_, f2, (e3.mono (fun a k z => by omega)).trans f3⟩
  have e0 : fX12_program_324 N 138 h = fX12_program_349 N N 138 0 h1 := e1
  rw [e0]
  exact f1
/-- what these checks change in the reference -/
def chA (a k : Nat) : Prop := a = 165 ∨ a = 166 ∨ a = 170 ∨ a = 175 ∨ a = 176 ∨ (a = 138 ∧ (k = 58 ∨ k = 59))
theorem RM1.chg {A : Nat → Nat → Prop} {P : Pgm} {h h' : pH} (q : RM1 P h) (g : Chg A h h') (h1 : ∀ k, ¬ A 170 k) (h2 : ∀ k, ¬ A 176 k) : RM1 P h' := ⟨fun m b hb => by rw [g.2.2.1 _ _ (h1 m)]; exact q.1 m b hb, fun i x hx => by rw [g.2.2.1 _ _ (h2 i)]; exact q.2 i x hx⟩
theorem RPr.chg {A : Nat → Nat → Prop} {P : Pgm} {h h' : pH} (q : RPr P h) (g : Chg A h h') (h1 : ∀ k, ¬ A 165 k) : RPr P h' := fun c hc => by rw [g.2.2.1 _ _ (h1 c)]; exact q c hc
/-- the checks up to here found p, or nothing -/
def R1 (P : Pgm) (D : List Int32 → Prop) (num : List Int32 → Nat) (N : Nat) (o : Option Nat) (x : Option (Int32 × pH)) (h : pH) : Prop := match o with
  | some p => ∃ h', x = some (-10000 - Int32.ofNat p, h') ∧ Chg chA h h'
  | none => ∃ h', x = fX12_program_377 N 138 h' ∧ rd h' 138 58 = -1 ∧ RT P D num h' ∧ RPr P h' ∧ RQ P D num h' ∧ RM1 P h' ∧ RLy P h' ∧ Acy P ∧ rd h' 138 59 = oI (-1) (P.fnd (knW 5)) ∧ Chg chA h h'
theorem RT.r1_bad {P : Pgm} {D : List Int32 → Prop} {num : List Int32 → Nat} {N p : Nat} {h h0 : pH} (hN : 1100 ≤ N) (q : RT P D num h) (hb : rd h 138 58 = Int32.ofNat p) (hp : p < 2 ^ 31) (g : Chg chA h0 h) : R1 P D num N (some p) (fX12_program_324 N 138 h) h0 := by
  obtain ⟨h1, e1, e2⟩ := RT.bad_324 hN q hb hp
  exact ⟨h1, e1, g.trans (e2.mono (fun a k z => by unfold chA; omega))⟩
theorem RT.r1_236 {P : Pgm} {D : List Int32 → Prop} {num : List Int32 → Nat} {N p : Nat} {h h0 : pH} (hN : 1100 ≤ N) (q : RT P D num h) (hb : rd h 138 58 = Int32.ofNat p) (hp : p < 2 ^ 31) (g : Chg chA h0 h) : R1 P D num N (some p) (fX12_program_236 N 138 h) h0 := by
  have g1 : Chg chA h (wr h 138 59 (-1)) := Chg.wr _ _ _ _ (by unfold chA; omega)
  have q' : RT P D num (wr h 138 59 (-1)) := q.ofW (by unfold rtA; omega) (by omega) (by omega)
  have hb' : rd (wr h 138 59 (-1)) 138 58 = Int32.ofNat p := by rw [rd_wr_ne _ _ (by omega)]; exact hb
  have e : fX12_program_236 N 138 h = fX12_program_324 N 138 (wr h 138 59 (-1)) := by
    unfold fX12_program_236 fX12_program_253 fX12_program_278
    rw [g_138_58 q.1, Option.bind_some, hb, if_pos (i_nn0 hp), p_138_59 q.1, Option.bind_some, g_138_59 q'.1, Option.bind_some, w_138_59 q.1, if_neg (by decide), g_138_58 q'.1, Option.bind_some, hb', if_pos (i_nn0 hp)]
  rw [e]
  exact RT.r1_bad hN q' hb' hp (g.trans g1)
/-- a method that main may be -/
def Pgm.mOk (P : Pgm) : Option Nat → Bool
  | none => false
  | some m => match P.ms[m]? with
    | none => false
    | some b => decide (P.rt b.2.1 = 0) && decide (mbP b = 0)
theorem Pgm.mOk_some {P : Pgm} {m : Nat} {b : Mb} (h : P.ms[m]? = some b) : P.mOk (some m) = (decide (P.rt b.2.1 = 0) && decide (mbP b = 0)) := by
  unfold Pgm.mOk
  dsimp only
  rw [h]
theorem Pgm.hm_eq (P : Pgm) : P.hm = P.mOk (P.hadO true (knW 6) (P.fnd (knW 5))) := by
  unfold Pgm.hm Pgm.mOk
  rcases P.hadO true (knW 6) (P.fnd (knW 5)) with _ | m
  · rfl
  · rfl
theorem RT.r1_main {P : Pgm} {D : List Int32 → Prop} {num : List Int32 → Nat} {N L : Nat} {h h0 : pH} (hN : 1100 ≤ N) (ha : Acy P) (q : RT P D num h) (hp : RPr P h) (r : RQ P D num h) (r1 : RM1 P h) (hb : rd h 138 58 = -1) (h3 : rd h 138 3 = Int32.ofNat L) (hL : L < 2 ^ 31) (g : Chg chA h0 h) : R1 P D num N (if P.hm = true then none else some L) (fX12_program_236 N 138 h) h0 := by
  have g1 : Chg (fun a k => a = 138 ∧ k = 59) h (wr h 138 59 (oI (-1) (P.fnd (knW 5)))) := Chg.wr _ _ _ _ (by omega)
  have q' : RT P D num (wr h 138 59 (oI (-1) (P.fnd (knW 5)))) := q.ofW (by unfold rtA; omega) (by omega) (by omega)
  have e59 := w_138_59 q.1 (oI (-1) (P.fnd (knW 5)))
  have gg : Chg chA h0 (wr h 138 59 (oI (-1) (P.fnd (knW 5)))) := g.trans (g1.mono (fun a k z => by unfold chA; omega))
  have hp' := hp.chg g1 (fun k => by omega)
  have r' := r.chg g1 (by omega) (fun k => by omega) (fun k => by omega)
  have r1' := r1.chg g1 (fun k => by omega) (fun k => by omega)
  have hb' : rd (wr h 138 59 (oI (-1) (P.fnd (knW 5)))) 138 58 = -1 := by rw [rd_wr_ne _ _ (by omega)]; exact hb
  have h3' : rd (wr h 138 59 (oI (-1) (P.fnd (knW 5)))) 138 3 = Int32.ofNat L := by rw [rd_wr_ne _ _ (by omega)]; exact h3
  obtain ⟨k5, n5⟩ := q.2.2.2.1 5 (by decide)
  obtain ⟨k6, n6⟩ := q.2.2.2.1 6 (by decide)
  have fd := q.classOf (N := N) hN k5
  rw [n5, show Int32.ofNat 5 = 5 from rfl] at fd
  have e0 : fX12_program_236 N 138 h = fX12_program_253 N 138 138 (oI (-1) (P.fnd (knW 5))) h := by
    unfold fX12_program_236
    rw [g_138_58 q.1, Option.bind_some, if_neg (bad_neg hb), fd, Option.bind_some]
  rw [e0]
  unfold fX12_program_253
  rw [p_138_59 q.1, Option.bind_some]
  generalize hh : wr h 138 59 (oI (-1) (P.fnd (knW 5))) = h1 at g1 q' e59 gg hp' r' r1' hb' h3'
  have hn := q.2.2.2.2.2.1
  have hml := q.2.2.2.2.2.2.2.2.2.2.1
  have b316 : R1 P D num N (some L) (fX12_program_316 N 138 h1) h0 := by
    have q2 : RT P D num (wr h1 138 58 (Int32.ofNat L)) := q'.ofW (by unfold rtA; omega) (by omega) (by omega)
    unfold fX12_program_316
    rw [g_138_3 q'.1, Option.bind_some, h3', e12_isBad q'.1 (by rw [hb']; decide), Option.bind_some]
    exact RT.r1_bad hN q2 (w_138_58 q'.1 _) hL (gg.trans (Chg.wr _ _ _ _ (by unfold chA; omega)))
  have g324 : R1 P D num N none (fX12_program_324 N 138 h1) h0 := by
    obtain ⟨h2, f1, f2, f3⟩ := RT.good_324 hN ha q' hp' hb'
    refine ⟨h2, f1, by rw [f3.2.2.1 _ _ (by omega)]; exact hb', q'.chg f3 (fun a k ha => by unfold rtA at ha; omega) (by omega) (by omega), hp'.chg f3 (fun k => by omega), r'.chg f3 (by omega) (fun k => by omega) (fun k => by omega), r1'.chg f3 (fun k => by omega) (fun k => by omega), f2, ha, by rw [f3.2.2.1 _ _ (by omega)]; exact e59, gg.trans (f3.mono (fun a k z => by unfold chA; omega))⟩
  have k278 : ∀ o : Option Nat, (∀ m, o = some m → m < P.ms.length) → R1 P D num N (if P.mOk o = true then none else some L) (fX12_program_278 N 138 (oI (-1) o) h1) h0 := by
    intro o ho
    unfold fX12_program_278
    rw [g_138_58 q'.1, Option.bind_some, if_neg (bad_neg hb'), i_neg_oI (fun m hm => by have := ho m hm; omega)]
    rcases o with _ | m
    · exact b316
    · have hm := ho m rfl
      obtain ⟨b, hx⟩ : ∃ b, P.ms[m]? = some b := ⟨P.ms[m]'hm, List.getElem?_eq_getElem hm⟩
      have b1 := (Pgm.pf_succ hx).1
      have b2 := (Pgm.pf_succ hx).2
      have r2 := r.2.1
      have t1 := P.rt_lt (y := b.2.1) (by omega)
      rw [Pgm.mOk_some hx, if_neg (show ¬ (some m).isNone = true from Bool.false_ne_true), show oI (-1) (some m) = Int32.ofNat m from rfl, R_138_47 q'.1, Option.bind_some, L_170 q'.1 (by omega), Option.bind_some, r1'.1 m b hx, show (0 : Int32) = Int32.ofNat 0 from rfl, ifEq (by omega) (by omega), R_138_49 q'.1, Option.bind_some, i_add1, L_172 q'.1 (by omega), Option.bind_some, Option.bind_some, L_172 q'.1 (by omega), Option.bind_some, r'.2.2.1 (m + 1) (by omega), r'.2.2.1 m (by omega), ifLe (by omega) (by omega), b1]
      by_cases z1 : P.rt b.2.1 = 0
      · rw [if_pos z1, decide_eq_true z1, Bool.true_and]
        by_cases z2 : mbP b = 0
        · rw [if_pos (show P.pf m + mbP b ≤ P.pf m by omega), decide_eq_true z2, if_pos rfl]
          exact g324
        · rw [if_neg (show ¬ P.pf m + mbP b ≤ P.pf m by omega), decide_eq_false z2, if_neg Bool.false_ne_true]
          exact b316
      · rw [if_neg z1, decide_eq_false z1, Bool.false_and, if_neg Bool.false_ne_true]
        exact b316
  rw [g_138_59 q'.1, Option.bind_some, e59, i_nn_oI (fun e he => by have := (Pgm.fnd_lt he).1; omega)]
  rw [P.hm_eq]
  rcases hf : P.fnd (knW 5) with _ | c
  · exact k278 none (fun m hm => by cases hm)
  · have hc := (Pgm.fnd_lt hf).1
    have mo := q'.memberOf (kk := true) hp' ha hN k6 hc
    rw [n6, show Int32.ofNat 6 = 6 from rfl, show kI true = 1 from rfl] at mo
    rw [if_neg (show ¬ (some c).isNone = true from Bool.false_ne_true), Option.bind_some, show oI (-1) (some c) = Int32.ofNat c from rfl, mo, Option.bind_some]
    exact k278 (P.had true (knW 6) c) (fun m hm => (Pgm.hadF_lt hm).1)
theorem RT.check1 {P : Pgm} {D : List Int32 → Prop} {num : List Int32 → Nat} {N L k : Nat} {h : pH} (hN : 1100 ≤ N) (q : RT P D num h) (qn : RPn P D num h) (h5 : ∀ c, c < 5 → rd h 165 c = -1) (r : RQ P D num h) (m : RM0 P D num h) (hpl : ∀ m, P.mpl m ≤ 3000) (hb : rd h 138 58 = -1) (h9 : rd h 138 9 < 0) (h3 : rd h 138 3 = Int32.ofNat L) (hL : L < 2 ^ 31) : R1 P D num N (P.bad1 L) (fX12_program_164 N (k + 1) 138 0 h) h := by
  obtain ⟨h1, e1, e2, e3, e4⟩ := RT.checkClasses hN q qn h5 hb
  have q1 := q.chg e4 (fun a k ha => by unfold rtA at ha; unfold ccA; omega) (by unfold ccA; omega) (by unfold ccA; omega)
  have r1 := r.chg e4 (by unfold ccA; omega) (fun k => by unfold ccA; omega) (fun k => by unfold ccA; omega)
  have g1 : Chg chA h h1 := e4.mono (fun a k z => by unfold ccA at z; unfold chA; omega)
  have m1 : RM0 P D num h1 := ⟨fun j b hj => by rw [e4.2.2.1 _ _ (by unfold ccA; omega)]; exact m.1 j b hj, fun j b hj => by rw [e4.2.2.1 _ _ (by unfold ccA; omega)]; exact m.2 j b hj⟩
  rw [fX12_program_164, if_pos rfl, g_138_9 q.1, Option.bind_some, if_pos h9, e1, Option.bind_some, g_138_58 q1.1, Option.bind_some, e2, i_nn_oI (fun e he => by have := Pgm.badA_lt (fun c c1 c2 => (q.2.2.2.2.2.2.2.2.1 c c1 c2).2) he; omega)]
  unfold Pgm.bad1
  rcases hA : P.badA with _ | p
  · rw [hA] at e2
    obtain ⟨hp1, ha⟩ := e3 hA
    obtain ⟨h2, f1, f2, f3, f4⟩ := RT.checkMembers hN q1 hp1 ha r1 m1 hpl e2
    have q2 := q1.chg f4 (fun a k ha => by unfold rtA at ha; omega) (by omega) (by omega)
    have hp2 := hp1.chg f4 (fun k => by omega)
    have r2 := r1.chg f4 (by omega) (fun k => by omega) (fun k => by omega)
    have g2 : Chg chA h h2 := g1.trans (f4.mono (fun a k z => by unfold chA; omega))
    rw [if_pos (show (none : Option Nat).isNone = true from rfl), f1, Option.bind_some]
    dsimp only
    rcases hB : P.badB with _ | p
    · rw [hB] at f2
      exact RT.r1_main hN ha q2 hp2 r2 f3 f2 (by rw [g2.2.2.1 _ _ (by unfold chA; omega)]; exact h3) hL g2
    · rw [hB] at f2
      have := Pgm.badBF_lt hpl hB
      exact RT.r1_236 hN q2 f2 (by omega) g2
  · rw [hA] at e2
    have := Pgm.badA_lt (fun c c1 c2 => (q.2.2.2.2.2.2.2.2.1 c c1 c2).2) hA
    rw [if_neg (show ¬ (some p).isNone = true from Bool.false_ne_true)]
    exact RT.r1_236 hN q1 e2 (by omega) g1
