/-! ===== THE CLASS' TYPER: a method ===== -/
/-- the first i parameters told -/
def Pgm.e0i (P : Pgm) (b : Mb) : Nat → EnvV
  | 0 => ([], false, fun _ => false)
  | i + 1 => (Pgm.e0i P b i).add (P.1 (px b i).2) (P.rt (px b i).1) true
def Pgm.e0 (P : Pgm) (b : Mb) : EnvV := P.e0i b (mbP b)
theorem Pgm.e0i_len (P : Pgm) (b : Mb) : ∀ i, (P.e0i b i).1.length = i
  | 0 => rfl
  | i + 1 => by
    show ((P.e0i b i).add _ _ _).1.length = _
    rw [EnvV.add_len, Pgm.e0i_len P b i]
/-- the place of the first bad statement, or of the end that is reached -/
def Pgm.chkM (P : Pgm) (c : Nat) (b : Mb) : Option Nat := match P.chk c (P.rt b.2.1) (mbB b) (P.e0 b) with
  | .inl p => some p
  | .inr E => if P.rt b.2.1 = 3 ∨ E.2.1 = true then none else some b.2.2.2.2.2.2
def enA (a k : Nat) : Prop := (a = 51 ∧ (k = 5 ∨ k = 6 ∨ k = 7 ∨ k = 8)) ∨ (a = 52 ∧ (k = 2 ∨ k = 3 ∨ k = 5 ∨ k = 11)) ∨ a = 53 ∨ a = 54 ∨ a = 55
theorem enA.ck (a k : Nat) (h : ckA a) : ¬ enA a k := by
  unfold ckA ctA at h
  unfold enA
  omega
theorem CK.enter_37 {P : Pgm} {D : List Int32 → Prop} {num : List Int32 → Nat} {N m : Nat} {b : Mb} (h5 : P.P5) (hb : P.ms[m]? = some b) (hl : mbP b ≤ 999) : ∀ (d i k M : Nat) (h : pH), i + d = mbP b → d < k → CK P D num h → CSc P D num (P.e0i b i) M h → ∃ h' M', fX9_enter_37 N k 51 (Int32.ofNat m) (Int32.ofNat i) h = some h' ∧ CSc P D num (P.e0 b) M' h' ∧ M ≤ M' ∧ Chg (fun a k => (a = 52 ∧ (k = 2 ∨ k = 3)) ∨ a = 53 ∨ a = 54 ∨ a = 55) h h'
  | 0, i, k + 1, M, h, hd, hk, q, qe => by
    obtain rfl : i = mbP b := by omega
    have hs := q.1.1
    have hm := (List.getElem?_eq_some_iff.mp hb).1
    have hml := q.1.2.2.2.2.2.2.2.2.2.1
    refine ⟨h, M, ?_, qe, Nat.le_refl _, Chg.refl _ _⟩
    unfold fX9_enter_37
    rw [R_51_1 hs, Option.bind_some, R_25_7 hs, Option.bind_some, L_32 hs (by omega), Option.bind_some, (q.2.2.1.2.2.1 m b hb).2.2, ifLe (by omega) (by omega), if_pos (Nat.le_refl _)]
  | d + 1, i, k + 1, M, h, hd, hk, q, qe => by
    have hs := q.1.1
    have hm := (List.getElem?_eq_some_iff.mp hb).1
    have hml := q.1.2.2.2.2.2.2.2.2.2.1
    have hi : i < mbP b := by omega
    have hD : D (P.1 (px b i).2) := (q.2.2.1.2.2.2 _ _ (Pgm.ps_get hb hi).1).1
    obtain ⟨h1, e1, e2, g1⟩ := CSc.add (N := N) (s := true) hs qe hD (P.rt_ok (y := (px b i).1)) (h5 m b i hb hi) (by rw [Pgm.e0i_len]; omega)
    have q1 := q.chg g1 (fun a k z => by unfold ckA ctA at z; omega)
    obtain ⟨h2, M2, f1, f2, f3, g2⟩ := CK.enter_37 (N := N) h5 hb hl d (i + 1) k _ h1 (by omega) (by omega) q1 e2
    refine ⟨h2, M2, ?_, f2, Nat.le_trans (mxM_le _ _) f3, (g1.mono (fun a k z => by omega)).trans g2⟩
    unfold fX9_enter_37
    rw [R_51_1 hs, Option.bind_some, R_25_7 hs, Option.bind_some, L_32 hs (by omega), Option.bind_some, (q.2.2.1.2.2.1 m b hb).2.2, ifLe (by omega) (by omega), if_neg (by omega), R_51_3 hs, Option.bind_some, Option.bind_some, CM1.pname q.1 q.2.2.1 hb hi, Option.bind_some]
    dsimp only
    rw [R_51_1 hs, Option.bind_some, CM1.ptype q.1 q.2.2.1 hb hi, Option.bind_some]
    dsimp only
    rw [show (1 : Int32) = kI true from rfl, e1, Option.bind_some]
    dsimp only
    rw [show kI true = (1 : Int32) from rfl, i_add1]
    exact f1
theorem CK.enter {P : Pgm} {D : List Int32 → Prop} {num : List Int32 → Nat} {N m c : Nat} {b : Mb} {h : pH} (hN : 10000 ≤ N) (h5 : P.P5) (hb : P.ms[m]? = some b) (hl : mbP b ≤ 999) (q : CK P D num h) : ∃ h' M, fX9_enter N 51 (Int32.ofNat c) (Int32.ofNat m) h = some h' ∧ TB P D num c (P.rt b.2.1) (P.e0 b) M 0 0 h' ∧ Chg enA h h' := by
  have hs := q.1.1
  have hm := (List.getElem?_eq_some_iff.mp hb).1
  have hml := q.1.2.2.2.2.2.2.2.2.2.1
  have hs1 := hs.wr 51 7 (Int32.ofNat c)
  have hs2 := hs1.wr 51 8 (ctI (P.rt b.2.1))
  have hs3 := hs2.wr 51 5 0
  have hs4 := hs3.wr 51 6 0
  have g4 : Chg (fun a k => a = 51 ∧ (k = 5 ∨ k = 6 ∨ k = 7 ∨ k = 8)) h (wr (wr (wr (wr h 51 7 (Int32.ofNat c)) 51 8 (ctI (P.rt b.2.1))) 51 5 0) 51 6 0) := ((Chg.wr _ _ _ _ (by omega)).trans (Chg.wr _ _ _ _ (by omega))).trans ((Chg.wr _ _ _ _ (by omega)).trans (Chg.wr _ _ _ _ (by omega)))
  obtain ⟨h5', e1, e2, e3, g5⟩ := CSc.clear (P := P) (D := D) (num := num) (N := N) hs4 (fun _ => false)
  have hs5 : Sg h5' := hs4.of g5.1
  have gg : Chg enA h h5' := (g4.mono (fun a k z => Or.inl z)).trans (g5.mono (fun a k z => Or.inr (Or.inl z)))
  have q5 := q.chg gg enA.ck
  obtain ⟨h6, M, f1, f2, f3, g6⟩ := CK.enter_37 (N := N) (m := m) (b := b) h5 hb hl (mbP b) 0 N 0 h5' (by omega) (by omega) q5 e2
  have gg2 : Chg enA h h6 := gg.trans (g6.mono (fun a k z => by unfold enA; omega))
  have r5 : ∀ k, k = 5 ∨ k = 6 ∨ k = 7 ∨ k = 8 → rd h6 51 k = rd (wr (wr (wr (wr h 51 7 (Int32.ofNat c)) 51 8 (ctI (P.rt b.2.1))) 51 5 0) 51 6 0) 51 k := fun k hk => by rw [g6.2.2.1 _ _ (by omega), g5.2.2.1 _ _ (by omega)]
  refine ⟨h6, M, ?_, ⟨⟨q.chg gg2 enA.ck, f2, ⟨?_, ?_, Nat.le_refl _, by omega, fun i t hx => by cases hx⟩, ?_⟩, ?_, ?_⟩, gg2⟩
  · unfold fX9_enter
    rw [if_pos (o_51 hs), p_51_7 hs, Option.bind_some, R_51_1 hs1, Option.bind_some, R_25_3 hs1, Option.bind_some, L_28 hs1 (by omega), Option.bind_some, rd_wr_ne _ _ (by omega), (q.2.2.1.2.2.1 m b hb).1, p_51_8 hs1, Option.bind_some, p_51_5 hs2, Option.bind_some, p_51_6 hs3, Option.bind_some, R_51_3 hs4, Option.bind_some, e1, Option.bind_some]
    exact f1
  · rw [r5 5 (by omega), rd_wr_ne _ _ (by omega), w_51_5 hs2]; rfl
  · rw [r5 6 (by omega), w_51_6 hs3]; rfl
  · rw [r5 7 (by omega), rd_wr_ne _ _ (by omega), rd_wr_ne _ _ (by omega), rd_wr_ne _ _ (by omega), w_51_7 hs]
  · rw [r5 8 (by omega), rd_wr_ne _ _ (by omega), rd_wr_ne _ _ (by omega), w_51_8 hs1]
  · rw [g6.2.2.1 _ _ (by omega), e3]; rfl
theorem codeEnd_2 {N e K : Nat} {h : pH} (hs : Sg h) (h7 : rd h 38 7 = Int32.ofNat K) (hK : K ≤ 3000) (he : e < K) (h61 : rd h 39 e = 61) : ∀ (d i k : Nat), i + d = e → d < k → (∀ j, i ≤ j → j < e → n61 h j) → fX9_codeEnd_2 N k 51 (Int32.ofNat i) h = some (Int32.ofNat e, h)
  | 0, i, k + 1, hd, hk, hj => by
    obtain rfl : i = e := by omega
    unfold fX9_codeEnd_2
    rw [R_51_2 hs, Option.bind_some, g_38_7 hs, Option.bind_some, h7, show Int32.ofNat K - (1 : Int32) = Int32.ofNat (K - 1) by obtain ⟨K, rfl⟩ : ∃ K', K = K' + 1 := ⟨K - 1, by omega⟩; rw [← i_add1]; simp, ifLe (by omega) (by omega)]
    split
    · rfl
    · rw [Option.bind_some, R_38_0 hs, Option.bind_some, L_39 hs (by omega), Option.bind_some, h61, if_pos rfl]
  | d + 1, i, k + 1, hd, hk, hj => by
    unfold fX9_codeEnd_2
    rw [R_51_2 hs, Option.bind_some, g_38_7 hs, Option.bind_some, h7, show Int32.ofNat K - (1 : Int32) = Int32.ofNat (K - 1) by obtain ⟨K, rfl⟩ : ∃ K', K = K' + 1 := ⟨K - 1, by omega⟩; rw [← i_add1]; simp, ifLe (by omega) (by omega), if_neg (by omega), Option.bind_some, R_38_0 hs, Option.bind_some, L_39 hs (by omega), Option.bind_some, if_neg (hj i (Nat.le_refl _) (by omega)), i_add1]
    exact codeEnd_2 hs h7 hK he h61 d (i + 1) k (by omega) (by omega) (fun j j1 j2 => hj j (by omega) j2)
theorem fine_61 {P : Pgm} {D : List Int32 → Prop} {num : List Int32 → Nat} {E : EnvV} {M X N i mt : Nat} {h : pH} (q : CK P D num h) (qe : CSc P D num E M h) (qs : CSt P [] X h) (h8 : rd h 51 8 = ctI mt) (hm : P.tOk mt) : FnS P D num M X i (fun h' => rd h' 39 i = rd h 39 i) (if mt = 3 ∨ E.2.1 = true then some E else none) (fX9_isFine N 51 (Int32.ofNat i) (Int32.ofNat 61) h) h := by
  have hs := q.1.1
  have hn : P.n ≤ 400 := by have := q.1.2.2.2.2.2.1; omega
  unfold fX9_isFine
  rw [if_pos (o_51 hs)]
  refine FnS.wrap ?_
  unfold fX9_isSilentFine
  rw [if_pos (o_51 hs)]
  show FnS P D num M X i _ _ ((getI h 51 9 8).bind fun t32 => if t32 = (-4 : Int32) then some ((1 : Int32), h) else ((getR h 51 9 3).bind fun t34 => (getI h t34 8 5).bind fun t35 => if t35 = 0 then some ((0 : Int32), h) else some ((1 : Int32), h))) h
  rw [g_51_8 hs, Option.bind_some, h8, ctI_e3 hn hm]
  have ok : FnS P D num M X i (fun h' => rd h' 39 i = rd h 39 i) (some E) (some ((1 : Int32), h)) h := ⟨h, M, rfl, qe, qs, Nat.le_refl _, rfl, Chg.refl _ _⟩
  by_cases z : mt = 3
  · rw [if_pos z, if_pos (Or.inl z)]
    exact ok
  · rw [if_neg z, R_51_3 hs, Option.bind_some, g_52_5 hs, Option.bind_some, qe.2.2.2.2.2.1, kI_if]
    by_cases y : E.2.1 = true
    · rw [if_pos y, if_pos (Or.inr y)]
      exact ok
    · rw [if_neg y, if_neg (fun u => u.elim z y)]
      exact ⟨h, rfl, Chg.refl _ _⟩
