/-! ===== THE CLASS' TYPER: all methods ===== -/
/-- method m of class c, typed -/
def TM (C : Cx) (P : Pgm) (h : pH) (c m : Nat) (b : Mb) : Prop := ∃ M X, rd h 34 m = Int32.ofNat M ∧ rd h 35 m = Int32.ofNat X ∧ M < 1000 ∧ X ≤ 3001 ∧ mbP b ≤ M ∧ TC P C c (P.rt b.2.1) M X h (mbB b) (P.e0 b) (P.kf m) (-1) ∧ rd h 39 (P.kf m + cb (mbB b)) = 61 ∧ rd h 33 m = Int32.ofNat (P.kf m)
def CdM (C : Cx) (P : Pgm) (h : pH) (m : Nat) (b : Mb) : Prop := rd h 33 m = Int32.ofNat (P.kf m) ∧ CB (QC5 C h) (mbB b) (P.kf m) (-1) ∧ PcAt h (P.kf m + cb (mbB b)) 61 0 0 0 (Int32.ofNat b.2.2.2.2.2.2) (-1)
/-- what typing the method m changes -/
def mdA (m s t a k : Nat) : Prop := enA a k ∨ svA s t 0 a k ∨ ((a = 34 ∨ a = 35) ∧ k = m)
theorem mdA.ck {m s t : Nat} (a k : Nat) (h : ckA a) : ¬ mdA m s t a k := by
  intro z
  rcases z with z | z | z
  · exact enA.ck a k h z
  · exact svA.ck a k h z
  · unfold ckA ctA at h
    omega
theorem mdA.ty {m s t : Nat} (a k : Nat) (h : mdA m s t a k) : tyC a k := by
  rcases h with h | h | h
  · unfold enA at h
    unfold tyC
    omega
  · exact svA.ty a k h
  · unfold tyC
    omega
theorem enA.ty (a k : Nat) (h : enA a k) : tyC a k := by
  unfold enA at h
  unfold tyC
  omega
/-- the methods are as the grammar makes them -/
def GP (S : Tks) (P : Pgm) : Prop := ∀ (m : Nat) (b : Mb), P.ms[m]? = some b → b.1 = true → (∃ n, GK S n (mbB b)) ∧ dp (mbB b) ≤ 30 ∧ mbP b + nv (mbB b) ≤ 999 ∧ P.rt b.2.1 ≠ 5
theorem chk_end {N n i e m : Nat} {v1 : Int32} {k2 : Nat → Int32 → pH → Option (Int32 × pH)} {k23 : Nat → Int32 → Int32 → pH → Option (Int32 × pH)} {h : pH} (hs : Sg h) (hi : i < 3100) (he : e < i) (hm : m < 1000) : fX9_check_79 N k2 k23 (n + 1) 51 v1 (Int32.ofNat m) (Int32.ofNat e) (Int32.ofNat i) h = k23 51 v1 (Int32.ofNat (m + 1)) (wr (wr h 34 m (rd h 52 3)) 35 m (rd h 51 6)) := by
  unfold fX9_check_79
  have hs1 := hs.wr 34 m (rd h 52 3)
  rw [ifLt (by omega) (by omega), if_pos he, R_51_1 hs, Option.bind_some, R_25_9 hs, Option.bind_some, R_51_3 hs, Option.bind_some, g_52_3 hs, Option.bind_some, T_34 hs hm, Option.bind_some, R_51_1 hs1, Option.bind_some, R_25_10 hs1, Option.bind_some, g_51_6 hs1, Option.bind_some, rd_wr_ne _ _ (by omega), T_35 hs1 hm, Option.bind_some]
  unfold fX9_check_167
  rw [i_add1]
theorem CK.method {S : Tks} {P : Pgm} {D : List Int32 → Prop} {num : List Int32 → Nat} {C : Cx} {N c m k : Nat} {b : Mb} {k2 : Nat → Int32 → pH → Option (Int32 × pH)} {h : pH} (hN : 10000 ≤ N) (h5 : P.P5) (hc : c < P.n) (hC : ∀ w, S.K w = 22 → D (P.1 w) ∧ C.2.1 w = Int32.ofNat (num (P.1 w))) (gp : GP S P) (hK : msK P.ms ≤ 3000) (hb : P.ms[m]? = some b) (hbm : b.1 = true) (hm : m < P.mf (c + 1)) (q : CK P D num h) (h7 : rd h 38 7 = Int32.ofNat (msK P.ms)) (cd : CdM C P h m b) : match P.chkM c b with
    | some p => ∃ h', fX9_check_23 N k2 (k + 1) 51 (Int32.ofNat c) (Int32.ofNat m) h = some (Int32.ofNat p, h') ∧ Chg tyC h h'
    | none => ∃ h', fX9_check_23 N k2 (k + 1) 51 (Int32.ofNat c) (Int32.ofNat m) h = fX9_check_23 N k2 k 51 (Int32.ofNat c) (Int32.ofNat (m + 1)) h' ∧ CK P D num h' ∧ TM C P h' c m b ∧ Chg (mdA m (P.kf m) (P.kf m + cb (mbB b) + 1)) h h' := by
  have hs := q.1.1
  have hml := (List.getElem?_eq_some_iff.mp hb).1
  have hmn := q.1.2.2.2.2.2.2.2.2.2.1
  have hn : P.n ≤ 400 := by have := q.1.2.2.2.2.2.1; omega
  obtain ⟨⟨ng, hg⟩, hdp, hnv, ht5⟩ := gp m b hb hbm
  obtain ⟨c1, c2, c3⟩ := cd
  have hle := Pgm.kf_le hb hbm
  obtain ⟨h1, M0, e1, tb1, g1⟩ := CK.enter (N := N) (c := c) hN h5 hb (by omega) q
  have hs1 : Sg h1 := hs.of g1.1
  have k39 : ∀ a i, 39 ≤ a → a ≤ 45 → rd h1 a i = rd h a i := fun a i i1 i2 => g1.2.2.1 _ _ (by unfold enA; omega)
  have kp1 : Kp 0 4000 h h1 := fun a i i1 i2 _ _ => k39 a i i1 i2
  have c2' := CB.kp hg c2 kp1 (Nat.zero_le _) (by omega)
  have h71 : rd h1 38 7 = Int32.ofNat (msK P.ms) := by rw [g1.2.2.1 _ _ (by unfold enA; omega)]; exact h7
  have h33 : rd h1 33 m = Int32.ofNat (P.kf m) := by rw [g1.2.2.1 _ _ (by unfold enA; omega)]; exact c1
  have h61 : rd h1 39 (P.kf m + cb (mbB b)) = 61 := by rw [k39 _ _ (by omega) (by omega)]; exact c3.1
  have ce : fX9_codeEnd N 51 (Int32.ofNat (P.kf m)) h1 = some (Int32.ofNat (P.kf m + cb (mbB b)), h1) := by
    unfold fX9_codeEnd
    rw [if_pos (o_51 hs1)]
    exact codeEnd_2 hs1 h71 hK (by omega) h61 (cb (mbB b)) (P.kf m) N rfl (by omega) (fun j j1 j2 => CB.n61 ng _ _ _ hg c2' j j1 j2)
  have hst : fX9_check_23 N k2 (k + 1) 51 (Int32.ofNat c) (Int32.ofNat m) h = fX9_check_79 N k2 (fX9_check_23 N k2 k) N 51 (Int32.ofNat c) (Int32.ofNat m) (Int32.ofNat (P.kf m + cb (mbB b))) (Int32.ofNat (P.kf m)) h1 := by
    obtain ⟨ct1, ct2, ct3, ct4, ct5, ct6, ct7, ct8, ct9, ct10, ct11⟩ := id q.1
    have r29 := (ct11 m b hb).2.2.1
    have hmf : P.mf (c + 1) ≤ P.ms.length := by rw [← Pgm.mf_n]; exact Pgm.mf_mo (by omega)
    rw [hbm, if_pos rfl] at r29
    rw [fX9_check_23, R_51_0 hs, Option.bind_some, R_17_5 hs, Option.bind_some, L_23 hs (by omega), Option.bind_some, (ct7 c hc).2.2.2, ifLe (by omega) (by omega), if_neg (by omega), R_51_1 hs, Option.bind_some, R_25_4 hs, Option.bind_some, L_29 hs (by omega), Option.bind_some, r29, if_neg (show ¬ (1 : Int32) = 0 by decide), e1, Option.bind_some, R_51_1 hs1, Option.bind_some, R_25_8 hs1, Option.bind_some, L_33 hs1 (by omega), Option.bind_some, h33, ce, Option.bind_some]
    dsimp only
    rw [R_51_1 hs1, Option.bind_some, R_25_8 hs1, Option.bind_some, L_33 hs1 (by omega), Option.bind_some, h33]
  rw [hst]
  obtain ⟨f, hf⟩ : ∃ f, N = f + 1 + 1 + cb (mbB b) := ⟨N - 2 - cb (mbB b), by omega⟩
  have B := RunB.all (S := S) (C := C) (N := N) (v1 := Int32.ofNat c) (v2 := Int32.ofNat m) (k2 := k2) (k23 := fX9_check_23 N k2 k) (mt := P.rt b.2.1) (en := P.kf m + cb (mbB b)) (by omega) h5 hn hc (by omega) P.rt_ok ht5 hC ng (mbB b) hg (P.e0 b) (P.kf m) M0 0 0 (f + 1 + 1) (-1) h1 tb1 c2' (by omega) (by omega) (by unfold Pgm.e0; rw [Pgm.e0i_len]; exact hnv)
  rw [← hf] at B
  unfold Pgm.chkM
  cases hr : P.chk c (P.rt b.2.1) (mbB b) (P.e0 b) with
  | inl p =>
    rw [hr] at B
    obtain ⟨h2, f1, f2⟩ := B
    exact ⟨h2, f1, (g1.mono enA.ty).trans f2⟩
  | inr E =>
    rw [hr] at B
    obtain ⟨h2, M2, X2, e2, tb2, m2, x2, tc2, g2⟩ := B
    rw [e2]
    have kp2 : Kp (P.kf m + cb (mbB b)) 4000 h1 h2 := Kp.of g2 (Or.inr (Nat.le_refl _))
    have r39 : rd h2 39 (P.kf m + cb (mbB b)) = Int32.ofNat 61 := by rw [kp2 _ _ (by omega) (by omega) (by omega) (by omega)]; exact h61
    have tb2' := tb2.w44 (P.kf m + cb (mbB b))
    have L := BlS.one (N := N) (f := f + 1) (s := P.kf m + cb (mbB b)) (p := b.2.2.2.2.2.2) (v1 := Int32.ofNat c) (v2 := Int32.ofNat m) (k2 := k2) (k23 := fX9_check_23 N k2 k) tb2 (Nat.le_refl _) (by omega) (Nat.le_refl _) r39 (fun _ => by rw [kp2 _ _ (by omega) (by omega) (by omega) (by omega), k39 _ _ (by omega) (by omega)]; exact c3.2.2.2.2.1) ((fine_61 (N := N) (i := P.kf m + cb (mbB b)) tb2'.1.1 tb2'.1.2.1 tb2'.1.2.2.1 tb2'.2.1 P.rt_ok).toL tb2'.2.2)
    show match (if P.rt b.2.1 = 3 ∨ E.2.1 = true then none else some b.2.2.2.2.2.2) with
      | some p => _
      | none => _
    by_cases z : P.rt b.2.1 = 3 ∨ E.2.1 = true
    · rw [if_pos z] at L ⊢
      obtain ⟨h3, M3, X3, e3, tb3, m3, x3, ⟨z39, kp3, kp3', _, _⟩, g3⟩ := L
      have hs3 := tb3.1.1.1.1
      have gw : Chg (fun a k => (a = 34 ∨ a = 35) ∧ k = m) h3 (wr (wr h3 34 m (rd h3 52 3)) 35 m (rd h3 51 6)) := (Chg.wr _ _ _ _ (by omega)).trans (Chg.wr _ _ _ _ (by omega))
      have G : Chg (mdA m (P.kf m) (P.kf m + cb (mbB b) + 1)) h (wr (wr h3 34 m (rd h3 52 3)) 35 m (rd h3 51 6)) := ((g1.mono (fun a k z => Or.inl z)).trans (g2.mono (fun a k z => Or.inr (Or.inl (z.mono (Nat.le_refl _) (by omega) (Nat.le_refl _)))))).trans ((g3.mono (fun a k z => Or.inr (Or.inl (z.mono (by omega) (Nat.le_refl _) (Nat.le_refl _))))).trans (gw.mono (fun a k z => Or.inr (Or.inr z))))
      have kpw : Kp 0 4000 h3 (wr (wr h3 34 m (rd h3 52 3)) 35 m (rd h3 51 6)) := fun a i i1 i2 _ _ => gw.2.2.1 _ _ (by omega)
      refine ⟨wr (wr h3 34 m (rd h3 52 3)) 35 m (rd h3 51 6), ?_, q.chg G mdA.ck, ⟨M3, X3, ?_, ?_, tb3.1.2.1.2.2.2.1, tb3.1.2.2.1.2.2.2.1, ?_, TC.kp hg tc2 (kp3.trans kpw (by omega) (by omega)) (Nat.zero_le _) (Nat.le_refl _) m3 x3, ?_, ?_⟩, G⟩
      · rw [e3, chk_end hs3 (by omega) (by omega) (by omega)]
      · rw [rd_wr_ne _ _ (by omega), W_34 hs3]; exact tb3.1.2.1.2.1
      · rw [W_35 (hs3.wr 34 m _)]; exact tb3.1.2.2.1.2.1
      · have l1 := tb1.1.2.1.2.2.1
        unfold Pgm.e0 at l1
        rw [Pgm.e0i_len] at l1
        omega
      · rw [kpw _ _ (by omega) (by omega) (by omega) (by omega), z39, rd_wr_ne _ _ (by omega)]; exact r39
      · rw [G.2.2.1 _ _ (by unfold mdA enA svA exA pyA; omega)]; exact c1
    · rw [if_neg z] at L ⊢
      obtain ⟨h3, f1, f2⟩ := L
      exact ⟨h3, f1, ((g1.mono enA.ty).trans (g2.mono svA.ty)).trans f2⟩
def Pgm.tyM (P : Pgm) (c m : Nat) : Option Nat := match P.ms[m]? with
  | none => none
  | some b => if b.1 = true then P.chkM c b else none
def Pgm.tyMs (P : Pgm) (c : Nat) : Nat → Nat → Option Nat
  | 0, _ => none
  | d + 1, m => match P.tyM c m with
    | some p => some p
    | none => Pgm.tyMs P c d (m + 1)
def Pgm.tyCs (P : Pgm) : Nat → Nat → Option Nat
  | 0, _ => none
  | d + 1, c => match P.tyMs c (P.mf (c + 1) - P.mf c) (P.mf c) with
    | some p => some p
    | none => Pgm.tyCs P d (c + 1)
/-- the place of the first bad statement -/
def Pgm.badT (P : Pgm) : Option Nat := P.tyCs P.2.length 5
/-- methods below m are typed, those from m on not yet -/
def TyI (C : Cx) (P : Pgm) (D : List Int32 → Prop) (num : List Int32 → Nat) (m : Nat) (h : pH) : Prop := CK P D num h ∧ rd h 38 7 = Int32.ofNat (msK P.ms) ∧ (∀ j b, m ≤ j → P.ms[j]? = some b → b.1 = true → CdM C P h j b) ∧ ∀ j b, j < m → P.ms[j]? = some b → b.1 = true → TM C P h (P.ow j) j b
theorem msK_mono {l : List Mb} {i j : Nat} (h : i ≤ j) : msK (l.take i) ≤ msK (l.take j) := by
  have : l.take i = (l.take j).take i := by rw [List.take_take]; congr 1; omega
  rw [this]
  exact msK_le
theorem Pgm.kf_mono {P : Pgm} {i j : Nat} {b : Mb} (h : i < j) (hb : P.ms[i]? = some b) (hm : b.1 = true) : P.kf i + cb (mbB b) + 1 ≤ P.kf j := by
  have h1 := Pgm.kf_succ hb
  have h2 : P.kf (i + 1) ≤ P.kf j := msK_mono h
  unfold mcC at h1
  rw [if_pos hm] at h1
  omega
theorem TM.kp {S : Tks} {C : Cx} {P : Pgm} {h h' : pH} {c m : Nat} {b : Mb} {n : Nat} (hg : GK S n (mbB b)) (q : TM C P h c m b) (kp : Kp (P.kf m) (P.kf m + cb (mbB b) + 1) h h') (r : ∀ a, a = 33 ∨ a = 34 ∨ a = 35 → rd h' a m = rd h a m) : TM C P h' c m b := by
  obtain ⟨M, X, q1, q2, q3, q4, q5, q6, q7, q8⟩ := q
  exact ⟨M, X, by rw [r _ (by omega)]; exact q1, by rw [r _ (by omega)]; exact q2, q3, q4, q5, TC.kp hg q6 kp (Nat.le_refl _) (by omega) (Nat.le_refl _) (Nat.le_refl _), by rw [kp _ _ (by omega) (by omega) (by omega) (by omega)]; exact q7, by rw [r _ (by omega)]; exact q8⟩
theorem CdM.kp {S : Tks} {C : Cx} {P : Pgm} {h h' : pH} {m : Nat} {b : Mb} {n : Nat} (hg : GK S n (mbB b)) (q : CdM C P h m b) (kp : Kp (P.kf m) (P.kf m + cb (mbB b) + 1) h h') (r : rd h' 33 m = rd h 33 m) : CdM C P h' m b := by
  obtain ⟨q1, q2, q3, q4, q5, q6, q7, q8⟩ := q
  have k := fun a (a1 : 39 ≤ a) (a2 : a ≤ 45) => kp a (P.kf m + cb (mbB b)) a1 a2 (by omega) (by omega)
  exact ⟨by rw [r]; exact q1, CB.kp hg q2 kp (Nat.le_refl _) (by omega), by rw [k _ (by omega) (by omega)]; exact q3, by rw [k _ (by omega) (by omega)]; exact q4, by rw [k _ (by omega) (by omega)]; exact q5, by rw [k _ (by omega) (by omega)]; exact q6, by rw [k _ (by omega) (by omega)]; exact q7, by rw [k _ (by omega) (by omega)]; exact q8⟩
theorem Pgm.ow_eq {P : Pgm} {m c : Nat} (h1 : P.mf c ≤ m) (h2 : m < P.mf (c + 1)) (hm : m < P.ms.length) : P.ow m = c := by
  obtain ⟨o1, o2, o3⟩ := Pgm.ow_at hm
  rcases Nat.lt_trichotomy (P.ow m) c with z | z | z
  · have := Pgm.mf_mo (P := P) (a := P.ow m + 1) (b := c) (by omega)
    omega
  · exact z
  · have := Pgm.mf_mo (P := P) (a := c + 1) (b := P.ow m) (by omega)
    omega
theorem TyI.ms {S : Tks} {P : Pgm} {D : List Int32 → Prop} {num : List Int32 → Nat} {C : Cx} {N c : Nat} {k2 : Nat → Int32 → pH → Option (Int32 × pH)} (hN : 10000 ≤ N) (h5 : P.P5) (hc : c < P.n) (hC : ∀ w, S.K w = 22 → D (P.1 w) ∧ C.2.1 w = Int32.ofNat (num (P.1 w))) (gp : GP S P) (hK : msK P.ms ≤ 3000) : ∀ (d m k : Nat) (h : pH), m + d = P.mf (c + 1) → P.mf c ≤ m → d < k → TyI C P D num m h → match P.tyMs c d m with
    | some p => ∃ h', fX9_check_23 N k2 k 51 (Int32.ofNat c) (Int32.ofNat m) h = some (Int32.ofNat p, h') ∧ Chg tyC h h'
    | none => ∃ h', fX9_check_23 N k2 k 51 (Int32.ofNat c) (Int32.ofNat m) h = k2 51 (Int32.ofNat (c + 1)) h' ∧ TyI C P D num (P.mf (c + 1)) h' ∧ Chg tyC h h'
  | 0, m, k + 1, h, hd, hm, hk, q => by
    obtain rfl : m = P.mf (c + 1) := by omega
    have hs := q.1.1.1
    obtain ⟨ct1, ct2, ct3, ct4, ct5, ct6, ct7, ct8, ct9, ct10, ct11⟩ := id q.1.1
    have hmf : P.mf (c + 1) ≤ P.ms.length := by rw [← Pgm.mf_n]; exact Pgm.mf_mo (by omega)
    refine ⟨h, ?_, q, Chg.refl _ _⟩
    rw [fX9_check_23, R_51_0 hs, Option.bind_some, R_17_5 hs, Option.bind_some, L_23 hs (by omega), Option.bind_some, (ct7 c hc).2.2.2, ifLe (by omega) (by omega), if_pos (Nat.le_refl _), i_add1]
  | d + 1, m, k + 1, h, hd, hm, hk, q => by
    obtain ⟨q1, q2, q3, q4⟩ := id q
    have hs := q1.1.1
    obtain ⟨ct1, ct2, ct3, ct4, ct5, ct6, ct7, ct8, ct9, ct10, ct11⟩ := id q1.1
    have hmf : P.mf (c + 1) ≤ P.ms.length := by rw [← Pgm.mf_n]; exact Pgm.mf_mo (by omega)
    have hml : m < P.ms.length := by omega
    have hb : P.ms[m]? = some (P.ms[m]'hml) := List.getElem?_eq_getElem hml
    generalize P.ms[m]'hml = b at hb
    have how : P.ow m = c := Pgm.ow_eq hm (by omega) hml
    have hty : P.tyM c m = if b.1 = true then P.chkM c b else none := by unfold Pgm.tyM; rw [hb]
    unfold Pgm.tyMs
    by_cases hbm : b.1 = true
    · have M := CK.method (S := S) (C := C) (N := N) (c := c) (k := k) (k2 := k2) hN h5 hc hC gp hK hb hbm (by omega) q1 q2 (q3 m b (Nat.le_refl _) hb hbm)
      rw [hty, if_pos hbm]
      rcases hM : P.chkM c b with _ | p
      · rw [hM] at M
        obtain ⟨h', e1, e2, e3, g⟩ := M
        rw [e1]
        have hkf : ∀ a i, 39 ≤ a → a ≤ 45 → i < P.kf m ∨ P.kf m + cb (mbB b) + 1 ≤ i → rd h' a i = rd h a i := fun a i i1 i2 i3 => g.2.2.1 _ _ (by unfold mdA enA svA exA pyA; omega)
        have inv : TyI C P D num (m + 1) h' := by
          refine ⟨e2, by rw [g.2.2.1 _ _ (by unfold mdA enA svA exA pyA; omega)]; exact q2, fun j x hj hx hxm => ?_, fun j x hj hx hxm => ?_⟩
          · obtain ⟨⟨ng, hg⟩, _⟩ := gp j x hx hxm
            have hle := Pgm.kf_mono (show m < j by omega) hb hbm
            exact (q3 j x (by omega) hx hxm).kp hg (fun a i i1 i2 i3 i4 => hkf a i i1 i2 (by omega)) (g.2.2.1 _ _ (by unfold mdA enA svA exA pyA; omega))
          · by_cases hjm : j = m
            · subst hjm
              rw [hb] at hx
              obtain rfl := Option.some.inj hx
              rw [how]
              exact e3
            · obtain ⟨⟨ng, hg⟩, _⟩ := gp j x hx hxm
              have hle := Pgm.kf_mono (show j < m by omega) hx hxm
              exact (q4 j x (by omega) hx hxm).kp hg (fun a i i1 i2 i3 i4 => hkf a i i1 i2 (by omega)) (fun a ha => g.2.2.1 _ _ (by unfold mdA enA svA exA pyA; omega))
        have R := TyI.ms (k2 := k2) (C := C) hN h5 hc hC gp hK d (m + 1) k h' (by omega) (by omega) (by omega) inv
        show match P.tyMs c d (m + 1) with | some p => _ | none => _
        cases hty2 : P.tyMs c d (m + 1) with
        | some p =>
          rw [hty2] at R
          obtain ⟨h3, f1, f2⟩ := R
          exact ⟨h3, f1, (g.mono mdA.ty).trans f2⟩
        | none =>
          rw [hty2] at R
          obtain ⟨h3, f1, f2, f3⟩ := R
          exact ⟨h3, f1, f2, (g.mono mdA.ty).trans f3⟩
      · rw [hM] at M
        exact M
    · rw [hty, if_neg hbm]
      have r29 := (ct11 m b hb).2.2.1
      rw [if_neg hbm] at r29
      have hst : fX9_check_23 N k2 (k + 1) 51 (Int32.ofNat c) (Int32.ofNat m) h = fX9_check_23 N k2 k 51 (Int32.ofNat c) (Int32.ofNat (m + 1)) h := by
        rw [fX9_check_23, R_51_0 hs, Option.bind_some, R_17_5 hs, Option.bind_some, L_23 hs (by omega), Option.bind_some, (ct7 c hc).2.2.2, ifLe (by omega) (by omega), if_neg (by omega), R_51_1 hs, Option.bind_some, R_25_4 hs, Option.bind_some, L_29 hs (by omega), Option.bind_some, r29, if_pos rfl]
        unfold fX9_check_167
        rw [i_add1]
      rw [hst]
      refine TyI.ms hN h5 hc hC gp hK d (m + 1) k h (by omega) (by omega) (by omega) ⟨q1, q2, fun j x hj hx hxm => q3 j x (by omega) hx hxm, fun j x hj hx hxm => ?_⟩
      by_cases hjm : j = m
      · subst hjm
        rw [hb] at hx
        obtain rfl := Option.some.inj hx
        exact absurd hxm hbm
      · exact q4 j x (by omega) hx hxm
theorem TyI.cs {S : Tks} {P : Pgm} {D : List Int32 → Prop} {num : List Int32 → Nat} {C : Cx} {N : Nat} (hN : 10000 ≤ N) (h5 : P.P5) (hC : ∀ w, S.K w = 22 → D (P.1 w) ∧ C.2.1 w = Int32.ofNat (num (P.1 w))) (gp : GP S P) (hK : msK P.ms ≤ 3000) : ∀ (d c k : Nat) (h : pH), c + d = P.n → 5 ≤ c → d < k → TyI C P D num (P.mf c) h → match P.tyCs d c with
    | some p => ∃ h', fX9_check_2 N k 51 (Int32.ofNat c) h = some (Int32.ofNat p, h') ∧ Chg tyC h h'
    | none => ∃ h', fX9_check_2 N k 51 (Int32.ofNat c) h = some (-1, h') ∧ TyI C P D num P.ms.length h' ∧ Chg tyC h h'
  | 0, c, k + 1, h, hd, hc, hk, q => by
    obtain rfl : c = P.n := by omega
    have hs := q.1.1.1
    obtain ⟨ct1, ct2, ct3, ct4, ct5, ct6, ct7, ct8, ct9, ct10, ct11⟩ := id q.1.1
    rw [Pgm.mf_n] at q
    refine ⟨h, ?_, q, Chg.refl _ _⟩
    rw [fX9_check_2, R_51_0 hs, Option.bind_some, g_17_7 hs, Option.bind_some, ct5, ifLe (by omega) (by omega), if_pos (Nat.le_refl _)]
  | d + 1, c, k + 1, h, hd, hc, hk, q => by
    have hs := q.1.1.1
    obtain ⟨ct1, ct2, ct3, ct4, ct5, ct6, ct7, ct8, ct9, ct10, ct11⟩ := id q.1.1
    have hmf : P.mf (c + 1) ≤ P.ms.length := by rw [← Pgm.mf_n]; exact Pgm.mf_mo (by omega)
    have hmm := Pgm.mf_mono (P := P) (c := c)
    have M := TyI.ms (S := S) (C := C) (N := N) (c := c) (k2 := fX9_check_2 N k) hN h5 (by omega) hC gp hK (P.mf (c + 1) - P.mf c) (P.mf c) N h (by omega) (Nat.le_refl _) (by omega) q
    have hst : fX9_check_2 N (k + 1) 51 (Int32.ofNat c) h = fX9_check_23 N (fX9_check_2 N k) N 51 (Int32.ofNat c) (Int32.ofNat (P.mf c)) h := by
      rw [fX9_check_2, R_51_0 hs, Option.bind_some, g_17_7 hs, Option.bind_some, ct5, ifLe (by omega) (by omega), if_neg (by omega), Option.bind_some, R_17_4 hs, Option.bind_some, L_22 hs (by omega), Option.bind_some, (ct7 c (by omega)).2.2.1]
    rw [hst]
    unfold Pgm.tyCs
    rcases hM : P.tyMs c (P.mf (c + 1) - P.mf c) (P.mf c) with _ | p
    · rw [hM] at M
      obtain ⟨h', e1, e2, e3⟩ := M
      rw [e1]
      have R := TyI.cs hN h5 hC gp hK d (c + 1) k h' (by omega) (by omega) (by omega) e2
      show match P.tyCs d (c + 1) with | some p => _ | none => _
      cases hty2 : P.tyCs d (c + 1) with
      | some p =>
        rw [hty2] at R
        obtain ⟨h3, f1, f2⟩ := R
        exact ⟨h3, f1, e3.trans f2⟩
      | none =>
        rw [hty2] at R
        obtain ⟨h3, f1, f2, f3⟩ := R
        exact ⟨h3, f1, f2, e3.trans f3⟩
    · rw [hM] at M
      exact M
theorem TyI.check {S : Tks} {P : Pgm} {D : List Int32 → Prop} {num : List Int32 → Nat} {C : Cx} {N : Nat} {h : pH} (hN : 10000 ≤ N) (h5 : P.P5) (hC : ∀ w, S.K w = 22 → D (P.1 w) ∧ C.2.1 w = Int32.ofNat (num (P.1 w))) (gp : GP S P) (q : CK P D num h) (cd : CCd C P h) : match P.badT with
    | some p => ∃ h', fX9_check N 51 h = some (Int32.ofNat p, h') ∧ Chg tyC h h'
    | none => ∃ h', fX9_check N 51 h = some (-1, h') ∧ TyI C P D num P.ms.length h' ∧ Chg tyC h h' := by
  have hs := q.1.1
  have hn : P.n = 5 + P.2.length := rfl
  have hnl := q.1.2.2.2.2.2.1
  have T := TyI.cs (S := S) (C := C) (N := N) hN h5 hC gp cd.2.1 P.2.length 5 N h (by omega) (Nat.le_refl _) (by omega) ⟨q, cd.1, fun j b _ hb hm => cd.2.2 j b hb hm, fun j b hj _ _ => by rw [Pgm.mf_5 (P := P) (c := 5) (by omega)] at hj; omega⟩
  unfold fX9_check
  rw [if_pos (o_51 hs)]
  exact T
