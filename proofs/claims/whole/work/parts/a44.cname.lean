/-! ===== THE CLASS' TYPER: names and fields ===== -/
/-- the class that has member m; where a field lies -/
def Pgm.ow (P : Pgm) (m : Nat) : Nat := match fstN (fun c => decide (m < P.mf (c + 1))) P.n 0 with
  | some c => c
  | none => 0
def Pgm.mo (P : Pgm) (m : Nat) : Nat := P.off (P.ow m) m
theorem Pgm.mf_n (P : Pgm) : P.mf P.n = P.ms.length := by
  rw [P.ms_len]
  unfold Pgm.mf Pgm.n
  rw [show 5 + P.2.length - 5 = P.2.length by omega, List.take_length]
theorem Pgm.ow_at {P : Pgm} {m : Nat} (hm : m < P.ms.length) : P.ow m < P.n ∧ P.mf (P.ow m) ≤ m ∧ m < P.mf (P.ow m + 1) := by
  unfold Pgm.ow
  rcases hf : fstN (fun c => decide (m < P.mf (c + 1))) P.n 0 with _ | c
  · exfalso
    have hn : 5 ≤ P.n := by unfold Pgm.n; omega
    have := fstN_none hf (P.n - 1) (Nat.zero_le _) (by omega)
    rw [show P.n - 1 + 1 = P.n by omega, P.mf_n] at this
    exact absurd hm (of_decide_eq_false this)
  · obtain ⟨f1, f2, f3, f4⟩ := fstN_some hf
    show c < P.n ∧ P.mf c ≤ m ∧ m < P.mf (c + 1)
    refine ⟨by omega, ?_, of_decide_eq_true f3⟩
    by_cases z : c = 0
    · rw [z, Pgm.mf_5 (by omega)]; exact Nat.zero_le _
    · have := of_decide_eq_false (f4 (c - 1) (Nat.zero_le _) (by omega))
      rw [show c - 1 + 1 = c by omega] at this
      omega
theorem CLy.at {P : Pgm} {h : pH} (q : CLy P h) {m : Nat} (hm : m < P.ms.length) (hf : P.isF m = true) : rd h 30 m = Int32.ofNat (P.mo m) := by
  obtain ⟨o1, o2, o3⟩ := Pgm.ow_at hm
  exact (q _ o1).2 m o2 o3 hf
theorem RLy.at {P : Pgm} {h : pH} (q : RLy P h) {m : Nat} (hm : m < P.ms.length) (hf : P.isF m = true) : rd h 175 m = Int32.ofNat (P.mo m) := by
  obtain ⟨o1, o2, o3⟩ := Pgm.ow_at hm
  exact (q _ o1).2 m o2 o3 hf
theorem Pgm.mIs_isF {P : Pgm} {w : List Int32} {m : Nat} (h : P.mIs false w m = true) : P.isF m = true := by
  unfold Pgm.mIs at h
  unfold Pgm.isF
  rcases hb : P.ms[m]? with _ | b
  · rw [hb] at h; cases h
  · rw [hb] at h
    have h1 : b.1 = false := (of_decide_eq_true (show decide (b.1 = false ∧ P.1 b.2.2.1 = w) = true from h)).1
    show (!b.1) = true
    rw [h1]
    rfl
theorem Pgm.fldT_at {P : Pgm} {w : List Int32} {t m : Nat} (h : P.fldT w t = some m) : m < P.ms.length ∧ P.isF m = true := by
  unfold Pgm.fldT at h
  split at h
  · cases h
  · obtain ⟨h1, h2⟩ := Pgm.hadF_lt h
    exact ⟨h1, Pgm.mIs_isF h2⟩
/-- the class, all checked so far -/
def CK (P : Pgm) (D : List Int32 → Prop) (num : List Int32 → Nat) (h : pH) : Prop := CT P D num h ∧ CPr P h ∧ CM1 P D num h ∧ CLy P h
def ckA (a : Nat) : Prop := ctA a ∨ a = 21 ∨ a = 24 ∨ a = 28 ∨ a = 30 ∨ a = 31 ∨ a = 32 ∨ a = 36 ∨ a = 37
theorem CK.chg {A : Nat → Nat → Prop} {P : Pgm} {D : List Int32 → Prop} {num : List Int32 → Nat} {h h' : pH} (q : CK P D num h) (g : Chg A h h') (hA : ∀ a k, ckA a → ¬ A a k) : CK P D num h' := by
  obtain ⟨q1, q2, q3, q4⟩ := q
  refine ⟨q1.chg g (fun a k z => hA a k (Or.inl z)), q2.chg g (fun k => hA 21 k (by unfold ckA; omega)), q3.chg g (fun a k z => hA a k (by unfold ckA ctA; omega)), fun c hc => ?_⟩
  obtain ⟨l1, l2⟩ := q4 c hc
  exact ⟨by rw [g.2.2.1 _ _ (hA 24 c (by unfold ckA; omega))]; exact l1, fun j j1 j2 j3 => by rw [g.2.2.1 _ _ (hA 30 j (by unfold ckA; omega))]; exact l2 j j1 j2 j3⟩
theorem CK.type {P : Pgm} {D : List Int32 → Prop} {num : List Int32 → Nat} {h : pH} (q : CK P D num h) {m : Nat} (hm : m < P.ms.length) : rd h 28 m = ctI (P.mty m) ∧ P.tOk (P.mty m) := by
  obtain ⟨b, hb⟩ : ∃ b, P.ms[m]? = some b := ⟨P.ms[m]'hm, List.getElem?_eq_getElem hm⟩
  have e : P.mty m = P.rt b.2.1 := by unfold Pgm.mty; rw [hb]
  rw [e]
  exact ⟨(q.2.2.1.2.2.1 m b hb).1, P.rt_ok⟩
/-- what typing piece i changes: the pile, its kind and its first number -/
def pcA (i a k : Nat) : Prop := pyA a k ∨ ((a = 39 ∨ a = 40) ∧ k = i)
theorem CK.fieldType {P : Pgm} {D : List Int32 → Prop} {num : List Int32 → Nat} {N i t : Nat} {w : List Int32} {x : Int32} {h : pH} (hN : 1100 ≤ N) (q : CK P D num h) (hw : D w) (hi : i < 3100) (h40 : rd h 40 i = Int32.ofNat (num w)) (ht : P.tOk t) : fX9_fieldType N 51 (Int32.ofNat i) (ctI t) x h = match P.fldT w t with
    | none => some (-6, h)
    | some m => some (ctI (P.mty m), wr (wr h 39 i x) 40 i (Int32.ofNat (P.mo m))) := by
  obtain ⟨ct, cp, cm, cl⟩ := id q
  have hs := ct.1
  have hn := ct.2.2.2.2.2.1
  have hml := ct.2.2.2.2.2.2.2.2.2.1
  have had : fX6_had N 25 (ctI t) 0 (Int32.ofNat (num w)) h = some (oI (-1) (P.fldT w t), h) := by
    unfold Pgm.fldT
    by_cases z : t < 10
    · rw [if_pos z]
      have : t ≤ 5 := by unfold Pgm.tOk at ht; omega
      exact ct.hadN hN (ctI_lt this).2
    · rw [if_neg z, ctI_cls (by omega)]
      have := ct.had (N := N) (kk := false) cp hN hw (show t - 10 < P.n by unfold Pgm.tOk at ht; omega)
      rw [show kI false = 0 from rfl] at this
      exact this
  have hs1 := hs.wr 39 i x
  unfold fX9_fieldType
  rw [if_pos (o_51 hs), R_51_1 hs, Option.bind_some, R_51_2 hs, Option.bind_some, R_38_1 hs, Option.bind_some, L_40 hs hi, Option.bind_some, h40, had, Option.bind_some]
  dsimp only
  rw [isNone_kI (fun e he => by have := (Pgm.fldT_at he).1; omega)]
  rcases hf : P.fldT w t with _ | m
  · rfl
  · obtain ⟨hm, hF⟩ := Pgm.fldT_at hf
    have hs2 := hs1.wr 40 i (Int32.ofNat (P.mo m))
    have r30 : rd (wr h 39 i x) 30 m = Int32.ofNat (P.mo m) := by rw [rd_wr_ne _ _ (by omega)]; exact cl.at hm hF
    have r28 : rd (wr (wr h 39 i x) 40 i (Int32.ofNat (P.mo m))) 28 m = ctI (P.mty m) := by rw [rd_wr_ne _ _ (by omega), rd_wr_ne _ _ (by omega)]; exact (q.type hm).1
    rw [if_neg (show ¬ (some m).isNone = true from Bool.false_ne_true), show oI (-1) (some m) = Int32.ofNat m from rfl, R_51_2 hs, Option.bind_some, R_38_0 hs, Option.bind_some, T_39 hs hi, Option.bind_some, R_51_2 hs1, Option.bind_some, R_38_1 hs1, Option.bind_some, R_51_1 hs1, Option.bind_some, R_25_5 hs1, Option.bind_some, L_30 hs1 (by omega), Option.bind_some, r30, T_40 hs1 hi, Option.bind_some, R_51_1 hs2, Option.bind_some, R_25_3 hs2, Option.bind_some, L_28 hs2 (by omega), Option.bind_some, r28]
/-- as TyR, and piece i is then of kind k with the first number a -/
def TyN (P : Pgm) (σ : List Nat) (X i : Nat) (k a : Int32) (o : Option (List Nat)) (x : Option (Int32 × pH)) (h : pH) : Prop := match o with
  | some l => ∃ h' X', x = some (1, h') ∧ CSt P (σ ++ l) X' h' ∧ X ≤ X' ∧ rd h' 39 i = k ∧ rd h' 40 i = a ∧ Chg (pcA i) h h'
  | none => ∃ h', x = some (0, h') ∧ Chg (pcA i) h h'
theorem pRet_01 {x : Int32} (hx : x = 0 ∨ x = 1) : pRet .boolean x = true := by rcases hx with rfl | rfl <;> rfl
theorem CSt.pushN {P : Pgm} {σ : List Nat} {X N t i : Nat} {k a : Int32} {h h0 : pH} (hn : P.n ≤ 400) (hs : Sg h) (q : CSt P σ X h) (ht : P.tOk t) (hl : σ.length ≤ 3000) (g : Chg (pcA i) h0 h) (hk : rd h 39 i = k) (ha : rd h 40 i = a) {x : Option (Int32 × pH)} (hx : ∀ r h', (r = 0 ∨ r = 1) → fX9_push N 51 (ctI t) h = some (r, h') → x = some (r, h')) : TyN P σ X i k a (tS t) x h0 := by
  by_cases h5 : t = 5
  · have : tS t = none := if_pos h5
    rw [this]
    refine ⟨h, hx 0 h (Or.inl rfl) ?_, g⟩
    rw [h5, ct5]
    exact push5 hs
  · have : tS t = some [t] := if_neg h5
    rw [this]
    obtain ⟨h', e1, e2, e3⟩ := CSt.push (N := N) hn hs q ht h5 hl
    exact ⟨h', _, hx 1 h' (Or.inr rfl) e1, e2, mxM_le _ _, by rw [e3.2.2.1 _ _ (by unfold pyA; omega)]; exact hk, by rw [e3.2.2.1 _ _ (by unfold pyA; omega)]; exact ha, g.trans (e3.mono (fun a k z => Or.inl z))⟩
theorem wrap_push {N : Nat} {t : Nat} {h : pH} : ∀ r h', (r = 0 ∨ r = 1) → fX9_push N 51 (ctI t) h = some (r, h') → ((fX9_push N 51 (ctI t) h).bind fun q2 => if pRet .boolean q2.1 = true then some (q2.1, q2.2) else none) = some (r, h') := fun r h' hr e => by
  rw [e, Option.bind_some]
  exact if_pos (pRet_01 hr)
theorem wrap2_push {N : Nat} {t : Nat} {h : pH} : ∀ r h', (r = 0 ∨ r = 1) → fX9_push N 51 (ctI t) h = some (r, h') → ((fX9_push N 51 (ctI t) h).bind fun q2 => if q2.1 = 0 then some ((0 : Int32), q2.2) else some ((1 : Int32), q2.2)) = some (r, h') := fun r h' hr e => by
  rw [e, Option.bind_some]
  rcases hr with rfl | rfl <;> rfl
/-- the kind and the number that a name becomes -/
def Pgm.nmK (P : Pgm) (c : Nat) (E : EnvV) (w : List Int32) : Int32 × Int32 := match E.fnd w with
  | some j => (7, Int32.ofNat j)
  | none => (8, match P.fldT w (10 + c) with
    | some m => Int32.ofNat (P.mo m)
    | none => 0)
theorem EnvV.fnd_lt {E : EnvV} {w : List Int32} {j : Nat} (h : E.fnd w = some j) : j < E.1.length ∧ E.nm j = w := by
  obtain ⟨f1, f2, f3, _⟩ := fstN_some h
  exact ⟨by omega, of_decide_eq_true f3⟩
theorem CK.nameFine {P : Pgm} {D : List Int32 → Prop} {num : List Int32 → Nat} {σ : List Nat} {E : EnvV} {M X N i c : Nat} {w : List Int32} {h : pH} (hN : 1100 ≤ N) (q : CK P D num h) (qe : CSc P D num E M h) (qs : CSt P σ X h) (hl : σ.length ≤ 3000) (h7 : rd h 51 7 = Int32.ofNat c) (hc : c < P.n) (hw : D w) (hi : i < 3100) (h40 : rd h 40 i = Int32.ofNat (num w)) : TyN P σ X i (P.nmK c E w).1 (P.nmK c E w).2 (P.nmT c E w) (fX9_isNameFine N 51 (Int32.ofNat i) h) h := by
  obtain ⟨ct, cp, cm, cl⟩ := id q
  have hs := ct.1
  have hn : P.n ≤ 400 := by have := ct.2.2.2.2.2.1; omega
  have fd := qe.find hN hs ct.2.1 ct.2.2.1 hw
  obtain ⟨s1, s2, s3, s4, s5, s6, s7⟩ := id qe
  unfold fX9_isNameFine Pgm.nmT Pgm.nmK
  rw [if_pos (o_51 hs), R_51_3 hs, Option.bind_some, R_51_2 hs, Option.bind_some, R_38_1 hs, Option.bind_some, L_40 hs hi, Option.bind_some, h40, fd, Option.bind_some]
  dsimp only
  rw [isNone_kI (fun e he => by have := (EnvV.fnd_lt he).1; omega)]
  rcases hf : E.fnd w with _ | j
  · have ft := CK.fieldType (x := 8) (t := 10 + c) hN q hw hi h40 (Or.inr ⟨by omega, by omega⟩)
    rw [ctI_cls (by omega), show 10 + c - 10 = c by omega] at ft
    rw [if_pos (show (none : Option Nat).isNone = true from rfl), g_51_7 hs, Option.bind_some, h7, ft]
    rcases hm : P.fldT w (10 + c) with _ | m
    · rw [Option.bind_some]
      dsimp only
      rw [push5 hs, Option.bind_some]
      exact ⟨h, if_pos (pRet_01 (Or.inl rfl)), Chg.refl _ _⟩
    · rw [Option.bind_some]
      dsimp only
      have hs1 := (hs.wr 39 i 8).wr 40 i (Int32.ofNat (P.mo m))
      have g : Chg (pcA i) h (wr (wr h 39 i 8) 40 i (Int32.ofNat (P.mo m))) := (Chg.wr _ _ _ _ (by unfold pcA; omega)).trans (Chg.wr _ _ _ _ (by unfold pcA; omega))
      exact CSt.pushN (N := N) hn hs1 (qs.chg ((Chg.wr (A := fun a k => a = 39 ∨ a = 40) _ _ _ _ (by omega)).trans (Chg.wr _ _ _ _ (by omega))) (fun a k z => by omega)) (q.type (Pgm.fldT_at hm).1).2 hl g (by rw [rd_wr_ne _ _ (by omega), W_39 hs]) (W_40 (hs.wr 39 i 8) _ _) wrap_push
  · obtain ⟨j1, j2⟩ := EnvV.fnd_lt hf
    have hx : E.1[j]? = some (E.1[j]'j1) := List.getElem?_eq_getElem j1
    generalize E.1[j]'j1 = x at hx
    obtain ⟨a1, a2, a3, a4, a5⟩ := s5 j x hx
    have hty := (EnvV.nm_get hx).2
    have hs1 := hs.wr 39 i 7
    have hs2 := hs1.wr 40 i (Int32.ofNat j)
    have g0 : Chg (fun a k => (a = 39 ∨ a = 40) ∧ k = i) h (wr (wr h 39 i 7) 40 i (Int32.ofNat j)) := (Chg.wr _ _ _ _ (by omega)).trans (Chg.wr _ _ _ _ (by omega))
    have qe2 := qe.chg g0 (fun a k z => by omega)
    have r54 : rd (wr (wr h 39 i 7) 40 i (Int32.ofNat j)) 54 j = ctI x.2 := by rw [g0.2.2.1 _ _ (by omega)]; exact a3
    rw [if_neg (show ¬ (some j).isNone = true from Bool.false_ne_true), show oI (-1) (some j) = Int32.ofNat j from rfl, R_51_2 hs, Option.bind_some, R_38_0 hs, Option.bind_some, T_39 hs hi, Option.bind_some, R_51_2 hs1, Option.bind_some, R_38_1 hs1, Option.bind_some, T_40 hs1 hi, Option.bind_some, R_51_3 hs2, Option.bind_some, qe2.isSet hs2 j1, Option.bind_some]
    dsimp only
    rw [kI_if]
    cases E.isS j with
    | false => exact ⟨_, rfl, g0.mono (fun a k z => Or.inr z)⟩
    | true =>
      rw [if_pos rfl, if_pos rfl, R_51_3 hs2, Option.bind_some, R_52_1 hs2, Option.bind_some, L_54 hs2 (by omega), Option.bind_some, r54, hty]
      exact CSt.pushN (N := N) hn hs2 (qs.chg g0 (fun a k z => by omega)) a4 hl (g0.mono (fun a k z => Or.inr z)) (by rw [rd_wr_ne _ _ (by omega), W_39 hs]) (W_40 hs1 _ _) wrap2_push
