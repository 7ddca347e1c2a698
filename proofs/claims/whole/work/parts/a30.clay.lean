/-! ===== FIELDS: where they lie; the class ===== -/
def Pgm.isF (P : Pgm) (m : Nat) : Bool := match P.ms[m]? with
  | none => false
  | some b => !b.1
def Pgm.cf (P : Pgm) : Nat → Nat → Nat
  | 0, _ => 0
  | d + 1, i => (if P.isF i = true then 1 else 0) + Pgm.cf P d (i + 1)
theorem Pgm.cf_snoc (P : Pgm) : ∀ d i, P.cf (d + 1) i = P.cf d i + (if P.isF (i + d) = true then 1 else 0)
  | 0, i => by
    show (if P.isF i = true then 1 else 0) + 0 = 0 + (if P.isF (i + 0) = true then 1 else 0)
    rw [Nat.add_zero, Nat.zero_add, Nat.add_zero]
  | d + 1, i => by
    show (if P.isF i = true then 1 else 0) + P.cf (d + 1) (i + 1) = ((if P.isF i = true then 1 else 0) + P.cf d (i + 1)) + _
    rw [Pgm.cf_snoc P d (i + 1), show i + 1 + d = i + (d + 1) by omega]
    omega
theorem Pgm.cf_le (P : Pgm) : ∀ d i, P.cf d i ≤ d
  | 0, i => Nat.le_refl 0
  | d + 1, i => by
    have := Pgm.cf_le P d (i + 1)
    show (if P.isF i = true then 1 else 0) + P.cf d (i + 1) ≤ d + 1
    split <;> omega
def Pgm.own (P : Pgm) (c : Nat) : Nat := P.cf (P.mf (c + 1) - P.mf c) (P.mf c)
def Pgm.nfF (P : Pgm) : Nat → Nat → Nat
  | 0, _ => 0
  | f + 1, c => P.own c + match P.par c with
    | none => 0
    | some e => Pgm.nfF P f e
def Pgm.nf (P : Pgm) (c : Nat) : Nat := P.nfF P.n c
def Pgm.nfO (P : Pgm) (f : Nat) : Option Nat → Nat
  | none => 0
  | some e => P.nfF f e
def Pgm.abv (P : Pgm) (c : Nat) : Nat := P.nfO P.n (P.par c)
def Pgm.off (P : Pgm) (c m : Nat) : Nat := P.abv c + P.cf (m - P.mf c) (P.mf c)
theorem Pgm.nfF_more {P : Pgm} : ∀ {f c : Nat}, P.endF f c = true → P.nfF (f + 1) c = P.nfF f c
  | 0, c, h => by cases h
  | f + 1, c, h => by
    unfold Pgm.endF at h
    show P.own c + _ = P.own c + _
    rcases hp : P.par c with _ | e
    · rfl
    · rw [hp] at h
      show P.own c + P.nfF (f + 1) e = P.own c + P.nfF f e
      rw [Pgm.nfF_more h]
theorem Pgm.nf_eq {P : Pgm} (ha : Acy P) {c : Nat} (hc : c < P.n) : P.nf c = P.abv c + P.own c := by
  have h := ha c hc
  unfold Pgm.nf Pgm.abv
  obtain ⟨k, hk⟩ : ∃ k, P.n = k + 1 := ⟨4 + P.2.length, by unfold Pgm.n; omega⟩
  rw [hk] at h ⊢
  unfold Pgm.endF at h
  rcases hp : P.par c with _ | e
  · show P.own c + _ = 0 + P.own c
    rw [hp]
    show P.own c + 0 = 0 + P.own c
    omega
  · rw [hp] at h
    show P.own c + _ = P.nfF (k + 1) e + P.own c
    rw [hp, Pgm.nfF_more h]
    show P.own c + P.nfF k e = _
    omega
theorem Pgm.own_le (P : Pgm) (c : Nat) : P.own c ≤ P.ms.length := by
  have h1 := P.cf_le (P.mf (c + 1) - P.mf c) (P.mf c)
  have h2 := P.mf_le (c + 1)
  have h3 := P.ms_len
  unfold Pgm.own
  omega
theorem Pgm.nfF_le (P : Pgm) : ∀ f c, P.nfF f c ≤ f * P.ms.length
  | 0, c => Nat.zero_le _
  | f + 1, c => by
    have h1 := P.own_le c
    show P.own c + _ ≤ (f + 1) * P.ms.length
    rw [Nat.succ_mul]
    rcases P.par c with _ | e
    · have := Nat.zero_le (f * P.ms.length)
      show P.own c + 0 ≤ _
      omega
    · have := Pgm.nfF_le P f e
      show P.own c + P.nfF f e ≤ _
      omega
theorem Pgm.nfO_le (P : Pgm) (f : Nat) (o : Option Nat) : P.nfO f o ≤ f * P.ms.length := by
  rcases o with _ | e
  · exact Nat.zero_le _
  · exact P.nfF_le f e
theorem Pgm.mf_mo {P : Pgm} {a b : Nat} (h : a ≤ b) : P.mf a ≤ P.mf b := by
  induction h with
  | refl => exact Nat.le_refl _
  | step _ ih => exact Nat.le_trans ih P.mf_mono
theorem CT.own_12 {P : Pgm} {D : List Int32 → Prop} {num : List Int32 → Nat} {N c : Nat} {h : pH} (q : CT P D num h) (hc : c < P.n) : ∀ (d m k acc : Nat), m + d = P.mf (c + 1) → d < k → fX6_ownFields_12 N k 25 (Int32.ofNat c) (Int32.ofNat acc) (Int32.ofNat m) h = some (Int32.ofNat (acc + P.cf d m), h)
  | 0, m, k, acc, hd, hk => by
    obtain ⟨k, rfl⟩ : ∃ k', k = k' + 1 := ⟨k - 1, by omega⟩
    obtain ⟨q1, q2, q3, q4, q5, q6, q7, q8, q9, q10, q11⟩ := id q
    have hml := P.mf_le (c + 1)
    rw [← P.ms_len] at hml
    rw [fX6_ownFields_12, R_25_0 q1, Option.bind_some, R_17_5 q1, Option.bind_some, L_23 q1 (by omega), Option.bind_some, (q7 c hc).2.2.2, ifLe (by omega) (by omega), if_pos (by omega)]
    rfl
  | d + 1, m, k, acc, hd, hk => by
    obtain ⟨k, rfl⟩ : ∃ k', k = k' + 1 := ⟨k - 1, by omega⟩
    obtain ⟨q1, q2, q3, q4, q5, q6, q7, q8, q9, q10, q11⟩ := id q
    have hml := P.mf_le (c + 1)
    rw [← P.ms_len] at hml
    obtain ⟨b, hb⟩ : ∃ b, P.ms[m]? = some b := ⟨P.ms[m]'(by omega), List.getElem?_eq_getElem (by omega)⟩
    have hf : P.isF m = !b.1 := by unfold Pgm.isF; rw [hb]
    obtain ⟨z1, z2, z3, z4⟩ := q11 m b hb
    have I1 := CT.own_12 (N := N) q hc d (m + 1) k (acc + 1) (by omega) (by omega)
    have I2 := CT.own_12 (N := N) q hc d (m + 1) k acc (by omega) (by omega)
    rw [fX6_ownFields_12, R_25_0 q1, Option.bind_some, R_17_5 q1, Option.bind_some, L_23 q1 (by omega), Option.bind_some, (q7 c hc).2.2.2, ifLe (by omega) (by omega), if_neg (by omega), R_25_4 q1, Option.bind_some, L_29 q1 (by omega), Option.bind_some, z3]
    unfold fX6_ownFields_37
    rw [i_add1, i_add1, I1, I2, show P.cf (d + 1) m = (if P.isF m = true then 1 else 0) + P.cf d (m + 1) from rfl, hf]
    cases b.1
    · show some (Int32.ofNat (acc + 1 + P.cf d (m + 1)), h) = some (Int32.ofNat (acc + (1 + P.cf d (m + 1))), h)
      rw [show acc + 1 + P.cf d (m + 1) = acc + (1 + P.cf d (m + 1)) by omega]
    · show some (Int32.ofNat (acc + P.cf d (m + 1)), h) = some (Int32.ofNat (acc + (0 + P.cf d (m + 1))), h)
      rw [Nat.zero_add]
theorem CT.ownFields {P : Pgm} {D : List Int32 → Prop} {num : List Int32 → Nat} {N c : Nat} {h : pH} (hN : 1100 ≤ N) (q : CT P D num h) (hc : c < P.n) : fX6_ownFields N 25 (Int32.ofNat c) h = some (Int32.ofNat (P.own c), h) := by
  obtain ⟨q1, q2, q3, q4, q5, q6, q7, q8, q9, q10, q11⟩ := id q
  have hml := P.mf_le (c + 1)
  have hmo := P.mf_mono (c := c)
  rw [← P.ms_len] at hml
  unfold fX6_ownFields
  rw [if_pos (o_25 q1), R_25_0 q1, Option.bind_some, R_17_4 q1, Option.bind_some, L_22 q1 (by omega), Option.bind_some, (q7 c hc).2.2.1, show (0 : Int32) = Int32.ofNat 0 from rfl, CT.own_12 q hc (P.mf (c + 1) - P.mf c) (P.mf c) N 0 (by omega) (by omega), Nat.zero_add]
  rfl
theorem CT.abv_14 {P : Pgm} {D : List Int32 → Prop} {num : List Int32 → Nat} {N : Nat} {h : pH} (hN : 1100 ≤ N) (q : CT P D num h) (hp : CPr P h) : ∀ (f g k acc : Nat) (o : Option Nat), g + f = P.n → f < k → (∀ d, o = some d → d < P.n) → fX6_fieldsAbove_14 N k 25 (Int32.ofNat acc) (oI (-1) o) (Int32.ofNat g) h = some (Int32.ofNat (acc + P.nfO f o), h)
  | 0, g, k, acc, o, hg, hk, ho => by
    obtain ⟨k, rfl⟩ : ∃ k', k = k' + 1 := ⟨k - 1, by omega⟩
    have hn := q.2.2.2.2.2.1
    have : P.nfO 0 o = 0 := by cases o <;> rfl
    rw [fX6_fieldsAbove_14, R_25_0 q.1, Option.bind_some, g_17_7 q.1, Option.bind_some, q.2.2.2.2.1, ifLe (by omega) (by omega), if_pos (by omega), this]
    rfl
  | f + 1, g, k, acc, o, hg, hk, ho => by
    obtain ⟨k, rfl⟩ : ∃ k', k = k' + 1 := ⟨k - 1, by omega⟩
    have hn := q.2.2.2.2.2.1
    rw [fX6_fieldsAbove_14, R_25_0 q.1, Option.bind_some, g_17_7 q.1, Option.bind_some, q.2.2.2.2.1, ifLe (by omega) (by omega), if_neg (by omega), i_neg_oI (fun e he => by have := ho e he; omega)]
    rcases o with _ | c
    · rfl
    · have hc := ho c rfl
      rw [if_neg (show ¬ (some c).isNone = true from Bool.false_ne_true), show oI (-1) (some c) = Int32.ofNat c from rfl, q.ownFields hN hc, Option.bind_some]
      dsimp only
      rw [R_25_0 q.1, Option.bind_some, q.parentOf hp hc, Option.bind_some]
      dsimp only
      rw [← Int32.ofNat_add, i_add1, CT.abv_14 hN q hp f (g + 1) k (acc + P.own c) (P.par c) (by omega) (by omega) (fun d hd => Pgm.par_lt hd)]
      have : P.nfO (f + 1) (some c) = P.own c + P.nfO f (P.par c) := by
        show P.own c + _ = P.own c + _
        rcases P.par c with _ | e
        · rfl
        · rfl
      rw [this, Nat.add_assoc]
theorem CT.fieldsAbove {P : Pgm} {D : List Int32 → Prop} {num : List Int32 → Nat} {N c : Nat} {h : pH} (hN : 1100 ≤ N) (q : CT P D num h) (hp : CPr P h) (hc : c < P.n) : fX6_fieldsAbove N 25 (Int32.ofNat c) h = some (Int32.ofNat (P.abv c), h) := by
  have hn := q.2.2.2.2.2.1
  unfold fX6_fieldsAbove
  rw [if_pos (o_25 q.1), R_25_0 q.1, Option.bind_some, q.parentOf hp hc, Option.bind_some]
  dsimp only
  rw [show (0 : Int32) = Int32.ofNat 0 from rfl, CT.abv_14 hN q hp P.n 0 N 0 (P.par c) (by omega) (by omega) (fun d hd => Pgm.par_lt hd), Nat.zero_add]
  rfl
theorem Pgm.off_succ {P : Pgm} {c m : Nat} (h : P.mf c ≤ m) : P.off c (m + 1) = P.off c m + (if P.isF m = true then 1 else 0) := by
  unfold Pgm.off
  rw [show m + 1 - P.mf c = (m - P.mf c) + 1 by omega, Pgm.cf_snoc, show P.mf c + (m - P.mf c) = m by omega]
  omega
theorem CT.lay_29 {P : Pgm} {D : List Int32 → Prop} {num : List Int32 → Nat} {N c : Nat} {k2 : Nat → Int32 → pH → Option pH} (ha : Acy P) (hc : c < P.n) : ∀ (d m k : Nat) (h : pH), m + d = P.mf (c + 1) → P.mf c ≤ m → d < k → CT P D num h → ∃ h', fX6_layOutFields_29 N k2 k 25 (Int32.ofNat c) (Int32.ofNat (P.off c m)) (Int32.ofNat m) h = k2 25 (Int32.ofNat (c + 1)) h' ∧ rd h' 24 c = Int32.ofNat (P.nf c) ∧ (∀ j, m ≤ j → j < P.mf (c + 1) → P.isF j = true → rd h' 30 j = Int32.ofNat (P.off c j)) ∧ Chg (fun a k => (a = 24 ∧ k = c) ∨ (a = 30 ∧ m ≤ k ∧ k < P.mf (c + 1))) h h'
  | 0, m, k, h, hd, hcm, hk, q => by
    obtain ⟨k, rfl⟩ : ∃ k', k = k' + 1 := ⟨k - 1, by omega⟩
    obtain ⟨q1, q2, q3, q4, q5, q6, q7, q8, q9, q10, q11⟩ := id q
    have hml := P.mf_le (c + 1)
    rw [← P.ms_len] at hml
    have hof : P.off c m = P.nf c := by rw [Pgm.nf_eq ha hc, show m = P.mf (c + 1) by omega]; rfl
    refine ⟨wr h 24 c (Int32.ofNat (P.nf c)), ?_, W_24 q1 _ _, fun j h1 h2 => by omega, Chg.wr _ _ _ _ (Or.inl ⟨rfl, rfl⟩)⟩
    rw [fX6_layOutFields_29, R_25_0 q1, Option.bind_some, R_17_5 q1, Option.bind_some, L_23 q1 (by omega), Option.bind_some, (q7 c hc).2.2.2, ifLe (by omega) (by omega), if_pos (by omega), Option.bind_some, R_17_6 q1, Option.bind_some, T_24 q1 (by omega), Option.bind_some, i_add1, hof]
  | d + 1, m, k, h, hd, hcm, hk, q => by
    obtain ⟨k, rfl⟩ : ∃ k', k = k' + 1 := ⟨k - 1, by omega⟩
    obtain ⟨q1, q2, q3, q4, q5, q6, q7, q8, q9, q10, q11⟩ := id q
    have hml := P.mf_le (c + 1)
    rw [← P.ms_len] at hml
    obtain ⟨b, hb⟩ : ∃ b, P.ms[m]? = some b := ⟨P.ms[m]'(by omega), List.getElem?_eq_getElem (by omega)⟩
    have hf : P.isF m = !b.1 := by unfold Pgm.isF; rw [hb]
    obtain ⟨z1, z2, z3, z4⟩ := q11 m b hb
    have hos := Pgm.off_succ (P := P) hcm
    cases hb1 : b.1 with
    | false =>
      rw [hf, hb1] at hos
      replace hos : P.off c (m + 1) = P.off c m + 1 := hos
      have g : Chg (fun a k => (a = 24 ∧ k = c) ∨ (a = 30 ∧ m ≤ k ∧ k < P.mf (c + 1))) h (wr h 30 m (Int32.ofNat (P.off c m))) := Chg.wr _ _ _ _ (Or.inr ⟨rfl, by omega, by omega⟩)
      have q' := q.chg g (fun a k ha => by unfold ctA at ha; omega)
      obtain ⟨h', e1, e2, e3, e4⟩ := CT.lay_29 (k2 := k2) (N := N) ha hc d (m + 1) k _ (by omega) (by omega) (by omega) q'
      refine ⟨h', ?_, e2, fun j h1 h2 h3 => ?_, g.trans (e4.mono (fun a k z => by omega))⟩
      · rw [fX6_layOutFields_29, R_25_0 q1, Option.bind_some, R_17_5 q1, Option.bind_some, L_23 q1 (by omega), Option.bind_some, (q7 c hc).2.2.2, ifLe (by omega) (by omega), if_neg (by omega), R_25_4 q1, Option.bind_some, L_29 q1 (by omega), Option.bind_some, z3, hb1, if_pos (show (if false = true then (1 : Int32) else 0) = 0 by decide), R_25_5 q1, Option.bind_some, T_30 q1 (by omega), Option.bind_some]
        unfold fX6_layOutFields_61
        rw [i_add1, i_add1, ← hos]
        exact e1
      · by_cases z : j = m
        · rw [z, e4.2.2.1 _ _ (by omega), W_30 q1]
        · exact e3 j (by omega) h2 h3
    | true =>
      rw [hf, hb1] at hos
      replace hos : P.off c (m + 1) = P.off c m := hos
      obtain ⟨h', e1, e2, e3, e4⟩ := CT.lay_29 (k2 := k2) (N := N) ha hc d (m + 1) k h (by omega) (by omega) (by omega) q
      refine ⟨h', ?_, e2, fun j h1 h2 h3 => ?_, e4.mono (fun a k z => by omega)⟩
      · rw [fX6_layOutFields_29, R_25_0 q1, Option.bind_some, R_17_5 q1, Option.bind_some, L_23 q1 (by omega), Option.bind_some, (q7 c hc).2.2.2, ifLe (by omega) (by omega), if_neg (by omega), R_25_4 q1, Option.bind_some, L_29 q1 (by omega), Option.bind_some, z3, hb1, if_neg (show ¬ (if true = true then (1 : Int32) else 0) = 0 by decide)]
        unfold fX6_layOutFields_61
        rw [i_add1, ← hos]
        exact e1
      · by_cases z : j = m
        · rw [z, hf, hb1] at h3; cases h3
        · exact e3 j (by omega) h2 h3
/-- the class' fields lie as they should -/
def CLy (P : Pgm) (h : pH) : Prop := ∀ c, c < P.n → rd h 24 c = Int32.ofNat (P.nf c) ∧ ∀ j, P.mf c ≤ j → j < P.mf (c + 1) → P.isF j = true → rd h 30 j = Int32.ofNat (P.off c j)
theorem CT.lay_2 {P : Pgm} {D : List Int32 → Prop} {num : List Int32 → Nat} {N : Nat} (hN : 1100 ≤ N) (ha : Acy P) : ∀ (d c k : Nat) (h : pH), c + d = P.n → d < k → CT P D num h → CPr P h → (∀ e, e < c → rd h 24 e = Int32.ofNat (P.nf e) ∧ ∀ j, P.mf e ≤ j → j < P.mf (e + 1) → P.isF j = true → rd h 30 j = Int32.ofNat (P.off e j)) → ∃ h', fX6_layOutFields_2 N k 25 (Int32.ofNat c) h = some h' ∧ CLy P h' ∧ Chg (fun a _ => a = 24 ∨ a = 30) h h'
  | 0, c, k, h, hd, hk, q, hp, hl => by
    obtain ⟨k, rfl⟩ : ∃ k', k = k' + 1 := ⟨k - 1, by omega⟩
    have hn := q.2.2.2.2.2.1
    refine ⟨h, ?_, fun e he => hl e (by omega), Chg.refl _ _⟩
    rw [fX6_layOutFields_2, R_25_0 q.1, Option.bind_some, g_17_7 q.1, Option.bind_some, q.2.2.2.2.1, ifLe (by omega) (by omega), if_pos (by omega)]
  | d + 1, c, k, h, hd, hk, q, hp, hl => by
    obtain ⟨k, rfl⟩ : ∃ k', k = k' + 1 := ⟨k - 1, by omega⟩
    obtain ⟨q1, q2, q3, q4, q5, q6, q7, q8, q9, q10, q11⟩ := id q
    have hml := P.mf_le (c + 1)
    have hmo := P.mf_mono (c := c)
    rw [← P.ms_len] at hml
    have hof : P.abv c = P.off c (P.mf c) := by unfold Pgm.off; rw [Nat.sub_self]; rfl
    obtain ⟨h1, e1, e2, e3, e4⟩ := CT.lay_29 (k2 := fX6_layOutFields_2 N k) (N := N) ha (show c < P.n by omega) (P.mf (c + 1) - P.mf c) (P.mf c) N h (by omega) (by omega) (by omega) q
    have g : Chg (fun a _ => a = 24 ∨ a = 30) h h1 := e4.mono (fun a k z => by omega)
    have q' := q.chg g (fun a k ha => by unfold ctA at ha; omega)
    have hp' := hp.chg g (fun k => by omega)
    obtain ⟨h2, f1, f2, f3⟩ := CT.lay_2 (D := D) (num := num) hN ha d (c + 1) k h1 (by omega) (by omega) q' hp' (fun e he => by
      by_cases z : e = c
      · rw [z]; exact ⟨e2, e3⟩
      · have hme := P.mf_mo (show e + 1 ≤ c by omega)
        obtain ⟨l1, l2⟩ := hl e (by omega)
        refine ⟨by rw [e4.2.2.1 _ _ (by omega)]; exact l1, fun j j1 j2 j3 => by rw [e4.2.2.1 _ _ (by omega)]; exact l2 j j1 j2 j3⟩)
    refine ⟨h2, ?_, f2, g.trans f3⟩
    rw [fX6_layOutFields_2, R_25_0 q1, Option.bind_some, g_17_7 q1, Option.bind_some, q5, ifLe (by omega) (by omega), if_neg (by omega), q.fieldsAbove hN hp (by omega), Option.bind_some]
    dsimp only
    rw [R_25_0 q1, Option.bind_some, R_17_4 q1, Option.bind_some, L_22 q1 (by omega), Option.bind_some, (q7 c (by omega)).2.2.1, hof, e1]
    exact f1
theorem CT.layOut {P : Pgm} {D : List Int32 → Prop} {num : List Int32 → Nat} {N : Nat} {h : pH} (hN : 1100 ≤ N) (ha : Acy P) (q : CT P D num h) (hp : CPr P h) : ∃ h', fX6_layOutFields N 25 h = some h' ∧ CLy P h' ∧ Chg (fun a _ => a = 24 ∨ a = 30) h h' := by
  have hn := q.2.2.2.2.2.1
  obtain ⟨h', e1, e2, e3⟩ := CT.lay_2 (D := D) (num := num) hN ha P.n 0 N h (by omega) (by omega) q hp (fun e he => by omega)
  refine ⟨h', ?_, e2, e3⟩
  unfold fX6_layOutFields
  rw [if_pos (o_25 q.1)]
  exact e1
