/-! ===== THE REFERENCE makes an object ===== -/
def DfV (x f : Int32) (t : Nat) : Prop := if t = 0 ∨ t = 1 then x = 0 ∧ f = 0 else x = -1 ∧ f = 1
theorem DfV.rv {B : Nat → Nat} {L : List Nat} {x f : Int32} {t : Nat} (h : DfV x f t) : RV B L x f (dfl t) := by
  unfold DfV at h
  unfold dfl
  by_cases ht : t = 0 ∨ t = 1
  · rw [if_pos ht] at h ⊢
    exact h
  · rw [if_neg ht] at h ⊢
    exact h
def objE (v2 v3 : Int32) (h : pH) : Option (Int32 × pH) := (getI h 138 12 90).bind fun t26 =>
  (putI h 138 12 90 (t26 + v2)).bind fun h27 =>
  (getI h27 138 12 82).bind fun t28 =>
  (putI h27 138 12 82 (t28 + (1 : Int32))).bind fun h29 =>
  (getI h29 138 12 73).bind fun t30 =>
  (putI h29 138 12 73 (t30 + ((2 : Int32) + v2))).bind fun h31 =>
  (getI h31 138 12 74).bind fun t32 =>
  (putI h31 138 12 74 (t32 + ((2 : Int32) + v2))).bind fun h33 =>
  some (v3, h33)
section OB
variable {P : Pgm} {S : Tks} {D : List Int32 → Prop} {num : List Int32 → Nat} {N : Nat} {g : pH} {v2 v3 : Int32} {T : Nat}
theorem isF_b {m : Nat} {b : Mb} (h : P.ms[m]? = some b) : P.isF m = !b.1 := by
  unfold Pgm.isF
  rw [h]
theorem obj_85 {c : Nat} {k71 : Nat → Int32 → Int32 → Int32 → pH → Option (Int32 × pH)} (hst : Stw P S D num g) (hc : c < P.n) : ∀ (d i b k : Nat) (h1 : pH), i + d = P.mf (c + 1) → P.mf c ≤ i → b = P.off c i → d < k → StV g h1 → rd h1 138 90 = Int32.ofNat T → T + b + P.cf d i ≤ 12000 → (∀ j, b ≤ j → j < b + P.cf d i → rd h1 191 (T + j) = 0 ∧ rd h1 192 (T + j) = 0) → ∃ h2, fX12_object_85 N k71 k 138 v2 v3 (Int32.ofNat c) (Int32.ofNat i) h1 = k71 138 v2 v3 (oI (-1) (P.par c)) h2 ∧ StV g h2 ∧ Chg (fun a j => (a = 191 ∨ a = 192) ∧ T + b ≤ j ∧ j < T + b + P.cf d i) h1 h2 ∧ ∀ (j t : Nat), (P.ofl d i)[j]? = some t → DfV (rd h2 191 (T + b + j)) (rd h2 192 (T + b + j)) t
  | 0, i, b, k + 1, h1, hi, hmi, hb, hk, st, h90, hT, hz => by
    have hn := hst.1.2.1.2.2.2.2.2.1
    have h167 := hst.1.2.1.2.2.2.2.2.2.2.1 (c + 1) (by omega)
    have hms := hst.1.2.1.2.2.2.2.2.2.2.2.2.2.1
    have hmf := P.mf_le (c + 1)
    have hml := P.ms_len
    have h165 := hst.1.2.2 c hc
    have sg := st.1
    refine ⟨h1, ?_, st, Chg.refl _ _, fun j t hj => (by cases hj)⟩
    rw [fX12_object_85, R_138_43 sg, Option.bind_some, i_add1, L_167 sg (by omega), Option.bind_some, st.2.1 167 (c + 1) (by omega) (by omega), h167, if_pos (by rw [iLe (by omega) (by omega)]; omega), R_138_41 sg, Option.bind_some, L_165 sg (by omega), Option.bind_some, st.2.1 165 c (by omega) (by omega), h165]
  | d + 1, i, b, k + 1, h1, hi, hmi, hb, hk, st, h90, hT, hz => by
    have hn := hst.1.2.1.2.2.2.2.2.1
    have h167 := hst.1.2.1.2.2.2.2.2.2.2.1 (c + 1) (by omega)
    have hms := hst.1.2.1.2.2.2.2.2.2.2.2.2.2.1
    have hmf := P.mf_le (c + 1)
    have hml := P.ms_len
    have sg := st.1
    have hil : i < P.ms.length := by omega
    have hget : P.ms[i]? = some P.ms[i] := List.getElem?_eq_getElem hil
    have h171 := (hst.1.2.1.2.2.2.2.2.2.2.2.2.2.2 i _ hget).2.2.1
    have h170 := hst.2.1.1.2.2.2.1.1 i _ hget
    have hmt : P.mty i = P.rt P.ms[i].2.1 := mty_get hget
    have hF := isF_b hget
    have hcf : P.cf (d + 1) i = (if P.isF i = true then 1 else 0) + P.cf d (i + 1) := rfl
    have hofl : P.ofl (d + 1) i = if P.isF i = true then P.mty i :: P.ofl d (i + 1) else P.ofl d (i + 1) := rfl
    have hos := Pgm.off_succ (P := P) hmi
    rw [hcf] at hT hz ⊢
    rw [hofl]
    have hpre : fX12_object_85 N k71 (k + 1) 138 v2 v3 (Int32.ofNat c) (Int32.ofNat i) h1 = if kI P.ms[i].1 = 0 then (if (10 : Int32) ≤ Int32.ofNat (P.mty i) then fX12_object_135 N k71 (fX12_object_85 N k71 k) 138 v2 v3 (Int32.ofNat c) (Int32.ofNat i) h1 else if Int32.ofNat (P.mty i) = 2 then fX12_object_135 N k71 (fX12_object_85 N k71 k) 138 v2 v3 (Int32.ofNat c) (Int32.ofNat i) h1 else fX12_object_171 N k71 (fX12_object_85 N k71 k) 138 v2 v3 (Int32.ofNat c) (Int32.ofNat i) h1) else fX12_object_171 N k71 (fX12_object_85 N k71 k) 138 v2 v3 (Int32.ofNat c) (Int32.ofNat i) h1 := by
      rw [fX12_object_85, R_138_43 sg, Option.bind_some, i_add1, L_167 sg (by omega), Option.bind_some, st.2.1 167 (c + 1) (by omega) (by omega), h167, if_neg (by rw [iLe (by omega) (by omega)]; omega), R_138_48 sg, Option.bind_some, L_171 sg (by omega), Option.bind_some, st.2.1 171 i (by omega) (by omega), h171]
      simp only [R_138_47 sg, L_170 sg (show i < 800 by omega), Option.bind_some, st.2.1 170 i (by omega) (by omega), h170, hmt]
    rw [hpre]
    rcases hbm : P.ms[i].1 with _ | _
    · have hFt : P.isF i = true := by rw [hF, hbm]; rfl
      rw [hFt] at hT hz hos
      rw [if_pos rfl] at hT hz hos
      rw [hFt, if_pos rfl, if_pos rfl, if_pos (show kI false = 0 from rfl)]
      have tv : tyV P (P.mty i) := fld_V hst.1.1.2.2.2.1 hst.1.1.2.1 hFt
      have hlt : P.mty i < 1000 := by have := hst.1.1.2.2.2.2.1; unfold tyV at tv; omega
      have h175 : rd g 175 i = Int32.ofNat b := by
        rw [hb]
        exact (hst.2.1.1.2.2.2.2 c hc).2 i hmi (by omega) hFt
      by_cases hr : P.mty i = 2 ∨ 10 ≤ P.mty i
      · have s1 := sg.wr 191 (T + b) (-1)
        have s2 := s1.wr 192 (T + b) 1
        have c2 : Chg (fun a j => (a = 191 ∨ a = 192) ∧ j = T + b) h1 (wr (wr h1 191 (T + b) (-1)) 192 (T + b) 1) := (Chg.wr h1 191 _ _ (by omega)).trans (Chg.wr _ 192 _ _ (by omega))
        have st2 : StV g (wr (wr h1 191 (T + b) (-1)) 192 (T + b) 1) := st.chg c2 (fun a k z => by omega)
        obtain ⟨h2, a1, a2, a3, a4⟩ := obj_85 (k71 := k71) hst hc d (i + 1) (b + 1) k _ (by omega) (by omega) (by omega) (by omega) st2 (by rw [c2.2.2.1 _ _ (by omega)]; exact h90) (by omega) (fun j j1 j2 => by
          rw [c2.2.2.1 _ _ (by omega), c2.2.2.1 _ _ (by omega)]
          exact hz j (by omega) (by omega))
        refine ⟨h2, ?_, a2, (c2.mono (fun a j z => by omega)).trans (a3.mono (fun a j z => by omega)), fun j t hj => ?_⟩
        · have e135 : fX12_object_135 N k71 (fX12_object_85 N k71 k) 138 v2 v3 (Int32.ofNat c) (Int32.ofNat i) h1 = fX12_object_85 N k71 k 138 v2 v3 (Int32.ofNat c) (Int32.ofNat (i + 1)) (wr (wr h1 191 (T + b) (-1)) 192 (T + b) 1) := by
            unfold fX12_object_135 fX12_object_171
            rw [R_138_91 sg, Option.bind_some, g_138_90 sg, Option.bind_some, h90, R_138_52 sg, Option.bind_some, L_175 sg (by omega), Option.bind_some, st.2.1 175 i (by omega) (by omega), h175, ← Int32.ofNat_add, T_191 sg (by omega), Option.bind_some, R_138_92 s1, Option.bind_some, g_138_90 s1, Option.bind_some, rd_wr_ne _ _ (by omega), h90, R_138_52 s1, Option.bind_some, L_175 s1 (by omega), Option.bind_some, rd_wr_ne _ _ (by omega), st.2.1 175 i (by omega) (by omega), h175, ← Int32.ofNat_add, T_192 s1 (by omega) (Or.inr rfl), Option.bind_some, i_add1]
          rw [← a1, ← e135]
          by_cases h10 : 10 ≤ P.mty i
          · rw [if_pos (show (10 : Int32) ≤ Int32.ofNat (P.mty i) by rw [show (10 : Int32) = Int32.ofNat 10 from rfl, iLe (by omega) (by omega)]; omega)]
          · rw [if_neg (show ¬ (10 : Int32) ≤ Int32.ofNat (P.mty i) by rw [show (10 : Int32) = Int32.ofNat 10 from rfl, iLe (by omega) (by omega)]; omega), if_pos (show Int32.ofNat (P.mty i) = (2 : Int32) by rw [show (2 : Int32) = Int32.ofNat 2 from rfl, iEq (by omega) (by omega)]; omega)]
        · cases j with
          | zero =>
            obtain rfl : P.mty i = t := Option.some.inj hj
            rw [Nat.add_zero, a3.2.2.1 _ _ (by omega), a3.2.2.1 _ _ (by omega), rd_wr_ne _ _ (by omega), W_191 sg, W_192 s1]
            unfold DfV
            rw [if_neg (by omega)]
            exact ⟨rfl, rfl⟩
          | succ j =>
            have := a4 j t hj
            rw [show T + (b + 1) + j = T + b + (j + 1) by omega] at this
            exact this
      · obtain ⟨h2, a1, a2, a3, a4⟩ := obj_85 (k71 := k71) hst hc d (i + 1) (b + 1) k h1 (by omega) (by omega) (by omega) (by omega) st h90 (by omega) (fun j j1 j2 => hz j (by omega) (by omega))
        refine ⟨h2, ?_, a2, a3.mono (fun a j z => by omega), fun j t hj => ?_⟩
        · rw [← a1, if_neg (show ¬ (10 : Int32) ≤ Int32.ofNat (P.mty i) by rw [show (10 : Int32) = Int32.ofNat 10 from rfl, iLe (by omega) (by omega)]; omega), if_neg (show ¬ Int32.ofNat (P.mty i) = (2 : Int32) by rw [show (2 : Int32) = Int32.ofNat 2 from rfl, iEq (by omega) (by omega)]; omega)]
          unfold fX12_object_171
          rw [i_add1]
        · cases j with
          | zero =>
            obtain rfl : P.mty i = t := Option.some.inj hj
            rw [Nat.add_zero, a3.2.2.1 _ _ (by omega), a3.2.2.1 _ _ (by omega)]
            unfold DfV
            rw [if_pos (by unfold tyV at tv; omega)]
            exact hz b (by omega) (by omega)
          | succ j =>
            have := a4 j t hj
            rw [show T + (b + 1) + j = T + b + (j + 1) by omega] at this
            exact this
    · have hFt : P.isF i = false := by rw [hF, hbm]; rfl
      rw [hFt] at hT hz hos
      rw [if_neg (by decide), Nat.zero_add] at hT hz
      rw [if_neg (by decide)] at hos
      rw [hFt, if_neg (show ¬ kI true = 0 by decide), if_neg (show ¬ (false = true) by decide), if_neg (show ¬ (false = true) by decide), Nat.zero_add]
      obtain ⟨h2, a1, a2, a3, a4⟩ := obj_85 (k71 := k71) hst hc d (i + 1) b k h1 (by omega) (by omega) (by omega) (by omega) st h90 hT hz
      refine ⟨h2, ?_, a2, a3, a4⟩
      rw [← a1]
      unfold fX12_object_171
      rw [i_add1]
theorem obj_71 (hN : 1100 ≤ N) (hst : Stw P S D num g) : ∀ (f k c : Nat) (h1 : pH), f < k → c < P.n → P.endF f c = true → StV g h1 → rd h1 138 90 = Int32.ofNat T → T + P.nf c ≤ 12000 → (∀ j, j < P.nf c → rd h1 191 (T + j) = 0 ∧ rd h1 192 (T + j) = 0) → ∃ h2, fX12_object_71 N k 138 v2 v3 (Int32.ofNat c) h1 = objE v2 v3 h2 ∧ StV g h2 ∧ Chg (fun a j => (a = 191 ∨ a = 192) ∧ T ≤ j ∧ j < T + P.nf c) h1 h2 ∧ ∀ (j t : Nat), (P.fts c)[j]? = some t → DfV (rd h2 191 (T + j)) (rd h2 192 (T + j)) t
  | 0, k, c, h1, hk, hc, he, st, h90, hT, hz => by cases he
  | f + 1, k + 1, c, h1, hk, hc, he, st, h90, hT, hz => by
    have ha := hst.1.1.1
    have hn := hst.1.2.1.2.2.2.2.2.1
    have h167 := hst.1.2.1.2.2.2.2.2.2.2.1 c (by omega)
    have hms := hst.1.2.1.2.2.2.2.2.2.2.2.2.2.1
    have hmf := P.mf_le (c + 1)
    have hml := P.ms_len
    have hmo := Pgm.mf_mono (P := P) (c := c)
    have sg := st.1
    have hnf := Pgm.nf_eq ha hc
    have hown : P.own c = P.cf (P.mf (c + 1) - P.mf c) (P.mf c) := rfl
    have hoff : P.off c (P.mf c) = P.abv c := by
      unfold Pgm.off
      rw [Nat.sub_self]
      rfl
    obtain ⟨h2, a1, a2, a3, a4⟩ := obj_85 (N := N) (v2 := v2) (v3 := v3) (T := T) (k71 := fX12_object_71 N k) hst hc (P.mf (c + 1) - P.mf c) (P.mf c) (P.abv c) N h1 (by omega) (Nat.le_refl _) hoff.symm (by omega) st h90 (by omega) (fun j j1 j2 => hz j (by omega))
    have hpre : fX12_object_71 N (k + 1) 138 v2 v3 (Int32.ofNat c) h1 = fX12_object_71 N k 138 v2 v3 (oI (-1) (P.par c)) h2 := by
      rw [fX12_object_71, if_neg (i_nneg (by omega)), R_138_43 sg, Option.bind_some, L_167 sg (by omega), Option.bind_some, st.2.1 167 c (by omega) (by omega), h167, a1]
    have hfts := Pgm.fts_eq ha hc
    unfold Pgm.endF at he
    rw [hpre]
    rcases hpa : P.par c with _ | e
    · obtain ⟨k, rfl⟩ : ∃ k', k = k' + 1 := ⟨k - 1, by rw [hpa] at he; omega⟩
      have hab : P.abv c = 0 := by unfold Pgm.abv; rw [hpa]; rfl
      rw [hpa] at hfts
      refine ⟨h2, ?_, a2, a3.mono (fun a j z => by omega), fun j t hj => ?_⟩
      · rw [fX12_object_71, if_pos (show oI (-1) none < 0 by decide)]
        rfl
      · have hj : (P.ofl (P.mf (c + 1) - P.mf c) (P.mf c))[j]? = some t := by rw [hfts] at hj; exact hj
        have := a4 j t hj
        rw [hab, Nat.add_zero] at this
        exact this
    · rw [hpa] at he hfts
      have hab : P.abv c = P.nf e := by unfold Pgm.abv; rw [hpa]; rfl
      have hel := Pgm.par_lt hpa
      have hle := Pgm.fts_len ha _ e rfl hel
      have n2 : ∀ j, j < P.nf e → rd h2 191 (T + j) = rd h1 191 (T + j) ∧ rd h2 192 (T + j) = rd h1 192 (T + j) := fun j hj => ⟨a3.2.2.1 _ _ (by omega), a3.2.2.1 _ _ (by omega)⟩
      obtain ⟨h3, b1, b2, b3, b4⟩ := obj_71 hN hst f k e h2 (by omega) hel he a2 (by rw [a3.2.2.1 _ _ (by omega)]; exact h90) (by omega) (fun j hj => by
        rw [(n2 j hj).1, (n2 j hj).2]
        exact hz j (by omega))
      refine ⟨h3, b1, b2, (a3.mono (fun a j z => by omega)).trans (b3.mono (fun a j z => by omega)), fun j t hj => ?_⟩
      rw [hfts] at hj
      have hj : (P.fts e ++ P.ofl (P.mf (c + 1) - P.mf c) (P.mf c))[j]? = some t := hj
      by_cases z : j < P.nf e
      · rw [List.getElem?_append_left (by omega)] at hj
        exact b4 j t hj
      · rw [List.getElem?_append_right (by omega), hle] at hj
        have := a4 _ t hj
        rw [show T + P.abv c + (j - P.nf e) = T + j by omega] at this
        rw [b3.2.2.1 _ _ (by omega), b3.2.2.1 _ _ (by omega)]
        exact this
theorem obj_35 {v1 : Int32} {len : Nat} (hT : T + len ≤ 12000) : ∀ (r a k : Nat) (h1 : pH), a + r = T + len → T ≤ a → r < k → StV g h1 → rd h1 138 90 = Int32.ofNat T → (∀ j, T ≤ j → j < a → rd h1 191 j = 0 ∧ rd h1 192 j = 0) → ∃ h2, fX12_object_35 N k 138 v1 (Int32.ofNat len) v3 (Int32.ofNat a) h1 = fX12_object_71 N N 138 (Int32.ofNat len) v3 v1 h2 ∧ StV g h2 ∧ Chg (fun x j => (x = 191 ∨ x = 192) ∧ T ≤ j ∧ j < T + len) h1 h2 ∧ ∀ j, T ≤ j → j < T + len → rd h2 191 j = 0 ∧ rd h2 192 j = 0
  | 0, a, k + 1, h1, ha, hTa, hk, st, h90, hz => by
    refine ⟨h1, ?_, st, Chg.refl _ _, fun j j1 j2 => hz j j1 (by omega)⟩
    rw [fX12_object_35, g_138_90 st.1, Option.bind_some, h90, ← Int32.ofNat_add, if_pos (by rw [iLe (by omega) (by omega)]; omega)]
  | r + 1, a, k + 1, h1, ha, hTa, hk, st, h90, hz => by
    have sg := st.1
    have s1 := sg.wr 191 a 0
    have s2 := s1.wr 192 a 0
    have c2 : Chg (fun x j => (x = 191 ∨ x = 192) ∧ j = a) h1 (wr (wr h1 191 a 0) 192 a 0) := (Chg.wr h1 191 _ _ (by omega)).trans (Chg.wr _ 192 _ _ (by omega))
    obtain ⟨h2, a1, a2, a3, a4⟩ := obj_35 (v1 := v1) hT r (a + 1) k _ (by omega) (by omega) (by omega) (st.chg c2 (fun x j z => by omega)) (by rw [c2.2.2.1 _ _ (by omega)]; exact h90) (fun j j1 j2 => by
      by_cases z : j = a
      · subst z
        rw [rd_wr_ne _ _ (by omega), W_191 sg, W_192 s1]
        exact ⟨rfl, rfl⟩
      · rw [c2.2.2.1 _ _ (by omega), c2.2.2.1 _ _ (by omega)]
        exact hz j j1 (by omega))
    refine ⟨h2, ?_, a2, (c2.mono (fun x j z => by omega)).trans a3, a4⟩
    rw [fX12_object_35, g_138_90 sg, Option.bind_some, h90, ← Int32.ofNat_add, if_neg (by rw [iLe (by omega) (by omega)]; omega), R_138_91 sg, Option.bind_some, T_191 sg (by omega), Option.bind_some, R_138_92 s1, Option.bind_some, T_192 s1 (by omega) (Or.inl rfl), Option.bind_some, i_add1, a1]
/-- the words of a new object -/
def obW (P : Pgm) : Option Nat → Nat → List Vl
  | none, n => List.replicate n (.inl 0)
  | some c, _ => (P.fts c).map dfl
def onA (k T n a j : Nat) : Prop := ((a = 185 ∨ a = 186 ∨ a = 187) ∧ j = k) ∨ ((a = 191 ∨ a = 192) ∧ T ≤ j ∧ j < T + n) ∨ (a = 138 ∧ (j = 73 ∨ j = 74 ∨ j = 82 ∨ j = 90))
theorem r_object {oc : Option Nat} {k n U M : Nat} {h : pH} (hN : 20000 ≤ N) (hst : Stw P S D num g) (st : StV g h) (hk : k < 5200) (h82 : rd h 138 82 = Int32.ofNat k) (h90 : rd h 138 90 = Int32.ofNat T) (hT : T + n ≤ 12000) (h73 : rd h 138 73 = Int32.ofNat U) (h74 : rd h 138 74 = Int32.ofNat M) (hoc : ∀ c, oc = some c → c < P.n ∧ n = P.nf c) : ∃ h', fX12_object N 138 (clV oc) (Int32.ofNat n) h = some (Int32.ofNat k, h') ∧ StV g h' ∧ Chg (onA k T n) h h' ∧ rd h' 185 k = clV oc ∧ rd h' 186 k = Int32.ofNat T ∧ rd h' 187 k = Int32.ofNat n ∧ rd h' 138 82 = Int32.ofNat (k + 1) ∧ rd h' 138 90 = Int32.ofNat (T + n) ∧ rd h' 138 73 = Int32.ofNat (U + (2 + n)) ∧ rd h' 138 74 = Int32.ofNat (M + (2 + n)) ∧ (obW P oc n).length = n ∧ ∀ (B : Nat → Nat) (L : List Nat) (j : Nat) (v : Vl), (obW P oc n)[j]? = some v → RV B L (rd h' 191 (T + j)) (rd h' 192 (T + j)) v := by
  have sg := st.1
  have ha := hst.1.1.1
  have s1 := sg.wr 185 k (clV oc)
  have s2 := s1.wr 186 k (Int32.ofNat T)
  have s3 := s2.wr 187 k (Int32.ofNat n)
  have c3 : Chg (fun x j => (x = 185 ∨ x = 186 ∨ x = 187) ∧ j = k) h (wr (wr (wr h 185 k (clV oc)) 186 k (Int32.ofNat T)) 187 k (Int32.ofNat n)) := (Chg.wr h 185 _ _ (by omega)).trans ((Chg.wr _ 186 _ _ (by omega)).trans (Chg.wr _ 187 _ _ (by omega)))
  have st3 := st.chg c3 (fun x j z => by omega)
  have h90' : rd (wr (wr (wr h 185 k (clV oc)) 186 k (Int32.ofNat T)) 187 k (Int32.ofNat n)) 138 90 = Int32.ofNat T := by rw [c3.2.2.1 _ _ (by omega)]; exact h90
  obtain ⟨h4, a1, a2, a3, a4⟩ := obj_35 (N := N) (v1 := clV oc) (v3 := Int32.ofNat k) (T := T) (len := n) hT n T N _ rfl (Nat.le_refl _) (by omega) st3 h90' (fun j j1 j2 => absurd j2 (by omega))
  have hch : ∃ h5, fX12_object_71 N N 138 (Int32.ofNat n) (Int32.ofNat k) (clV oc) h4 = objE (Int32.ofNat n) (Int32.ofNat k) h5 ∧ StV g h5 ∧ Chg (fun a j => (a = 191 ∨ a = 192) ∧ T ≤ j ∧ j < T + n) h4 h5 ∧ (obW P oc n).length = n ∧ ∀ (B : Nat → Nat) (L : List Nat) (j : Nat) (v : Vl), (obW P oc n)[j]? = some v → RV B L (rd h5 191 (T + j)) (rd h5 192 (T + j)) v := by
    match oc, hoc with
    | none, hoc =>
      refine ⟨h4, ?_, a2, Chg.refl _ _, List.length_replicate .., fun B L j v hj => ?_⟩
      · obtain ⟨e, rfl⟩ : ∃ e, N = e + 1 := ⟨N - 1, by omega⟩
        show fX12_object_71 (e + 1) (e + 1) 138 (Int32.ofNat n) (Int32.ofNat k) (-1) h4 = _
        rw [fX12_object_71, if_pos (by decide)]
        rfl
      · have hj : (List.replicate n (Sum.inl 0 : Vl))[j]? = some v := hj
        obtain ⟨j1, j2⟩ := List.getElem?_eq_some_iff.mp hj
        rw [List.length_replicate] at j1
        rw [List.getElem_replicate] at j2
        obtain ⟨z1, z2⟩ := a4 (T + j) (by omega) (by omega)
        rw [z1, z2, ← j2]
        exact ⟨rfl, rfl⟩
    | some c, hoc =>
      obtain ⟨hc, hn⟩ := hoc c rfl
      have hPn := hst.1.1.2.2.2.2.1
      have hlen : (P.fts c).length = n := by rw [Pgm.fts_len ha _ c rfl hc, hn]
      obtain ⟨h5, b1, b2, b3, b4⟩ := obj_71 (N := N) (v2 := Int32.ofNat n) (v3 := Int32.ofNat k) (T := T) (by omega) hst P.n N c h4 (by omega) hc (ha c hc) a2 (by rw [a3.2.2.1 _ _ (by omega)]; exact h90') (by omega) (fun j hj => a4 (T + j) (by omega) (by omega))
      refine ⟨h5, b1, b2, b3.mono (fun a j z => by omega), by show ((P.fts c).map dfl).length = n; rw [List.length_map, hlen], fun B L j v hj => ?_⟩
      have hj : ((P.fts c).map dfl)[j]? = some v := hj
      rw [List.getElem?_map] at hj
      cases hq : (P.fts c)[j]? with
      | none => rw [hq] at hj; cases hj
      | some t =>
        rw [hq] at hj
        obtain rfl : dfl t = v := Option.some.inj hj
        exact (b4 j t hq).rv
  obtain ⟨h5, b1, b2, b3, b4, b5⟩ := hch
  have sg5 := b2.1
  have c5 : Chg (fun a j => ((a = 185 ∨ a = 186 ∨ a = 187) ∧ j = k) ∨ ((a = 191 ∨ a = 192) ∧ T ≤ j ∧ j < T + n)) h h5 := (c3.mono (fun a j z => Or.inl z)).trans ((a3.mono (fun a j z => Or.inr z)).trans (b3.mono (fun a j z => Or.inr z)))
  have n5 : ∀ j, rd h5 138 j = rd h 138 j := fun j => c5.2.2.1 _ _ (by omega)
  have t1 := sg5.wr 138 90 (Int32.ofNat (T + n))
  have t2 := t1.wr 138 82 (Int32.ofNat (k + 1))
  have t3 := t2.wr 138 73 (Int32.ofNat (U + (2 + n)))
  have t4 := t3.wr 138 74 (Int32.ofNat (M + (2 + n)))
  have c6 : Chg (fun a j => a = 138 ∧ (j = 73 ∨ j = 74 ∨ j = 82 ∨ j = 90)) h5 (wr (wr (wr (wr h5 138 90 (Int32.ofNat (T + n))) 138 82 (Int32.ofNat (k + 1))) 138 73 (Int32.ofNat (U + (2 + n)))) 138 74 (Int32.ofNat (M + (2 + n)))) := (Chg.wr h5 138 90 _ (by omega)).trans ((Chg.wr _ 138 82 _ (by omega)).trans ((Chg.wr _ 138 73 _ (by omega)).trans (Chg.wr _ 138 74 _ (by omega))))
  have e2n : (2 : Int32) + Int32.ofNat n = Int32.ofNat (2 + n) := by rw [Int32.ofNat_add]; rfl
  refine ⟨_, ?_, b2.chg c6 (fun a j z => by omega), (c5.mono (fun a j z => by unfold onA; omega)).trans (c6.mono (fun a j z => by unfold onA; omega)), ?_, ?_, ?_, ?_, ?_, ?_, w_138_74 t3 _, b4, fun B L j v hj => ?_⟩
  · unfold fX12_object
    rw [if_pos (o_138 sg), g_138_82 sg, Option.bind_some, h82, R_138_83 sg, Option.bind_some, T_185 sg hk, Option.bind_some, R_138_84 s1, Option.bind_some, g_138_90 s1, Option.bind_some, rd_wr_ne _ _ (by omega), h90, T_186 s1 hk, Option.bind_some, R_138_85 s2, Option.bind_some, T_187 s2 hk, Option.bind_some, g_138_90 s3, Option.bind_some, h90', a1, b1]
    unfold objE
    rw [g_138_90 sg5, Option.bind_some, n5, h90, ← Int32.ofNat_add, p_138_90 sg5, Option.bind_some, g_138_82 t1, Option.bind_some, rd_wr_ne _ _ (by omega), n5, h82, i_add1, p_138_82 t1, Option.bind_some, g_138_73 t2, Option.bind_some, rd_wr_ne _ _ (by omega), rd_wr_ne _ _ (by omega), n5, h73, e2n, ← Int32.ofNat_add, p_138_73 t2, Option.bind_some, g_138_74 t3, Option.bind_some, rd_wr_ne _ _ (by omega), rd_wr_ne _ _ (by omega), rd_wr_ne _ _ (by omega), n5, h74, ← Int32.ofNat_add, p_138_74 t3, Option.bind_some]
  · rw [c6.2.2.1 _ _ (by omega), b3.2.2.1 _ _ (by omega), a3.2.2.1 _ _ (by omega), rd_wr_ne _ _ (by omega), rd_wr_ne _ _ (by omega), W_185 sg]
  · rw [c6.2.2.1 _ _ (by omega), b3.2.2.1 _ _ (by omega), a3.2.2.1 _ _ (by omega), rd_wr_ne _ _ (by omega), W_186 s1]
  · rw [c6.2.2.1 _ _ (by omega), b3.2.2.1 _ _ (by omega), a3.2.2.1 _ _ (by omega), W_187 s2]
  · rw [rd_wr_ne _ _ (by omega), rd_wr_ne _ _ (by omega), w_138_82 t1]
  · rw [rd_wr_ne _ _ (by omega), rd_wr_ne _ _ (by omega), rd_wr_ne _ _ (by omega), w_138_90 sg5]
  · rw [rd_wr_ne _ _ (by omega), w_138_73 t2]
  · rw [c6.2.2.1 _ _ (by omega), c6.2.2.1 _ _ (by omega)]
    exact b5 B L j v hj
end OB
