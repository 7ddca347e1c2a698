/-! ===== THE REFERENCE throws: single rounds ===== -/
theorem StV.rt {P : Pgm} {D : List Int32 → Prop} {num : List Int32 → Nat} {g h : pH} (st : StV g h) (q : RT P D num g) : RT P D num h := by
  obtain ⟨q1, q2, q3, q4, q5, q6, q7, q8, q9, q10, q11, q12⟩ := q
  refine ⟨st.1, q2, q3, q4, (st.2.2 37 (by omega) (by omega)).trans q5, q6, fun c hc => ⟨(q7 c hc).1, (st.2.1 162 c (by omega) (by omega)).trans (q7 c hc).2⟩, fun c hc => (st.2.1 167 c (by omega) (by omega)).trans (q8 c hc), fun c h1 h2 => ⟨(st.2.1 163 c (by omega) (by omega)).trans (q9 c h1 h2).1, (q9 c h1 h2).2⟩, (st.2.2 44 (by omega) (by omega)).trans q10, q11, fun m b hb => ?_⟩
  obtain ⟨z1, z2, z3, z4⟩ := q12 m b hb
  exact ⟨z1, (st.2.1 168 m (by omega) (by omega)).trans z2, (st.2.1 171 m (by omega) (by omega)).trans z3, (st.2.1 169 m (by omega) (by omega)).trans z4⟩
theorem StV.rpr {P : Pgm} {g h : pH} (st : StV g h) (q : RPr P g) : RPr P h := fun c hc => (st.2.1 165 c (by omega) (by omega)).trans (q c hc)
section TH
variable {g h : pH} {N d : Nat} {v1 v2 : Int32} {it : It} {T : List It}
theorem thr_rd (st : StV g h) (ht : TdH (it :: T) h) (hl : T.length < 400000) (hk : it.1 ≤ 8) : fX12_throwsObject_17 N (d + 1) 138 v1 v2 h = if it.1 = 8 then ((getI (wr h 138 103 (Int32.ofNat T.length)) 138 12 93).bind fun t46 => (putI (wr h 138 103 (Int32.ofNat T.length)) 138 12 93 (t46 - (1 : Int32))).bind fun h47 => fX12_throwsObject_68 N (fX12_throwsObject_17 N d) 138 v1 v2 it.2 h47) else fX12_throwsObject_68 N (fX12_throwsObject_17 N d) 138 v1 v2 it.2 (wr h 138 103 (Int32.ofNat T.length)) := by
  have sg := st.1
  obtain ⟨q1, q2, q3, q4⟩ := ht.pop sg
  have s1 := sg.wr 138 103 (Int32.ofNat T.length)
  rw [fX12_throwsObject_17, g_138_103 sg, Option.bind_some, q4, if_neg (show ¬ Int32.ofNat (T.length + 1) ≤ 0 by rw [show (0 : Int32) = Int32.ofNat 0 from rfl, iLe (by omega) (by omega)]; omega)]
  simp only [Option.bind_some]
  rw [i_sub1, p_138_103 sg, Option.bind_some, R_138_105 s1, Option.bind_some, g_138_103 s1, Option.bind_some, w_138_103 sg, L_202 s1 hl, Option.bind_some, rd_wr_ne _ _ (by omega), q3, R_138_104 s1]
  simp only [Option.bind_some]
  rw [L_201 s1 hl, Option.bind_some, rd_wr_ne _ _ (by omega), q2]
  by_cases h8 : it.1 = 8
  · rw [if_pos h8, if_pos (by rw [h8]; rfl)]
  · rw [if_neg h8, if_neg (show ¬ Int32.ofNat it.1 = 8 from fun z => h8 ((iEq (a := it.1) (b := 8) (by omega) (by omega)).mp z))]
/-- what is no try is passed over -/
theorem thr_n (st : StV g h) (ht : TdH (it :: T) h) (hl : T.length < 400000) (hk : it.1 ≤ 6) : fX12_throwsObject_17 N (d + 1) 138 v1 v2 h = fX12_throwsObject_17 N d 138 v1 v2 (wr h 138 103 (Int32.ofNat T.length)) := by
  have sg := st.1
  obtain ⟨q1, q2, q3, q4⟩ := ht.pop sg
  have s1 := sg.wr 138 103 (Int32.ofNat T.length)
  rw [thr_rd st ht hl (by omega), if_neg (by omega)]
  unfold fX12_throwsObject_68
  rw [R_138_104 s1, Option.bind_some, g_138_103 s1, Option.bind_some, w_138_103 sg, L_201 s1 hl, Option.bind_some, rd_wr_ne _ _ (by omega), q2, if_neg (show ¬ Int32.ofNat it.1 = 7 from fun z => absurd ((iEq (a := it.1) (b := 7) (by omega) (by omega)).mp z) (by omega))]
/-- a method is left -/
theorem thr_8 {n : Nat} (st : StV g h) (ht : TdH (it :: T) h) (hl : T.length < 400000) (hk : it.1 = 8) (h93 : rd h 138 93 = Int32.ofNat (n + 1)) : fX12_throwsObject_17 N (d + 1) 138 v1 v2 h = fX12_throwsObject_17 N d 138 v1 v2 (wr (wr h 138 103 (Int32.ofNat T.length)) 138 93 (Int32.ofNat n)) := by
  have sg := st.1
  obtain ⟨q1, q2, q3, q4⟩ := ht.pop sg
  have s1 := sg.wr 138 103 (Int32.ofNat T.length)
  have s2 := s1.wr 138 93 (Int32.ofNat n)
  rw [thr_rd st ht hl (by omega), if_pos hk, g_138_93 s1, Option.bind_some, rd_wr_ne _ _ (by omega), h93, i_sub1, p_138_93 s1, Option.bind_some]
  unfold fX12_throwsObject_68
  rw [R_138_104 s2, Option.bind_some, g_138_103 s2, Option.bind_some, rd_wr_ne _ _ (by omega), w_138_103 sg, L_201 s2 hl, Option.bind_some, rd_wr_ne _ _ (by omega), rd_wr_ne _ _ (by omega), q2, hk, if_neg (by decide)]
/-- a try that does not catch -/
theorem thr_7n {P : Pgm} {D : List Int32 → Prop} {num : List Int32 → Nat} {s m c e n : Nat} (hN : 1100 ≤ N) (hrt : RT P D num g) (hrp : RPr P g) (ha : Acy P) (hc : c < P.n) (he : e < P.n) (st : StV g h) (ht : TdH ((7, Int32.ofNat s) :: T) h) (hl : T.length < 400000) (hs : s < 1600) (h93 : rd h 138 93 = Int32.ofNat n) (h106 : rd h 138 106 = Int32.ofNat (m + 1)) (e156 : rd g 156 s = Int32.ofNat (10 + e)) (hu : P.und c e = false) : fX12_throwsObject_17 N (d + 1) 138 v1 (Int32.ofNat c) h = fX12_throwsObject_17 N d 138 v1 (Int32.ofNat c) (wr (wr h 138 103 (Int32.ofNat T.length)) 138 106 (Int32.ofNat m)) := by
  have sg := st.1
  obtain ⟨q1, q2, q3, q4⟩ := ht.pop sg
  have s1 := sg.wr 138 103 (Int32.ofNat T.length)
  have s2 := s1.wr 138 106 (Int32.ofNat m)
  have st2 : StV g (wr (wr h 138 103 (Int32.ofNat T.length)) 138 106 (Int32.ofNat m)) := st.chg ((Chg.wr (A := fun a k => a = 138 ∧ (k = 103 ∨ k = 106)) h 138 103 _ ⟨rfl, Or.inl rfl⟩).trans (Chg.wr _ 138 106 _ ⟨rfl, Or.inr rfl⟩)) (fun a k z => by omega)
  rw [thr_rd st ht hl (show 7 ≤ 8 by omega), if_neg (show ¬ 7 = 8 by omega)]
  unfold fX12_throwsObject_68
  rw [R_138_104 s1, Option.bind_some, g_138_103 s1, Option.bind_some, w_138_103 sg, L_201 s1 hl, Option.bind_some, rd_wr_ne _ _ (by omega), q2, if_pos (by rfl), g_138_106 s1, Option.bind_some, rd_wr_ne _ _ (by omega), h106, i_sub1, p_138_106 s1, Option.bind_some, g_138_93 s2, Option.bind_some, R_138_31 s2, Option.bind_some, L_156 s2 hs, Option.bind_some, st2.2.1 156 s (by omega) (by omega), e156, i_sub10 (by omega), show 10 + e - 10 = e by omega, (st2.rt hrt).isUnder (st2.rpr hrp) ha hN hc he, Option.bind_some]
  dsimp only
  rw [hu, if_pos (by rfl)]
def caA (n k' t a k : Nat) : Prop := (a = 138 ∧ (k = 100 ∨ k = 103 ∨ k = 106)) ∨ (a = 195 ∧ k = n) ∨ ((a = 197 ∨ a = 198) ∧ k = k') ∨ ((a = 201 ∨ a = 202) ∧ t ≤ k)
/-- a try that catches -/
theorem thr_7c {P : Pgm} {D : List Int32 → Prop} {num : List Int32 → Nat} {s m c e n lb pb el : Nat} (hN : 1100 ≤ N) (hrt : RT P D num g) (hrp : RPr P g) (ha : Acy P) (hc : c < P.n) (he : e < P.n) (st : StV g h) (ht : TdH ((7, Int32.ofNat s) :: T) h) (hl : T.length + 10 < 400000) (hs : s < 1600) (hn : n < 100) (h93 : rd h 138 93 = Int32.ofNat (n + 1)) (h106 : rd h 138 106 = Int32.ofNat (m + 1)) (hm : m < 6000) (h203 : rd h 203 m = Int32.ofNat pb) (h204 : rd h 204 m = Int32.ofNat el) (h194 : rd h 194 n = Int32.ofNat lb) (hlb : lb + el < 90000) (e156 : rd g 156 s = Int32.ofNat (10 + e)) (hu : P.und c e = true) : ∃ h', fX12_throwsObject_17 N (d + 1) 138 v1 (Int32.ofNat c) h = some h' ∧ Chg (caA n (lb + el) T.length) h h' ∧ rd h' 138 100 = Int32.ofNat pb ∧ rd h' 138 106 = Int32.ofNat m ∧ rd h' 195 n = Int32.ofNat (el + 1) ∧ rd h' 197 (lb + el) = v1 ∧ rd h' 198 (lb + el) = 1 ∧ TdH ((3, rd g 160 s) :: (5, Int32.ofNat el) :: T) h' := by
  have sg := st.1
  obtain ⟨q1, q2, q3, q4⟩ := ht.pop sg
  have s1 := sg.wr 138 103 (Int32.ofNat T.length)
  have s2 := s1.wr 138 106 (Int32.ofNat m)
  have s3 := s2.wr 138 100 (Int32.ofNat pb)
  have s4 := s3.wr 195 n (Int32.ofNat el)
  have c1 : Chg (fun a k => a = 138 ∧ k = 106) (wr h 138 103 (Int32.ofNat T.length)) (wr (wr h 138 103 (Int32.ofNat T.length)) 138 106 (Int32.ofNat m)) := Chg.wr _ 138 106 _ ⟨rfl, rfl⟩
  have c2 : Chg (caA n (lb + el) T.length) h (wr (wr h 138 103 (Int32.ofNat T.length)) 138 106 (Int32.ofNat m)) := (Chg.wr h 138 103 _ (by unfold caA; omega)).trans (c1.mono (fun a k z => by unfold caA; omega))
  have c4 : Chg (fun a k => (a = 138 ∧ (k = 106 ∨ k = 100)) ∨ (a = 195 ∧ k = n)) (wr h 138 103 (Int32.ofNat T.length)) (wr (wr (wr (wr h 138 103 (Int32.ofNat T.length)) 138 106 (Int32.ofNat m)) 138 100 (Int32.ofNat pb)) 195 n (Int32.ofNat el)) := (c1.mono (fun a k z => by omega)).trans ((Chg.wr _ 138 100 _ (by omega)).trans (Chg.wr _ 195 n _ (by omega)))
  have c4' : Chg (caA n (lb + el) T.length) h (wr (wr (wr (wr h 138 103 (Int32.ofNat T.length)) 138 106 (Int32.ofNat m)) 138 100 (Int32.ofNat pb)) 195 n (Int32.ofNat el)) := (Chg.wr h 138 103 _ (by unfold caA; omega)).trans (c4.mono (fun a k z => by unfold caA; omega))
  have st2 : StV g (wr (wr h 138 103 (Int32.ofNat T.length)) 138 106 (Int32.ofNat m)) := st.chg c2 (fun a k z => by unfold caA; omega)
  have st4 : StV g (wr (wr (wr (wr h 138 103 (Int32.ofNat T.length)) 138 106 (Int32.ofNat m)) 138 100 (Int32.ofNat pb)) 195 n (Int32.ofNat el)) := st.chg c4' (fun a k z => by unfold caA; omega)
  have td4 := q1.chg c4 (by omega) (fun a k z _ => by omega)
  obtain ⟨h5, f1, f2, f3⟩ := r_todo (N := N) (k := 5) (y := Int32.ofNat el) s4 td4 (by omega)
  have f1 : fX12_todo N 138 5 (Int32.ofNat el) (wr (wr (wr (wr h 138 103 (Int32.ofNat T.length)) 138 106 (Int32.ofNat m)) 138 100 (Int32.ofNat pb)) 195 n (Int32.ofNat el)) = some h5 := f1
  have st5 : StV g h5 := st4.chg f3 (fun a k z => by unfold tdA; omega)
  have e195 : rd h5 195 n = Int32.ofNat el := (f3.2.2.1 _ _ (by unfold tdA; omega)).trans (W_195 s3 _ _)
  have e194 : rd h5 194 n = Int32.ofNat lb := (f3.2.2.1 _ _ (by unfold tdA; omega)).trans ((c4'.2.2.1 _ _ (by unfold caA; omega)).trans h194)
  obtain ⟨h6, g1, g2, g3, g4⟩ := r_setL (N := N) (n := n) (lb := lb) (j := el) (x := v1) (f := 1) st5.1 (by omega) e194 hlb (Or.inr rfl)
  have st6 : StV g h6 := st5.chg g2 (fun a k z => by unfold slA; omega)
  have e195' : rd h6 195 n = Int32.ofNat el := (g2.2.2.1 _ _ (by unfold slA; omega)).trans e195
  have c7 : Chg (fun a k => a = 195 ∧ k = n) h6 (wr h6 195 n (Int32.ofNat (el + 1))) := Chg.wr _ 195 n _ ⟨rfl, rfl⟩
  have st7 : StV g (wr h6 195 n (Int32.ofNat (el + 1))) := st6.chg c7 (fun a k z => by omega)
  have td7 := (f2.chg g2 (by unfold slA; omega) (fun a k z _ => by unfold slA; omega)).chg c7 (by omega) (fun a k z _ => by omega)
  obtain ⟨h8, k1, k2, k3⟩ := r_todo (N := N) (k := 3) (y := rd g 160 s) st7.1 td7 (by rw [List.length_cons]; omega)
  have k1 : fX12_todo N 138 3 (rd g 160 s) (wr h6 195 n (Int32.ofNat (el + 1))) = some h8 := k1
  rw [List.length_cons] at k3
  have c58 : Chg (fun a k => (a = 138 ∧ k = 103) ∨ ((a = 201 ∨ a = 202) ∧ T.length ≤ k) ∨ ((a = 197 ∨ a = 198) ∧ k = lb + el) ∨ (a = 195 ∧ k = n)) (wr (wr (wr (wr h 138 103 (Int32.ofNat T.length)) 138 106 (Int32.ofNat m)) 138 100 (Int32.ofNat pb)) 195 n (Int32.ofNat el)) h8 := (f3.mono (fun a k z => by unfold tdA at z; omega)).trans ((g2.mono (fun a k z => by unfold slA at z; omega)).trans ((c7.mono (fun a k z => by omega)).trans (k3.mono (fun a k z => by unfold tdA at z; omega))))
  refine ⟨h8, ?_, c4'.trans (c58.mono (fun a k z => by unfold caA; omega)), ?_, ?_, ?_, ?_, ?_, k2⟩
  · have e203 : rd (wr (wr h 138 103 (Int32.ofNat T.length)) 138 106 (Int32.ofNat m)) 203 m = Int32.ofNat pb := (c2.2.2.1 _ _ (by unfold caA; omega)).trans h203
    have e204 : rd (wr (wr (wr h 138 103 (Int32.ofNat T.length)) 138 106 (Int32.ofNat m)) 138 100 (Int32.ofNat pb)) 204 m = Int32.ofNat el := by
      rw [rd_wr_ne _ _ (by omega)]
      exact (c2.2.2.1 _ _ (by unfold caA; omega)).trans h204
    have e93 : rd (wr (wr h 138 103 (Int32.ofNat T.length)) 138 106 (Int32.ofNat m)) 138 93 = Int32.ofNat (n + 1) := (c2.2.2.1 _ _ (by unfold caA; omega)).trans h93
    have e106 : rd (wr (wr (wr h 138 103 (Int32.ofNat T.length)) 138 106 (Int32.ofNat m)) 138 100 (Int32.ofNat pb)) 138 106 = Int32.ofNat m := by
      rw [rd_wr_ne _ _ (by omega)]
      exact w_138_106 s1 _
    rw [thr_rd st ht (by omega) (show 7 ≤ 8 by omega), if_neg (show ¬ 7 = 8 by omega)]
    unfold fX12_throwsObject_68
    rw [R_138_104 s1, Option.bind_some, g_138_103 s1, Option.bind_some, w_138_103 sg, L_201 s1 (by omega), Option.bind_some, rd_wr_ne _ _ (by omega), q2, if_pos (by rfl), g_138_106 s1, Option.bind_some, rd_wr_ne _ _ (by omega), h106, i_sub1, p_138_106 s1, Option.bind_some, g_138_93 s2, Option.bind_some, e93, i_sub1, R_138_31 s2, Option.bind_some, L_156 s2 hs, Option.bind_some, st2.2.1 156 s (by omega) (by omega), e156, i_sub10 (by omega), show 10 + e - 10 = e by omega, (st2.rt hrt).isUnder (st2.rpr hrp) ha hN hc he, Option.bind_some]
    dsimp only
    rw [hu, if_neg (by decide), R_138_107 s2, Option.bind_some, g_138_106 s2, Option.bind_some, w_138_106 s1, L_203 s2 hm, Option.bind_some, e203, p_138_100 s2, Option.bind_some, R_138_96 s3, Option.bind_some, R_138_108 s3, Option.bind_some, g_138_106 s3, Option.bind_some, e106, L_204 s3 hm, Option.bind_some, e204, T_195 s3 (by omega), Option.bind_some, R_138_96 s4, Option.bind_some, L_195 s4 (by omega), Option.bind_some, W_195 s3, f1, Option.bind_some, R_138_96 st5.1, Option.bind_some, L_195 st5.1 (by omega), Option.bind_some, e195, g1, Option.bind_some, R_138_96 st6.1, Option.bind_some, L_195 st6.1 (by omega), Option.bind_some, e195', i_add1, T_195 st6.1 (by omega), Option.bind_some, R_138_35 st7.1, Option.bind_some, L_160 st7.1 hs, Option.bind_some, st7.2.1 160 s (by omega) (by omega), k1, Option.bind_some]
  · rw [c58.2.2.1 _ _ (by omega), rd_wr_ne _ _ (by omega)]
    exact w_138_100 s2 _
  · rw [c58.2.2.1 _ _ (by omega), rd_wr_ne _ _ (by omega), rd_wr_ne _ _ (by omega)]
    exact w_138_106 s1 _
  · rw [k3.2.2.1 _ _ (by unfold tdA; omega)]
    exact W_195 st6.1 _ _
  · rw [k3.2.2.1 _ _ (by unfold tdA; omega), rd_wr_ne _ _ (by omega)]
    exact g3
  · rw [k3.2.2.1 _ _ (by unfold tdA; omega), rd_wr_ne _ _ (by omega)]
    exact g4
end TH
