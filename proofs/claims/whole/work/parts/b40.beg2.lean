/-! ===== THE REFERENCE begins a statement: variables, tries, all kinds ===== -/
theorem KtI_eq {P : Pgm} {num : List Int32 → Nat} {c mt : Nat} {g : pH} {k : Nat} {E : EnvV} {b : Tr} {z : Bool} {t : List It} : KtI P num c mt g (k, E, b, z) t = (if k = 0 then ∃ o s n l, RTb P num c mt g b E o s n l ∧ t = [(3, fsB b s)]
    else if k = 1 then ∃ o s n l, RTb P num c mt g b E o s n l ∧ t = [(4, Int32.ofNat s)]
    else if k = 2 then t = [(5, Int32.ofNat E.1.length)]
    else if k = 3 then ∃ o s n l, RTb P num c mt g b E o s n l ∧ t = [(5, Int32.ofNat E.1.length), (0, rd g 154 s), (4, Int32.ofNat s)]
    else if k = 4 then ∃ o s n l, RTb P num c mt g b E o s n l ∧ t = [(7, Int32.ofNat s)]
    else if k = 5 then t = if z = true then [] else [(6, 0)]
    else False) := rfl
theorem TdK.len {P : Pgm} {num : List Int32 → Nat} {c mt : Nat} {g : pH} : ∀ {ks : List Si} {t : List It}, TdK P num c mt g ks t → t.length ≤ 3 * ks.length
  | [], t, h => by
    have h : t = [] := h
    rw [h]; exact Nat.zero_le _
  | (k, E, b, z) :: ks, t, h => by
    obtain ⟨t1, t2, rfl, h1, h2⟩ := h
    have := TdK.len h2
    have : t1.length ≤ 3 := by
      rw [KtI_eq] at h1
      by_cases k0 : k = 0
      · rw [if_pos k0] at h1
        obtain ⟨_, _, _, _, _, rfl⟩ := h1; exact (by decide : 1 ≤ 3)
      rw [if_neg k0] at h1
      by_cases k1 : k = 1
      · rw [if_pos k1] at h1
        obtain ⟨_, _, _, _, _, rfl⟩ := h1; exact (by decide : 1 ≤ 3)
      rw [if_neg k1] at h1
      by_cases k2 : k = 2
      · rw [if_pos k2] at h1
        rw [h1]; exact (by decide : 1 ≤ 3)
      rw [if_neg k2] at h1
      by_cases k3 : k = 3
      · rw [if_pos k3] at h1
        obtain ⟨_, _, _, _, _, rfl⟩ := h1; exact (by decide : 3 ≤ 3)
      rw [if_neg k3] at h1
      by_cases k4 : k = 4
      · rw [if_pos k4] at h1
        obtain ⟨_, _, _, _, _, rfl⟩ := h1; exact (by decide : 1 ≤ 3)
      rw [if_neg k4] at h1
      by_cases k5 : k = 5
      · rw [if_pos k5] at h1
        rw [h1]
        split
        · exact (by decide : 0 ≤ 3)
        · exact (by decide : 1 ≤ 3)
      rw [if_neg k5] at h1
      exact h1.elim
    rw [List.length_append, List.length_cons]
    omega
theorem TdF.len {P : Pgm} {S : Tks} {num : List Int32 → Nat} {B : Nat → Nat} {L : List Nat} {g h : pH} : ∀ {fs : List Fm} {t : List It} {lt pt : Nat} {trs : List (Nat × Nat)}, TdF P S num g fs t → LwR B L h fs lt pt trs → t.length ≤ 3320 * fs.length
  | [], t, _, _, _, h, _ => by
    have h : t = [] := h
    rw [h]; exact Nat.zero_le _
  | f :: fs, t, _, _, _, h, q => by
    obtain ⟨t1, t2, t3, rfl, h1, h2, h3, h4⟩ := h
    obtain ⟨lb, pb, tr', q1, q2, q3, q4, q5⟩ := q
    have := TdF.len h4 q5
    have := h3.len
    have := q1.2.2.2.2.2.2.2.2.2.1
    rw [List.length_append, List.length_append, List.length_cons, List.length_cons]
    omega
section BG2
variable {g h : pH} {N s : Nat} {T : List It}
/-- a variable without a value -/
def tlR (n k' a k : Nat) : Prop := ((a = 197 ∨ a = 198) ∧ k = k') ∨ (a = 195 ∧ k = n)
theorem beg_5 {n lb j : Nat} (st : StV g h) (hs : s < 1600) (hn : n < 100) (h93 : rd h 138 93 = Int32.ofNat (n + 1)) (hb : rd h 194 n = Int32.ofNat lb) (hl : lb + j < 90000) (e151 : rd g 151 s = 0) (e154 : rd g 154 s = -1) (e158 : rd g 158 s = Int32.ofNat j) : ∃ h', fX12_begins N 138 (Int32.ofNat s) h = some h' ∧ Chg (tlR n (lb + j)) h h' ∧ rd h' 195 n = Int32.ofNat (j + 1) ∧ rd h' 197 (lb + j) = 0 ∧ rd h' 198 (lb + j) = 0 := by
  have sg := st.1
  obtain ⟨h1, f1, f2, f3, f4⟩ := r_setL (N := N) (x := 0) (f := 0) sg (by omega) hb hl (Or.inl rfl)
  have st1 : StV g h1 := st.chg f2 (fun a k z => by unfold slA; omega)
  have h93' : rd h1 138 93 = Int32.ofNat (n + 1) := (f2.2.2.1 _ _ (by unfold slA; omega)).trans h93
  refine ⟨wr h1 195 n (Int32.ofNat (j + 1)), ?_, (f2.mono (fun a k z => by unfold slA at z; unfold tlR; omega)).trans (Chg.wr h1 195 n _ (by unfold tlR; omega)), W_195 st1.1 _ _, ?_, ?_⟩
  · unfold fX12_begins
    rw [if_pos (o_138 sg), R_138_26 sg, Option.bind_some, L_151 sg hs, Option.bind_some, st.2.1 151 s (by omega) (by omega), e151, if_neg (by decide), if_pos rfl, R_138_29 sg, Option.bind_some, L_154 sg hs, Option.bind_some, st.2.1 154 s (by omega) (by omega), e154, if_neg (by decide), g_138_93 sg, Option.bind_some, h93, i_sub1, R_138_33 sg, Option.bind_some, L_158 sg hs, Option.bind_some, st.2.1 158 s (by omega) (by omega), e158, f1, Option.bind_some, R_138_96 st1.1, Option.bind_some, g_138_93 st1.1, Option.bind_some, h93', i_sub1, R_138_33 st1.1, Option.bind_some, L_158 st1.1 hs, Option.bind_some, st1.2.1 158 s (by omega) (by omega), e158, i_add1, T_195 st1.1 (by omega), Option.bind_some]
  · rw [rd_wr_ne _ _ (by omega)]; exact f3
  · rw [rd_wr_ne _ _ (by omega)]; exact f4
/-- a try -/
def tyA (m n a k : Nat) : Prop := ((a = 203 ∨ a = 204) ∧ k = m) ∨ (a = 138 ∧ k = 106) ∨ tdB n a k
theorem beg_6 {n pt j : Nat} {trs : List (Nat × Nat)} (st : StV g h) (ht : TdH T h) (hT : T.length + 10 < 400000) (hs : s < 1600) (hn : n < 100) (h93 : rd h 138 93 = Int32.ofNat (n + 1)) (h100 : rd h 138 100 = Int32.ofNat pt) (h195 : rd h 195 n = Int32.ofNat j) (htr : TrH trs h) (hm : trs.length < 6000) (e151 : rd g 151 s = 5) : ∃ h', fX12_begins N 138 (Int32.ofNat s) h = some h' ∧ Chg (tyA trs.length T.length) h h' ∧ TrH ((pt, j) :: trs) h' ∧ TdH ((3, rd g 159 s) :: (5, Int32.ofNat j) :: (7, Int32.ofNat s) :: T) h' := by
  have sg := st.1
  have s1 := sg.wr 203 trs.length (Int32.ofNat pt)
  have s2 := s1.wr 204 trs.length (Int32.ofNat j)
  have c3 : Chg (fun a k => ((a = 203 ∨ a = 204) ∧ k = trs.length) ∨ (a = 138 ∧ k = 106)) h (wr (wr (wr h 203 trs.length (Int32.ofNat pt)) 204 trs.length (Int32.ofNat j)) 138 106 (Int32.ofNat (trs.length + 1))) := (Chg.wr h 203 trs.length _ (by omega)).trans ((Chg.wr _ 204 trs.length _ (by omega)).trans (Chg.wr _ 138 106 _ (by omega)))
  have tr3 : TrH ((pt, j) :: trs) (wr (wr (wr h 203 trs.length (Int32.ofNat pt)) 204 trs.length (Int32.ofNat j)) 138 106 (Int32.ofNat (trs.length + 1))) := by
    refine ⟨w_138_106 s2 _, fun i x hx => ?_⟩
    match i, hx with
    | 0, hx =>
      obtain rfl : (pt, j) = x := Option.some.inj hx
      rw [List.length_cons, show trs.length + 1 - 1 - 0 = trs.length by omega]
      refine ⟨?_, ?_⟩
      · rw [rd_wr_ne _ _ (by omega), rd_wr_ne _ _ (by omega), W_203 sg]
      · rw [rd_wr_ne _ _ (by omega), W_204 s1]
    | i + 1, hx =>
      have hx : trs[i]? = some x := hx
      have := (List.getElem?_eq_some_iff.mp hx).1
      rw [List.length_cons, show trs.length + 1 - 1 - (i + 1) = trs.length - 1 - i by omega, c3.2.2.1 _ _ (by omega), c3.2.2.1 _ _ (by omega)]
      exact htr.2 i x hx
  have st3 : StV g (wr (wr (wr h 203 trs.length (Int32.ofNat pt)) 204 trs.length (Int32.ofNat j)) 138 106 (Int32.ofNat (trs.length + 1))) := st.chg c3 (fun a k z => by omega)
  have td3 := ht.chg c3 (by omega) (fun a k z _ => by omega)
  have h93' := (c3.2.2.1 138 93 (by omega)).trans h93
  have h195' := (c3.2.2.1 195 n (by omega)).trans h195
  have e106 : rd (wr (wr h 203 trs.length (Int32.ofNat pt)) 204 trs.length (Int32.ofNat j)) 138 106 = Int32.ofNat trs.length := by
    rw [rd_wr_ne _ _ (by omega), rd_wr_ne _ _ (by omega)]; exact htr.1
  have e106' : rd (wr h 203 trs.length (Int32.ofNat pt)) 138 106 = Int32.ofNat trs.length := by
    rw [rd_wr_ne _ _ (by omega)]; exact htr.1
  have e93' : rd (wr h 203 trs.length (Int32.ofNat pt)) 138 93 = Int32.ofNat (n + 1) := by
    rw [rd_wr_ne _ _ (by omega)]; exact h93
  have e195' : rd (wr h 203 trs.length (Int32.ofNat pt)) 195 n = Int32.ofNat j := by
    rw [rd_wr_ne _ _ (by omega)]; exact h195
  have pre : fX12_begins N 138 (Int32.ofNat s) h = (fX12_todo N 138 (7 : Int32) (Int32.ofNat s) (wr (wr (wr h 203 trs.length (Int32.ofNat pt)) 204 trs.length (Int32.ofNat j)) 138 106 (Int32.ofNat (trs.length + 1)))).bind fun h64 =>
      (getR h64 138 12 96).bind fun t65 =>
      (getI h64 138 12 93).bind fun t66 =>
      (ldI h64 t65 (t66 - (1 : Int32))).bind fun t67 =>
      (fX12_todo N 138 (5 : Int32) t67 h64).bind fun h68 =>
      (getR h68 138 12 34).bind fun t69 =>
      (ldI h68 t69 (Int32.ofNat s)).bind fun t70 =>
      (fX12_todo N 138 (3 : Int32) t70 h68).bind fun h71 =>
      some h71 := by
    unfold fX12_begins
    rw [if_pos (o_138 sg), R_138_26 sg, Option.bind_some, L_151 sg hs, Option.bind_some, st.2.1 151 s (by omega) (by omega), e151, if_pos rfl, R_138_107 sg, Option.bind_some, g_138_106 sg, Option.bind_some, htr.1, g_138_100 sg, Option.bind_some, h100, T_203 sg hm, Option.bind_some, R_138_108 s1, Option.bind_some, g_138_106 s1, Option.bind_some, e106', R_138_96 s1, Option.bind_some, g_138_93 s1, Option.bind_some, e93', i_sub1, L_195 s1 (by omega), Option.bind_some, e195', T_204 s1 hm, Option.bind_some, g_138_106 s2, Option.bind_some, e106, i_add1, p_138_106 s2, Option.bind_some]
  rw [pre]
  obtain ⟨h4, f1, f2, f3⟩ := r_todo (N := N) (k := 7) (y := Int32.ofNat s) st3.1 td3 (by omega)
  have f1 : fX12_todo N 138 7 (Int32.ofNat s) (wr (wr (wr h 203 trs.length (Int32.ofNat pt)) 204 trs.length (Int32.ofNat j)) 138 106 (Int32.ofNat (trs.length + 1))) = some h4 := f1
  have st4 : StV g h4 := st3.chg f3 (fun a k z => by unfold tdA; omega)
  obtain ⟨h5, g1, g2, g3⟩ := r_todo (N := N) (k := 5) (y := Int32.ofNat j) st4.1 f2 (by rw [List.length_cons]; omega)
  have g1 : fX12_todo N 138 5 (Int32.ofNat j) h4 = some h5 := g1
  have st5 : StV g h5 := st4.chg g3 (fun a k z => by unfold tdA; omega)
  obtain ⟨h6, k1, k2, k3⟩ := r_todo (N := N) (k := 3) (y := rd g 159 s) st5.1 g2 (by rw [List.length_cons, List.length_cons]; omega)
  have k1 : fX12_todo N 138 3 (rd g 159 s) h5 = some h6 := k1
  have e93 : rd h4 138 93 = Int32.ofNat (n + 1) := (f3.2.2.1 _ _ (by unfold tdA; omega)).trans h93'
  have e195 : rd h4 195 n = Int32.ofNat j := (f3.2.2.1 _ _ (by unfold tdA; omega)).trans h195'
  have c4 : Chg (tdB T.length) (wr (wr (wr h 203 trs.length (Int32.ofNat pt)) 204 trs.length (Int32.ofNat j)) 138 106 (Int32.ofNat (trs.length + 1))) h6 := (f3.mono (fun a k z => z.b (Nat.le_refl _))).trans ((g3.mono (fun a k z => z.b (by rw [List.length_cons]; omega))).trans (k3.mono (fun a k z => z.b (by rw [List.length_cons, List.length_cons]; omega))))
  refine ⟨h6, ?_, (c3.mono (fun a k z => by unfold tyA; omega)).trans (c4.mono (fun a k z => by unfold tyA; exact Or.inr (Or.inr z))), tr3.chg c4 (by unfold tdB; omega) (fun a k z _ => by unfold tdB; omega), k2⟩
  rw [f1, Option.bind_some, R_138_96 st4.1, Option.bind_some, g_138_93 st4.1, Option.bind_some, e93, i_sub1, L_195 st4.1 (by omega), Option.bind_some, e195, g1, Option.bind_some, R_138_34 st5.1, Option.bind_some, L_159 st5.1 hs, Option.bind_some, st5.2.1 159 s (by omega) (by omega), k1, Option.bind_some]
end BG2
