/-! ===== THE CLASS' FIXED WORDS ===== -/
def fxS : List Int32 := pByt.getD 0 []
def fxB (i : Nat) : Int32 := fxS.getD i 0
theorem fxB_nar : ∀ i, i < 146 → (((fxB i &&& (255 : Int32)).toUInt32 % 65536).toInt32) = fxB i ∧ pRet .char (fxB i) = true := by decide +kernel
theorem isO0 (a : Nat) (ha : a < 2) (h : pH) : isO h a 13 = true := by
  unfold isO pIs
  dsimp only
  rw [if_pos ha]
  exact decide_eq_true rfl
theorem lat0 (N : Nat) (a : Nat) (ha : a < 2) (h : pH) : fJ0_isLatin1_aae02 N a h = some (1, h) := by
  unfold fJ0_isLatin1_aae02
  rw [if_pos (isO0 a ha h), if_neg (by decide)]
  unfold getSc
  rw [if_pos ha, Option.bind_some, if_pos rfl]
theorem e_charAt {N i : Nat} {h : pH} (hi : i < 146) : fJ0_charAt_5068e N 0 (Int32.ofNat i) h = some (fxB i, h) := by
  obtain ⟨h1, h2⟩ := fxB_nar i hi
  have hb : ldB 2 (Int32.ofNat i) = some (fxB i) := by
    unfold ldB
    rw [if_pos (Or.inl rfl)]
    show (if Int32.ofNat i < 0 ∨ 146 ≤ (Int32.ofNat i).toNatClampNeg then none else some (fxS.getD (Int32.ofNat i).toNatClampNeg 0)) = some (fxB i)
    rw [if_neg (i_out (n := 146) hi (by decide)), i_cl (by omega)]
    rfl
  have hl : lenB 2 = some (Int32.ofNat 146) := by
    unfold lenB
    rw [if_pos (Or.inl rfl)]
    rfl
  have hc : fJ3_checkIndex_8e157 N (Int32.ofNat i) (Int32.ofNat 146) 4 h = some (Int32.ofNat i, h) := by
    unfold fJ3_checkIndex_8e157
    rw [if_neg (i_nn (by omega)), ifLt (by omega) (by decide), if_pos hi]
  unfold fJ0_charAt_5068e
  rw [if_pos (isO0 0 (by decide) h), lat0 N 0 (by decide), Option.bind_some]
  dsimp only
  rw [if_neg (by decide)]
  unfold getSv
  rw [if_pos (by decide), Option.bind_some]
  unfold fJ1_charAt_3b067
  rw [if_neg (by decide), hl, Option.bind_some]
  unfold fJ0_checkIndex_df160
  rw [hc, Option.bind_some, Option.bind_some, hb, Option.bind_some, h1, if_pos h2, Option.bind_some]
  dsimp only
  rw [if_pos h2]
theorem e_length (N : Nat) (h : pH) : fJ0_length_8abf5 N 0 h = some (Int32.ofNat 146, h) := by
  have hl : lenB 2 = some (Int32.ofNat 146) := by
    unfold lenB
    rw [if_pos (Or.inl rfl)]
    rfl
  unfold fJ0_length_8abf5
  rw [if_pos (isO0 0 (by decide) h)]
  unfold getSv
  rw [if_pos (by decide), Option.bind_some, hl, Option.bind_some]
  unfold fJ0_coder_7d493
  rw [if_pos (isO0 0 (by decide) h), if_neg (by decide)]
  unfold getSc
  rw [if_pos (by decide), Option.bind_some, if_pos (by decide), Option.bind_some]
  dsimp only
  rw [show Int32.ofNat 146 >>> ((0 : Int32) &&& 31) = Int32.ofNat 146 by decide]
def flat : List (List Int32) → List Int32
  | [] => []
  | v :: vs => v ++ 32 :: flat vs
def fxW : List (List Int32) := [[99, 108, 97, 115, 115], [105, 110, 116], [98, 111, 111, 108], [105, 110, 116, 115], [118, 111, 105, 100], [105, 102], [101, 108, 115, 101], [119, 104, 105, 108, 101], [114, 101, 116, 117, 114, 110], [116, 104, 114, 111, 119], [116, 114, 121], [99, 97, 116, 99, 104], [112, 114, 105, 110, 116], [110, 101, 119], [110, 117, 108, 108], [116, 114, 117, 101], [102, 97, 108, 115, 101], [116, 104, 105, 115], [114, 101, 97, 100], [97, 115], [105, 115], [78, 117, 108, 108], [66, 111, 117, 110, 100, 115], [90, 101, 114, 111], [67, 97, 115, 116], [83, 105, 122, 101], [77, 97, 105, 110], [109, 97, 105, 110], [115, 105, 122, 101]]
theorem fxS_flat : fxS = flat fxW := by decide +kernel
theorem drop_at {l r : List Int32} {i : Nat} (h : l.drop i = r) (q : Nat) : l.getD (i + q) 0 = r.getD q 0 := by
  subst h
  rw [List.getD_eq_getElem?_getD, List.getD_eq_getElem?_getD, List.getElem?_drop]
theorem drop_drop1 {l r : List Int32} {i : Nat} {c : Int32} (h : l.drop i = c :: r) : l.drop (i + 1) = r := by
  rw [← List.drop_drop, h]
  rfl
theorem drop_lt {l r : List Int32} {i : Nat} {c : Int32} (h : l.drop i = c :: r) : i < l.length := by
  have := congrArg List.length h
  rw [List.length_drop, List.length_cons] at this
  omega
theorem fxS_len : fxS.length = 146 := by decide +kernel
def letA (U : Nat) : Nat → Nat → Prop := fun a k => (a = 12 ∧ U ≤ k) ∨ (a = 8 ∧ k = 5)
theorem fix_letters {N U : Nat} {rest : List Int32} : ∀ (u : List Int32) (n i m : Nat) (h : pH), Sg h → fxS.drop i = u ++ 32 :: rest → (∀ c ∈ u, c ≠ 32) → rd h 8 5 = Int32.ofNat (U + m) → U + m + u.length ≤ 3246 →
    ∃ h', fX10_nameFixedWords_22 N (n + u.length + 1) 8 (Int32.ofNat U) (Int32.ofNat i) h = fX10_nameFixedWords_22 N (n + 1) 8 (Int32.ofNat U) (Int32.ofNat (i + u.length)) h' ∧ rd h' 8 5 = Int32.ofNat (U + (m + u.length)) ∧ wl (rd h' 12) U (m + u.length) = wl (rd h 12) U m ++ u ∧ Chg (letA U) h h'
  | [], n, i, m, h, hs, h1, h2, h3, h4 => ⟨h, rfl, h3, (List.append_nil _).symm, Chg.refl _ _⟩
  | c :: u, n, i, m, h, hs, h1, h2, h3, h4 => by
    have hi : i < 146 := by rw [← fxS_len]; exact drop_lt h1
    have hc : fxB i = c := by have := drop_at h1 0; exact this
    rw [List.length_cons] at h4
    have c1 : Chg (letA U) h (wr (wr h 12 (U + m) c) 8 5 (Int32.ofNat (U + m + 1))) := (Chg.wr _ _ _ _ (Or.inl ⟨rfl, by omega⟩)).trans (Chg.wr _ _ _ _ (Or.inr ⟨rfl, rfl⟩))
    have s1 := hs.wr 12 (U + m) c
    obtain ⟨h', k1, k2, k3, k4⟩ := fix_letters (N := N) (U := U) (rest := rest) u n (i + 1) (m + 1) (wr (wr h 12 (U + m) c) 8 5 (Int32.ofNat (U + m + 1))) (c1.sg hs) (drop_drop1 h1) (fun x hx => h2 x (List.mem_cons_of_mem _ hx)) (w_8_5 s1 _) (by omega)
    refine ⟨h', ?_, ?_, ?_, c1.trans k4⟩
    · rw [List.length_cons, show n + (u.length + 1) + 1 = (n + u.length + 1) + 1 by omega, fX10_nameFixedWords_22, e_length, Option.bind_some]
      dsimp only
      rw [ifLe (by decide) (by omega), if_neg (by omega), e_charAt hi, Option.bind_some]
      dsimp only
      rw [hc, if_neg (h2 c List.mem_cons_self), e10_addLetter c hs h3 (by omega), Option.bind_some]
      unfold fX10_nameFixedWords_63
      rw [i_add1, k1, show i + 1 + u.length = i + (u.length + 1) by omega]
    · rw [List.length_cons, k2, show m + 1 + u.length = m + (u.length + 1) by omega]
    · rw [List.length_cons, show m + (u.length + 1) = m + 1 + u.length by omega, k3, wl_succ, rd_wr_ne _ _ (by omega), W_12 hs]
      rw [show wl (rd (wr (wr h 12 (U + m) c) 8 5 (Int32.ofNat (U + m + 1))) 12) U m = wl (rd h 12) U m from wl_eq.mpr ⟨rfl, fun j hj => by rw [rd_wr_ne _ _ (by omega), rd_wr_ne _ _ (by omega)]⟩, List.append_assoc]
      rfl
/-- the rows that the names' making writes -/
def nmA : Nat → Nat → Prop := fun a k => (12 ≤ a ∧ a ≤ 16) ∨ (a = 8 ∧ (k = 5 ∨ k = 10))
def letN (vs : List (List Int32)) : Nat := (vs.map List.length).sum
theorem fix_words {N : Nat} (hN : 3300 ≤ N) : ∀ (vs ws : List (List Int32)) (i U n : Nat) (h : pH), i ≤ 146 → fxS.drop i = flat vs → (∀ v ∈ vs, ∀ c ∈ v, c ≠ 32) → NT h ws U → rd h 8 5 = Int32.ofNat U → U + letN vs ≤ 3246 → ws.length + vs.length ≤ 3000 → (ws ++ vs).Nodup →
    ∃ h', fX10_nameFixedWords_22 N (n + (flat vs).length + 1) 8 (Int32.ofNat U) (Int32.ofNat i) h = some h' ∧ NT h' (ws ++ vs) (U + letN vs) ∧ rd h' 8 5 = Int32.ofNat (U + letN vs) ∧ Chg nmA h h'
  | [], ws, i, U, n, h, hi, h1, h2, h3, h4, h5, h6, h7 => by
    refine ⟨h, ?_, by rw [List.append_nil]; exact h3, h4, Chg.refl _ _⟩
    have : 146 ≤ i := by
      have := congrArg List.length h1
      rw [List.length_drop, fxS_len] at this
      have e : (flat []).length = 0 := rfl
      omega
    rw [fX10_nameFixedWords_22, e_length, Option.bind_some]
    dsimp only
    rw [ifLe (by decide) (by omega), if_pos this]
  | v :: vs, ws, i, U, n, h, hi0, h1, h2, h3, h4, h5, h6, h7 => by
    have hv : letN (v :: vs) = v.length + letN vs := by unfold letN; rw [List.map_cons, List.sum_cons]
    rw [hv] at h5
    rw [List.length_cons] at h6
    obtain ⟨h', k1, k2, k3, k4⟩ := fix_letters (N := N) (U := U) (rest := flat vs) v (n + (flat vs).length + 1) i 0 h h3.1 h1 (h2 v List.mem_cons_self) h4 (by omega)
    have hs' := k4.sg h3.1
    rw [Nat.zero_add] at k2 k3
    have k3 : wl (rd h' 12) U v.length = v := by rw [k3]; rfl
    have nt' : NT h' ws U := h3.chg k4 (Nat.le_refl _) (by unfold letA; omega) (fun i hi => by unfold letA; omega) (fun a k a1 a2 => by unfold letA; omega)
    have hd : fxS.drop (i + v.length) = 32 :: flat vs := by rw [← List.drop_drop, h1]; exact List.drop_left' rfl
    have hi : i + v.length < 146 := by rw [← fxS_len]; exact drop_lt hd
    have hc : fxB (i + v.length) = 32 := drop_at hd 0
    have hfresh : ∀ k : Nat, ws[k]? ≠ some v := by
      intro k hk
      have m1 : v ∈ ws := List.mem_of_getElem? hk
      exact (List.nodup_append.mp h7).2.2 v m1 v List.mem_cons_self rfl
    rcases e10_nameOfLetters hN nt' (by omega) k2 (by omega) with ⟨k, z1, z2⟩ | ⟨z1, z2⟩
    · rw [k3] at z1
      exact absurd z1 (hfresh k)
    · have nt2 := nnH_nt (m := v.length) nt' (by omega)
      have c2 := nnH_chg h' ws.length U v.length (hshN (wl (rd h' 12) U v.length))
      rw [k3] at z2 nt2 c2
      have e5 : rd (nnH h' ws.length U v.length (hshN v)) 8 5 = Int32.ofNat (U + v.length) := by rw [c2.2.2.1 _ _ (by unfold nnA; omega)]; exact k2
      obtain ⟨h'', l1, l2, l3, l4⟩ := fix_words hN vs (ws ++ [v]) (i + v.length + 1) (U + v.length) n (nnH h' ws.length U v.length (hshN v)) (by omega) (drop_drop1 hd) (fun x hx => h2 x (List.mem_cons_of_mem _ hx)) nt2 e5 (by omega) (by rw [List.length_append]; exact (show ws.length + 1 + vs.length ≤ 3000 by omega)) (by rw [List.append_assoc]; exact h7)
      refine ⟨h'', ?_, ?_, ?_, ?_⟩
      · rw [show (flat (v :: vs)).length = v.length + ((flat vs).length + 1) from by show (v ++ 32 :: flat vs).length = _; rw [List.length_append, List.length_cons], show n + (v.length + ((flat vs).length + 1)) + 1 = n + (flat vs).length + 1 + v.length + 1 by omega, k1, fX10_nameFixedWords_22, e_length, Option.bind_some]
        dsimp only
        rw [ifLe (by decide) (by omega), if_neg (by omega), e_charAt hi, Option.bind_some]
        dsimp only
        rw [hc, if_pos rfl, z2, Option.bind_some]
        dsimp only
        rw [g_8_5 (c2.sg hs'), Option.bind_some, e5]
        unfold fX10_nameFixedWords_63
        rw [i_add1, l1]
      · rw [hv, ← Nat.add_assoc, show ws ++ v :: vs = ws ++ [v] ++ vs by rw [List.append_assoc]; rfl]
        exact l2
      · rw [hv, ← Nat.add_assoc]
        exact l3
      · refine ((k4.mono fun a k z => ?_).trans (c2.mono fun a k z => ?_)).trans l4
        · unfold letA at z; unfold nmA; omega
        · unfold nnA at z; unfold nmA; omega
theorem e_fill {N : Nat} : ∀ (j n i : Nat) (h : pH), Sg h → i + j = 256 → ∃ h', fJ7_fill_53178_5 N (n + j + 1) 16 (-1) (Int32.ofNat i) (Int32.ofNat 256) h = some h' ∧ (∀ d, i ≤ d → d < 256 → rd h' 16 d = -1) ∧ Chg (fun a k => a = 16 ∧ i ≤ k) h h'
  | 0, n, i, h, hs, hi => by
    refine ⟨h, ?_, fun d d1 d2 => by omega, Chg.refl _ _⟩
    rw [fJ7_fill_53178_5, ifLe (by decide) (by omega), if_pos (by omega)]
  | j + 1, n, i, h, hs, hi => by
    obtain ⟨h', k1, k2, k3⟩ := e_fill (N := N) j n (i + 1) (wr h 16 i (-1)) (hs.wr _ _ _) (by omega)
    refine ⟨h', ?_, fun d d1 d2 => ?_, (Chg.wr _ _ _ _ ⟨rfl, Nat.le_refl i⟩).trans (k3.mono fun a k z => ⟨z.1, by omega⟩)⟩
    · rw [show n + (j + 1) + 1 = n + j + 1 + 1 by omega, fJ7_fill_53178_5, ifLe (by decide) (by omega), if_neg (by omega), T_16 hs (by omega), Option.bind_some, i_add1]
      exact k1
    · by_cases z : d = i
      · subst z
        rw [k3.2.2.1 _ _ (by omega)]
        exact W_16 hs _ _
      · exact k2 d (by omega) d2
theorem fxW_nd : ([] ++ fxW).Nodup := by decide +kernel
theorem fxW_32 : ∀ v ∈ fxW, ∀ c ∈ v, c ≠ 32 := by decide +kernel
/-- the names behind nameFixedWords: the fixed words -/
theorem e10_nameFixedWords {N : Nat} {h : pH} (hN : 3300 ≤ N) (hs : Sg h) : ∃ h', fX10_nameFixedWords N 8 h = some h' ∧ NT h' fxW 117 ∧ rd h' 8 5 = Int32.ofNat 117 ∧ Chg nmA h h' := by
  have s1 := hs.wr 8 10 0
  have s2 := s1.wr 8 5 0
  have c1 : Chg nmA h (wr (wr h 8 10 0) 8 5 0) := (Chg.wr _ _ _ _ (Or.inr ⟨rfl, Or.inr rfl⟩)).trans (Chg.wr _ _ _ _ (Or.inr ⟨rfl, Or.inl rfl⟩))
  obtain ⟨h2, k1, k2, k3⟩ := e_fill (N := N) 256 (N - 257) 0 (wr (wr h 8 10 0) 8 5 0) s2 rfl
  rw [show N - 257 + 256 + 1 = N by omega] at k1
  have nt : NT h2 [] 0 := by
    refine ⟨k3.sg s2, ?_, by decide, (fun k w hk => absurd hk (by simp)), (fun k w hk => absurd hk (by simp)), fun d hd => k2 d (by omega) hd⟩
    rw [k3.2.2.1 _ _ (by omega), rd_wr_ne _ _ (by omega)]
    exact w_8_10 hs 0
  have e5 : rd h2 8 5 = Int32.ofNat 0 := by rw [k3.2.2.1 _ _ (by omega)]; exact w_8_5 s1 0
  obtain ⟨h', l1, l2, l3, l4⟩ := fix_words hN fxW [] 0 0 (N - 147) h2 (by decide) (by rw [List.drop_zero]; exact fxS_flat) fxW_32 nt e5 (by decide) (by decide) fxW_nd
  rw [show (flat fxW).length = 146 from by rw [← fxS_flat]; exact fxS_len, show N - 147 + 146 + 1 = N by omega] at l1
  rw [show (0 : Nat) + letN fxW = 117 by decide] at l2 l3
  refine ⟨h', ?_, l2, l3, (c1.trans (k3.mono fun a k z => ?_)).trans l4⟩
  · unfold fX10_nameFixedWords
    rw [if_pos (o_8 hs), p_8_10 hs, Option.bind_some, p_8_5 s1, Option.bind_some, R_8_9 s2, Option.bind_some]
    unfold fJ7_fill_53178
    rw [if_neg (by decide), n_16 s2, Option.bind_some, show fJ7_fill_53178_5 N N 16 (-1) 0 (Int32.ofNat 256) (wr (wr h 8 10 0) 8 5 0) = some h2 from k1, Option.bind_some]
    exact l1
  · unfold nmA; omega
