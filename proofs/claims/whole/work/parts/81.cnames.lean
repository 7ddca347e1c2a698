/-! ===== THE CLASS' NAMES: rows of letters, found by their heads ===== -/
theorem ifLe {α : Type} {a b : Nat} {x y : α} {d : Decidable (Int32.ofNat a ≤ Int32.ofNat b)} (ha : a < 2 ^ 31) (hb : b < 2 ^ 31) : @ite α (Int32.ofNat a ≤ Int32.ofNat b) d x y = if a ≤ b then x else y := by
  by_cases h : a ≤ b
  · rw [if_pos ((Int32.ofNat_le_ofNat ha hb).mpr h), if_pos h]
  · rw [if_neg (fun z => h ((Int32.ofNat_le_ofNat ha hb).mp z)), if_neg h]
theorem ifLt {α : Type} {a b : Nat} {x y : α} {d : Decidable (Int32.ofNat a < Int32.ofNat b)} (ha : a < 2 ^ 31) (hb : b < 2 ^ 31) : @ite α (Int32.ofNat a < Int32.ofNat b) d x y = if a < b then x else y := by
  by_cases h : a < b
  · rw [if_pos ((Int32.ofNat_lt_ofNat ha hb).mpr h), if_pos h]
  · rw [if_neg (fun z => h ((Int32.ofNat_lt_ofNat ha hb).mp z)), if_neg h]
theorem ifEq {α : Type} {a b : Nat} {x y : α} {d : Decidable (Int32.ofNat a = Int32.ofNat b)} (ha : a < 2 ^ 31) (hb : b < 2 ^ 31) : @ite α (Int32.ofNat a = Int32.ofNat b) d x y = if a = b then x else y := by
  by_cases h : a = b
  · rw [if_pos (by rw [h]), if_pos h]
  · rw [if_neg (fun z => h ((iEq ha hb).mp z)), if_neg h]
def hsh (w : List Int32) : Int32 := w.foldl (fun a c => (a * 31 + c) &&& 255) 0
def hshN (w : List Int32) : Nat := i2n (hsh w)
theorem and255 (x : Int32) : i2n (x &&& 255) < 256 := by
  unfold i2n
  rw [Int32.toBitVec_and, BitVec.toNat_and]
  exact Nat.lt_of_le_of_lt Nat.and_le_right (by decide)
theorem fold255 : ∀ (w : List Int32) (a : Int32), i2n a < 256 → i2n (w.foldl (fun a c => (a * 31 + c) &&& 255) a) < 256
  | [], a, h => h
  | c :: w, a, h => fold255 w _ (and255 _)
theorem hsh_lt (w : List Int32) : hshN w < 256 := fold255 w 0 (by decide)
theorem hsh_eq (w : List Int32) : hsh w = Int32.ofNat (hshN w) := (n2i _).symm
theorem wl_succ (s : Nat → Int32) (P n : Nat) : wl s P (n + 1) = wl s P n ++ [s (P + n)] := by
  unfold wl
  rw [List.range_succ, List.map_append]
  rfl
theorem hsh_succ (s : Nat → Int32) (P n : Nat) : hsh (wl s P (n + 1)) = (hsh (wl s P n) * 31 + s (P + n)) &&& 255 := by
  rw [wl_succ]
  unfold hsh
  rw [List.foldl_append]
  rfl
/-- the last name before m whose head is d -/
def lst (ws : List (List Int32)) (d : Nat) : Nat → Int32
  | 0 => -1
  | m + 1 => if ws[m]?.map hshN = some d then Int32.ofNat m else lst ws d m
theorem lst_app (ws : List (List Int32)) (w : List Int32) (d : Nat) : ∀ m, m ≤ ws.length → lst (ws ++ [w]) d m = lst ws d m
  | 0, _ => rfl
  | m + 1, h => by
    unfold lst
    rw [List.getElem?_append_left (by omega), lst_app ws w d m (by omega)]
/-- the table of names: their words are ws, their letters stand before U -/
def NT (h : pH) (ws : List (List Int32)) (U : Nat) : Prop := Sg h ∧ rd h 8 10 = Int32.ofNat ws.length ∧ ws.length ≤ 3100 ∧ (∀ k w, ws[k]? = some w → ∃ F, rd h 13 k = Int32.ofNat F ∧ rd h 14 k = Int32.ofNat (F + w.length) ∧ F + w.length ≤ U ∧ wl (rd h 12) F w.length = w) ∧ (∀ k w, ws[k]? = some w → rd h 15 k = lst ws (hshN w) k) ∧ ∀ d, d < 256 → rd h 16 d = lst ws d ws.length
theorem NT.chg {A : Nat → Nat → Prop} {h h' : pH} {ws : List (List Int32)} {U V : Nat} (q : NT h ws U) (c : Chg A h h') (hV : U ≤ V) (h0 : ¬ A 8 10) (h1 : ∀ i, i < U → ¬ A 12 i) (h2 : ∀ a k, 13 ≤ a → a ≤ 16 → ¬ A a k) : NT h' ws V := by
  obtain ⟨q1, q2, q3, q4, q5, q6⟩ := q
  refine ⟨c.sg q1, by rw [c.2.2.1 _ _ h0]; exact q2, q3, fun k w hk => ?_, fun k w hk => ?_, fun d hd => ?_⟩
  · obtain ⟨F, f1, f2, f3, f4⟩ := q4 k w hk
    refine ⟨F, by rw [c.2.2.1 _ _ (h2 13 k (by omega) (by omega))]; exact f1, by rw [c.2.2.1 _ _ (h2 14 k (by omega) (by omega))]; exact f2, by omega, ?_⟩
    rw [← f4, wl_len]
    refine wl_eq.mpr ⟨rfl, fun j hj => c.2.2.1 _ _ (h1 _ ?_)⟩
    omega
  · rw [c.2.2.1 _ _ (h2 15 k (by omega) (by omega))]; exact q5 k w hk
  · rw [c.2.2.1 _ _ (h2 16 d (by omega) (by omega))]; exact q6 d hd
theorem e10_addLetter {N u : Nat} {h : pH} (c : Int32) (hs : Sg h) (e5 : rd h 8 5 = Int32.ofNat u) (hu : u < 3246) : fX10_addLetter N 8 c h = some (wr (wr h 12 u c) 8 5 (Int32.ofNat (u + 1))) := by
  have s1 := hs.wr 12 u c
  have e : rd (wr h 12 u c) 8 5 = Int32.ofNat u := by rw [rd_wr_ne _ _ (by omega)]; exact e5
  unfold fX10_addLetter
  rw [if_pos (o_8 hs), g_8_5 hs, Option.bind_some, R_8_4 hs, Option.bind_some, n_12 hs, Option.bind_some, e5, ifLe (by decide) (by omega), if_neg (by omega), Option.bind_some, Option.bind_some, T_12 hs hu, Option.bind_some, g_8_5 s1, Option.bind_some, e, i_add1, p_8_5 s1, Option.bind_some]
theorem e10_addWord {N t : Nat} {h : pH} (K V P : Int32) (hs : Sg h) (e3 : rd h 8 3 = Int32.ofNat t) (ht : t < 3100) : fX10_addWord N 8 K V P h = some (wr (wr (wr (wr h 9 t K) 10 t V) 11 t P) 8 3 (Int32.ofNat (t + 1))) := by
  have s1 := hs.wr 9 t K
  have s2 := s1.wr 10 t V
  have s3 := s2.wr 11 t P
  have e1 : rd (wr h 9 t K) 8 3 = Int32.ofNat t := by rw [rd_wr_ne _ _ (by omega)]; exact e3
  have e2 : rd (wr (wr h 9 t K) 10 t V) 8 3 = Int32.ofNat t := by rw [rd_wr_ne _ _ (by omega)]; exact e1
  have e4 : rd (wr (wr (wr h 9 t K) 10 t V) 11 t P) 8 3 = Int32.ofNat t := by rw [rd_wr_ne _ _ (by omega)]; exact e2
  unfold fX10_addWord
  rw [if_pos (o_8 hs), g_8_3 hs, Option.bind_some, e3, show (3100 : Int32) = Int32.ofNat 3100 from rfl, ifLe (by decide) (by omega), if_neg (by omega), R_8_0 hs, Option.bind_some, Option.bind_some, T_9 hs ht, Option.bind_some, R_8_1 s1, Option.bind_some, g_8_3 s1, Option.bind_some, e1, T_10 s1 ht, Option.bind_some, R_8_2 s2, Option.bind_some, g_8_3 s2, Option.bind_some, e2, T_11 s2 ht, Option.bind_some, g_8_3 s3, Option.bind_some, e4, i_add1, p_8_3 s3, Option.bind_some]
theorem hasL_29 {N k U F m : Nat} {h : pH} (hs : Sg h) (hk : k < 3100) (e13 : rd h 13 k = Int32.ofNat F) (hb : F + m ≤ 3246) (hU : U + m ≤ 3246) : ∀ (j n i : Nat), i + j = m →
    ((∀ q, i ≤ q → q < m → rd h 12 (F + q) = rd h 12 (U + q)) → fX10_hasLetters_29 N (n + j + 1) 8 (Int32.ofNat k) (Int32.ofNat U) (Int32.ofNat m) (Int32.ofNat i) h = some (1, h)) ∧
    (¬ (∀ q, i ≤ q → q < m → rd h 12 (F + q) = rd h 12 (U + q)) → fX10_hasLetters_29 N (n + j + 1) 8 (Int32.ofNat k) (Int32.ofNat U) (Int32.ofNat m) (Int32.ofNat i) h = some (0, h))
  | 0, n, i, hij => by
    refine ⟨fun _ => ?_, fun z => absurd (fun q q1 q2 => by omega) z⟩
    rw [fX10_hasLetters_29, ifLe (by omega) (by omega), if_pos (by omega)]
  | j + 1, n, i, hij => by
    obtain ⟨a1, a2⟩ := hasL_29 (N := N) hs hk e13 hb hU j n (i + 1) (by omega)
    have key : fX10_hasLetters_29 N (n + (j + 1) + 1) 8 (Int32.ofNat k) (Int32.ofNat U) (Int32.ofNat m) (Int32.ofNat i) h = if rd h 12 (F + i) = rd h 12 (U + i) then fX10_hasLetters_29 N (n + j + 1) 8 (Int32.ofNat k) (Int32.ofNat U) (Int32.ofNat m) (Int32.ofNat (i + 1)) h else some (0, h) := by
      rw [fX10_hasLetters_29, ifLe (by omega) (by omega), if_neg (by omega), R_8_4 hs, Option.bind_some, R_8_6 hs, Option.bind_some, L_13 hs hk, Option.bind_some, e13, iAdd, L_12 hs (by omega), Option.bind_some, Option.bind_some, iAdd, L_12 hs (by omega), Option.bind_some, i_add1]
      rfl
    rw [key]
    by_cases hc : rd h 12 (F + i) = rd h 12 (U + i)
    · rw [if_pos hc]
      refine ⟨fun z => a1 (fun q q1 q2 => z q (by omega) q2), fun z => a2 (fun z2 => z (fun q q1 q2 => ?_))⟩
      by_cases hq : q = i
      · subst hq; exact hc
      · exact z2 q (by omega) q2
    · rw [if_neg hc]
      exact ⟨fun z => absurd (z i (Nat.le_refl i) (by omega)) hc, fun _ => rfl⟩
theorem e10_hasLetters {N k U m : Nat} {h : pH} {ws : List (List Int32)} {w : List Int32} (hN : 3300 ≤ N) (nt : NT h ws U) (hk : ws[k]? = some w) (e5 : rd h 8 5 = Int32.ofNat (U + m)) (hU : U + m ≤ 3246) : fX10_hasLetters N 8 (Int32.ofNat k) (Int32.ofNat U) h = some (if w = wl (rd h 12) U m then 1 else 0, h) := by
  obtain ⟨hs, q2, q3, q4, q5, q6⟩ := nt
  obtain ⟨F, f1, f2, f3, f4⟩ := q4 k w hk
  have hk2 : k < ws.length := (List.getElem?_eq_some_iff.mp hk).1
  unfold fX10_hasLetters
  rw [if_pos (o_8 hs), R_8_7 hs, Option.bind_some, L_14 hs (by omega), Option.bind_some, R_8_6 hs, Option.bind_some, L_13 hs (by omega), Option.bind_some, g_8_5 hs, Option.bind_some, f1, f2, e5, i_sub, i_sub, ifEq (by omega) (by omega)]
  by_cases hl : w.length = m
  · rw [if_pos hl, hl]
    obtain ⟨M, hM⟩ : ∃ M, N = M + m + 1 := ⟨N - (m + 1), by omega⟩
    obtain ⟨a1, a2⟩ := hasL_29 (N := N) (k := k) (U := U) (F := F) (m := m) hs (by omega) f1 (by omega) hU m M 0 (by omega)
    have e0 : (0 : Int32) = Int32.ofNat 0 := rfl
    by_cases hc : w = wl (rd h 12) U m
    · rw [if_pos hc]
      have := a1 (fun q _ hq => by
        rw [hl] at f4
        have := f4.trans hc
        exact (wl_eq.mp this).2 q hq)
      rw [← hM] at this
      exact this
    · rw [if_neg hc]
      have := a2 (fun z => hc (by
        rw [hl] at f4
        rw [← f4]
        exact wl_eq.mpr ⟨rfl, fun q hq => z q (Nat.zero_le q) hq⟩))
      rw [← hM] at this
      exact this
  · rw [if_neg hl, if_neg (fun z => hl (by rw [z, wl_len]))]
theorem nol44 {N U m : Nat} {h : pH} {ws : List (List Int32)} {w : List Int32} (hN : 3300 ≤ N) (nt : NT h ws U) (hl : ws.length < 3100) (e5 : rd h 8 5 = Int32.ofNat (U + m)) (hU : U + m ≤ 3246) (hw : w = wl (rd h 12) U m) : ∀ (M n g : Nat), M ≤ ws.length → g + M ≤ ws.length →
    (∃ k, k < M ∧ ws[k]? = some w ∧ fX10_nameOfLetters_44 N (n + M + 1) 8 (Int32.ofNat U) (hsh w) (lst ws (hshN w) M) (Int32.ofNat g) h = some (Int32.ofNat k, wr h 8 5 (Int32.ofNat U))) ∨
    ((∀ k, k < M → ws[k]? ≠ some w) ∧ fX10_nameOfLetters_44 N (n + M + 1) 8 (Int32.ofNat U) (hsh w) (lst ws (hshN w) M) (Int32.ofNat g) h = fX10_nameOfLetters_85 N 8 (Int32.ofNat U) (hsh w) h)
  | 0, n, g, h1, h2 => by
    refine Or.inr ⟨fun k hk => by omega, ?_⟩
    rw [fX10_nameOfLetters_44, show (3100 : Int32) = Int32.ofNat 3100 from rfl, ifLe (by decide) (by omega), if_neg (by omega)]
    exact if_pos (show (-1 : Int32) < 0 by decide)
  | M + 1, n, g, h1, h2 => by
    have hs := nt.1
    obtain ⟨w', hw'⟩ : ∃ w', ws[M]? = some w' := ⟨ws[M]'(by omega), List.getElem?_eq_getElem (by omega)⟩
    by_cases hd : hshN w' = hshN w
    · have e : lst ws (hshN w) (M + 1) = Int32.ofNat M := by
        show (if ws[M]?.map hshN = some (hshN w) then Int32.ofNat M else lst ws (hshN w) M) = Int32.ofNat M
        rw [hw', if_pos (by rw [← hd]; rfl)]
      rw [e]
      have key : fX10_nameOfLetters_44 N (n + (M + 1) + 1) 8 (Int32.ofNat U) (hsh w) (Int32.ofNat M) (Int32.ofNat g) h = if w' = w then some (Int32.ofNat M, wr h 8 5 (Int32.ofNat U)) else fX10_nameOfLetters_44 N (n + M + 1) 8 (Int32.ofNat U) (hsh w) (lst ws (hshN w) M) (Int32.ofNat (g + 1)) h := by
        rw [fX10_nameOfLetters_44, show (3100 : Int32) = Int32.ofNat 3100 from rfl, ifLe (by decide) (by omega), if_neg (by omega), if_neg (i_nn (by omega)), e10_hasLetters hN nt hw' e5 hU, Option.bind_some, ← hw]
        dsimp only
        by_cases hc : w' = w
        · rw [if_pos hc, if_pos hc, if_neg (by decide), p_8_5 hs, Option.bind_some]
        · rw [if_neg hc, if_neg hc, if_pos rfl, R_8_8 hs, Option.bind_some, L_15 hs (by omega), Option.bind_some, nt.2.2.2.2.1 M w' hw', hd, i_add1]
          rfl
      rw [key]
      by_cases hc : w' = w
      · rw [if_pos hc]
        exact Or.inl ⟨M, by omega, by rw [hw', hc], rfl⟩
      · rw [if_neg hc]
        rcases nol44 hN nt hl e5 hU hw M n (g + 1) (by omega) (by omega) with ⟨k, k1, k2, k3⟩ | ⟨k1, k2⟩
        · exact Or.inl ⟨k, by omega, k2, k3⟩
        · refine Or.inr ⟨fun k hk => ?_, k2⟩
          by_cases z : k = M
          · subst z
            rw [hw']
            exact fun z => hc (Option.some.inj z)
          · exact k1 k (by omega)
    · have e : lst ws (hshN w) (M + 1) = lst ws (hshN w) M := by
        show (if ws[M]?.map hshN = some (hshN w) then Int32.ofNat M else lst ws (hshN w) M) = lst ws (hshN w) M
        rw [hw', if_neg (show ¬ Option.map hshN (some w') = some (hshN w) from fun z => hd (Option.some.inj z))]
      rw [e, show n + (M + 1) + 1 = (n + 1) + M + 1 by omega]
      rcases nol44 hN nt hl e5 hU hw M (n + 1) g (by omega) (by omega) with ⟨k, k1, k2, k3⟩ | ⟨k1, k2⟩
      · exact Or.inl ⟨k, by omega, k2, k3⟩
      · refine Or.inr ⟨fun k hk => ?_, k2⟩
        by_cases z : k = M
        · subst z
          rw [hw']
          exact fun z => hd (by rw [Option.some.inj z])
        · exact k1 k (by omega)
/-- the heap behind a new name -/
def nnH (h : pH) (K U m d : Nat) : pH := wr (wr (wr (wr (wr h 13 K (Int32.ofNat U)) 14 K (Int32.ofNat (U + m))) 15 K (rd h 16 d)) 16 d (Int32.ofNat K)) 8 10 (Int32.ofNat (K + 1))
theorem nol85 {N U m : Nat} {h : pH} {ws : List (List Int32)} {w : List Int32} (nt : NT h ws U) (hl : ws.length < 3100) (e5 : rd h 8 5 = Int32.ofNat (U + m)) : fX10_nameOfLetters_85 N 8 (Int32.ofNat U) (hsh w) h = some (Int32.ofNat ws.length, nnH h ws.length U m (hshN w)) := by
  obtain ⟨hs, q2, q3, q4, q5, q6⟩ := nt
  have s1 := hs.wr 13 ws.length (Int32.ofNat U)
  have s2 := s1.wr 14 ws.length (Int32.ofNat (U + m))
  have s3 := s2.wr 15 ws.length (rd h 16 (hshN w))
  have s4 := s3.wr 16 (hshN w) (Int32.ofNat ws.length)
  have e1 : rd (wr h 13 ws.length (Int32.ofNat U)) 8 10 = Int32.ofNat ws.length := by rw [rd_wr_ne _ _ (by omega)]; exact q2
  have e1' : rd (wr h 13 ws.length (Int32.ofNat U)) 8 5 = Int32.ofNat (U + m) := by rw [rd_wr_ne _ _ (by omega)]; exact e5
  have e2 : rd (wr (wr h 13 ws.length (Int32.ofNat U)) 14 ws.length (Int32.ofNat (U + m))) 8 10 = Int32.ofNat ws.length := by rw [rd_wr_ne _ _ (by omega)]; exact e1
  have e2' : rd (wr (wr h 13 ws.length (Int32.ofNat U)) 14 ws.length (Int32.ofNat (U + m))) 16 (hshN w) = rd h 16 (hshN w) := by rw [rd_wr_ne _ _ (by omega), rd_wr_ne _ _ (by omega)]
  have e3 : rd (wr (wr (wr h 13 ws.length (Int32.ofNat U)) 14 ws.length (Int32.ofNat (U + m))) 15 ws.length (rd h 16 (hshN w))) 8 10 = Int32.ofNat ws.length := by rw [rd_wr_ne _ _ (by omega)]; exact e2
  have e4 : rd (wr (wr (wr (wr h 13 ws.length (Int32.ofNat U)) 14 ws.length (Int32.ofNat (U + m))) 15 ws.length (rd h 16 (hshN w))) 16 (hshN w) (Int32.ofNat ws.length)) 8 10 = Int32.ofNat ws.length := by rw [rd_wr_ne _ _ (by omega)]; exact e3
  unfold fX10_nameOfLetters_85
  rw [g_8_10 hs, Option.bind_some, q2, show (3100 : Int32) = Int32.ofNat 3100 from rfl, ifLt (by omega) (by decide), if_pos hl, R_8_6 hs, Option.bind_some, Option.bind_some, T_13 hs hl, Option.bind_some, R_8_7 s1, Option.bind_some, g_8_10 s1, Option.bind_some, g_8_5 s1, Option.bind_some, e1, e1', T_14 s1 hl, Option.bind_some, R_8_8 s2, Option.bind_some, g_8_10 s2, Option.bind_some, R_8_9 s2, Option.bind_some, hsh_eq w, L_16 s2 (hsh_lt w), Option.bind_some, e2, e2', T_15 s2 hl, Option.bind_some, R_8_9 s3, Option.bind_some, g_8_10 s3, Option.bind_some, e3, T_16 s3 (hsh_lt w), Option.bind_some, g_8_10 s4, Option.bind_some, e4, i_add1, p_8_10 s4, Option.bind_some, g_8_10 (s4.wr _ _ _), Option.bind_some, w_8_10 s4, ← i_add1, Int32.add_sub_cancel]
  unfold nnH
  rw [i_add1]
def nnA (K d : Nat) : Nat → Nat → Prop := fun a k => (13 ≤ a ∧ a ≤ 15 ∧ k = K) ∨ (a = 16 ∧ k = d) ∨ (a = 8 ∧ k = 10)
theorem nnH_chg (h : pH) (K U m d : Nat) : Chg (nnA K d) h (nnH h K U m d) := by
  unfold nnH
  refine (((((Chg.wr _ _ _ _ ?_).trans (Chg.wr _ _ _ _ ?_)).trans (Chg.wr _ _ _ _ ?_)).trans (Chg.wr _ _ _ _ ?_)).trans (Chg.wr _ _ _ _ ?_)) <;> unfold nnA <;> omega
theorem nnH_nt {h : pH} {ws : List (List Int32)} {U m : Nat} (nt : NT h ws U) (hl : ws.length < 3100) : NT (nnH h ws.length U m (hshN (wl (rd h 12) U m))) (ws ++ [wl (rd h 12) U m]) (U + m) := by
  obtain ⟨hs, q2, q3, q4, q5, q6⟩ := id nt
  have c := nnH_chg h ws.length U m (hshN (wl (rd h 12) U m))
  have c0 := c.sg hs
  have s1 := hs.wr 13 ws.length (Int32.ofNat U)
  have s2 := s1.wr 14 ws.length (Int32.ofNat (U + m))
  have s3 := s2.wr 15 ws.length (rd h 16 (hshN (wl (rd h 12) U m)))
  have s4 := s3.wr 16 (hshN (wl (rd h 12) U m)) (Int32.ofNat ws.length)
  have old : ∀ {k w}, (ws ++ [wl (rd h 12) U m])[k]? = some w → (k < ws.length ∧ ws[k]? = some w) ∨ (k = ws.length ∧ w = wl (rd h 12) U m) := by
    intro k w hk
    by_cases z : k < ws.length
    · rw [List.getElem?_append_left z] at hk
      exact Or.inl ⟨z, hk⟩
    · rw [List.getElem?_append_right (by omega)] at hk
      have hk2 : k - ws.length < 1 := (List.getElem?_eq_some_iff.mp hk).1
      have e : k - ws.length = 0 := by omega
      rw [e] at hk
      exact Or.inr ⟨by omega, (Option.some.inj hk).symm⟩
  have hlen : (ws ++ [wl (rd h 12) U m]).length = ws.length + 1 := by simp
  refine ⟨c0, ?_, by rw [hlen]; omega, fun k w hk => ?_, fun k w hk => ?_, fun d hd => ?_⟩
  · rw [hlen]
    unfold nnH
    exact w_8_10 s4 _
  · rcases old hk with ⟨z, hk⟩ | ⟨z, hk⟩
    · obtain ⟨F, f1, f2, f3, f4⟩ := q4 k w hk
      refine ⟨F, by rw [c.2.2.1 _ _ (by unfold nnA; omega)]; exact f1, by rw [c.2.2.1 _ _ (by unfold nnA; omega)]; exact f2, by omega, ?_⟩
      rw [← f4, wl_len]
      exact wl_eq.mpr ⟨rfl, fun j hj => c.2.2.1 _ _ (by unfold nnA; omega)⟩
    · subst hk
      refine ⟨U, ?_, ?_, by rw [wl_len]; omega, ?_⟩
      · rw [z]
        unfold nnH
        rw [rd_wr_ne _ _ (by omega), rd_wr_ne _ _ (by omega), rd_wr_ne _ _ (by omega), rd_wr_ne _ _ (by omega), W_13 hs]
      · rw [z, wl_len]
        unfold nnH
        rw [rd_wr_ne _ _ (by omega), rd_wr_ne _ _ (by omega), rd_wr_ne _ _ (by omega), W_14 s1]
      · rw [wl_len]
        exact wl_eq.mpr ⟨rfl, fun j hj => c.2.2.1 _ _ (by unfold nnA; omega)⟩
  · rcases old hk with ⟨z, hk⟩ | ⟨z, hk⟩
    · rw [c.2.2.1 _ _ (by unfold nnA; omega), q5 k w hk, lst_app _ _ _ _ (by omega)]
    · rw [z, hk, lst_app _ _ _ _ (Nat.le_refl _), ← q6 _ (hsh_lt _)]
      unfold nnH
      rw [rd_wr_ne _ _ (by omega), rd_wr_ne _ _ (by omega), W_15 s2]
  · rw [hlen]
    show _ = (if (ws ++ [wl (rd h 12) U m])[ws.length]?.map hshN = some d then Int32.ofNat ws.length else lst (ws ++ [wl (rd h 12) U m]) d ws.length)
    rw [List.getElem?_append_right (Nat.le_refl _), Nat.sub_self, lst_app _ _ _ _ (Nat.le_refl _)]
    by_cases z : hshN (wl (rd h 12) U m) = d
    · rw [if_pos (by rw [← z]; rfl), ← z]
      unfold nnH
      rw [rd_wr_ne _ _ (by omega), W_16 s3]
    · rw [if_neg (show ¬ Option.map hshN [wl (rd h 12) U m][0]? = some d from fun y => z (Option.some.inj y)), ← q6 d hd, c.2.2.1 _ _ (by unfold nnA; omega)]
theorem nol4 {N U m : Nat} {h : pH} {ws : List (List Int32)} (nt : NT h ws U) (e5 : rd h 8 5 = Int32.ofNat (U + m)) (hU : U + m ≤ 3246) : ∀ (j n q : Nat), q + j = m → fX10_nameOfLetters_4 N (n + j + 1) 8 (Int32.ofNat U) (hsh (wl (rd h 12) U q)) (Int32.ofNat (U + q)) h = fX10_nameOfLetters_44 N N 8 (Int32.ofNat U) (hsh (wl (rd h 12) U m)) (lst ws (hshN (wl (rd h 12) U m)) ws.length) 0 h
  | 0, n, q, hq => by
    obtain rfl : q = m := by omega
    have hs := nt.1
    rw [fX10_nameOfLetters_4, g_8_5 hs, Option.bind_some, e5, ifLe (by omega) (by omega), if_pos (Nat.le_refl _), R_8_9 hs, Option.bind_some]
    conv => lhs; rw [hsh_eq]
    rw [L_16 hs (hsh_lt _), Option.bind_some, nt.2.2.2.2.2 _ (hsh_lt _), ← hsh_eq]
  | j + 1, n, q, hq => by
    have hs := nt.1
    rw [fX10_nameOfLetters_4, g_8_5 hs, Option.bind_some, e5, ifLe (by omega) (by omega), if_neg (by omega), R_8_4 hs, Option.bind_some, L_12 hs (by omega), Option.bind_some, ← hsh_succ, i_add1]
    exact nol4 nt e5 hU j n (q + 1) (by omega)
/-- the number of the name whose letters were added last -/
theorem e10_nameOfLetters {N U m : Nat} {h : pH} {ws : List (List Int32)} (hN : 3300 ≤ N) (nt : NT h ws U) (hl : ws.length < 3100) (e5 : rd h 8 5 = Int32.ofNat (U + m)) (hU : U + m ≤ 3246) :
    (∃ k, ws[k]? = some (wl (rd h 12) U m) ∧ fX10_nameOfLetters N 8 (Int32.ofNat U) h = some (Int32.ofNat k, wr h 8 5 (Int32.ofNat U))) ∨
    ((∀ k : Nat, ws[k]? ≠ some (wl (rd h 12) U m)) ∧ fX10_nameOfLetters N 8 (Int32.ofNat U) h = some (Int32.ofNat ws.length, nnH h ws.length U m (hshN (wl (rd h 12) U m)))) := by
  have hs := nt.1
  have key : fX10_nameOfLetters N 8 (Int32.ofNat U) h = fX10_nameOfLetters_44 N N 8 (Int32.ofNat U) (hsh (wl (rd h 12) U m)) (lst ws (hshN (wl (rd h 12) U m)) ws.length) 0 h := by
    unfold fX10_nameOfLetters
    rw [if_pos (o_8 hs)]
    have := nol4 (N := N) nt e5 hU m (N - (m + 1)) 0 (by omega)
    rw [show N - (m + 1) + m + 1 = N by omega] at this
    exact this
  rw [key]
  have := nol44 hN nt hl e5 hU rfl ws.length (N - (ws.length + 1)) 0 (Nat.le_refl _) (by omega)
  rw [show N - (ws.length + 1) + ws.length + 1 = N by omega] at this
  rcases this with ⟨k, k1, k2, k3⟩ | ⟨k1, k2⟩
  · exact Or.inl ⟨k, k2, k3⟩
  · refine Or.inr ⟨fun k hk => k1 k (List.getElem?_eq_some_iff.mp hk).1 hk, ?_⟩
    rw [← nol85 (N := N) nt hl e5]
    exact k2
