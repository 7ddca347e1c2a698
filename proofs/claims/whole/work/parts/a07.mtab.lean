/-! ===== THE CLASS' TABLES: members, parameters, classes ===== -/
def adH (h : pH) (m : Nat) (v1 v2 v3 v4 : Int32) : pH := wr (wr (wr (wr (wr (wr (wr (wr (wr (wr (wr h 26 m v1) 27 m v2) 28 m v3) 29 m v4) 30 m 0) 31 m (rd h 25 14)) 32 m 0) 33 m 0) 34 m 0) 35 m 0) 25 11 (Int32.ofNat (m + 1))
theorem e6_add {N m : Nat} {h : pH} (v1 v2 v3 v4 : Int32) (hv : v4 = 0 ∨ v4 = 1) (hs : Sg h) (e : rd h 25 11 = Int32.ofNat m) (hm : m < 1000) : fX6_add N 25 v1 v2 v3 v4 h = some (adH h m v1 v2 v3 v4) := by
  have hc : ¬ (1000 : Int32) ≤ Int32.ofNat m := by
    rw [show (1000 : Int32) = Int32.ofNat 1000 from rfl, iLe (by decide) (by omega)]
    omega
  unfold fX6_add adH
  simp only [o_25, R_25_0, R_25_1, R_25_2, R_25_3, R_25_4, R_25_5, R_25_6, R_25_7, R_25_8, R_25_9, R_25_10, g_25_11, p_25_11, R_25_12, R_25_13, g_25_14, p_25_14, L_26, T_26, L_27, T_27, L_28, T_28, L_29, T_29, L_30, T_30, L_31, T_31, L_32, T_32, L_33, T_33, L_34, T_34, L_35, T_35, hs, hm, hv, hc, e, Sg_wr, Sg_wrJ, rd_wr_ne, rd_wrJ, rdJ_wr, Option.bind_some, if_true, if_false, i_add1, i_sub1, false_and, and_false, not_false_eq_true, Nat.reduceEqDiff, ne_eq, reduceIte]
theorem e6_add_full {N : Nat} {h : pH} (v1 v2 v3 v4 : Int32) (hs : Sg h) (e : rd h 25 11 = Int32.ofNat 1000) : fX6_add N 25 v1 v2 v3 v4 h = some h := by
  have hc : (1000 : Int32) ≤ Int32.ofNat 1000 := by decide
  unfold fX6_add
  simp only [o_25, R_25_0, R_25_1, R_25_2, R_25_3, R_25_4, R_25_5, R_25_6, R_25_7, R_25_8, R_25_9, R_25_10, g_25_11, p_25_11, R_25_12, R_25_13, g_25_14, p_25_14, hs, hc, e, Sg_wr, Sg_wrJ, rd_wr_ne, rd_wrJ, rdJ_wr, Option.bind_some, if_true, if_false, i_add1, i_sub1, false_and, and_false, not_false_eq_true, Nat.reduceEqDiff, ne_eq, reduceIte]
def adA (m : Nat) : Nat → Nat → Prop := fun a k => (26 ≤ a ∧ a ≤ 35 ∧ k = m) ∨ (a = 25 ∧ k = 11)
theorem adH_chg (h : pH) (m : Nat) (v1 v2 v3 v4 : Int32) : Chg (adA m) h (adH h m v1 v2 v3 v4) := by
  unfold adH
  refine (((((((((Chg.trans (Chg.wr _ _ _ _ ?_) (Chg.wr _ _ _ _ ?_)).trans (Chg.wr _ _ _ _ ?_)).trans (Chg.wr _ _ _ _ ?_)).trans (Chg.wr _ _ _ _ ?_)).trans (Chg.wr _ _ _ _ ?_)).trans (Chg.wr _ _ _ _ ?_)).trans (Chg.wr _ _ _ _ ?_)).trans (Chg.wr _ _ _ _ ?_)).trans (Chg.wr _ _ _ _ ?_)).trans (Chg.wr _ _ _ _ ?_) <;> unfold adA <;> omega
theorem adH_rd {h : pH} (hs : Sg h) (m : Nat) (v1 v2 v3 v4 : Int32) : rd (adH h m v1 v2 v3 v4) 26 m = v1 ∧ rd (adH h m v1 v2 v3 v4) 27 m = v2 ∧ rd (adH h m v1 v2 v3 v4) 28 m = v3 ∧ rd (adH h m v1 v2 v3 v4) 29 m = v4 ∧ rd (adH h m v1 v2 v3 v4) 31 m = rd h 25 14 ∧ rd (adH h m v1 v2 v3 v4) 32 m = 0 ∧ rd (adH h m v1 v2 v3 v4) 25 11 = Int32.ofNat (m + 1) := by
  unfold adH
  simp only [W_26, W_27, W_28, W_29, W_31, W_32, w_25_11, hs, Sg_wr, Sg_wrJ, rd_wr_ne, rd_wrJ, rdJ_wr, Option.bind_some, if_true, if_false, i_add1, i_sub1, false_and, and_false, not_false_eq_true, Nat.reduceEqDiff, ne_eq, reduceIte, and_self]
/-- the code of the last member begins here -/
theorem e6_codeOfLast {N m : Nat} {h : pH} (v : Int32) (hs : Sg h) (e : rd h 25 11 = Int32.ofNat (m + 1)) (hm : m < 1000) : fX6_codeOfLast N 25 v h = some (wr h 33 m v) := by
  have hc : ¬ Int32.ofNat (m + 1) ≤ 0 := by
    rw [show (0 : Int32) = Int32.ofNat 0 from rfl, iLe (by omega) (by decide)]
    omega
  unfold fX6_codeOfLast
  simp only [o_25, R_25_0, R_25_1, R_25_2, R_25_3, R_25_4, R_25_5, R_25_6, R_25_7, R_25_8, R_25_9, R_25_10, g_25_11, p_25_11, R_25_12, R_25_13, g_25_14, p_25_14, L_33, T_33, hs, hm, hc, e, Sg_wr, Sg_wrJ, rd_wr_ne, rd_wrJ, rdJ_wr, Option.bind_some, if_true, if_false, i_add1, i_sub1, false_and, and_false, not_false_eq_true, Nat.reduceEqDiff, ne_eq, reduceIte]
theorem e6_codeOfLast_0 {N : Nat} {h : pH} (v : Int32) (hs : Sg h) (e : rd h 25 11 = Int32.ofNat 0) : fX6_codeOfLast N 25 v h = some h := by
  have hc : Int32.ofNat 0 ≤ 0 := by decide
  unfold fX6_codeOfLast
  simp only [o_25, R_25_0, R_25_1, R_25_2, R_25_3, R_25_4, R_25_5, R_25_6, R_25_7, R_25_8, R_25_9, R_25_10, g_25_11, p_25_11, R_25_12, R_25_13, g_25_14, p_25_14, L_33, T_33, hs, hc, e, Sg_wr, Sg_wrJ, rd_wr_ne, rd_wrJ, rdJ_wr, Option.bind_some, if_true, if_false, i_add1, i_sub1, false_and, and_false, not_false_eq_true, Nat.reduceEqDiff, ne_eq, reduceIte]
def paH (h : pH) (m p : Nat) (ty nm : Int32) : pH := wr (wr (wr (wr h 36 p nm) 37 p ty) 25 14 (Int32.ofNat (p + 1))) 32 m (rd h 32 m + 1)
theorem e6_addParameter {N m p : Nat} {h : pH} (ty nm : Int32) (hs : Sg h) (e : rd h 25 11 = Int32.ofNat (m + 1)) (e2 : rd h 25 14 = Int32.ofNat p) (hm : m < 1000) (hp : p < 1000) : fX6_addParameter N 25 ty nm h = some (paH h m p ty nm) := by
  have hc : ¬ Int32.ofNat (m + 1) ≤ 0 := by
    rw [show (0 : Int32) = Int32.ofNat 0 from rfl, iLe (by omega) (by decide)]
    omega
  have hc2 : ¬ (1000 : Int32) ≤ Int32.ofNat p := by
    rw [show (1000 : Int32) = Int32.ofNat 1000 from rfl, iLe (by decide) (by omega)]
    omega
  unfold fX6_addParameter paH
  simp only [o_25, R_25_0, R_25_1, R_25_2, R_25_3, R_25_4, R_25_5, R_25_6, R_25_7, R_25_8, R_25_9, R_25_10, g_25_11, p_25_11, R_25_12, R_25_13, g_25_14, p_25_14, L_32, T_32, L_36, T_36, L_37, T_37, hs, hm, hp, hc, hc2, e, e2, Sg_wr, Sg_wrJ, rd_wr_ne, rd_wrJ, rdJ_wr, Option.bind_some, if_true, if_false, i_add1, i_sub1, false_and, and_false, not_false_eq_true, Nat.reduceEqDiff, ne_eq, reduceIte]
theorem e6_addParameter_any {N m p : Nat} {h : pH} (ty nm : Int32) (hs : Sg h) (e : rd h 25 11 = Int32.ofNat m) (e2 : rd h 25 14 = Int32.ofNat p) (hm : m ≤ 1000) (hp : p ≤ 1000) : fX6_addParameter N 25 ty nm h = some h ∨ (∃ m', m = m' + 1 ∧ p < 1000 ∧ fX6_addParameter N 25 ty nm h = some (paH h m' p ty nm)) := by
  cases m with
  | zero =>
    left
    have hc : Int32.ofNat 0 ≤ 0 := by decide
    unfold fX6_addParameter
    simp only [o_25, R_25_0, R_25_1, R_25_2, R_25_3, R_25_4, R_25_5, R_25_6, R_25_7, R_25_8, R_25_9, R_25_10, g_25_11, p_25_11, R_25_12, R_25_13, g_25_14, p_25_14, hs, hc, e, Sg_wr, Sg_wrJ, rd_wr_ne, rd_wrJ, rdJ_wr, Option.bind_some, if_true, if_false, i_add1, i_sub1, false_and, and_false, not_false_eq_true, Nat.reduceEqDiff, ne_eq, reduceIte]
  | succ m =>
    rcases Nat.lt_or_ge p 1000 with z | z
    · exact Or.inr ⟨m, rfl, z, e6_addParameter ty nm hs e e2 (by omega) z⟩
    · left
      have hc : ¬ Int32.ofNat (m + 1) ≤ 0 := by
        rw [show (0 : Int32) = Int32.ofNat 0 from rfl, iLe (by omega) (by decide)]
        omega
      have hc2 : (1000 : Int32) ≤ Int32.ofNat p := by
        rw [show (1000 : Int32) = Int32.ofNat 1000 from rfl, iLe (by decide) (by omega)]
        omega
      unfold fX6_addParameter
      simp only [o_25, R_25_0, R_25_1, R_25_2, R_25_3, R_25_4, R_25_5, R_25_6, R_25_7, R_25_8, R_25_9, R_25_10, g_25_11, p_25_11, R_25_12, R_25_13, g_25_14, p_25_14, hs, hc, hc2, e, e2, Sg_wr, Sg_wrJ, rd_wr_ne, rd_wrJ, rdJ_wr, Option.bind_some, if_true, if_false, i_add1, i_sub1, false_and, and_false, not_false_eq_true, Nat.reduceEqDiff, ne_eq, reduceIte]
def paA (m p : Nat) : Nat → Nat → Prop := fun a k => ((a = 36 ∨ a = 37) ∧ k = p) ∨ (a = 25 ∧ k = 14) ∨ (a = 32 ∧ k = m)
theorem paH_chg (h : pH) (m p : Nat) (ty nm : Int32) : Chg (paA m p) h (paH h m p ty nm) := by
  unfold paH
  refine ((Chg.trans (Chg.wr _ _ _ _ ?_) (Chg.wr _ _ _ _ ?_)).trans (Chg.wr _ _ _ _ ?_)).trans (Chg.wr _ _ _ _ ?_) <;> unfold paA <;> omega
theorem paH_rd {h : pH} (hs : Sg h) (m p : Nat) (ty nm : Int32) : rd (paH h m p ty nm) 36 p = nm ∧ rd (paH h m p ty nm) 37 p = ty ∧ rd (paH h m p ty nm) 25 14 = Int32.ofNat (p + 1) ∧ rd (paH h m p ty nm) 32 m = rd h 32 m + 1 := by
  unfold paH
  simp only [W_36, W_37, W_32, w_25_14, hs, Sg_wr, Sg_wrJ, rd_wr_ne, rd_wrJ, rdJ_wr, Option.bind_some, if_true, if_false, i_add1, i_sub1, false_and, and_false, not_false_eq_true, Nat.reduceEqDiff, ne_eq, reduceIte, and_self]
def clH (h : pH) (c : Nat) (v1 v2 v3 v4 : Int32) : pH := wr (wr (wr (wr (wr (wr (wr (wr h 18 c v1) 19 c v2) 20 c v3) 21 c (-1)) 22 c v4) 23 c v4) 24 c 0) 17 7 (Int32.ofNat (c + 1))
theorem e1_add {N c : Nat} {h : pH} (v1 v2 v3 v4 : Int32) (hs : Sg h) (e : rd h 17 7 = Int32.ofNat c) (hm : c < 400) : fX1_add N 17 v1 v2 v3 v4 h = some (clH h c v1 v2 v3 v4) := by
  have hc : ¬ (400 : Int32) ≤ Int32.ofNat c := by
    rw [show (400 : Int32) = Int32.ofNat 400 from rfl, iLe (by decide) (by omega)]
    omega
  unfold fX1_add clH
  simp only [o_17, R_17_0, R_17_1, R_17_2, R_17_3, R_17_4, R_17_5, R_17_6, g_17_7, p_17_7, L_18, T_18, L_19, T_19, L_20, T_20, L_21, T_21, L_22, T_22, L_23, T_23, L_24, T_24, hs, hm, hc, e, Sg_wr, Sg_wrJ, rd_wr_ne, rd_wrJ, rdJ_wr, Option.bind_some, if_true, if_false, i_add1, i_sub1, false_and, and_false, not_false_eq_true, Nat.reduceEqDiff, ne_eq, reduceIte]
theorem e1_add_full {N : Nat} {h : pH} (v1 v2 v3 v4 : Int32) (hs : Sg h) (e : rd h 17 7 = Int32.ofNat 400) : fX1_add N 17 v1 v2 v3 v4 h = some h := by
  have hc : (400 : Int32) ≤ Int32.ofNat 400 := by decide
  unfold fX1_add
  simp only [o_17, R_17_0, R_17_1, R_17_2, R_17_3, R_17_4, R_17_5, R_17_6, g_17_7, p_17_7, hs, hc, e, Sg_wr, Sg_wrJ, rd_wr_ne, rd_wrJ, rdJ_wr, Option.bind_some, if_true, if_false, i_add1, i_sub1, false_and, and_false, not_false_eq_true, Nat.reduceEqDiff, ne_eq, reduceIte]
def clA (c : Nat) : Nat → Nat → Prop := fun a k => (18 ≤ a ∧ a ≤ 24 ∧ k = c) ∨ (a = 17 ∧ k = 7)
theorem clH_chg (h : pH) (c : Nat) (v1 v2 v3 v4 : Int32) : Chg (clA c) h (clH h c v1 v2 v3 v4) := by
  unfold clH
  refine ((((((Chg.trans (Chg.wr _ _ _ _ ?_) (Chg.wr _ _ _ _ ?_)).trans (Chg.wr _ _ _ _ ?_)).trans (Chg.wr _ _ _ _ ?_)).trans (Chg.wr _ _ _ _ ?_)).trans (Chg.wr _ _ _ _ ?_)).trans (Chg.wr _ _ _ _ ?_)).trans (Chg.wr _ _ _ _ ?_) <;> unfold clA <;> omega
theorem clH_rd {h : pH} (hs : Sg h) (c : Nat) (v1 v2 v3 v4 : Int32) : rd (clH h c v1 v2 v3 v4) 18 c = v1 ∧ rd (clH h c v1 v2 v3 v4) 19 c = v2 ∧ rd (clH h c v1 v2 v3 v4) 20 c = v3 ∧ rd (clH h c v1 v2 v3 v4) 21 c = -1 ∧ rd (clH h c v1 v2 v3 v4) 22 c = v4 ∧ rd (clH h c v1 v2 v3 v4) 23 c = v4 ∧ rd (clH h c v1 v2 v3 v4) 17 7 = Int32.ofNat (c + 1) := by
  unfold clH
  simp only [W_18, W_19, W_20, W_21, W_22, W_23, w_17_7, hs, Sg_wr, Sg_wrJ, rd_wr_ne, rd_wrJ, rdJ_wr, Option.bind_some, if_true, if_false, i_add1, i_sub1, false_and, and_false, not_false_eq_true, Nat.reduceEqDiff, ne_eq, reduceIte, and_self]
theorem e1_closeLast {N c : Nat} {h : pH} (v : Int32) (hs : Sg h) (e : rd h 17 7 = Int32.ofNat (c + 1)) (hm : c < 400) : fX1_closeLast N 17 v h = some (wr h 23 c v) := by
  have hc : ¬ Int32.ofNat (c + 1) ≤ 0 := by
    rw [show (0 : Int32) = Int32.ofNat 0 from rfl, iLe (by omega) (by decide)]
    omega
  unfold fX1_closeLast
  simp only [o_17, R_17_0, R_17_1, R_17_2, R_17_3, R_17_4, R_17_5, R_17_6, g_17_7, p_17_7, L_23, T_23, hs, hm, hc, e, Sg_wr, Sg_wrJ, rd_wr_ne, rd_wrJ, rdJ_wr, Option.bind_some, if_true, if_false, i_add1, i_sub1, false_and, and_false, not_false_eq_true, Nat.reduceEqDiff, ne_eq, reduceIte]
theorem e1_closeLast_0 {N : Nat} {h : pH} (v : Int32) (hs : Sg h) (e : rd h 17 7 = Int32.ofNat 0) : fX1_closeLast N 17 v h = some h := by
  have hc : Int32.ofNat 0 ≤ 0 := by decide
  unfold fX1_closeLast
  simp only [o_17, R_17_0, R_17_1, R_17_2, R_17_3, R_17_4, R_17_5, R_17_6, g_17_7, p_17_7, L_23, T_23, hs, hc, e, Sg_wr, Sg_wrJ, rd_wr_ne, rd_wrJ, rdJ_wr, Option.bind_some, if_true, if_false, i_add1, i_sub1, false_and, and_false, not_false_eq_true, Nat.reduceEqDiff, ne_eq, reduceIte]
theorem e1_clear {N : Nat} {h : pH} (hN : 6 ≤ N) (hs : Sg h) : fX1_clear N 17 h = some (clH (clH (clH (clH (clH (wr h 17 7 0) 0 21 0 (-1) 0) 1 22 0 (-1) 0) 2 23 0 (-1) 0) 3 24 0 (-1) 0) 4 25 0 (-1) 0) := by
  obtain ⟨n, rfl⟩ : ∃ n, N = n + 6 := ⟨N - 6, by omega⟩
  have s0 := hs.wr 17 7 0
  have e0 : rd (wr h 17 7 0) 17 7 = Int32.ofNat 0 := w_17_7 hs 0
  have s1 := (clH_chg (wr h 17 7 0) 0 21 0 (-1) 0).sg s0
  have e1 := (clH_rd s0 0 21 0 (-1) 0).2.2.2.2.2.2
  have s2 := (clH_chg _ 1 22 0 (-1) 0).sg s1
  have e2 := (clH_rd s1 1 22 0 (-1) 0).2.2.2.2.2.2
  have s3 := (clH_chg _ 2 23 0 (-1) 0).sg s2
  have e3 := (clH_rd s2 2 23 0 (-1) 0).2.2.2.2.2.2
  have s4 := (clH_chg _ 3 24 0 (-1) 0).sg s3
  have e4 := (clH_rd s3 3 24 0 (-1) 0).2.2.2.2.2.2
  unfold fX1_clear
  rw [if_pos (o_17 hs), p_17_7 hs, Option.bind_some]
  rw [fX1_clear_7, if_neg (by decide), show (21 : Int32) + 0 = 21 from rfl, e1_add _ _ _ _ s0 e0 (by decide), Option.bind_some]
  rw [fX1_clear_7, if_neg (by decide), show (21 : Int32) + (0 + 1) = 22 from rfl, e1_add _ _ _ _ s1 e1 (by decide), Option.bind_some]
  rw [fX1_clear_7, if_neg (by decide), show (21 : Int32) + (0 + 1 + 1) = 23 from rfl, e1_add _ _ _ _ s2 e2 (by decide), Option.bind_some]
  rw [fX1_clear_7, if_neg (by decide), show (21 : Int32) + (0 + 1 + 1 + 1) = 24 from rfl, e1_add _ _ _ _ s3 e3 (by decide), Option.bind_some]
  rw [fX1_clear_7, if_neg (by decide), show (21 : Int32) + (0 + 1 + 1 + 1 + 1) = 25 from rfl, e1_add _ _ _ _ s4 e4 (by decide), Option.bind_some]
  rw [fX1_clear_7, if_pos (by decide)]
