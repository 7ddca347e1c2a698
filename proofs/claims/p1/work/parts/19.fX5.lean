def eX5_moveReached : List (Nat × Instr × Nat) := [(0, .aload_n 0, 1), (1, .getfield 28, 3), (4, .invokevirtual 262, 3), (7, .iconst 0, 1), (8, .istore_n 1, 1), (9, .iload_n 1, 1), (10, .aload_n 0, 1), (11, .getfield 71, 3), (14, .if_icmp .ge 178, 3), (17, .aload_n 0, 1), (18, .getfield 46, 3), (21, .iload_n 1, 1), (22, .aload_n 0, 1), (23, .getfield 28, 3), (26, .aload_n 0, 1), (27, .getfield 46, 3), (30, .iload_n 1, 1), (31, .laload, 1), (32, .invokevirtual 265, 3), (35, .lastore, 1), (36, .aload_n 0, 1), (37, .getfield 40, 3), (40, .iload_n 1, 1), (41, .iaload, 1), (42, .aload_n 0, 1), (43, .getfield 17, 3), (46, .getfield 268, 3), (49, .aload_n 0, 1), (50, .getfield 36, 3), (53, .iload_n 1, 1), (54, .iaload, 1), (55, .iaload, 1), (56, .iadd, 1), (57, .istore_n 2, 1), (58, .aload_n 0, 1), (59, .getfield 40, 3), (62, .iload_n 1, 1), (63, .iaload, 1), (64, .istore_n 3, 1), (65, .iload_n 3, 1), (66, .iload_n 2, 1), (67, .if_icmp .ge 37, 3), (70, .iload_n 3, 1), (71, .aload_n 0, 1), (72, .getfield 32, 3), (75, .arraylength, 1), (76, .if_icmp .ge 28, 3), (79, .aload_n 0, 1), (80, .getfield 32, 3), (83, .iload_n 3, 1), (84, .aload_n 0, 1), (85, .getfield 28, 3), (88, .aload_n 0, 1), (89, .getfield 32, 3), (92, .iload_n 3, 1), (93, .laload, 1), (94, .invokevirtual 265, 3), (97, .lastore, 1), (98, .iinc 3 1, 3), (101, .goto (-36), 3), (104, .iload_n 1, 1), (105, .iconst 1, 1), (106, .iadd, 1), (107, .aload_n 0, 1), (108, .getfield 71, 3), (111, .if_icmp .ge 14, 3), (114, .aload_n 0, 1), (115, .getfield 40, 3), (118, .iload_n 1, 1), (119, .iconst 1, 1), (120, .iadd, 1), (121, .iaload, 1), (122, .goto 7, 3), (125, .aload_n 0, 1), (126, .getfield 74, 3), (129, .istore_n 3, 1), (130, .aload_n 0, 1), (131, .getfield 40, 3), (134, .iload_n 1, 1), (135, .iaload, 1), (136, .aload_n 0, 1), (137, .getfield 13, 3), (140, .getfield 271, 3), (143, .aload_n 0, 1), (144, .getfield 43, 3), (147, .iload_n 1, 1), (148, .iaload, 1), (149, .iaload, 1), (150, .iadd, 1), (151, .istore 4, 2), (153, .iload 4, 2), (155, .iload_n 3, 1), (156, .if_icmp .ge 30, 3), (159, .aload_n 0, 1), (160, .getfield 32, 3), (163, .iload 4, 2), (165, .aload_n 0, 1), (166, .getfield 28, 3), (169, .aload_n 0, 1), (170, .getfield 32, 3), (173, .iload 4, 2), (175, .laload, 1), (176, .invokevirtual 265, 3), (179, .lastore, 1), (180, .iinc 4 1, 3), (183, .goto (-30), 3), (186, .iinc 1 1, 3), (189, .goto (-180), 3), (192, .aload_n 0, 1), (193, .getfield 28, 3), (196, .invokevirtual 274, 3), (199, .return_, 1)]
theorem dX5_moveReached : dChk (pCd 6111) eX5_moveReached = true := by decide +kernel
def fX5_moveReached_153 (N : Nat) (k9 : Nat → Int32 → pH → Option (pH)) : Nat → Nat → Int32 → Int32 → Int32 → pH → Option (pH)
  | 0, _, _, _, _, _ => none
  | n + 1, v0, v1, v3, v4, h => if v3 ≤ v4 then (
  k9 v0 (v1 + (1 : Int32)) h) else (
  (getR h v0 5 5).bind fun t2 =>
  (getR h v0 5 4).bind fun t3 =>
  (getR h v0 5 5).bind fun t4 =>
  (ldJ h t4 v4).bind fun t5 =>
  (fX3_moved N t3 t5 h).bind fun q6 =>
  (stJ q6.2 t2 v4 q6.1).bind fun h7 =>
  fX5_moveReached_153 N k9 n v0 v1 v3 (v4 + (1 : Int32)) h7)
theorem lX5_moveReached_153 (X : pX) (N d : Nat)  (k9 : Nat → Int32 → pH → Option (pH)) (K9 : ∀ (w0 : Nat) (w1 : Int32) (h : pH) (q : pH), k9 w0 w1 h = some q → ¬ w0 = 4 → Run X (d + 3) 5 false (pCd 6111) 5 none 9 [(0, .ref w0), (1, .int w1)] [] h 0 0 (none, q, 0, 0)) : ∀ (n : Nat) (v0 : Nat) (v1 : Int32) (v3 : Int32) (v4 : Int32) (h : pH) (q : pH), fX5_moveReached_153 N k9 n v0 v1 v3 v4 h = some q → ¬ v0 = 4 → Run X (d + 3) 5 false (pCd 6111) 5 none 153 [(0, .ref v0), (1, .int v1), (3, .int v3), (4, .int v4)] [] h 0 0 (none, q, 0, 0) := by
  intro n
  induction n with
  | zero => intro v0 v1 v3 v4 h q hf; cases hf
  | succ n ih =>
    intro v0 v1 v3 v4 h q hf nv0
    unfold fX5_moveReached_153 at hf
    refine r_iload (dGet dX5_moveReached (j := 90) rfl) rfl ?_
    refine r_iload_n (dGet dX5_moveReached (j := 91) rfl) rfl ?_
    by_cases c1 : v3 ≤ v4
    · rw [if_pos c1] at hf
      refine r_icmp_ge_t (dGet dX5_moveReached (j := 92) rfl) rfl c1 ?_
      refine r_iinc (lv' := [(1, .int (v1 + (1 : Int32))), (0, .ref v0), (3, .int v3), (4, .int v4)]) (dGet dX5_moveReached (j := 106) rfl) rfl (by decide) kI_1 rfl ?_
      refine r_goto (dGet dX5_moveReached (j := 107) rfl) rfl ?_
      refine Run.weak [(0, .ref v0), (1, .int (v1 + (1 : Int32)))] (by simp) (by simp [pNd]) ?_
      exact K9 v0 (v1 + (1 : Int32)) h q hf nv0
    · rw [if_neg c1] at hf
      refine r_icmp_ge_f (dGet dX5_moveReached (j := 92) rfl) rfl c1 ?_
      refine r_aload_n (dGet dX5_moveReached (j := 93) rfl) nv0 rfl ?_
      obtain ⟨t2, et2, hf⟩ := Option.bind_eq_some_iff.mp hf
      refine r_getR (dGet dX5_moveReached (j := 94) rfl) F5_32 et2 ?_
      refine r_iload (dGet dX5_moveReached (j := 95) rfl) rfl ?_
      refine r_aload_n (dGet dX5_moveReached (j := 96) rfl) nv0 rfl ?_
      obtain ⟨t3, et3, hf⟩ := Option.bind_eq_some_iff.mp hf
      refine r_getR (dGet dX5_moveReached (j := 97) rfl) F5_28 et3 ?_
      refine r_aload_n (dGet dX5_moveReached (j := 98) rfl) nv0 rfl ?_
      obtain ⟨t4, et4, hf⟩ := Option.bind_eq_some_iff.mp hf
      refine r_getR (dGet dX5_moveReached (j := 99) rfl) F5_32 et4 ?_
      refine r_iload (dGet dX5_moveReached (j := 100) rfl) rfl ?_
      obtain ⟨t5, et5, hf⟩ := Option.bind_eq_some_iff.mp hf
      refine r_lald (dGet dX5_moveReached (j := 101) rfl) et5 ?_
      obtain ⟨q6, eq6, hf⟩ := Option.bind_eq_some_iff.mp hf
      refine r_virtual (dGet dX5_moveReached (j := 102) rfl) L5_265 M200 rfl rfl (Nat.le_of_ble_eq_true rfl) (oX3_moved eq6) (cX3_moved X N (d + 1) t3 t5 h q6 eq6) ?_
      obtain ⟨h7, eh7, hf⟩ := Option.bind_eq_some_iff.mp hf
      refine r_last (dGet dX5_moveReached (j := 103) rfl) eh7 ?_
      refine r_iinc (lv' := [(4, .int (v4 + (1 : Int32))), (0, .ref v0), (1, .int v1), (3, .int v3)]) (dGet dX5_moveReached (j := 104) rfl) rfl (by decide) kI_1 rfl ?_
      refine r_goto (dGet dX5_moveReached (j := 105) rfl) rfl ?_
      refine Run.weak [(0, .ref v0), (1, .int v1), (3, .int v3), (4, .int (v4 + (1 : Int32)))] (by simp) (by simp [pNd]) ?_
      exact ih v0 v1 v3 (v4 + (1 : Int32)) h7 q hf nv0
def fX5_moveReached_129 (N : Nat) (k9 : Nat → Int32 → pH → Option (pH)) (v0 : Nat) (v1 : Int32) (s0 : Int32) (h : pH) : Option (pH) :=
  (getR h v0 5 8).bind fun t8 =>
  (ldI h t8 v1).bind fun t9 =>
  (getR h v0 5 1).bind fun t10 =>
  (getR h t10 6 9).bind fun t11 =>
  (getR h v0 5 9).bind fun t12 =>
  (ldI h t12 v1).bind fun t13 =>
  (ldI h t11 t13).bind fun t14 =>
  fX5_moveReached_153 N k9 N v0 v1 s0 (t9 + t14) h
theorem lX5_moveReached_129 (X : pX) (N d : Nat)  (k9 : Nat → Int32 → pH → Option (pH)) (K9 : ∀ (w0 : Nat) (w1 : Int32) (h : pH) (q : pH), k9 w0 w1 h = some q → ¬ w0 = 4 → Run X (d + 3) 5 false (pCd 6111) 5 none 9 [(0, .ref w0), (1, .int w1)] [] h 0 0 (none, q, 0, 0)) (v0 : Nat) (v1 : Int32) (s0 : Int32) (h : pH) (q : pH) (hf : fX5_moveReached_129 N k9 v0 v1 s0 h = some q) (nv0 : ¬ v0 = 4) : Run X (d + 3) 5 false (pCd 6111) 5 none 129 [(0, .ref v0), (1, .int v1)] [.int s0] h 0 0 (none, q, 0, 0) := by
  unfold fX5_moveReached_129 at hf
  refine r_istore_n (lv' := [(3, .int s0), (0, .ref v0), (1, .int v1)]) (dGet dX5_moveReached (j := 75) rfl) (by decide) rfl ?_
  refine r_aload_n (dGet dX5_moveReached (j := 76) rfl) nv0 rfl ?_
  obtain ⟨t8, et8, hf⟩ := Option.bind_eq_some_iff.mp hf
  refine r_getR (dGet dX5_moveReached (j := 77) rfl) F5_40 et8 ?_
  refine r_iload_n (dGet dX5_moveReached (j := 78) rfl) rfl ?_
  obtain ⟨t9, et9, hf⟩ := Option.bind_eq_some_iff.mp hf
  refine r_iald (dGet dX5_moveReached (j := 79) rfl) et9 ?_
  refine r_aload_n (dGet dX5_moveReached (j := 80) rfl) nv0 rfl ?_
  obtain ⟨t10, et10, hf⟩ := Option.bind_eq_some_iff.mp hf
  refine r_getR (dGet dX5_moveReached (j := 81) rfl) F5_13 et10 ?_
  obtain ⟨t11, et11, hf⟩ := Option.bind_eq_some_iff.mp hf
  refine r_getR (dGet dX5_moveReached (j := 82) rfl) F5_271 et11 ?_
  refine r_aload_n (dGet dX5_moveReached (j := 83) rfl) nv0 rfl ?_
  obtain ⟨t12, et12, hf⟩ := Option.bind_eq_some_iff.mp hf
  refine r_getR (dGet dX5_moveReached (j := 84) rfl) F5_43 et12 ?_
  refine r_iload_n (dGet dX5_moveReached (j := 85) rfl) rfl ?_
  obtain ⟨t13, et13, hf⟩ := Option.bind_eq_some_iff.mp hf
  refine r_iald (dGet dX5_moveReached (j := 86) rfl) et13 ?_
  obtain ⟨t14, et14, hf⟩ := Option.bind_eq_some_iff.mp hf
  refine r_iald (dGet dX5_moveReached (j := 87) rfl) et14 ?_
  refine r_iadd (dGet dX5_moveReached (j := 88) rfl) ?_
  refine r_istore (lv' := [(4, .int (t9 + t14)), (3, .int s0), (0, .ref v0), (1, .int v1)]) (dGet dX5_moveReached (j := 89) rfl) (by decide) rfl ?_
  refine Run.weak [(0, .ref v0), (1, .int v1), (3, .int s0), (4, .int (t9 + t14))] (by simp) (by simp [pNd]) ?_
  exact lX5_moveReached_153 X N d k9 K9 N v0 v1 s0 (t9 + t14) h q hf nv0
def fX5_moveReached_104 (N : Nat) (k9 : Nat → Int32 → pH → Option (pH)) (v0 : Nat) (v1 : Int32) (h : pH) : Option (pH) :=
  (getI h v0 5 11).bind fun t15 =>
  if t15 ≤ (v1 + (1 : Int32)) then (
  (getI h v0 5 6).bind fun t17 =>
  fX5_moveReached_129 N k9 v0 v1 t17 h) else (
  (getR h v0 5 8).bind fun t18 =>
  (ldI h t18 (v1 + (1 : Int32))).bind fun t19 =>
  fX5_moveReached_129 N k9 v0 v1 t19 h)
theorem lX5_moveReached_104 (X : pX) (N d : Nat)  (k9 : Nat → Int32 → pH → Option (pH)) (K9 : ∀ (w0 : Nat) (w1 : Int32) (h : pH) (q : pH), k9 w0 w1 h = some q → ¬ w0 = 4 → Run X (d + 3) 5 false (pCd 6111) 5 none 9 [(0, .ref w0), (1, .int w1)] [] h 0 0 (none, q, 0, 0)) (v0 : Nat) (v1 : Int32) (h : pH) (q : pH) (hf : fX5_moveReached_104 N k9 v0 v1 h = some q) (nv0 : ¬ v0 = 4) : Run X (d + 3) 5 false (pCd 6111) 5 none 104 [(0, .ref v0), (1, .int v1)] [] h 0 0 (none, q, 0, 0) := by
  unfold fX5_moveReached_104 at hf
  refine r_iload_n (dGet dX5_moveReached (j := 60) rfl) rfl ?_
  refine r_iconst (dGet dX5_moveReached (j := 61) rfl) kI_1 ?_
  refine r_iadd (dGet dX5_moveReached (j := 62) rfl) ?_
  refine r_aload_n (dGet dX5_moveReached (j := 63) rfl) nv0 rfl ?_
  obtain ⟨t15, et15, hf⟩ := Option.bind_eq_some_iff.mp hf
  refine r_getI (dGet dX5_moveReached (j := 64) rfl) F5_71 et15 ?_
  by_cases c16 : t15 ≤ (v1 + (1 : Int32))
  · rw [if_pos c16] at hf
    refine r_icmp_ge_t (dGet dX5_moveReached (j := 65) rfl) rfl c16 ?_
    refine r_aload_n (dGet dX5_moveReached (j := 73) rfl) nv0 rfl ?_
    obtain ⟨t17, et17, hf⟩ := Option.bind_eq_some_iff.mp hf
    refine r_getI (dGet dX5_moveReached (j := 74) rfl) F5_74 et17 ?_
    exact lX5_moveReached_129 X N d k9 K9 v0 v1 t17 h q hf nv0
  · rw [if_neg c16] at hf
    refine r_icmp_ge_f (dGet dX5_moveReached (j := 65) rfl) rfl c16 ?_
    refine r_aload_n (dGet dX5_moveReached (j := 66) rfl) nv0 rfl ?_
    obtain ⟨t18, et18, hf⟩ := Option.bind_eq_some_iff.mp hf
    refine r_getR (dGet dX5_moveReached (j := 67) rfl) F5_40 et18 ?_
    refine r_iload_n (dGet dX5_moveReached (j := 68) rfl) rfl ?_
    refine r_iconst (dGet dX5_moveReached (j := 69) rfl) kI_1 ?_
    refine r_iadd (dGet dX5_moveReached (j := 70) rfl) ?_
    obtain ⟨t19, et19, hf⟩ := Option.bind_eq_some_iff.mp hf
    refine r_iald (dGet dX5_moveReached (j := 71) rfl) et19 ?_
    refine r_goto (dGet dX5_moveReached (j := 72) rfl) rfl ?_
    exact lX5_moveReached_129 X N d k9 K9 v0 v1 t19 h q hf nv0
def fX5_moveReached_65 (N : Nat) (k9 : Nat → Int32 → pH → Option (pH)) : Nat → Nat → Int32 → Int32 → Int32 → pH → Option (pH)
  | 0, _, _, _, _, _ => none
  | n + 1, v0, v1, v2, v3, h => if v2 ≤ v3 then (
  fX5_moveReached_104 N k9 v0 v1 h) else (
  (getR h v0 5 5).bind fun t21 =>
  (lenA h t21).bind fun t22 =>
  if t22 ≤ v3 then (
  fX5_moveReached_104 N k9 v0 v1 h) else (
  (getR h v0 5 5).bind fun t24 =>
  (getR h v0 5 4).bind fun t25 =>
  (getR h v0 5 5).bind fun t26 =>
  (ldJ h t26 v3).bind fun t27 =>
  (fX3_moved N t25 t27 h).bind fun q28 =>
  (stJ q28.2 t24 v3 q28.1).bind fun h29 =>
  fX5_moveReached_65 N k9 n v0 v1 v2 (v3 + (1 : Int32)) h29))
theorem lX5_moveReached_65 (X : pX) (N d : Nat)  (k9 : Nat → Int32 → pH → Option (pH)) (K9 : ∀ (w0 : Nat) (w1 : Int32) (h : pH) (q : pH), k9 w0 w1 h = some q → ¬ w0 = 4 → Run X (d + 3) 5 false (pCd 6111) 5 none 9 [(0, .ref w0), (1, .int w1)] [] h 0 0 (none, q, 0, 0)) : ∀ (n : Nat) (v0 : Nat) (v1 : Int32) (v2 : Int32) (v3 : Int32) (h : pH) (q : pH), fX5_moveReached_65 N k9 n v0 v1 v2 v3 h = some q → ¬ v0 = 4 → Run X (d + 3) 5 false (pCd 6111) 5 none 65 [(0, .ref v0), (1, .int v1), (2, .int v2), (3, .int v3)] [] h 0 0 (none, q, 0, 0) := by
  intro n
  induction n with
  | zero => intro v0 v1 v2 v3 h q hf; cases hf
  | succ n ih =>
    intro v0 v1 v2 v3 h q hf nv0
    unfold fX5_moveReached_65 at hf
    refine r_iload_n (dGet dX5_moveReached (j := 39) rfl) rfl ?_
    refine r_iload_n (dGet dX5_moveReached (j := 40) rfl) rfl ?_
    by_cases c20 : v2 ≤ v3
    · rw [if_pos c20] at hf
      refine r_icmp_ge_t (dGet dX5_moveReached (j := 41) rfl) rfl c20 ?_
      refine Run.weak [(0, .ref v0), (1, .int v1)] (by simp) (by simp [pNd]) ?_
      exact lX5_moveReached_104 X N d k9 K9 v0 v1 h q hf nv0
    · rw [if_neg c20] at hf
      refine r_icmp_ge_f (dGet dX5_moveReached (j := 41) rfl) rfl c20 ?_
      refine r_iload_n (dGet dX5_moveReached (j := 42) rfl) rfl ?_
      refine r_aload_n (dGet dX5_moveReached (j := 43) rfl) nv0 rfl ?_
      obtain ⟨t21, et21, hf⟩ := Option.bind_eq_some_iff.mp hf
      refine r_getR (dGet dX5_moveReached (j := 44) rfl) F5_32 et21 ?_
      obtain ⟨t22, et22, hf⟩ := Option.bind_eq_some_iff.mp hf
      refine r_alen (dGet dX5_moveReached (j := 45) rfl) et22 ?_
      by_cases c23 : t22 ≤ v3
      · rw [if_pos c23] at hf
        refine r_icmp_ge_t (dGet dX5_moveReached (j := 46) rfl) rfl c23 ?_
        refine Run.weak [(0, .ref v0), (1, .int v1)] (by simp) (by simp [pNd]) ?_
        exact lX5_moveReached_104 X N d k9 K9 v0 v1 h q hf nv0
      · rw [if_neg c23] at hf
        refine r_icmp_ge_f (dGet dX5_moveReached (j := 46) rfl) rfl c23 ?_
        refine r_aload_n (dGet dX5_moveReached (j := 47) rfl) nv0 rfl ?_
        obtain ⟨t24, et24, hf⟩ := Option.bind_eq_some_iff.mp hf
        refine r_getR (dGet dX5_moveReached (j := 48) rfl) F5_32 et24 ?_
        refine r_iload_n (dGet dX5_moveReached (j := 49) rfl) rfl ?_
        refine r_aload_n (dGet dX5_moveReached (j := 50) rfl) nv0 rfl ?_
        obtain ⟨t25, et25, hf⟩ := Option.bind_eq_some_iff.mp hf
        refine r_getR (dGet dX5_moveReached (j := 51) rfl) F5_28 et25 ?_
        refine r_aload_n (dGet dX5_moveReached (j := 52) rfl) nv0 rfl ?_
        obtain ⟨t26, et26, hf⟩ := Option.bind_eq_some_iff.mp hf
        refine r_getR (dGet dX5_moveReached (j := 53) rfl) F5_32 et26 ?_
        refine r_iload_n (dGet dX5_moveReached (j := 54) rfl) rfl ?_
        obtain ⟨t27, et27, hf⟩ := Option.bind_eq_some_iff.mp hf
        refine r_lald (dGet dX5_moveReached (j := 55) rfl) et27 ?_
        obtain ⟨q28, eq28, hf⟩ := Option.bind_eq_some_iff.mp hf
        refine r_virtual (dGet dX5_moveReached (j := 56) rfl) L5_265 M200 rfl rfl (Nat.le_of_ble_eq_true rfl) (oX3_moved eq28) (cX3_moved X N (d + 1) t25 t27 h q28 eq28) ?_
        obtain ⟨h29, eh29, hf⟩ := Option.bind_eq_some_iff.mp hf
        refine r_last (dGet dX5_moveReached (j := 57) rfl) eh29 ?_
        refine r_iinc (lv' := [(3, .int (v3 + (1 : Int32))), (0, .ref v0), (1, .int v1), (2, .int v2)]) (dGet dX5_moveReached (j := 58) rfl) rfl (by decide) kI_1 rfl ?_
        refine r_goto (dGet dX5_moveReached (j := 59) rfl) rfl ?_
        refine Run.weak [(0, .ref v0), (1, .int v1), (2, .int v2), (3, .int (v3 + (1 : Int32)))] (by simp) (by simp [pNd]) ?_
        exact ih v0 v1 v2 (v3 + (1 : Int32)) h29 q hf nv0
def fX5_moveReached_9 (N : Nat) : Nat → Nat → Int32 → pH → Option (pH)
  | 0, _, _, _ => none
  | n + 1, v0, v1, h => (getI h v0 5 11).bind fun t30 =>
  if t30 ≤ v1 then (
  (getR h v0 5 4).bind fun t32 =>
  (fX3_finishMoving N t32 h).bind fun h33 =>
  some h33) else (
  (getR h v0 5 10).bind fun t34 =>
  (getR h v0 5 4).bind fun t35 =>
  (getR h v0 5 10).bind fun t36 =>
  (ldJ h t36 v1).bind fun t37 =>
  (fX3_moved N t35 t37 h).bind fun q38 =>
  (stJ q38.2 t34 v1 q38.1).bind fun h39 =>
  (getR h39 v0 5 8).bind fun t40 =>
  (ldI h39 t40 v1).bind fun t41 =>
  (getR h39 v0 5 2).bind fun t42 =>
  (getR h39 t42 2 5).bind fun t43 =>
  (getR h39 v0 5 7).bind fun t44 =>
  (ldI h39 t44 v1).bind fun t45 =>
  (ldI h39 t43 t45).bind fun t46 =>
  (getR h39 v0 5 8).bind fun t47 =>
  (ldI h39 t47 v1).bind fun t48 =>
  fX5_moveReached_65 N (fX5_moveReached_9 N n) N v0 v1 (t41 + t46) t48 h39)
theorem lX5_moveReached_9 (X : pX) (N d : Nat)  : ∀ (n : Nat) (v0 : Nat) (v1 : Int32) (h : pH) (q : pH), fX5_moveReached_9 N n v0 v1 h = some q → ¬ v0 = 4 → Run X (d + 3) 5 false (pCd 6111) 5 none 9 [(0, .ref v0), (1, .int v1)] [] h 0 0 (none, q, 0, 0) := by
  intro n
  induction n with
  | zero => intro v0 v1 h q hf; cases hf
  | succ n ih =>
    intro v0 v1 h q hf nv0
    unfold fX5_moveReached_9 at hf
    refine r_iload_n (dGet dX5_moveReached (j := 5) rfl) rfl ?_
    refine r_aload_n (dGet dX5_moveReached (j := 6) rfl) nv0 rfl ?_
    obtain ⟨t30, et30, hf⟩ := Option.bind_eq_some_iff.mp hf
    refine r_getI (dGet dX5_moveReached (j := 7) rfl) F5_71 et30 ?_
    by_cases c31 : t30 ≤ v1
    · rw [if_pos c31] at hf
      refine r_icmp_ge_t (dGet dX5_moveReached (j := 8) rfl) rfl c31 ?_
      refine r_aload_n (dGet dX5_moveReached (j := 108) rfl) nv0 rfl ?_
      obtain ⟨t32, et32, hf⟩ := Option.bind_eq_some_iff.mp hf
      refine r_getR (dGet dX5_moveReached (j := 109) rfl) F5_28 et32 ?_
      obtain ⟨h33, eh33, hf⟩ := Option.bind_eq_some_iff.mp hf
      refine r_virtual (dGet dX5_moveReached (j := 110) rfl) L5_274 M201 rfl rfl (Nat.le_of_ble_eq_true rfl) (oX3_finishMoving eh33) (cX3_finishMoving X N (d + 0) t32 h h33 eh33) ?_
      cases hf
      exact r_vret (dGet dX5_moveReached (j := 111) rfl) rfl
    · rw [if_neg c31] at hf
      refine r_icmp_ge_f (dGet dX5_moveReached (j := 8) rfl) rfl c31 ?_
      refine r_aload_n (dGet dX5_moveReached (j := 9) rfl) nv0 rfl ?_
      obtain ⟨t34, et34, hf⟩ := Option.bind_eq_some_iff.mp hf
      refine r_getR (dGet dX5_moveReached (j := 10) rfl) F5_46 et34 ?_
      refine r_iload_n (dGet dX5_moveReached (j := 11) rfl) rfl ?_
      refine r_aload_n (dGet dX5_moveReached (j := 12) rfl) nv0 rfl ?_
      obtain ⟨t35, et35, hf⟩ := Option.bind_eq_some_iff.mp hf
      refine r_getR (dGet dX5_moveReached (j := 13) rfl) F5_28 et35 ?_
      refine r_aload_n (dGet dX5_moveReached (j := 14) rfl) nv0 rfl ?_
      obtain ⟨t36, et36, hf⟩ := Option.bind_eq_some_iff.mp hf
      refine r_getR (dGet dX5_moveReached (j := 15) rfl) F5_46 et36 ?_
      refine r_iload_n (dGet dX5_moveReached (j := 16) rfl) rfl ?_
      obtain ⟨t37, et37, hf⟩ := Option.bind_eq_some_iff.mp hf
      refine r_lald (dGet dX5_moveReached (j := 17) rfl) et37 ?_
      obtain ⟨q38, eq38, hf⟩ := Option.bind_eq_some_iff.mp hf
      refine r_virtual (dGet dX5_moveReached (j := 18) rfl) L5_265 M200 rfl rfl (Nat.le_of_ble_eq_true rfl) (oX3_moved eq38) (cX3_moved X N (d + 1) t35 t37 h q38 eq38) ?_
      obtain ⟨h39, eh39, hf⟩ := Option.bind_eq_some_iff.mp hf
      refine r_last (dGet dX5_moveReached (j := 19) rfl) eh39 ?_
      refine r_aload_n (dGet dX5_moveReached (j := 20) rfl) nv0 rfl ?_
      obtain ⟨t40, et40, hf⟩ := Option.bind_eq_some_iff.mp hf
      refine r_getR (dGet dX5_moveReached (j := 21) rfl) F5_40 et40 ?_
      refine r_iload_n (dGet dX5_moveReached (j := 22) rfl) rfl ?_
      obtain ⟨t41, et41, hf⟩ := Option.bind_eq_some_iff.mp hf
      refine r_iald (dGet dX5_moveReached (j := 23) rfl) et41 ?_
      refine r_aload_n (dGet dX5_moveReached (j := 24) rfl) nv0 rfl ?_
      obtain ⟨t42, et42, hf⟩ := Option.bind_eq_some_iff.mp hf
      refine r_getR (dGet dX5_moveReached (j := 25) rfl) F5_17 et42 ?_
      obtain ⟨t43, et43, hf⟩ := Option.bind_eq_some_iff.mp hf
      refine r_getR (dGet dX5_moveReached (j := 26) rfl) F5_268 et43 ?_
      refine r_aload_n (dGet dX5_moveReached (j := 27) rfl) nv0 rfl ?_
      obtain ⟨t44, et44, hf⟩ := Option.bind_eq_some_iff.mp hf
      refine r_getR (dGet dX5_moveReached (j := 28) rfl) F5_36 et44 ?_
      refine r_iload_n (dGet dX5_moveReached (j := 29) rfl) rfl ?_
      obtain ⟨t45, et45, hf⟩ := Option.bind_eq_some_iff.mp hf
      refine r_iald (dGet dX5_moveReached (j := 30) rfl) et45 ?_
      obtain ⟨t46, et46, hf⟩ := Option.bind_eq_some_iff.mp hf
      refine r_iald (dGet dX5_moveReached (j := 31) rfl) et46 ?_
      refine r_iadd (dGet dX5_moveReached (j := 32) rfl) ?_
      refine r_istore_n (lv' := [(2, .int (t41 + t46)), (0, .ref v0), (1, .int v1)]) (dGet dX5_moveReached (j := 33) rfl) (by decide) rfl ?_
      refine r_aload_n (dGet dX5_moveReached (j := 34) rfl) nv0 rfl ?_
      obtain ⟨t47, et47, hf⟩ := Option.bind_eq_some_iff.mp hf
      refine r_getR (dGet dX5_moveReached (j := 35) rfl) F5_40 et47 ?_
      refine r_iload_n (dGet dX5_moveReached (j := 36) rfl) rfl ?_
      obtain ⟨t48, et48, hf⟩ := Option.bind_eq_some_iff.mp hf
      refine r_iald (dGet dX5_moveReached (j := 37) rfl) et48 ?_
      refine r_istore_n (lv' := [(3, .int t48), (2, .int (t41 + t46)), (0, .ref v0), (1, .int v1)]) (dGet dX5_moveReached (j := 38) rfl) (by decide) rfl ?_
      refine Run.weak [(0, .ref v0), (1, .int v1), (2, .int (t41 + t46)), (3, .int t48)] (by simp) (by simp [pNd]) ?_
      exact lX5_moveReached_65 X N d (fX5_moveReached_9 N n) ih N v0 v1 (t41 + t46) t48 h39 q hf nv0
def fX5_moveReached (N : Nat) (v0 : Nat) (h : pH) : Option (pH) := if isO h v0 5 = true then (
  (getR h v0 5 4).bind fun t49 =>
  (fX3_beginMoving N t49 h).bind fun h50 =>
  fX5_moveReached_9 N N v0 (0 : Int32) h50) else none
theorem oX5_moveReached {N : Nat} {v0 : Nat} {h : pH} {q : pH} (hf : fX5_moveReached N v0 h = some q) : isO h v0 5 = true := by
  unfold fX5_moveReached at hf
  by_cases hc : isO h v0 5 = true
  · exact hc
  · rw [if_neg hc] at hf; cases hf
theorem cX5_moveReached (X : pX) (N d : Nat) (v0 : Nat) (h : pH) (q : pH) (hf : fX5_moveReached N v0 h = some q) : Calls X (d + 3) 198 [.ref v0] h (none, q, 0, 0) := by
  refine Calls.of M198 (Nat.le_of_ble_eq_true rfl) ?_
  show Run X (d + 3) 5 false (pCd 6111) 5 none 0 [(0, .ref v0)] [] h 0 0 (none, q, 0, 0)
  unfold fX5_moveReached at hf
  by_cases hc : isO h v0 5 = true
  · rw [if_pos hc] at hf
    have nv0 : ¬ v0 = 4 := isO_ne hc
    refine r_aload_n (dGet dX5_moveReached (j := 0) rfl) nv0 rfl ?_
    obtain ⟨t49, et49, hf⟩ := Option.bind_eq_some_iff.mp hf
    refine r_getR (dGet dX5_moveReached (j := 1) rfl) F5_28 et49 ?_
    obtain ⟨h50, eh50, hf⟩ := Option.bind_eq_some_iff.mp hf
    refine r_virtual (dGet dX5_moveReached (j := 2) rfl) L5_262 M199 rfl rfl (Nat.le_of_ble_eq_true rfl) (oX3_beginMoving eh50) (cX3_beginMoving X N (d + 2) t49 h h50 eh50) ?_
    refine r_iconst (dGet dX5_moveReached (j := 3) rfl) kI_0 ?_
    refine r_istore_n (lv' := [(1, .int (0 : Int32)), (0, .ref v0)]) (dGet dX5_moveReached (j := 4) rfl) (by decide) rfl ?_
    refine Run.weak [(0, .ref v0), (1, .int (0 : Int32))] (by simp) (by simp [pNd]) ?_
    exact lX5_moveReached_9 X N d N v0 (0 : Int32) h50 q hf nv0
  · rw [if_neg hc] at hf; cases hf
def eX5_cellsReached : List (Nat × Instr × Nat) := [(0, .aload_n 0, 1), (1, .getfield 52, 3), (4, .ifCond .ne 10, 3), (7, .aload_n 0, 1), (8, .getfield 71, 3), (11, .ifCond .ne 5, 3), (14, .iconst 0, 1), (15, .ireturn, 1), (16, .aload_n 0, 1), (17, .getfield 36, 3), (20, .aload_n 0, 1), (21, .getfield 71, 3), (24, .iconst 1, 1), (25, .isub, 1), (26, .aload_n 0, 1), (27, .getfield 77, 3), (30, .iastore, 1), (31, .aload_n 0, 1), (32, .invokevirtual 80, 3), (35, .aload_n 0, 1), (36, .getfield 28, 3), (39, .invokevirtual 83, 3), (42, .ireturn, 1)]
theorem dX5_cellsReached : dChk (pCd 6234) eX5_cellsReached = true := by decide +kernel
def fX5_cellsReached (N : Nat) (v0 : Nat) (h : pH) : Option (Int32 × pH) := if isO h v0 5 = true then (
  (getI h v0 5 13).bind fun t1 =>
  if t1 = 0 then (
  (getI h v0 5 11).bind fun t3 =>
  if t3 = 0 then (
  some ((0 : Int32), h)) else (
  (getR h v0 5 7).bind fun t5 =>
  (getI h v0 5 11).bind fun t6 =>
  (getI h v0 5 12).bind fun t7 =>
  (stI h t5 (t6 - (1 : Int32)) t7).bind fun h8 =>
  (fX5_moveReached N v0 h8).bind fun h9 =>
  (getR h9 v0 5 4).bind fun t10 =>
  (fX3_cellsUsed N t10 h9).bind fun q11 =>
  some (q11.1, q11.2))) else (
  some ((0 : Int32), h))) else none
theorem oX5_cellsReached {N : Nat} {v0 : Nat} {h : pH} {q : Int32 × pH} (hf : fX5_cellsReached N v0 h = some q) : isO h v0 5 = true := by
  unfold fX5_cellsReached at hf
  by_cases hc : isO h v0 5 = true
  · exact hc
  · rw [if_neg hc] at hf; cases hf
theorem cX5_cellsReached (X : pX) (N d : Nat) (v0 : Nat) (h : pH) (q : Int32 × pH) (hf : fX5_cellsReached N v0 h = some q) : Calls X (d + 4) 227 [.ref v0] h (some (.int q.1), q.2, 0, 0) := by
  refine Calls.of M227 (Nat.le_of_ble_eq_true rfl) ?_
  show Run X (d + 4) 5 false (pCd 6234) 1 (some .int) 0 [(0, .ref v0)] [] h 0 0 (some (.int q.1), q.2, 0, 0)
  unfold fX5_cellsReached at hf
  by_cases hc : isO h v0 5 = true
  · rw [if_pos hc] at hf
    have nv0 : ¬ v0 = 4 := isO_ne hc
    refine r_aload_n (dGet dX5_cellsReached (j := 0) rfl) nv0 rfl ?_
    obtain ⟨t1, et1, hf⟩ := Option.bind_eq_some_iff.mp hf
    refine r_getI (dGet dX5_cellsReached (j := 1) rfl) F5_52 et1 ?_
    by_cases c2 : t1 = 0
    · rw [if_pos c2] at hf
      refine r_if_ne_f (dGet dX5_cellsReached (j := 2) rfl) rfl c2 ?_
      refine r_aload_n (dGet dX5_cellsReached (j := 3) rfl) nv0 rfl ?_
      obtain ⟨t3, et3, hf⟩ := Option.bind_eq_some_iff.mp hf
      refine r_getI (dGet dX5_cellsReached (j := 4) rfl) F5_71 et3 ?_
      by_cases c4 : t3 = 0
      · rw [if_pos c4] at hf
        refine r_if_ne_f (dGet dX5_cellsReached (j := 5) rfl) rfl c4 ?_
        refine r_iconst (dGet dX5_cellsReached (j := 6) rfl) kI_0 ?_
        cases hf
        exact r_iret (dGet dX5_cellsReached (j := 7) rfl) rfl rfl
      · rw [if_neg c4] at hf
        refine r_if_ne_t (dGet dX5_cellsReached (j := 5) rfl) rfl c4 ?_
        refine r_aload_n (dGet dX5_cellsReached (j := 8) rfl) nv0 rfl ?_
        obtain ⟨t5, et5, hf⟩ := Option.bind_eq_some_iff.mp hf
        refine r_getR (dGet dX5_cellsReached (j := 9) rfl) F5_36 et5 ?_
        refine r_aload_n (dGet dX5_cellsReached (j := 10) rfl) nv0 rfl ?_
        obtain ⟨t6, et6, hf⟩ := Option.bind_eq_some_iff.mp hf
        refine r_getI (dGet dX5_cellsReached (j := 11) rfl) F5_71 et6 ?_
        refine r_iconst (dGet dX5_cellsReached (j := 12) rfl) kI_1 ?_
        refine r_isub (dGet dX5_cellsReached (j := 13) rfl) ?_
        refine r_aload_n (dGet dX5_cellsReached (j := 14) rfl) nv0 rfl ?_
        obtain ⟨t7, et7, hf⟩ := Option.bind_eq_some_iff.mp hf
        refine r_getI (dGet dX5_cellsReached (j := 15) rfl) F5_77 et7 ?_
        obtain ⟨h8, eh8, hf⟩ := Option.bind_eq_some_iff.mp hf
        refine r_iast (dGet dX5_cellsReached (j := 16) rfl) eh8 ?_
        refine r_aload_n (dGet dX5_cellsReached (j := 17) rfl) nv0 rfl ?_
        obtain ⟨h9, eh9, hf⟩ := Option.bind_eq_some_iff.mp hf
        refine r_virtual (dGet dX5_cellsReached (j := 18) rfl) L5_80 M198 rfl rfl (Nat.le_of_ble_eq_true rfl) (oX5_moveReached eh9) (cX5_moveReached X N (d + 0) v0 h8 h9 eh9) ?_
        refine r_aload_n (dGet dX5_cellsReached (j := 19) rfl) nv0 rfl ?_
        obtain ⟨t10, et10, hf⟩ := Option.bind_eq_some_iff.mp hf
        refine r_getR (dGet dX5_cellsReached (j := 20) rfl) F5_28 et10 ?_
        obtain ⟨q11, eq11, hf⟩ := Option.bind_eq_some_iff.mp hf
        refine r_virtual (dGet dX5_cellsReached (j := 21) rfl) L5_83 M197 rfl rfl (Nat.le_of_ble_eq_true rfl) (oX3_cellsUsed eq11) (cX3_cellsUsed X N (d + 3) t10 h9 q11 eq11) ?_
        cases hf
        exact r_iret (dGet dX5_cellsReached (j := 22) rfl) rfl rfl
    · rw [if_neg c2] at hf
      refine r_if_ne_t (dGet dX5_cellsReached (j := 2) rfl) rfl c2 ?_
      refine r_iconst (dGet dX5_cellsReached (j := 6) rfl) kI_0 ?_
      cases hf
      exact r_iret (dGet dX5_cellsReached (j := 7) rfl) rfl rfl
  · rw [if_neg hc] at hf; cases hf
def eX5_methodsOpen : List (Nat × Instr × Nat) := [(0, .aload_n 0, 1), (1, .getfield 52, 3), (4, .ifCond .ne 10, 3), (7, .aload_n 0, 1), (8, .getfield 71, 3), (11, .goto 4, 3), (14, .iconst 0, 1), (15, .ireturn, 1)]
theorem dX5_methodsOpen : dChk (pCd 6239) eX5_methodsOpen = true := by decide +kernel
def fX5_methodsOpen (N : Nat) (v0 : Nat) (h : pH) : Option (Int32 × pH) := if isO h v0 5 = true then (
  (getI h v0 5 13).bind fun t1 =>
  if t1 = 0 then (
  (getI h v0 5 11).bind fun t3 =>
  some (t3, h)) else (
  some ((0 : Int32), h))) else none
theorem oX5_methodsOpen {N : Nat} {v0 : Nat} {h : pH} {q : Int32 × pH} (hf : fX5_methodsOpen N v0 h = some q) : isO h v0 5 = true := by
  unfold fX5_methodsOpen at hf
  by_cases hc : isO h v0 5 = true
  · exact hc
  · rw [if_neg hc] at hf; cases hf
theorem cX5_methodsOpen (X : pX) (N d : Nat) (v0 : Nat) (h : pH) (q : Int32 × pH) (hf : fX5_methodsOpen N v0 h = some q) : Calls X (d + 0) 228 [.ref v0] h (some (.int q.1), q.2, 0, 0) := by
  refine Calls.of M228 (Nat.le_of_ble_eq_true rfl) ?_
  show Run X (d + 0) 5 false (pCd 6239) 1 (some .int) 0 [(0, .ref v0)] [] h 0 0 (some (.int q.1), q.2, 0, 0)
  unfold fX5_methodsOpen at hf
  by_cases hc : isO h v0 5 = true
  · rw [if_pos hc] at hf
    have nv0 : ¬ v0 = 4 := isO_ne hc
    refine r_aload_n (dGet dX5_methodsOpen (j := 0) rfl) nv0 rfl ?_
    obtain ⟨t1, et1, hf⟩ := Option.bind_eq_some_iff.mp hf
    refine r_getI (dGet dX5_methodsOpen (j := 1) rfl) F5_52 et1 ?_
    by_cases c2 : t1 = 0
    · rw [if_pos c2] at hf
      refine r_if_ne_f (dGet dX5_methodsOpen (j := 2) rfl) rfl c2 ?_
      refine r_aload_n (dGet dX5_methodsOpen (j := 3) rfl) nv0 rfl ?_
      obtain ⟨t3, et3, hf⟩ := Option.bind_eq_some_iff.mp hf
      refine r_getI (dGet dX5_methodsOpen (j := 4) rfl) F5_71 et3 ?_
      refine r_goto (dGet dX5_methodsOpen (j := 5) rfl) rfl ?_
      cases hf
      exact r_iret (dGet dX5_methodsOpen (j := 7) rfl) rfl rfl
    · rw [if_neg c2] at hf
      refine r_if_ne_t (dGet dX5_methodsOpen (j := 2) rfl) rfl c2 ?_
      refine r_iconst (dGet dX5_methodsOpen (j := 6) rfl) kI_0 ?_
      cases hf
      exact r_iret (dGet dX5_methodsOpen (j := 7) rfl) rfl rfl
  · rw [if_neg hc] at hf; cases hf
def eX5_printedAt : List (Nat × Instr × Nat) := [(0, .iload_n 1, 1), (1, .ifCond .lt 27, 3), (4, .iload_n 1, 1), (5, .aload_n 0, 1), (6, .getfield 68, 3), (9, .if_icmp .ge 19, 3), (12, .iload_n 1, 1), (13, .sipush 500, 3), (16, .if_icmp .ge 12, 3), (19, .aload_n 0, 1), (20, .getfield 49, 3), (23, .iload_n 1, 1), (24, .iaload, 1), (25, .goto 4, 3), (28, .iconst 0, 1), (29, .ireturn, 1)]
theorem dX5_printedAt : dChk (pCd 6226) eX5_printedAt = true := by decide +kernel
def fX5_printedAt (N : Nat) (v0 : Nat) (v1 : Int32) (h : pH) : Option (Int32 × pH) := if isO h v0 5 = true then (
  if v1 < 0 then (
  some ((0 : Int32), h)) else (
  (getI h v0 5 19).bind fun t2 =>
  if t2 ≤ v1 then (
  some ((0 : Int32), h)) else (
  if (500 : Int32) ≤ v1 then (
  some ((0 : Int32), h)) else (
  (getR h v0 5 18).bind fun t5 =>
  (ldI h t5 v1).bind fun t6 =>
  some (t6, h))))) else none
theorem oX5_printedAt {N : Nat} {v0 : Nat} {v1 : Int32} {h : pH} {q : Int32 × pH} (hf : fX5_printedAt N v0 v1 h = some q) : isO h v0 5 = true := by
  unfold fX5_printedAt at hf
  by_cases hc : isO h v0 5 = true
  · exact hc
  · rw [if_neg hc] at hf; cases hf
theorem cX5_printedAt (X : pX) (N d : Nat) (v0 : Nat) (v1 : Int32) (h : pH) (q : Int32 × pH) (hf : fX5_printedAt N v0 v1 h = some q) : Calls X (d + 0) 225 [.ref v0, .int v1] h (some (.int q.1), q.2, 0, 0) := by
  refine Calls.of M225 (Nat.le_of_ble_eq_true rfl) ?_
  show Run X (d + 0) 5 false (pCd 6226) 2 (some .int) 0 [(0, .ref v0), (1, .int v1)] [] h 0 0 (some (.int q.1), q.2, 0, 0)
  unfold fX5_printedAt at hf
  by_cases hc : isO h v0 5 = true
  · rw [if_pos hc] at hf
    have nv0 : ¬ v0 = 4 := isO_ne hc
    refine r_iload_n (dGet dX5_printedAt (j := 0) rfl) rfl ?_
    by_cases c1 : v1 < 0
    · rw [if_pos c1] at hf
      refine r_if_lt_t (dGet dX5_printedAt (j := 1) rfl) rfl c1 ?_
      refine r_iconst (dGet dX5_printedAt (j := 14) rfl) kI_0 ?_
      cases hf
      exact r_iret (dGet dX5_printedAt (j := 15) rfl) rfl rfl
    · rw [if_neg c1] at hf
      refine r_if_lt_f (dGet dX5_printedAt (j := 1) rfl) rfl c1 ?_
      refine r_iload_n (dGet dX5_printedAt (j := 2) rfl) rfl ?_
      refine r_aload_n (dGet dX5_printedAt (j := 3) rfl) nv0 rfl ?_
      obtain ⟨t2, et2, hf⟩ := Option.bind_eq_some_iff.mp hf
      refine r_getI (dGet dX5_printedAt (j := 4) rfl) F5_68 et2 ?_
      by_cases c3 : t2 ≤ v1
      · rw [if_pos c3] at hf
        refine r_icmp_ge_t (dGet dX5_printedAt (j := 5) rfl) rfl c3 ?_
        refine r_iconst (dGet dX5_printedAt (j := 14) rfl) kI_0 ?_
        cases hf
        exact r_iret (dGet dX5_printedAt (j := 15) rfl) rfl rfl
      · rw [if_neg c3] at hf
        refine r_icmp_ge_f (dGet dX5_printedAt (j := 5) rfl) rfl c3 ?_
        refine r_iload_n (dGet dX5_printedAt (j := 6) rfl) rfl ?_
        refine r_sipush (dGet dX5_printedAt (j := 7) rfl) kS_500 ?_
        by_cases c4 : (500 : Int32) ≤ v1
        · rw [if_pos c4] at hf
          refine r_icmp_ge_t (dGet dX5_printedAt (j := 8) rfl) rfl c4 ?_
          refine r_iconst (dGet dX5_printedAt (j := 14) rfl) kI_0 ?_
          cases hf
          exact r_iret (dGet dX5_printedAt (j := 15) rfl) rfl rfl
        · rw [if_neg c4] at hf
          refine r_icmp_ge_f (dGet dX5_printedAt (j := 8) rfl) rfl c4 ?_
          refine r_aload_n (dGet dX5_printedAt (j := 9) rfl) nv0 rfl ?_
          obtain ⟨t5, et5, hf⟩ := Option.bind_eq_some_iff.mp hf
          refine r_getR (dGet dX5_printedAt (j := 10) rfl) F5_49 et5 ?_
          refine r_iload_n (dGet dX5_printedAt (j := 11) rfl) rfl ?_
          obtain ⟨t6, et6, hf⟩ := Option.bind_eq_some_iff.mp hf
          refine r_iald (dGet dX5_printedAt (j := 12) rfl) et6 ?_
          refine r_goto (dGet dX5_printedAt (j := 13) rfl) rfl ?_
          cases hf
          exact r_iret (dGet dX5_printedAt (j := 15) rfl) rfl rfl
  · rw [if_neg hc] at hf; cases hf
def eX5_forget : List (Nat × Instr × Nat) := [(0, .aload_n 0, 1), (1, .iconst (-1), 1), (2, .putfield 52, 3), (5, .aload_n 0, 1), (6, .iconst 0, 1), (7, .putfield 56, 3), (10, .aload_n 0, 1), (11, .iconst 0, 1), (12, .putfield 59, 3), (15, .aload_n 0, 1), (16, .iconst 0, 1), (17, .putfield 62, 3), (20, .aload_n 0, 1), (21, .iconst 0, 1), (22, .putfield 65, 3), (25, .aload_n 0, 1), (26, .iconst 0, 1), (27, .putfield 68, 3), (30, .aload_n 0, 1), (31, .iconst 0, 1), (32, .putfield 71, 3), (35, .aload_n 0, 1), (36, .iconst 0, 1), (37, .putfield 74, 3), (40, .aload_n 0, 1), (41, .iconst 0, 1), (42, .putfield 77, 3), (45, .return_, 1)]
theorem dX5_forget : dChk (pCd 3078) eX5_forget = true := by decide +kernel
def fX5_forget (N : Nat) (v0 : Nat) (h : pH) : Option (pH) := if isO h v0 5 = true then (
  (putI h v0 5 13 (-1 : Int32)).bind fun h1 =>
  (putI h1 v0 5 14 (0 : Int32)).bind fun h2 =>
  (putI h2 v0 5 15 (0 : Int32)).bind fun h3 =>
  (putI h3 v0 5 16 (0 : Int32)).bind fun h4 =>
  (putI h4 v0 5 17 (0 : Int32)).bind fun h5 =>
  (putI h5 v0 5 19 (0 : Int32)).bind fun h6 =>
  (putI h6 v0 5 11 (0 : Int32)).bind fun h7 =>
  (putI h7 v0 5 6 (0 : Int32)).bind fun h8 =>
  (putI h8 v0 5 12 (0 : Int32)).bind fun h9 =>
  some h9) else none
theorem oX5_forget {N : Nat} {v0 : Nat} {h : pH} {q : pH} (hf : fX5_forget N v0 h = some q) : isO h v0 5 = true := by
  unfold fX5_forget at hf
  by_cases hc : isO h v0 5 = true
  · exact hc
  · rw [if_neg hc] at hf; cases hf
theorem cX5_forget (X : pX) (N d : Nat) (v0 : Nat) (h : pH) (q : pH) (hf : fX5_forget N v0 h = some q) : Calls X (d + 0) 18 [.ref v0] h (none, q, 0, 0) := by
  refine Calls.of M18 (Nat.le_of_ble_eq_true rfl) ?_
  show Run X (d + 0) 5 false (pCd 3078) 1 none 0 [(0, .ref v0)] [] h 0 0 (none, q, 0, 0)
  unfold fX5_forget at hf
  by_cases hc : isO h v0 5 = true
  · rw [if_pos hc] at hf
    have nv0 : ¬ v0 = 4 := isO_ne hc
    refine r_aload_n (dGet dX5_forget (j := 0) rfl) nv0 rfl ?_
    refine r_iconst (dGet dX5_forget (j := 1) rfl) kI_m1 ?_
    obtain ⟨h1, eh1, hf⟩ := Option.bind_eq_some_iff.mp hf
    refine r_putI (dGet dX5_forget (j := 2) rfl) F5_52 rfl rfl eh1 ?_
    refine r_aload_n (dGet dX5_forget (j := 3) rfl) nv0 rfl ?_
    refine r_iconst (dGet dX5_forget (j := 4) rfl) kI_0 ?_
    obtain ⟨h2, eh2, hf⟩ := Option.bind_eq_some_iff.mp hf
    refine r_putI (dGet dX5_forget (j := 5) rfl) F5_56 rfl rfl eh2 ?_
    refine r_aload_n (dGet dX5_forget (j := 6) rfl) nv0 rfl ?_
    refine r_iconst (dGet dX5_forget (j := 7) rfl) kI_0 ?_
    obtain ⟨h3, eh3, hf⟩ := Option.bind_eq_some_iff.mp hf
    refine r_putI (dGet dX5_forget (j := 8) rfl) F5_59 rfl rfl eh3 ?_
    refine r_aload_n (dGet dX5_forget (j := 9) rfl) nv0 rfl ?_
    refine r_iconst (dGet dX5_forget (j := 10) rfl) kI_0 ?_
    obtain ⟨h4, eh4, hf⟩ := Option.bind_eq_some_iff.mp hf
    refine r_putI (dGet dX5_forget (j := 11) rfl) F5_62 rfl rfl eh4 ?_
    refine r_aload_n (dGet dX5_forget (j := 12) rfl) nv0 rfl ?_
    refine r_iconst (dGet dX5_forget (j := 13) rfl) kI_0 ?_
    obtain ⟨h5, eh5, hf⟩ := Option.bind_eq_some_iff.mp hf
    refine r_putI (dGet dX5_forget (j := 14) rfl) F5_65 rfl rfl eh5 ?_
    refine r_aload_n (dGet dX5_forget (j := 15) rfl) nv0 rfl ?_
    refine r_iconst (dGet dX5_forget (j := 16) rfl) kI_0 ?_
    obtain ⟨h6, eh6, hf⟩ := Option.bind_eq_some_iff.mp hf
    refine r_putI (dGet dX5_forget (j := 17) rfl) F5_68 rfl rfl eh6 ?_
    refine r_aload_n (dGet dX5_forget (j := 18) rfl) nv0 rfl ?_
    refine r_iconst (dGet dX5_forget (j := 19) rfl) kI_0 ?_
    obtain ⟨h7, eh7, hf⟩ := Option.bind_eq_some_iff.mp hf
    refine r_putI (dGet dX5_forget (j := 20) rfl) F5_71 rfl rfl eh7 ?_
    refine r_aload_n (dGet dX5_forget (j := 21) rfl) nv0 rfl ?_
    refine r_iconst (dGet dX5_forget (j := 22) rfl) kI_0 ?_
    obtain ⟨h8, eh8, hf⟩ := Option.bind_eq_some_iff.mp hf
    refine r_putI (dGet dX5_forget (j := 23) rfl) F5_74 rfl rfl eh8 ?_
    refine r_aload_n (dGet dX5_forget (j := 24) rfl) nv0 rfl ?_
    refine r_iconst (dGet dX5_forget (j := 25) rfl) kI_0 ?_
    obtain ⟨h9, eh9, hf⟩ := Option.bind_eq_some_iff.mp hf
    refine r_putI (dGet dX5_forget (j := 26) rfl) F5_77 rfl rfl eh9 ?_
    cases hf
    exact r_vret (dGet dX5_forget (j := 27) rfl) rfl
  · rw [if_neg hc] at hf; cases hf
def eX5_growPile : List (Nat × Instr × Nat) := [(0, .iload_n 1, 1), (1, .aload_n 0, 1), (2, .getfield 32, 3), (5, .arraylength, 1), (6, .if_icmp .le 38, 3), (9, .iload_n 1, 1), (10, .ldc_w 297, 3), (13, .if_icmp .gt 31, 3), (16, .aload_n 0, 1), (17, .aload_n 0, 1), (18, .getfield 32, 3), (21, .iload_n 1, 1), (22, .aload_n 0, 1), (23, .getfield 32, 3), (26, .arraylength, 1), (27, .iconst 2, 1), (28, .imul, 1), (29, .invokestatic 107, 3), (32, .ldc_w 297, 3), (35, .invokestatic 149, 3), (38, .invokestatic 298, 3), (41, .putfield 32, 3), (44, .return_, 1)]
theorem dX5_growPile : dChk (pCd 6011) eX5_growPile = true := by decide +kernel
def fX5_growPile (N : Nat) (v0 : Nat) (v1 : Int32) (h : pH) : Option (pH × Nat × Nat) := if isO h v0 5 = true then (
  (getR h v0 5 5).bind fun t1 =>
  (lenA h t1).bind fun t2 =>
  if v1 ≤ t2 then (
  some (h, 0, 0)) else (
  if (400000 : Int32) < v1 then (
  some (h, 0, 0)) else (
  (getR h v0 5 5).bind fun t5 =>
  (getR h v0 5 5).bind fun t6 =>
  (lenA h t6).bind fun t7 =>
  (fJ7_copyOf_c38d5 N t5 (if (400000 : Int32) < (if v1 < (t7 * (2 : Int32)) then (t7 * (2 : Int32)) else v1) then (400000 : Int32) else (if v1 < (t7 * (2 : Int32)) then (t7 * (2 : Int32)) else v1)) h).bind fun q8 =>
  (putR q8.2.1 v0 5 5 q8.1).bind fun h9 =>
  some (h9, (0 + q8.2.2.1), (0 + q8.2.2.2))))) else none
theorem oX5_growPile {N : Nat} {v0 : Nat} {v1 : Int32} {h : pH} {q : pH × Nat × Nat} (hf : fX5_growPile N v0 v1 h = some q) : isO h v0 5 = true := by
  unfold fX5_growPile at hf
  by_cases hc : isO h v0 5 = true
  · exact hc
  · rw [if_neg hc] at hf; cases hf
theorem cX5_growPile (X : pX) (N d : Nat) (v0 : Nat) (v1 : Int32) (h : pH) (q : pH × Nat × Nat) (hf : fX5_growPile N v0 v1 h = some q) : Calls X (d + 2) 176 [.ref v0, .int v1] h (none, q.1, q.2.1, q.2.2) := by
  refine Calls.of M176 (Nat.le_of_ble_eq_true rfl) ?_
  show Run X (d + 2) 5 false (pCd 6011) 2 none 0 [(0, .ref v0), (1, .int v1)] [] h 0 0 (none, q.1, q.2.1, q.2.2)
  unfold fX5_growPile at hf
  by_cases hc : isO h v0 5 = true
  · rw [if_pos hc] at hf
    have nv0 : ¬ v0 = 4 := isO_ne hc
    refine r_iload_n (dGet dX5_growPile (j := 0) rfl) rfl ?_
    refine r_aload_n (dGet dX5_growPile (j := 1) rfl) nv0 rfl ?_
    obtain ⟨t1, et1, hf⟩ := Option.bind_eq_some_iff.mp hf
    refine r_getR (dGet dX5_growPile (j := 2) rfl) F5_32 et1 ?_
    obtain ⟨t2, et2, hf⟩ := Option.bind_eq_some_iff.mp hf
    refine r_alen (dGet dX5_growPile (j := 3) rfl) et2 ?_
    by_cases c3 : v1 ≤ t2
    · rw [if_pos c3] at hf
      refine r_icmp_le_t (dGet dX5_growPile (j := 4) rfl) rfl c3 ?_
      cases hf
      exact r_vret (dGet dX5_growPile (j := 22) rfl) rfl
    · rw [if_neg c3] at hf
      refine r_icmp_le_f (dGet dX5_growPile (j := 4) rfl) rfl c3 ?_
      refine r_iload_n (dGet dX5_growPile (j := 5) rfl) rfl ?_
      refine r_ldcw (v := 400000) (dGet dX5_growPile (j := 6) rfl) (by decide +kernel : pFind pKi 5 297 = some (400000, 6012)) ?_
      by_cases c4 : (400000 : Int32) < v1
      · rw [if_pos c4] at hf
        refine r_icmp_gt_t (dGet dX5_growPile (j := 7) rfl) rfl c4 ?_
        cases hf
        exact r_vret (dGet dX5_growPile (j := 22) rfl) rfl
      · rw [if_neg c4] at hf
        refine r_icmp_gt_f (dGet dX5_growPile (j := 7) rfl) rfl c4 ?_
        refine r_aload_n (dGet dX5_growPile (j := 8) rfl) nv0 rfl ?_
        refine r_aload_n (dGet dX5_growPile (j := 9) rfl) nv0 rfl ?_
        obtain ⟨t5, et5, hf⟩ := Option.bind_eq_some_iff.mp hf
        refine r_getR (dGet dX5_growPile (j := 10) rfl) F5_32 et5 ?_
        refine r_iload_n (dGet dX5_growPile (j := 11) rfl) rfl ?_
        refine r_aload_n (dGet dX5_growPile (j := 12) rfl) nv0 rfl ?_
        obtain ⟨t6, et6, hf⟩ := Option.bind_eq_some_iff.mp hf
        refine r_getR (dGet dX5_growPile (j := 13) rfl) F5_32 et6 ?_
        obtain ⟨t7, et7, hf⟩ := Option.bind_eq_some_iff.mp hf
        refine r_alen (dGet dX5_growPile (j := 14) rfl) et7 ?_
        refine r_iconst (dGet dX5_growPile (j := 15) rfl) kI_2 ?_
        refine r_imul (dGet dX5_growPile (j := 16) rfl) ?_
        refine r_max (dGet dX5_growPile (j := 17) rfl) (by decide +kernel) (by decide +kernel : pFind pMx 5 107 = some (0, 5223)) (Nat.le_of_ble_eq_true rfl) ?_
        refine r_ldcw (v := 400000) (dGet dX5_growPile (j := 18) rfl) (by decide +kernel : pFind pKi 5 297 = some (400000, 6012)) ?_
        refine r_min (dGet dX5_growPile (j := 19) rfl) (by decide +kernel) (by decide +kernel : pFind pMx 5 149 = some (1, 6013)) (Nat.le_of_ble_eq_true rfl) ?_
        obtain ⟨q8, eq8, hf⟩ := Option.bind_eq_some_iff.mp hf
        refine r_static (dGet dX5_growPile (j := 20) rfl) (by decide +kernel) (by decide +kernel) L5_298 M177 rfl rfl (Nat.le_of_ble_eq_true rfl) (cJ7_copyOf_c38d5 X N (d + 0) t5 (if (400000 : Int32) < (if v1 < (t7 * (2 : Int32)) then (t7 * (2 : Int32)) else v1) then (400000 : Int32) else (if v1 < (t7 * (2 : Int32)) then (t7 * (2 : Int32)) else v1)) h q8 eq8) ?_
        obtain ⟨h9, eh9, hf⟩ := Option.bind_eq_some_iff.mp hf
        refine r_putR (dGet dX5_growPile (j := 21) rfl) F5_32 rfl rfl eh9 ?_
        cases hf
        exact r_vret (dGet dX5_growPile (j := 22) rfl) rfl
  · rw [if_neg hc] at hf; cases hf
def eX5_openMethod : List (Nat × Instr × Nat) := [(0, .aload_n 0, 1), (1, .getfield 74, 3), (4, .iload_n 2, 1), (5, .isub, 1), (6, .istore_n 3, 1), (7, .aload_n 0, 1), (8, .getfield 71, 3), (11, .bipush 100, 2), (13, .if_icmp .ge 12, 3), (16, .iload_n 1, 1), (17, .ifCond .lt 8, 3), (20, .iload_n 3, 1), (21, .iconst 1, 1), (22, .if_icmp .ge 9, 3), (25, .aload_n 0, 1), (26, .iconst 4, 1), (27, .putfield 52, 3), (30, .return_, 1), (31, .iload_n 3, 1), (32, .aload_n 0, 1), (33, .getfield 13, 3), (36, .getfield 271, 3), (39, .iload_n 1, 1), (40, .iaload, 1), (41, .iadd, 1), (42, .istore 4, 2), (44, .aload_n 0, 1), (45, .iload 4, 2), (47, .aload_n 0, 1), (48, .getfield 13, 3), (51, .getfield 289, 3), (54, .iload_n 1, 1), (55, .iaload, 1), (56, .iadd, 1), (57, .iconst 1, 1), (58, .iadd, 1), (59, .invokevirtual 291, 3), (62, .iload 4, 2), (64, .aload_n 0, 1), (65, .getfield 32, 3), (68, .arraylength, 1), (69, .if_icmp .lt 9, 3), (72, .aload_n 0, 1), (73, .iconst 4, 1), (74, .putfield 52, 3), (77, .return_, 1), (78, .aload_n 0, 1), (79, .getfield 40, 3), (82, .aload_n 0, 1), (83, .getfield 71, 3), (86, .iload_n 3, 1), (87, .iastore, 1), (88, .aload_n 0, 1), (89, .getfield 43, 3), (92, .aload_n 0, 1), (93, .getfield 71, 3), (96, .iload_n 1, 1), (97, .iastore, 1), (98, .aload_n 0, 1), (99, .getfield 46, 3), (102, .aload_n 0, 1), (103, .getfield 71, 3), (106, .aload_n 0, 1), (107, .getfield 32, 3), (110, .iload_n 3, 1), (111, .iconst 1, 1), (112, .isub, 1), (113, .laload, 1), (114, .lastore, 1), (115, .aload_n 0, 1), (116, .dup, 1), (117, .getfield 71, 3), (120, .iconst 1, 1), (121, .iadd, 1), (122, .putfield 71, 3), (125, .aload_n 0, 1), (126, .iload 4, 2), (128, .putfield 74, 3), (131, .aload_n 0, 1), (132, .aload_n 0, 1), (133, .getfield 13, 3), (136, .getfield 294, 3), (139, .iload_n 1, 1), (140, .iaload, 1), (141, .putfield 77, 3), (144, .return_, 1)]
theorem dX5_openMethod : dChk (pCd 6007) eX5_openMethod = true := by decide +kernel
def fX5_openMethod_25 (N : Nat) (v0 : Nat) (nc : Nat) (ns : Nat) (h : pH) : Option (pH × Nat × Nat) :=
  (putI h v0 5 13 (4 : Int32)).bind fun h1 =>
  some (h1, nc, ns)
theorem lX5_openMethod_25 (X : pX) (N d : Nat)  (v0 : Nat) (nc : Nat) (ns : Nat) (h : pH) (q : pH × Nat × Nat) (hf : fX5_openMethod_25 N v0 nc ns h = some q) (nv0 : ¬ v0 = 4) : Run X (d + 3) 5 false (pCd 6007) 5 none 25 [(0, .ref v0)] [] h nc ns (none, q.1, q.2.1, q.2.2) := by
  unfold fX5_openMethod_25 at hf
  refine r_aload_n (dGet dX5_openMethod (j := 14) rfl) nv0 rfl ?_
  refine r_iconst (dGet dX5_openMethod (j := 15) rfl) kI_4 ?_
  obtain ⟨h1, eh1, hf⟩ := Option.bind_eq_some_iff.mp hf
  refine r_putI (dGet dX5_openMethod (j := 16) rfl) F5_52 rfl rfl eh1 ?_
  cases hf
  exact r_vret (dGet dX5_openMethod (j := 17) rfl) rfl
def fX5_openMethod (N : Nat) (v0 : Nat) (v1 : Int32) (v2 : Int32) (h : pH) : Option (pH × Nat × Nat) := if isO h v0 5 = true then (
  (getI h v0 5 6).bind fun t2 =>
  (getI h v0 5 11).bind fun t3 =>
  if (100 : Int32) ≤ t3 then (
  fX5_openMethod_25 N v0 0 0 h) else (
  if v1 < 0 then (
  fX5_openMethod_25 N v0 0 0 h) else (
  if (1 : Int32) ≤ (t2 - v2) then (
  (getR h v0 5 1).bind fun t7 =>
  (getR h t7 6 9).bind fun t8 =>
  (ldI h t8 v1).bind fun t9 =>
  (getR h v0 5 1).bind fun t10 =>
  (getR h t10 6 10).bind fun t11 =>
  (ldI h t11 v1).bind fun t12 =>
  (fX5_growPile N v0 ((((t2 - v2) + t9) + t12) + (1 : Int32)) h).bind fun q13 =>
  (getR q13.1 v0 5 5).bind fun t14 =>
  (lenA q13.1 t14).bind fun t15 =>
  if ((t2 - v2) + t9) < t15 then (
  (getR q13.1 v0 5 8).bind fun t17 =>
  (getI q13.1 v0 5 11).bind fun t18 =>
  (stI q13.1 t17 t18 (t2 - v2)).bind fun h19 =>
  (getR h19 v0 5 9).bind fun t20 =>
  (getI h19 v0 5 11).bind fun t21 =>
  (stI h19 t20 t21 v1).bind fun h22 =>
  (getR h22 v0 5 10).bind fun t23 =>
  (getI h22 v0 5 11).bind fun t24 =>
  (getR h22 v0 5 5).bind fun t25 =>
  (ldJ h22 t25 ((t2 - v2) - (1 : Int32))).bind fun t26 =>
  (stJ h22 t23 t24 t26).bind fun h27 =>
  (getI h27 v0 5 11).bind fun t28 =>
  (putI h27 v0 5 11 (t28 + (1 : Int32))).bind fun h29 =>
  (putI h29 v0 5 6 ((t2 - v2) + t9)).bind fun h30 =>
  (getR h30 v0 5 1).bind fun t31 =>
  (getR h30 t31 6 8).bind fun t32 =>
  (ldI h30 t32 v1).bind fun t33 =>
  (putI h30 v0 5 12 t33).bind fun h34 =>
  some (h34, (0 + q13.2.1), (0 + q13.2.2))) else (
  (putI q13.1 v0 5 13 (4 : Int32)).bind fun h35 =>
  some (h35, (0 + q13.2.1), (0 + q13.2.2)))) else (
  fX5_openMethod_25 N v0 0 0 h)))) else none
theorem oX5_openMethod {N : Nat} {v0 : Nat} {v1 : Int32} {v2 : Int32} {h : pH} {q : pH × Nat × Nat} (hf : fX5_openMethod N v0 v1 v2 h = some q) : isO h v0 5 = true := by
  unfold fX5_openMethod at hf
  by_cases hc : isO h v0 5 = true
  · exact hc
  · rw [if_neg hc] at hf; cases hf
theorem cX5_openMethod (X : pX) (N d : Nat) (v0 : Nat) (v1 : Int32) (v2 : Int32) (h : pH) (q : pH × Nat × Nat) (hf : fX5_openMethod N v0 v1 v2 h = some q) : Calls X (d + 3) 175 [.ref v0, .int v1, .int v2] h (none, q.1, q.2.1, q.2.2) := by
  refine Calls.of M175 (Nat.le_of_ble_eq_true rfl) ?_
  show Run X (d + 3) 5 false (pCd 6007) 5 none 0 [(0, .ref v0), (1, .int v1), (2, .int v2)] [] h 0 0 (none, q.1, q.2.1, q.2.2)
  unfold fX5_openMethod at hf
  by_cases hc : isO h v0 5 = true
  · rw [if_pos hc] at hf
    have nv0 : ¬ v0 = 4 := isO_ne hc
    refine r_aload_n (dGet dX5_openMethod (j := 0) rfl) nv0 rfl ?_
    obtain ⟨t2, et2, hf⟩ := Option.bind_eq_some_iff.mp hf
    refine r_getI (dGet dX5_openMethod (j := 1) rfl) F5_74 et2 ?_
    refine r_iload_n (dGet dX5_openMethod (j := 2) rfl) rfl ?_
    refine r_isub (dGet dX5_openMethod (j := 3) rfl) ?_
    refine r_istore_n (lv' := [(3, .int (t2 - v2)), (0, .ref v0), (1, .int v1), (2, .int v2)]) (dGet dX5_openMethod (j := 4) rfl) (by decide) rfl ?_
    refine r_aload_n (dGet dX5_openMethod (j := 5) rfl) nv0 rfl ?_
    obtain ⟨t3, et3, hf⟩ := Option.bind_eq_some_iff.mp hf
    refine r_getI (dGet dX5_openMethod (j := 6) rfl) F5_71 et3 ?_
    refine r_bipush (dGet dX5_openMethod (j := 7) rfl) kB_100 ?_
    by_cases c4 : (100 : Int32) ≤ t3
    · rw [if_pos c4] at hf
      refine r_icmp_ge_t (dGet dX5_openMethod (j := 8) rfl) rfl c4 ?_
      refine Run.weak [(0, .ref v0)] (by simp) (by simp [pNd]) ?_
      exact lX5_openMethod_25 X N d v0 0 0 h q hf nv0
    · rw [if_neg c4] at hf
      refine r_icmp_ge_f (dGet dX5_openMethod (j := 8) rfl) rfl c4 ?_
      refine r_iload_n (dGet dX5_openMethod (j := 9) rfl) rfl ?_
      by_cases c5 : v1 < 0
      · rw [if_pos c5] at hf
        refine r_if_lt_t (dGet dX5_openMethod (j := 10) rfl) rfl c5 ?_
        refine Run.weak [(0, .ref v0)] (by simp) (by simp [pNd]) ?_
        exact lX5_openMethod_25 X N d v0 0 0 h q hf nv0
      · rw [if_neg c5] at hf
        refine r_if_lt_f (dGet dX5_openMethod (j := 10) rfl) rfl c5 ?_
        refine r_iload_n (dGet dX5_openMethod (j := 11) rfl) rfl ?_
        refine r_iconst (dGet dX5_openMethod (j := 12) rfl) kI_1 ?_
        by_cases c6 : (1 : Int32) ≤ (t2 - v2)
        · rw [if_pos c6] at hf
          refine r_icmp_ge_t (dGet dX5_openMethod (j := 13) rfl) rfl c6 ?_
          refine r_iload_n (dGet dX5_openMethod (j := 18) rfl) rfl ?_
          refine r_aload_n (dGet dX5_openMethod (j := 19) rfl) nv0 rfl ?_
          obtain ⟨t7, et7, hf⟩ := Option.bind_eq_some_iff.mp hf
          refine r_getR (dGet dX5_openMethod (j := 20) rfl) F5_13 et7 ?_
          obtain ⟨t8, et8, hf⟩ := Option.bind_eq_some_iff.mp hf
          refine r_getR (dGet dX5_openMethod (j := 21) rfl) F5_271 et8 ?_
          refine r_iload_n (dGet dX5_openMethod (j := 22) rfl) rfl ?_
          obtain ⟨t9, et9, hf⟩ := Option.bind_eq_some_iff.mp hf
          refine r_iald (dGet dX5_openMethod (j := 23) rfl) et9 ?_
          refine r_iadd (dGet dX5_openMethod (j := 24) rfl) ?_
          refine r_istore (lv' := [(4, .int ((t2 - v2) + t9)), (3, .int (t2 - v2)), (0, .ref v0), (1, .int v1), (2, .int v2)]) (dGet dX5_openMethod (j := 25) rfl) (by decide) rfl ?_
          refine r_aload_n (dGet dX5_openMethod (j := 26) rfl) nv0 rfl ?_
          refine r_iload (dGet dX5_openMethod (j := 27) rfl) rfl ?_
          refine r_aload_n (dGet dX5_openMethod (j := 28) rfl) nv0 rfl ?_
          obtain ⟨t10, et10, hf⟩ := Option.bind_eq_some_iff.mp hf
          refine r_getR (dGet dX5_openMethod (j := 29) rfl) F5_13 et10 ?_
          obtain ⟨t11, et11, hf⟩ := Option.bind_eq_some_iff.mp hf
          refine r_getR (dGet dX5_openMethod (j := 30) rfl) F5_289 et11 ?_
          refine r_iload_n (dGet dX5_openMethod (j := 31) rfl) rfl ?_
          obtain ⟨t12, et12, hf⟩ := Option.bind_eq_some_iff.mp hf
          refine r_iald (dGet dX5_openMethod (j := 32) rfl) et12 ?_
          refine r_iadd (dGet dX5_openMethod (j := 33) rfl) ?_
          refine r_iconst (dGet dX5_openMethod (j := 34) rfl) kI_1 ?_
          refine r_iadd (dGet dX5_openMethod (j := 35) rfl) ?_
          obtain ⟨q13, eq13, hf⟩ := Option.bind_eq_some_iff.mp hf
          refine r_virtual (dGet dX5_openMethod (j := 36) rfl) L5_291 M176 rfl rfl (Nat.le_of_ble_eq_true rfl) (oX5_growPile eq13) (cX5_growPile X N (d + 0) v0 ((((t2 - v2) + t9) + t12) + (1 : Int32)) h q13 eq13) ?_
          refine r_iload (dGet dX5_openMethod (j := 37) rfl) rfl ?_
          refine r_aload_n (dGet dX5_openMethod (j := 38) rfl) nv0 rfl ?_
          obtain ⟨t14, et14, hf⟩ := Option.bind_eq_some_iff.mp hf
          refine r_getR (dGet dX5_openMethod (j := 39) rfl) F5_32 et14 ?_
          obtain ⟨t15, et15, hf⟩ := Option.bind_eq_some_iff.mp hf
          refine r_alen (dGet dX5_openMethod (j := 40) rfl) et15 ?_
          by_cases c16 : ((t2 - v2) + t9) < t15
          · rw [if_pos c16] at hf
            refine r_icmp_lt_t (dGet dX5_openMethod (j := 41) rfl) rfl c16 ?_
            refine r_aload_n (dGet dX5_openMethod (j := 46) rfl) nv0 rfl ?_
            obtain ⟨t17, et17, hf⟩ := Option.bind_eq_some_iff.mp hf
            refine r_getR (dGet dX5_openMethod (j := 47) rfl) F5_40 et17 ?_
            refine r_aload_n (dGet dX5_openMethod (j := 48) rfl) nv0 rfl ?_
            obtain ⟨t18, et18, hf⟩ := Option.bind_eq_some_iff.mp hf
            refine r_getI (dGet dX5_openMethod (j := 49) rfl) F5_71 et18 ?_
            refine r_iload_n (dGet dX5_openMethod (j := 50) rfl) rfl ?_
            obtain ⟨h19, eh19, hf⟩ := Option.bind_eq_some_iff.mp hf
            refine r_iast (dGet dX5_openMethod (j := 51) rfl) eh19 ?_
            refine r_aload_n (dGet dX5_openMethod (j := 52) rfl) nv0 rfl ?_
            obtain ⟨t20, et20, hf⟩ := Option.bind_eq_some_iff.mp hf
            refine r_getR (dGet dX5_openMethod (j := 53) rfl) F5_43 et20 ?_
            refine r_aload_n (dGet dX5_openMethod (j := 54) rfl) nv0 rfl ?_
            obtain ⟨t21, et21, hf⟩ := Option.bind_eq_some_iff.mp hf
            refine r_getI (dGet dX5_openMethod (j := 55) rfl) F5_71 et21 ?_
            refine r_iload_n (dGet dX5_openMethod (j := 56) rfl) rfl ?_
            obtain ⟨h22, eh22, hf⟩ := Option.bind_eq_some_iff.mp hf
            refine r_iast (dGet dX5_openMethod (j := 57) rfl) eh22 ?_
            refine r_aload_n (dGet dX5_openMethod (j := 58) rfl) nv0 rfl ?_
            obtain ⟨t23, et23, hf⟩ := Option.bind_eq_some_iff.mp hf
            refine r_getR (dGet dX5_openMethod (j := 59) rfl) F5_46 et23 ?_
            refine r_aload_n (dGet dX5_openMethod (j := 60) rfl) nv0 rfl ?_
            obtain ⟨t24, et24, hf⟩ := Option.bind_eq_some_iff.mp hf
            refine r_getI (dGet dX5_openMethod (j := 61) rfl) F5_71 et24 ?_
            refine r_aload_n (dGet dX5_openMethod (j := 62) rfl) nv0 rfl ?_
            obtain ⟨t25, et25, hf⟩ := Option.bind_eq_some_iff.mp hf
            refine r_getR (dGet dX5_openMethod (j := 63) rfl) F5_32 et25 ?_
            refine r_iload_n (dGet dX5_openMethod (j := 64) rfl) rfl ?_
            refine r_iconst (dGet dX5_openMethod (j := 65) rfl) kI_1 ?_
            refine r_isub (dGet dX5_openMethod (j := 66) rfl) ?_
            obtain ⟨t26, et26, hf⟩ := Option.bind_eq_some_iff.mp hf
            refine r_lald (dGet dX5_openMethod (j := 67) rfl) et26 ?_
            obtain ⟨h27, eh27, hf⟩ := Option.bind_eq_some_iff.mp hf
            refine r_last (dGet dX5_openMethod (j := 68) rfl) eh27 ?_
            refine r_aload_n (dGet dX5_openMethod (j := 69) rfl) nv0 rfl ?_
            refine r_dup (dGet dX5_openMethod (j := 70) rfl) rfl ?_
            obtain ⟨t28, et28, hf⟩ := Option.bind_eq_some_iff.mp hf
            refine r_getI (dGet dX5_openMethod (j := 71) rfl) F5_71 et28 ?_
            refine r_iconst (dGet dX5_openMethod (j := 72) rfl) kI_1 ?_
            refine r_iadd (dGet dX5_openMethod (j := 73) rfl) ?_
            obtain ⟨h29, eh29, hf⟩ := Option.bind_eq_some_iff.mp hf
            refine r_putI (dGet dX5_openMethod (j := 74) rfl) F5_71 rfl rfl eh29 ?_
            refine r_aload_n (dGet dX5_openMethod (j := 75) rfl) nv0 rfl ?_
            refine r_iload (dGet dX5_openMethod (j := 76) rfl) rfl ?_
            obtain ⟨h30, eh30, hf⟩ := Option.bind_eq_some_iff.mp hf
            refine r_putI (dGet dX5_openMethod (j := 77) rfl) F5_74 rfl rfl eh30 ?_
            refine r_aload_n (dGet dX5_openMethod (j := 78) rfl) nv0 rfl ?_
            refine r_aload_n (dGet dX5_openMethod (j := 79) rfl) nv0 rfl ?_
            obtain ⟨t31, et31, hf⟩ := Option.bind_eq_some_iff.mp hf
            refine r_getR (dGet dX5_openMethod (j := 80) rfl) F5_13 et31 ?_
            obtain ⟨t32, et32, hf⟩ := Option.bind_eq_some_iff.mp hf
            refine r_getR (dGet dX5_openMethod (j := 81) rfl) F5_294 et32 ?_
            refine r_iload_n (dGet dX5_openMethod (j := 82) rfl) rfl ?_
            obtain ⟨t33, et33, hf⟩ := Option.bind_eq_some_iff.mp hf
            refine r_iald (dGet dX5_openMethod (j := 83) rfl) et33 ?_
            obtain ⟨h34, eh34, hf⟩ := Option.bind_eq_some_iff.mp hf
            refine r_putI (dGet dX5_openMethod (j := 84) rfl) F5_77 rfl rfl eh34 ?_
            cases hf
            exact r_vret (dGet dX5_openMethod (j := 85) rfl) rfl
          · rw [if_neg c16] at hf
            refine r_icmp_lt_f (dGet dX5_openMethod (j := 41) rfl) rfl c16 ?_
            refine r_aload_n (dGet dX5_openMethod (j := 42) rfl) nv0 rfl ?_
            refine r_iconst (dGet dX5_openMethod (j := 43) rfl) kI_4 ?_
            obtain ⟨h35, eh35, hf⟩ := Option.bind_eq_some_iff.mp hf
            refine r_putI (dGet dX5_openMethod (j := 44) rfl) F5_52 rfl rfl eh35 ?_
            cases hf
            exact r_vret (dGet dX5_openMethod (j := 45) rfl) rfl
        · rw [if_neg c6] at hf
          refine r_icmp_ge_f (dGet dX5_openMethod (j := 13) rfl) rfl c6 ?_
          refine Run.weak [(0, .ref v0)] (by simp) (by simp [pNd]) ?_
          exact lX5_openMethod_25 X N d v0 0 0 h q hf nv0
  · rw [if_neg hc] at hf; cases hf
def eX5_push : List (Nat × Instr × Nat) := [(0, .aload_n 0, 1), (1, .getfield 74, 3), (4, .aload_n 0, 1), (5, .getfield 32, 3), (8, .arraylength, 1), (9, .if_icmp .ge 23, 3), (12, .aload_n 0, 1), (13, .getfield 32, 3), (16, .aload_n 0, 1), (17, .getfield 74, 3), (20, .lload_n 1, 1), (21, .lastore, 1), (22, .aload_n 0, 1), (23, .dup, 1), (24, .getfield 74, 3), (27, .iconst 1, 1), (28, .iadd, 1), (29, .putfield 74, 3), (32, .return_, 1)]
theorem dX5_push : dChk (pCd 6003) eX5_push = true := by decide +kernel
def fX5_push (N : Nat) (v0 : Nat) (v1 : Int64) (h : pH) : Option (pH) := if isO h v0 5 = true then (
  (getI h v0 5 6).bind fun t1 =>
  (getR h v0 5 5).bind fun t2 =>
  (lenA h t2).bind fun t3 =>
  if t3 ≤ t1 then (
  some h) else (
  (getR h v0 5 5).bind fun t5 =>
  (getI h v0 5 6).bind fun t6 =>
  (stJ h t5 t6 v1).bind fun h7 =>
  (getI h7 v0 5 6).bind fun t8 =>
  (putI h7 v0 5 6 (t8 + (1 : Int32))).bind fun h9 =>
  some h9)) else none
theorem oX5_push {N : Nat} {v0 : Nat} {v1 : Int64} {h : pH} {q : pH} (hf : fX5_push N v0 v1 h = some q) : isO h v0 5 = true := by
  unfold fX5_push at hf
  by_cases hc : isO h v0 5 = true
  · exact hc
  · rw [if_neg hc] at hf; cases hf
theorem cX5_push (X : pX) (N d : Nat) (v0 : Nat) (v1 : Int64) (h : pH) (q : pH) (hf : fX5_push N v0 v1 h = some q) : Calls X (d + 0) 174 [.ref v0, .long v1] h (none, q, 0, 0) := by
  refine Calls.of M174 (Nat.le_of_ble_eq_true rfl) ?_
  show Run X (d + 0) 5 false (pCd 6003) 3 none 0 [(0, .ref v0), (1, .long v1)] [] h 0 0 (none, q, 0, 0)
  unfold fX5_push at hf
  by_cases hc : isO h v0 5 = true
  · rw [if_pos hc] at hf
    have nv0 : ¬ v0 = 4 := isO_ne hc
    refine r_aload_n (dGet dX5_push (j := 0) rfl) nv0 rfl ?_
    obtain ⟨t1, et1, hf⟩ := Option.bind_eq_some_iff.mp hf
    refine r_getI (dGet dX5_push (j := 1) rfl) F5_74 et1 ?_
    refine r_aload_n (dGet dX5_push (j := 2) rfl) nv0 rfl ?_
    obtain ⟨t2, et2, hf⟩ := Option.bind_eq_some_iff.mp hf
    refine r_getR (dGet dX5_push (j := 3) rfl) F5_32 et2 ?_
    obtain ⟨t3, et3, hf⟩ := Option.bind_eq_some_iff.mp hf
    refine r_alen (dGet dX5_push (j := 4) rfl) et3 ?_
    by_cases c4 : t3 ≤ t1
    · rw [if_pos c4] at hf
      refine r_icmp_ge_t (dGet dX5_push (j := 5) rfl) rfl c4 ?_
      cases hf
      exact r_vret (dGet dX5_push (j := 18) rfl) rfl
    · rw [if_neg c4] at hf
      refine r_icmp_ge_f (dGet dX5_push (j := 5) rfl) rfl c4 ?_
      refine r_aload_n (dGet dX5_push (j := 6) rfl) nv0 rfl ?_
      obtain ⟨t5, et5, hf⟩ := Option.bind_eq_some_iff.mp hf
      refine r_getR (dGet dX5_push (j := 7) rfl) F5_32 et5 ?_
      refine r_aload_n (dGet dX5_push (j := 8) rfl) nv0 rfl ?_
      obtain ⟨t6, et6, hf⟩ := Option.bind_eq_some_iff.mp hf
      refine r_getI (dGet dX5_push (j := 9) rfl) F5_74 et6 ?_
      refine r_lload_n (dGet dX5_push (j := 10) rfl) rfl ?_
      obtain ⟨h7, eh7, hf⟩ := Option.bind_eq_some_iff.mp hf
      refine r_last (dGet dX5_push (j := 11) rfl) eh7 ?_
      refine r_aload_n (dGet dX5_push (j := 12) rfl) nv0 rfl ?_
      refine r_dup (dGet dX5_push (j := 13) rfl) rfl ?_
      obtain ⟨t8, et8, hf⟩ := Option.bind_eq_some_iff.mp hf
      refine r_getI (dGet dX5_push (j := 14) rfl) F5_74 et8 ?_
      refine r_iconst (dGet dX5_push (j := 15) rfl) kI_1 ?_
      refine r_iadd (dGet dX5_push (j := 16) rfl) ?_
      obtain ⟨h9, eh9, hf⟩ := Option.bind_eq_some_iff.mp hf
      refine r_putI (dGet dX5_push (j := 17) rfl) F5_74 rfl rfl eh9 ?_
      cases hf
      exact r_vret (dGet dX5_push (j := 18) rfl) rfl
  · rw [if_neg hc] at hf; cases hf
def eX5_closeMethod : List (Nat × Instr × Nat) := [(0, .aload_n 0, 1), (1, .aload_n 0, 1), (2, .getfield 40, 3), (5, .aload_n 0, 1), (6, .getfield 71, 3), (9, .iconst 1, 1), (10, .isub, 1), (11, .iaload, 1), (12, .iconst 1, 1), (13, .isub, 1), (14, .putfield 74, 3), (17, .aload_n 0, 1), (18, .dup, 1), (19, .getfield 71, 3), (22, .iconst 1, 1), (23, .isub, 1), (24, .putfield 71, 3), (27, .aload_n 0, 1), (28, .getfield 71, 3), (31, .ifCond .ne 17, 3), (34, .aload_n 0, 1), (35, .iconst 1, 1), (36, .putfield 52, 3), (39, .aload_n 0, 1), (40, .lload_n 1, 1), (41, .l2i, 1), (42, .putfield 56, 3), (45, .goto 25, 3), (48, .aload_n 0, 1), (49, .lload_n 1, 1), (50, .invokevirtual 121, 3), (53, .aload_n 0, 1), (54, .aload_n 0, 1), (55, .getfield 36, 3), (58, .aload_n 0, 1), (59, .getfield 71, 3), (62, .iconst 1, 1), (63, .isub, 1), (64, .iaload, 1), (65, .iconst 1, 1), (66, .iadd, 1), (67, .putfield 77, 3), (70, .return_, 1)]
theorem dX5_closeMethod : dChk (pCd 6054) eX5_closeMethod = true := by decide +kernel
def fX5_closeMethod (N : Nat) (v0 : Nat) (v1 : Int64) (h : pH) : Option (pH) := if isO h v0 5 = true then (
  (getR h v0 5 8).bind fun t1 =>
  (getI h v0 5 11).bind fun t2 =>
  (ldI h t1 (t2 - (1 : Int32))).bind fun t3 =>
  (putI h v0 5 6 (t3 - (1 : Int32))).bind fun h4 =>
  (getI h4 v0 5 11).bind fun t5 =>
  (putI h4 v0 5 11 (t5 - (1 : Int32))).bind fun h6 =>
  (getI h6 v0 5 11).bind fun t7 =>
  if t7 = 0 then (
  (putI h6 v0 5 13 (1 : Int32)).bind fun h14 =>
  (putI h14 v0 5 14 (v1.toInt32)).bind fun h15 =>
  some h15) else (
  (fX5_push N v0 v1 h6).bind fun h9 =>
  (getR h9 v0 5 7).bind fun t10 =>
  (getI h9 v0 5 11).bind fun t11 =>
  (ldI h9 t10 (t11 - (1 : Int32))).bind fun t12 =>
  (putI h9 v0 5 12 (t12 + (1 : Int32))).bind fun h13 =>
  some h13)) else none
theorem oX5_closeMethod {N : Nat} {v0 : Nat} {v1 : Int64} {h : pH} {q : pH} (hf : fX5_closeMethod N v0 v1 h = some q) : isO h v0 5 = true := by
  unfold fX5_closeMethod at hf
  by_cases hc : isO h v0 5 = true
  · exact hc
  · rw [if_neg hc] at hf; cases hf
theorem cX5_closeMethod (X : pX) (N d : Nat) (v0 : Nat) (v1 : Int64) (h : pH) (q : pH) (hf : fX5_closeMethod N v0 v1 h = some q) : Calls X (d + 1) 184 [.ref v0, .long v1] h (none, q, 0, 0) := by
  refine Calls.of M184 (Nat.le_of_ble_eq_true rfl) ?_
  show Run X (d + 1) 5 false (pCd 6054) 3 none 0 [(0, .ref v0), (1, .long v1)] [] h 0 0 (none, q, 0, 0)
  unfold fX5_closeMethod at hf
  by_cases hc : isO h v0 5 = true
  · rw [if_pos hc] at hf
    have nv0 : ¬ v0 = 4 := isO_ne hc
    refine r_aload_n (dGet dX5_closeMethod (j := 0) rfl) nv0 rfl ?_
    refine r_aload_n (dGet dX5_closeMethod (j := 1) rfl) nv0 rfl ?_
    obtain ⟨t1, et1, hf⟩ := Option.bind_eq_some_iff.mp hf
    refine r_getR (dGet dX5_closeMethod (j := 2) rfl) F5_40 et1 ?_
    refine r_aload_n (dGet dX5_closeMethod (j := 3) rfl) nv0 rfl ?_
    obtain ⟨t2, et2, hf⟩ := Option.bind_eq_some_iff.mp hf
    refine r_getI (dGet dX5_closeMethod (j := 4) rfl) F5_71 et2 ?_
    refine r_iconst (dGet dX5_closeMethod (j := 5) rfl) kI_1 ?_
    refine r_isub (dGet dX5_closeMethod (j := 6) rfl) ?_
    obtain ⟨t3, et3, hf⟩ := Option.bind_eq_some_iff.mp hf
    refine r_iald (dGet dX5_closeMethod (j := 7) rfl) et3 ?_
    refine r_iconst (dGet dX5_closeMethod (j := 8) rfl) kI_1 ?_
    refine r_isub (dGet dX5_closeMethod (j := 9) rfl) ?_
    obtain ⟨h4, eh4, hf⟩ := Option.bind_eq_some_iff.mp hf
    refine r_putI (dGet dX5_closeMethod (j := 10) rfl) F5_74 rfl rfl eh4 ?_
    refine r_aload_n (dGet dX5_closeMethod (j := 11) rfl) nv0 rfl ?_
    refine r_dup (dGet dX5_closeMethod (j := 12) rfl) rfl ?_
    obtain ⟨t5, et5, hf⟩ := Option.bind_eq_some_iff.mp hf
    refine r_getI (dGet dX5_closeMethod (j := 13) rfl) F5_71 et5 ?_
    refine r_iconst (dGet dX5_closeMethod (j := 14) rfl) kI_1 ?_
    refine r_isub (dGet dX5_closeMethod (j := 15) rfl) ?_
    obtain ⟨h6, eh6, hf⟩ := Option.bind_eq_some_iff.mp hf
    refine r_putI (dGet dX5_closeMethod (j := 16) rfl) F5_71 rfl rfl eh6 ?_
    refine r_aload_n (dGet dX5_closeMethod (j := 17) rfl) nv0 rfl ?_
    obtain ⟨t7, et7, hf⟩ := Option.bind_eq_some_iff.mp hf
    refine r_getI (dGet dX5_closeMethod (j := 18) rfl) F5_71 et7 ?_
    by_cases c8 : t7 = 0
    · rw [if_pos c8] at hf
      refine r_if_ne_f (dGet dX5_closeMethod (j := 19) rfl) rfl c8 ?_
      refine r_aload_n (dGet dX5_closeMethod (j := 20) rfl) nv0 rfl ?_
      refine r_iconst (dGet dX5_closeMethod (j := 21) rfl) kI_1 ?_
      obtain ⟨h14, eh14, hf⟩ := Option.bind_eq_some_iff.mp hf
      refine r_putI (dGet dX5_closeMethod (j := 22) rfl) F5_52 rfl rfl eh14 ?_
      refine r_aload_n (dGet dX5_closeMethod (j := 23) rfl) nv0 rfl ?_
      refine r_lload_n (dGet dX5_closeMethod (j := 24) rfl) rfl ?_
      refine r_l2i (dGet dX5_closeMethod (j := 25) rfl) ?_
      obtain ⟨h15, eh15, hf⟩ := Option.bind_eq_some_iff.mp hf
      refine r_putI (dGet dX5_closeMethod (j := 26) rfl) F5_56 rfl rfl eh15 ?_
      refine r_goto (dGet dX5_closeMethod (j := 27) rfl) rfl ?_
      cases hf
      exact r_vret (dGet dX5_closeMethod (j := 42) rfl) rfl
    · rw [if_neg c8] at hf
      refine r_if_ne_t (dGet dX5_closeMethod (j := 19) rfl) rfl c8 ?_
      refine r_aload_n (dGet dX5_closeMethod (j := 28) rfl) nv0 rfl ?_
      refine r_lload_n (dGet dX5_closeMethod (j := 29) rfl) rfl ?_
      obtain ⟨h9, eh9, hf⟩ := Option.bind_eq_some_iff.mp hf
      refine r_virtual (dGet dX5_closeMethod (j := 30) rfl) L5_121 M174 rfl rfl (Nat.le_of_ble_eq_true rfl) (oX5_push eh9) (cX5_push X N (d + 0) v0 v1 h6 h9 eh9) ?_
      refine r_aload_n (dGet dX5_closeMethod (j := 31) rfl) nv0 rfl ?_
      refine r_aload_n (dGet dX5_closeMethod (j := 32) rfl) nv0 rfl ?_
      obtain ⟨t10, et10, hf⟩ := Option.bind_eq_some_iff.mp hf
      refine r_getR (dGet dX5_closeMethod (j := 33) rfl) F5_36 et10 ?_
      refine r_aload_n (dGet dX5_closeMethod (j := 34) rfl) nv0 rfl ?_
      obtain ⟨t11, et11, hf⟩ := Option.bind_eq_some_iff.mp hf
      refine r_getI (dGet dX5_closeMethod (j := 35) rfl) F5_71 et11 ?_
      refine r_iconst (dGet dX5_closeMethod (j := 36) rfl) kI_1 ?_
      refine r_isub (dGet dX5_closeMethod (j := 37) rfl) ?_
      obtain ⟨t12, et12, hf⟩ := Option.bind_eq_some_iff.mp hf
      refine r_iald (dGet dX5_closeMethod (j := 38) rfl) et12 ?_
      refine r_iconst (dGet dX5_closeMethod (j := 39) rfl) kI_1 ?_
      refine r_iadd (dGet dX5_closeMethod (j := 40) rfl) ?_
      obtain ⟨h13, eh13, hf⟩ := Option.bind_eq_some_iff.mp hf
      refine r_putI (dGet dX5_closeMethod (j := 41) rfl) F5_77 rfl rfl eh13 ?_
      cases hf
      exact r_vret (dGet dX5_closeMethod (j := 42) rfl) rfl
  · rw [if_neg hc] at hf; cases hf
def eX5_pop : List (Nat × Instr × Nat) := [(0, .aload_n 0, 1), (1, .getfield 74, 3), (4, .ifCond .ne 5, 3), (7, .lconst 0, 1), (8, .lreturn, 1), (9, .aload_n 0, 1), (10, .dup, 1), (11, .getfield 74, 3), (14, .iconst 1, 1), (15, .isub, 1), (16, .putfield 74, 3), (19, .aload_n 0, 1), (20, .getfield 32, 3), (23, .aload_n 0, 1), (24, .getfield 74, 3), (27, .laload, 1), (28, .lreturn, 1)]
theorem dX5_pop : dChk (pCd 6046) eX5_pop = true := by decide +kernel
def fX5_pop (N : Nat) (v0 : Nat) (h : pH) : Option (Int64 × pH) := if isO h v0 5 = true then (
  (getI h v0 5 6).bind fun t1 =>
  if t1 = 0 then (
  some ((0 : Int64), h)) else (
  (getI h v0 5 6).bind fun t3 =>
  (putI h v0 5 6 (t3 - (1 : Int32))).bind fun h4 =>
  (getR h4 v0 5 5).bind fun t5 =>
  (getI h4 v0 5 6).bind fun t6 =>
  (ldJ h4 t5 t6).bind fun t7 =>
  some (t7, h4))) else none
theorem oX5_pop {N : Nat} {v0 : Nat} {h : pH} {q : Int64 × pH} (hf : fX5_pop N v0 h = some q) : isO h v0 5 = true := by
  unfold fX5_pop at hf
  by_cases hc : isO h v0 5 = true
  · exact hc
  · rw [if_neg hc] at hf; cases hf
theorem cX5_pop (X : pX) (N d : Nat) (v0 : Nat) (h : pH) (q : Int64 × pH) (hf : fX5_pop N v0 h = some q) : Calls X (d + 0) 182 [.ref v0] h (some (.long q.1), q.2, 0, 0) := by
  refine Calls.of M182 (Nat.le_of_ble_eq_true rfl) ?_
  show Run X (d + 0) 5 false (pCd 6046) 1 (some .long) 0 [(0, .ref v0)] [] h 0 0 (some (.long q.1), q.2, 0, 0)
  unfold fX5_pop at hf
  by_cases hc : isO h v0 5 = true
  · rw [if_pos hc] at hf
    have nv0 : ¬ v0 = 4 := isO_ne hc
    refine r_aload_n (dGet dX5_pop (j := 0) rfl) nv0 rfl ?_
    obtain ⟨t1, et1, hf⟩ := Option.bind_eq_some_iff.mp hf
    refine r_getI (dGet dX5_pop (j := 1) rfl) F5_74 et1 ?_
    by_cases c2 : t1 = 0
    · rw [if_pos c2] at hf
      refine r_if_ne_f (dGet dX5_pop (j := 2) rfl) rfl c2 ?_
      refine r_lconst (v := 0) (dGet dX5_pop (j := 3) rfl) rfl ?_
      cases hf
      exact r_lret (dGet dX5_pop (j := 4) rfl) rfl
    · rw [if_neg c2] at hf
      refine r_if_ne_t (dGet dX5_pop (j := 2) rfl) rfl c2 ?_
      refine r_aload_n (dGet dX5_pop (j := 5) rfl) nv0 rfl ?_
      refine r_dup (dGet dX5_pop (j := 6) rfl) rfl ?_
      obtain ⟨t3, et3, hf⟩ := Option.bind_eq_some_iff.mp hf
      refine r_getI (dGet dX5_pop (j := 7) rfl) F5_74 et3 ?_
      refine r_iconst (dGet dX5_pop (j := 8) rfl) kI_1 ?_
      refine r_isub (dGet dX5_pop (j := 9) rfl) ?_
      obtain ⟨h4, eh4, hf⟩ := Option.bind_eq_some_iff.mp hf
      refine r_putI (dGet dX5_pop (j := 10) rfl) F5_74 rfl rfl eh4 ?_
      refine r_aload_n (dGet dX5_pop (j := 11) rfl) nv0 rfl ?_
      obtain ⟨t5, et5, hf⟩ := Option.bind_eq_some_iff.mp hf
      refine r_getR (dGet dX5_pop (j := 12) rfl) F5_32 et5 ?_
      refine r_aload_n (dGet dX5_pop (j := 13) rfl) nv0 rfl ?_
      obtain ⟨t6, et6, hf⟩ := Option.bind_eq_some_iff.mp hf
      refine r_getI (dGet dX5_pop (j := 14) rfl) F5_74 et6 ?_
      obtain ⟨t7, et7, hf⟩ := Option.bind_eq_some_iff.mp hf
      refine r_lald (dGet dX5_pop (j := 15) rfl) et7 ?_
      cases hf
      exact r_lret (dGet dX5_pop (j := 16) rfl) rfl
  · rw [if_neg hc] at hf; cases hf
def eX5_slot : List (Nat × Instr × Nat) := [(0, .aload_n 0, 1), (1, .getfield 40, 3), (4, .aload_n 0, 1), (5, .getfield 71, 3), (8, .iconst 1, 1), (9, .isub, 1), (10, .iaload, 1), (11, .iload_n 1, 1), (12, .iadd, 1), (13, .aload_n 0, 1), (14, .getfield 32, 3), (17, .arraylength, 1), (18, .iconst 1, 1), (19, .isub, 1), (20, .invokestatic 149, 3), (23, .ireturn, 1)]
theorem dX5_slot : dChk (pCd 6050) eX5_slot = true := by decide +kernel
def fX5_slot (N : Nat) (v0 : Nat) (v1 : Int32) (h : pH) : Option (Int32 × pH) := if isO h v0 5 = true then (
  (getR h v0 5 8).bind fun t1 =>
  (getI h v0 5 11).bind fun t2 =>
  (ldI h t1 (t2 - (1 : Int32))).bind fun t3 =>
  (getR h v0 5 5).bind fun t4 =>
  (lenA h t4).bind fun t5 =>
  some ((if (t5 - (1 : Int32)) < (t3 + v1) then (t5 - (1 : Int32)) else (t3 + v1)), h)) else none
theorem oX5_slot {N : Nat} {v0 : Nat} {v1 : Int32} {h : pH} {q : Int32 × pH} (hf : fX5_slot N v0 v1 h = some q) : isO h v0 5 = true := by
  unfold fX5_slot at hf
  by_cases hc : isO h v0 5 = true
  · exact hc
  · rw [if_neg hc] at hf; cases hf
theorem cX5_slot (X : pX) (N d : Nat) (v0 : Nat) (v1 : Int32) (h : pH) (q : Int32 × pH) (hf : fX5_slot N v0 v1 h = some q) : Calls X (d + 1) 183 [.ref v0, .int v1] h (some (.int q.1), q.2, 0, 0) := by
  refine Calls.of M183 (Nat.le_of_ble_eq_true rfl) ?_
  show Run X (d + 1) 5 false (pCd 6050) 2 (some .int) 0 [(0, .ref v0), (1, .int v1)] [] h 0 0 (some (.int q.1), q.2, 0, 0)
  unfold fX5_slot at hf
  by_cases hc : isO h v0 5 = true
  · rw [if_pos hc] at hf
    have nv0 : ¬ v0 = 4 := isO_ne hc
    refine r_aload_n (dGet dX5_slot (j := 0) rfl) nv0 rfl ?_
    obtain ⟨t1, et1, hf⟩ := Option.bind_eq_some_iff.mp hf
    refine r_getR (dGet dX5_slot (j := 1) rfl) F5_40 et1 ?_
    refine r_aload_n (dGet dX5_slot (j := 2) rfl) nv0 rfl ?_
    obtain ⟨t2, et2, hf⟩ := Option.bind_eq_some_iff.mp hf
    refine r_getI (dGet dX5_slot (j := 3) rfl) F5_71 et2 ?_
    refine r_iconst (dGet dX5_slot (j := 4) rfl) kI_1 ?_
    refine r_isub (dGet dX5_slot (j := 5) rfl) ?_
    obtain ⟨t3, et3, hf⟩ := Option.bind_eq_some_iff.mp hf
    refine r_iald (dGet dX5_slot (j := 6) rfl) et3 ?_
    refine r_iload_n (dGet dX5_slot (j := 7) rfl) rfl ?_
    refine r_iadd (dGet dX5_slot (j := 8) rfl) ?_
    refine r_aload_n (dGet dX5_slot (j := 9) rfl) nv0 rfl ?_
    obtain ⟨t4, et4, hf⟩ := Option.bind_eq_some_iff.mp hf
    refine r_getR (dGet dX5_slot (j := 10) rfl) F5_32 et4 ?_
    obtain ⟨t5, et5, hf⟩ := Option.bind_eq_some_iff.mp hf
    refine r_alen (dGet dX5_slot (j := 11) rfl) et5 ?_
    refine r_iconst (dGet dX5_slot (j := 12) rfl) kI_1 ?_
    refine r_isub (dGet dX5_slot (j := 13) rfl) ?_
    refine r_min (dGet dX5_slot (j := 14) rfl) (by decide +kernel) (by decide +kernel : pFind pMx 5 149 = some (1, 6013)) (Nat.le_of_ble_eq_true rfl) ?_
    cases hf
    exact r_iret (dGet dX5_slot (j := 15) rfl) rfl rfl
  · rw [if_neg hc] at hf; cases hf
def eX5_actSilent : List (Nat × Instr × Nat) := [(0, .aload_n 0, 1), (1, .iload_n 2, 1), (2, .iconst 1, 1), (3, .iadd, 1), (4, .putfield 77, 3), (7, .iload_n 1, 1), (8, .tableswitch 136 50 61 #[64, 136, 82, 90, 112, 136, 136, 112, 136, 112, 136, 128], 64), (72, .aload_n 0, 1), (73, .aload_n 0, 1), (74, .getfield 46, 3), (77, .aload_n 0, 1), (78, .getfield 71, 3), (81, .iconst 1, 1), (82, .isub, 1), (83, .laload, 1), (84, .invokevirtual 121, 3), (87, .goto 57, 3), (90, .aload_n 0, 1), (91, .invokevirtual 167, 3), (94, .pop2, 1), (95, .goto 49, 3), (98, .aload_n 0, 1), (99, .getfield 32, 3), (102, .aload_n 0, 1), (103, .aload_n 0, 1), (104, .getfield 17, 3), (107, .getfield 155, 3), (110, .iload_n 2, 1), (111, .iaload, 1), (112, .invokevirtual 200, 3), (115, .lconst 0, 1), (116, .lastore, 1), (117, .goto 27, 3), (120, .aload_n 0, 1), (121, .aload_n 0, 1), (122, .getfield 17, 3), (125, .getfield 174, 3), (128, .iload_n 2, 1), (129, .iaload, 1), (130, .putfield 77, 3), (133, .goto 11, 3), (136, .aload_n 0, 1), (137, .lconst 0, 1), (138, .invokevirtual 203, 3), (141, .goto 3, 3), (144, .return_, 1)]
theorem dX5_actSilent : dChk (pCd 6042) eX5_actSilent = true := by decide +kernel
def fX5_actSilent_120 (N : Nat) (v0 : Nat) (v2 : Int32) (h : pH) : Option (pH) :=
  (getR h v0 5 2).bind fun t1 =>
  (getR h t1 2 3).bind fun t2 =>
  (ldI h t2 v2).bind fun t3 =>
  (putI h v0 5 12 t3).bind fun h4 =>
  some h4
theorem lX5_actSilent_120 (X : pX) (N d : Nat)  (v0 : Nat) (v2 : Int32) (h : pH) (q : pH) (hf : fX5_actSilent_120 N v0 v2 h = some q) (nv0 : ¬ v0 = 4) : Run X (d + 2) 5 false (pCd 6042) 3 none 120 [(0, .ref v0), (2, .int v2)] [] h 0 0 (none, q, 0, 0) := by
  unfold fX5_actSilent_120 at hf
  refine r_aload_n (dGet dX5_actSilent (j := 33) rfl) nv0 rfl ?_
  refine r_aload_n (dGet dX5_actSilent (j := 34) rfl) nv0 rfl ?_
  obtain ⟨t1, et1, hf⟩ := Option.bind_eq_some_iff.mp hf
  refine r_getR (dGet dX5_actSilent (j := 35) rfl) F5_17 et1 ?_
  obtain ⟨t2, et2, hf⟩ := Option.bind_eq_some_iff.mp hf
  refine r_getR (dGet dX5_actSilent (j := 36) rfl) F5_174 et2 ?_
  refine r_iload_n (dGet dX5_actSilent (j := 37) rfl) rfl ?_
  obtain ⟨t3, et3, hf⟩ := Option.bind_eq_some_iff.mp hf
  refine r_iald (dGet dX5_actSilent (j := 38) rfl) et3 ?_
  obtain ⟨h4, eh4, hf⟩ := Option.bind_eq_some_iff.mp hf
  refine r_putI (dGet dX5_actSilent (j := 39) rfl) F5_77 rfl rfl eh4 ?_
  refine r_goto (dGet dX5_actSilent (j := 40) rfl) rfl ?_
  cases hf
  exact r_vret (dGet dX5_actSilent (j := 45) rfl) rfl
def fX5_actSilent (N : Nat) (v0 : Nat) (v1 : Int32) (v2 : Int32) (h : pH) : Option (pH) := if isO h v0 5 = true then (
  (putI h v0 5 12 (v2 + (1 : Int32))).bind fun h5 =>
  if v1 = 50 then (
  (getR h5 v0 5 10).bind fun t18 =>
  (getI h5 v0 5 11).bind fun t19 =>
  (ldJ h5 t18 (t19 - (1 : Int32))).bind fun t20 =>
  (fX5_push N v0 t20 h5).bind fun h21 =>
  some h21) else
  if v1 = 51 then (
  some h5) else
  if v1 = 52 then (
  (fX5_pop N v0 h5).bind fun q22 =>
  some q22.2) else
  if v1 = 53 then (
  (getR h5 v0 5 5).bind fun t23 =>
  (getR h5 v0 5 2).bind fun t24 =>
  (getR h5 t24 2 1).bind fun t25 =>
  (ldI h5 t25 v2).bind fun t26 =>
  (fX5_slot N v0 t26 h5).bind fun q27 =>
  (stJ q27.2 t23 q27.1 (0 : Int64)).bind fun h28 =>
  some h28) else
  if v1 = 54 then (
  fX5_actSilent_120 N v0 v2 h5) else
  if v1 = 55 then (
  some h5) else
  if v1 = 56 then (
  some h5) else
  if v1 = 57 then (
  fX5_actSilent_120 N v0 v2 h5) else
  if v1 = 58 then (
  some h5) else
  if v1 = 59 then (
  fX5_actSilent_120 N v0 v2 h5) else
  if v1 = 60 then (
  some h5) else
  if v1 = 61 then (
  (fX5_closeMethod N v0 (0 : Int64) h5).bind fun h29 =>
  some h29) else
  some h5) else none
theorem oX5_actSilent {N : Nat} {v0 : Nat} {v1 : Int32} {v2 : Int32} {h : pH} {q : pH} (hf : fX5_actSilent N v0 v1 v2 h = some q) : isO h v0 5 = true := by
  unfold fX5_actSilent at hf
  by_cases hc : isO h v0 5 = true
  · exact hc
  · rw [if_neg hc] at hf; cases hf
theorem cX5_actSilent (X : pX) (N d : Nat) (v0 : Nat) (v1 : Int32) (v2 : Int32) (h : pH) (q : pH) (hf : fX5_actSilent N v0 v1 v2 h = some q) : Calls X (d + 2) 181 [.ref v0, .int v1, .int v2] h (none, q, 0, 0) := by
  refine Calls.of M181 (Nat.le_of_ble_eq_true rfl) ?_
  show Run X (d + 2) 5 false (pCd 6042) 3 none 0 [(0, .ref v0), (1, .int v1), (2, .int v2)] [] h 0 0 (none, q, 0, 0)
  unfold fX5_actSilent at hf
  by_cases hc : isO h v0 5 = true
  · rw [if_pos hc] at hf
    have nv0 : ¬ v0 = 4 := isO_ne hc
    refine r_aload_n (dGet dX5_actSilent (j := 0) rfl) nv0 rfl ?_
    refine r_iload_n (dGet dX5_actSilent (j := 1) rfl) rfl ?_
    refine r_iconst (dGet dX5_actSilent (j := 2) rfl) kI_1 ?_
    refine r_iadd (dGet dX5_actSilent (j := 3) rfl) ?_
    obtain ⟨h5, eh5, hf⟩ := Option.bind_eq_some_iff.mp hf
    refine r_putI (dGet dX5_actSilent (j := 4) rfl) F5_77 rfl rfl eh5 ?_
    refine r_iload_n (dGet dX5_actSilent (j := 5) rfl) rfl ?_
    by_cases c6 : v1 = 50
    · rw [if_pos c6] at hf
      refine r_table (off := 64) (dGet dX5_actSilent (j := 6) rfl) (by rw [c6]; decide) rfl ?_
      refine r_aload_n (dGet dX5_actSilent (j := 7) rfl) nv0 rfl ?_
      refine r_aload_n (dGet dX5_actSilent (j := 8) rfl) nv0 rfl ?_
      obtain ⟨t18, et18, hf⟩ := Option.bind_eq_some_iff.mp hf
      refine r_getR (dGet dX5_actSilent (j := 9) rfl) F5_46 et18 ?_
      refine r_aload_n (dGet dX5_actSilent (j := 10) rfl) nv0 rfl ?_
      obtain ⟨t19, et19, hf⟩ := Option.bind_eq_some_iff.mp hf
      refine r_getI (dGet dX5_actSilent (j := 11) rfl) F5_71 et19 ?_
      refine r_iconst (dGet dX5_actSilent (j := 12) rfl) kI_1 ?_
      refine r_isub (dGet dX5_actSilent (j := 13) rfl) ?_
      obtain ⟨t20, et20, hf⟩ := Option.bind_eq_some_iff.mp hf
      refine r_lald (dGet dX5_actSilent (j := 14) rfl) et20 ?_
      obtain ⟨h21, eh21, hf⟩ := Option.bind_eq_some_iff.mp hf
      refine r_virtual (dGet dX5_actSilent (j := 15) rfl) L5_121 M174 rfl rfl (Nat.le_of_ble_eq_true rfl) (oX5_push eh21) (cX5_push X N (d + 1) v0 t20 h5 h21 eh21) ?_
      refine r_goto (dGet dX5_actSilent (j := 16) rfl) rfl ?_
      cases hf
      exact r_vret (dGet dX5_actSilent (j := 45) rfl) rfl
    rw [if_neg c6] at hf
    by_cases c7 : v1 = 51
    · rw [if_pos c7] at hf
      refine r_table (off := 136) (dGet dX5_actSilent (j := 6) rfl) (by rw [c7]; decide) rfl ?_
      cases hf
      exact r_vret (dGet dX5_actSilent (j := 45) rfl) rfl
    rw [if_neg c7] at hf
    by_cases c8 : v1 = 52
    · rw [if_pos c8] at hf
      refine r_table (off := 82) (dGet dX5_actSilent (j := 6) rfl) (by rw [c8]; decide) rfl ?_
      refine r_aload_n (dGet dX5_actSilent (j := 17) rfl) nv0 rfl ?_
      obtain ⟨q22, eq22, hf⟩ := Option.bind_eq_some_iff.mp hf
      refine r_virtual (dGet dX5_actSilent (j := 18) rfl) L5_167 M182 rfl rfl (Nat.le_of_ble_eq_true rfl) (oX5_pop eq22) (cX5_pop X N (d + 1) v0 h5 q22 eq22) ?_
      refine r_pop2 (dGet dX5_actSilent (j := 19) rfl) rfl ?_
      refine r_goto (dGet dX5_actSilent (j := 20) rfl) rfl ?_
      cases hf
      exact r_vret (dGet dX5_actSilent (j := 45) rfl) rfl
    rw [if_neg c8] at hf
    by_cases c9 : v1 = 53
    · rw [if_pos c9] at hf
      refine r_table (off := 90) (dGet dX5_actSilent (j := 6) rfl) (by rw [c9]; decide) rfl ?_
      refine r_aload_n (dGet dX5_actSilent (j := 21) rfl) nv0 rfl ?_
      obtain ⟨t23, et23, hf⟩ := Option.bind_eq_some_iff.mp hf
      refine r_getR (dGet dX5_actSilent (j := 22) rfl) F5_32 et23 ?_
      refine r_aload_n (dGet dX5_actSilent (j := 23) rfl) nv0 rfl ?_
      refine r_aload_n (dGet dX5_actSilent (j := 24) rfl) nv0 rfl ?_
      obtain ⟨t24, et24, hf⟩ := Option.bind_eq_some_iff.mp hf
      refine r_getR (dGet dX5_actSilent (j := 25) rfl) F5_17 et24 ?_
      obtain ⟨t25, et25, hf⟩ := Option.bind_eq_some_iff.mp hf
      refine r_getR (dGet dX5_actSilent (j := 26) rfl) F5_155 et25 ?_
      refine r_iload_n (dGet dX5_actSilent (j := 27) rfl) rfl ?_
      obtain ⟨t26, et26, hf⟩ := Option.bind_eq_some_iff.mp hf
      refine r_iald (dGet dX5_actSilent (j := 28) rfl) et26 ?_
      obtain ⟨q27, eq27, hf⟩ := Option.bind_eq_some_iff.mp hf
      refine r_virtual (dGet dX5_actSilent (j := 29) rfl) L5_200 M183 rfl rfl (Nat.le_of_ble_eq_true rfl) (oX5_slot eq27) (cX5_slot X N (d + 0) v0 t26 h5 q27 eq27) ?_
      refine r_lconst (v := 0) (dGet dX5_actSilent (j := 30) rfl) rfl ?_
      obtain ⟨h28, eh28, hf⟩ := Option.bind_eq_some_iff.mp hf
      refine r_last (dGet dX5_actSilent (j := 31) rfl) eh28 ?_
      refine r_goto (dGet dX5_actSilent (j := 32) rfl) rfl ?_
      cases hf
      exact r_vret (dGet dX5_actSilent (j := 45) rfl) rfl
    rw [if_neg c9] at hf
    by_cases c10 : v1 = 54
    · rw [if_pos c10] at hf
      refine r_table (off := 112) (dGet dX5_actSilent (j := 6) rfl) (by rw [c10]; decide) rfl ?_
      refine Run.weak [(0, .ref v0), (2, .int v2)] (by simp) (by simp [pNd]) ?_
      exact lX5_actSilent_120 X N d v0 v2 h5 q hf nv0
    rw [if_neg c10] at hf
    by_cases c11 : v1 = 55
    · rw [if_pos c11] at hf
      refine r_table (off := 136) (dGet dX5_actSilent (j := 6) rfl) (by rw [c11]; decide) rfl ?_
      cases hf
      exact r_vret (dGet dX5_actSilent (j := 45) rfl) rfl
    rw [if_neg c11] at hf
    by_cases c12 : v1 = 56
    · rw [if_pos c12] at hf
      refine r_table (off := 136) (dGet dX5_actSilent (j := 6) rfl) (by rw [c12]; decide) rfl ?_
      cases hf
      exact r_vret (dGet dX5_actSilent (j := 45) rfl) rfl
    rw [if_neg c12] at hf
    by_cases c13 : v1 = 57
    · rw [if_pos c13] at hf
      refine r_table (off := 112) (dGet dX5_actSilent (j := 6) rfl) (by rw [c13]; decide) rfl ?_
      refine Run.weak [(0, .ref v0), (2, .int v2)] (by simp) (by simp [pNd]) ?_
      exact lX5_actSilent_120 X N d v0 v2 h5 q hf nv0
    rw [if_neg c13] at hf
    by_cases c14 : v1 = 58
    · rw [if_pos c14] at hf
      refine r_table (off := 136) (dGet dX5_actSilent (j := 6) rfl) (by rw [c14]; decide) rfl ?_
      cases hf
      exact r_vret (dGet dX5_actSilent (j := 45) rfl) rfl
    rw [if_neg c14] at hf
    by_cases c15 : v1 = 59
    · rw [if_pos c15] at hf
      refine r_table (off := 112) (dGet dX5_actSilent (j := 6) rfl) (by rw [c15]; decide) rfl ?_
      refine Run.weak [(0, .ref v0), (2, .int v2)] (by simp) (by simp [pNd]) ?_
      exact lX5_actSilent_120 X N d v0 v2 h5 q hf nv0
    rw [if_neg c15] at hf
    by_cases c16 : v1 = 60
    · rw [if_pos c16] at hf
      refine r_table (off := 136) (dGet dX5_actSilent (j := 6) rfl) (by rw [c16]; decide) rfl ?_
      cases hf
      exact r_vret (dGet dX5_actSilent (j := 45) rfl) rfl
    rw [if_neg c16] at hf
    by_cases c17 : v1 = 61
    · rw [if_pos c17] at hf
      refine r_table (off := 128) (dGet dX5_actSilent (j := 6) rfl) (by rw [c17]; decide) rfl ?_
      refine r_aload_n (dGet dX5_actSilent (j := 41) rfl) nv0 rfl ?_
      refine r_lconst (v := 0) (dGet dX5_actSilent (j := 42) rfl) rfl ?_
      obtain ⟨h29, eh29, hf⟩ := Option.bind_eq_some_iff.mp hf
      refine r_virtual (dGet dX5_actSilent (j := 43) rfl) L5_203 M184 rfl rfl (Nat.le_of_ble_eq_true rfl) (oX5_closeMethod eh29) (cX5_closeMethod X N (d + 0) v0 (0 : Int64) h5 h29 eh29) ?_
      refine r_goto (dGet dX5_actSilent (j := 44) rfl) rfl ?_
      cases hf
      exact r_vret (dGet dX5_actSilent (j := 45) rfl) rfl
    rw [if_neg c17] at hf
    refine r_table (dGet dX5_actSilent (j := 6) rfl) (pTable_out (cs := [50, 51, 52, 53, 54, 55, 56, 57, 58, 59, 60, 61]) (by decide) (by decide) (by decide) (List.forall_mem_cons.mpr ⟨c6, List.forall_mem_cons.mpr ⟨c7, List.forall_mem_cons.mpr ⟨c8, List.forall_mem_cons.mpr ⟨c9, List.forall_mem_cons.mpr ⟨c10, List.forall_mem_cons.mpr ⟨c11, List.forall_mem_cons.mpr ⟨c12, List.forall_mem_cons.mpr ⟨c13, List.forall_mem_cons.mpr ⟨c14, List.forall_mem_cons.mpr ⟨c15, List.forall_mem_cons.mpr ⟨c16, List.forall_mem_cons.mpr ⟨c17, fun _ h => absurd h List.not_mem_nil⟩⟩⟩⟩⟩⟩⟩⟩⟩⟩⟩⟩)) rfl ?_
    cases hf
    exact r_vret (dGet dX5_actSilent (j := 45) rfl) rfl
  · rw [if_neg hc] at hf; cases hf
def eX5_settle : List (Nat × Instr × Nat) := [(0, .iconst 0, 1), (1, .istore_n 1, 1), (2, .iload_n 1, 1), (3, .ldc 193, 2), (5, .if_icmp .ge 50, 3), (8, .aload_n 0, 1), (9, .getfield 52, 3), (12, .ifCond .ne 43, 3), (15, .aload_n 0, 1), (16, .getfield 17, 3), (19, .aload_n 0, 1), (20, .getfield 77, 3), (23, .invokevirtual 194, 3), (26, .ifCond .eq 29, 3), (29, .aload_n 0, 1), (30, .aload_n 0, 1), (31, .getfield 17, 3), (34, .getfield 152, 3), (37, .aload_n 0, 1), (38, .getfield 77, 3), (41, .iaload, 1), (42, .aload_n 0, 1), (43, .getfield 77, 3), (46, .invokevirtual 197, 3), (49, .iinc 1 1, 3), (52, .goto (-50), 3), (55, .return_, 1)]
theorem dX5_settle : dChk (pCd 6029) eX5_settle = true := by decide +kernel
def fX5_settle_2 (N : Nat) : Nat → Nat → Int32 → pH → Option (pH)
  | 0, _, _, _ => none
  | n + 1, v0, v1, h => if (1000000 : Int32) ≤ v1 then (
  some h) else (
  (getI h v0 5 13).bind fun t2 =>
  if t2 = 0 then (
  (getR h v0 5 2).bind fun t4 =>
  (getI h v0 5 12).bind fun t5 =>
  (fX2_isSilent N t4 t5 h).bind fun q6 =>
  if q6.1 = 0 then (
  some q6.2) else (
  (getR q6.2 v0 5 2).bind fun t8 =>
  (getR q6.2 t8 2 0).bind fun t9 =>
  (getI q6.2 v0 5 12).bind fun t10 =>
  (ldI q6.2 t9 t10).bind fun t11 =>
  (getI q6.2 v0 5 12).bind fun t12 =>
  (fX5_actSilent N v0 t11 t12 q6.2).bind fun h13 =>
  fX5_settle_2 N n v0 (v1 + (1 : Int32)) h13)) else (
  some h))
theorem lX5_settle_2 (X : pX) (N d : Nat)  : ∀ (n : Nat) (v0 : Nat) (v1 : Int32) (h : pH) (q : pH), fX5_settle_2 N n v0 v1 h = some q → ¬ v0 = 4 → Run X (d + 3) 5 false (pCd 6029) 2 none 2 [(0, .ref v0), (1, .int v1)] [] h 0 0 (none, q, 0, 0) := by
  intro n
  induction n with
  | zero => intro v0 v1 h q hf; cases hf
  | succ n ih =>
    intro v0 v1 h q hf nv0
    unfold fX5_settle_2 at hf
    refine r_iload_n (dGet dX5_settle (j := 2) rfl) rfl ?_
    refine r_ldci (v := 1000000) (dGet dX5_settle (j := 3) rfl) (by decide +kernel) (by decide +kernel : pFind pKi 5 193 = some (1000000, 6030)) ?_
    by_cases c1 : (1000000 : Int32) ≤ v1
    · rw [if_pos c1] at hf
      refine r_icmp_ge_t (dGet dX5_settle (j := 4) rfl) rfl c1 ?_
      cases hf
      exact r_vret (dGet dX5_settle (j := 26) rfl) rfl
    · rw [if_neg c1] at hf
      refine r_icmp_ge_f (dGet dX5_settle (j := 4) rfl) rfl c1 ?_
      refine r_aload_n (dGet dX5_settle (j := 5) rfl) nv0 rfl ?_
      obtain ⟨t2, et2, hf⟩ := Option.bind_eq_some_iff.mp hf
      refine r_getI (dGet dX5_settle (j := 6) rfl) F5_52 et2 ?_
      by_cases c3 : t2 = 0
      · rw [if_pos c3] at hf
        refine r_if_ne_f (dGet dX5_settle (j := 7) rfl) rfl c3 ?_
        refine r_aload_n (dGet dX5_settle (j := 8) rfl) nv0 rfl ?_
        obtain ⟨t4, et4, hf⟩ := Option.bind_eq_some_iff.mp hf
        refine r_getR (dGet dX5_settle (j := 9) rfl) F5_17 et4 ?_
        refine r_aload_n (dGet dX5_settle (j := 10) rfl) nv0 rfl ?_
        obtain ⟨t5, et5, hf⟩ := Option.bind_eq_some_iff.mp hf
        refine r_getI (dGet dX5_settle (j := 11) rfl) F5_77 et5 ?_
        obtain ⟨q6, eq6, hf⟩ := Option.bind_eq_some_iff.mp hf
        refine r_virtual (dGet dX5_settle (j := 12) rfl) L5_194 M179 rfl rfl (Nat.le_of_ble_eq_true rfl) (oX2_isSilent eq6) (cX2_isSilent X N (d + 1) t4 t5 h q6 eq6) ?_
        by_cases c7 : q6.1 = 0
        · rw [if_pos c7] at hf
          refine r_if_eq_t (dGet dX5_settle (j := 13) rfl) rfl c7 ?_
          cases hf
          exact r_vret (dGet dX5_settle (j := 26) rfl) rfl
        · rw [if_neg c7] at hf
          refine r_if_eq_f (dGet dX5_settle (j := 13) rfl) rfl c7 ?_
          refine r_aload_n (dGet dX5_settle (j := 14) rfl) nv0 rfl ?_
          refine r_aload_n (dGet dX5_settle (j := 15) rfl) nv0 rfl ?_
          obtain ⟨t8, et8, hf⟩ := Option.bind_eq_some_iff.mp hf
          refine r_getR (dGet dX5_settle (j := 16) rfl) F5_17 et8 ?_
          obtain ⟨t9, et9, hf⟩ := Option.bind_eq_some_iff.mp hf
          refine r_getR (dGet dX5_settle (j := 17) rfl) F5_152 et9 ?_
          refine r_aload_n (dGet dX5_settle (j := 18) rfl) nv0 rfl ?_
          obtain ⟨t10, et10, hf⟩ := Option.bind_eq_some_iff.mp hf
          refine r_getI (dGet dX5_settle (j := 19) rfl) F5_77 et10 ?_
          obtain ⟨t11, et11, hf⟩ := Option.bind_eq_some_iff.mp hf
          refine r_iald (dGet dX5_settle (j := 20) rfl) et11 ?_
          refine r_aload_n (dGet dX5_settle (j := 21) rfl) nv0 rfl ?_
          obtain ⟨t12, et12, hf⟩ := Option.bind_eq_some_iff.mp hf
          refine r_getI (dGet dX5_settle (j := 22) rfl) F5_77 et12 ?_
          obtain ⟨h13, eh13, hf⟩ := Option.bind_eq_some_iff.mp hf
          refine r_virtual (dGet dX5_settle (j := 23) rfl) L5_197 M181 rfl rfl (Nat.le_of_ble_eq_true rfl) (oX5_actSilent eh13) (cX5_actSilent X N (d + 0) v0 t11 t12 q6.2 h13 eh13) ?_
          refine r_iinc (lv' := [(1, .int (v1 + (1 : Int32))), (0, .ref v0)]) (dGet dX5_settle (j := 24) rfl) rfl (by decide) kI_1 rfl ?_
          refine r_goto (dGet dX5_settle (j := 25) rfl) rfl ?_
          refine Run.weak [(0, .ref v0), (1, .int (v1 + (1 : Int32)))] (by simp) (by simp [pNd]) ?_
          exact ih v0 (v1 + (1 : Int32)) h13 q hf nv0
      · rw [if_neg c3] at hf
        refine r_if_ne_t (dGet dX5_settle (j := 7) rfl) rfl c3 ?_
        cases hf
        exact r_vret (dGet dX5_settle (j := 26) rfl) rfl
def fX5_settle (N : Nat) (v0 : Nat) (h : pH) : Option (pH) := if isO h v0 5 = true then (
  fX5_settle_2 N N v0 (0 : Int32) h) else none
theorem oX5_settle {N : Nat} {v0 : Nat} {h : pH} {q : pH} (hf : fX5_settle N v0 h = some q) : isO h v0 5 = true := by
  unfold fX5_settle at hf
  by_cases hc : isO h v0 5 = true
  · exact hc
  · rw [if_neg hc] at hf; cases hf
theorem cX5_settle (X : pX) (N d : Nat) (v0 : Nat) (h : pH) (q : pH) (hf : fX5_settle N v0 h = some q) : Calls X (d + 3) 178 [.ref v0] h (none, q, 0, 0) := by
  refine Calls.of M178 (Nat.le_of_ble_eq_true rfl) ?_
  show Run X (d + 3) 5 false (pCd 6029) 2 none 0 [(0, .ref v0)] [] h 0 0 (none, q, 0, 0)
  unfold fX5_settle at hf
  by_cases hc : isO h v0 5 = true
  · rw [if_pos hc] at hf
    have nv0 : ¬ v0 = 4 := isO_ne hc
    refine r_iconst (dGet dX5_settle (j := 0) rfl) kI_0 ?_
    refine r_istore_n (lv' := [(1, .int (0 : Int32)), (0, .ref v0)]) (dGet dX5_settle (j := 1) rfl) (by decide) rfl ?_
    refine Run.weak [(0, .ref v0), (1, .int (0 : Int32))] (by simp) (by simp [pNd]) ?_
    exact lX5_settle_2 X N d N v0 (0 : Int32) h q hf nv0
  · rw [if_neg hc] at hf; cases hf
def eX5_begin : List (Nat × Instr × Nat) := [(0, .aload_n 0, 1), (1, .invokevirtual 87, 3), (4, .aload_n 0, 1), (5, .getfield 7, 3), (8, .bipush 26, 2), (10, .invokevirtual 92, 3), (13, .istore_n 2, 1), (14, .aload_n 0, 1), (15, .getfield 13, 3), (18, .iload_n 2, 1), (19, .iconst 1, 1), (20, .bipush 27, 2), (22, .invokevirtual 98, 3), (25, .istore_n 3, 1), (26, .iload_n 2, 1), (27, .ifCond .lt 7, 3), (30, .iload_n 3, 1), (31, .ifCond .ge 4, 3), (34, .return_, 1), (35, .aload_n 0, 1), (36, .iconst 0, 1), (37, .putfield 52, 3), (40, .aload_n 0, 1), (41, .iconst 2, 1), (42, .aload_n 0, 1), (43, .getfield 7, 3), (46, .getfield 104, 3), (49, .iload_n 2, 1), (50, .iaload, 1), (51, .iadd, 1), (52, .putfield 62, 3), (55, .aload_n 0, 1), (56, .getfield 28, 3), (59, .iload_n 1, 1), (60, .aload_n 0, 1), (61, .getfield 62, 3), (64, .invokestatic 107, 3), (67, .invokevirtual 113, 3), (70, .aload_n 0, 1), (71, .aload_n 0, 1), (72, .getfield 28, 3), (75, .iload_n 2, 1), (76, .aload_n 0, 1), (77, .getfield 7, 3), (80, .getfield 104, 3), (83, .iload_n 2, 1), (84, .iaload, 1), (85, .invokevirtual 117, 3), (88, .invokevirtual 121, 3), (91, .aload_n 0, 1), (92, .iload_n 3, 1), (93, .iconst 0, 1), (94, .invokevirtual 125, 3), (97, .aload_n 0, 1), (98, .invokevirtual 129, 3), (101, .return_, 1)]
theorem dX5_begin : dChk (pCd 5219) eX5_begin = true := by decide +kernel
def fX5_begin (N : Nat) (v0 : Nat) (v1 : Int32) (h : pH) : Option (pH × Nat × Nat) := if isO h v0 5 = true then (
  (fX5_forget N v0 h).bind fun h1 =>
  (getR h1 v0 5 0).bind fun t2 =>
  (fX1_find N t2 (26 : Int32) h1).bind fun q3 =>
  (getR q3.2 v0 5 1).bind fun t4 =>
  (fX6_had N t4 q3.1 (1 : Int32) (27 : Int32) q3.2).bind fun q5 =>
  if q3.1 < 0 then (
  some (q5.2, 0, 0)) else (
  if 0 ≤ q5.1 then (
  (putI q5.2 v0 5 13 (0 : Int32)).bind fun h8 =>
  (getR h8 v0 5 0).bind fun t9 =>
  (getR h8 t9 1 6).bind fun t10 =>
  (ldI h8 t10 q3.1).bind fun t11 =>
  (putI h8 v0 5 16 ((2 : Int32) + t11)).bind fun h12 =>
  (getR h12 v0 5 4).bind fun t13 =>
  (getI h12 v0 5 16).bind fun t14 =>
  (fX3_clear N t13 (if v1 < t14 then t14 else v1) h12).bind fun h15 =>
  (getR h15 v0 5 4).bind fun t16 =>
  (getR h15 v0 5 0).bind fun t17 =>
  (getR h15 t17 1 6).bind fun t18 =>
  (ldI h15 t18 q3.1).bind fun t19 =>
  (fX3_makeObject N t16 q3.1 t19 h15).bind fun q20 =>
  (fX5_push N v0 q20.1 q20.2).bind fun h21 =>
  (fX5_openMethod N v0 q5.1 (0 : Int32) h21).bind fun q22 =>
  (fX5_settle N v0 q22.1).bind fun h23 =>
  some (h23, (0 + q22.2.1), (0 + q22.2.2))) else (
  some (q5.2, 0, 0)))) else none
theorem oX5_begin {N : Nat} {v0 : Nat} {v1 : Int32} {h : pH} {q : pH × Nat × Nat} (hf : fX5_begin N v0 v1 h = some q) : isO h v0 5 = true := by
  unfold fX5_begin at hf
  by_cases hc : isO h v0 5 = true
  · exact hc
  · rw [if_neg hc] at hf; cases hf
theorem cX5_begin (X : pX) (N d : Nat) (v0 : Nat) (v1 : Int32) (h : pH) (q : pH × Nat × Nat) (hf : fX5_begin N v0 v1 h = some q) : Calls X (d + 4) 169 [.ref v0, .int v1] h (none, q.1, q.2.1, q.2.2) := by
  refine Calls.of M169 (Nat.le_of_ble_eq_true rfl) ?_
  show Run X (d + 4) 5 false (pCd 5219) 4 none 0 [(0, .ref v0), (1, .int v1)] [] h 0 0 (none, q.1, q.2.1, q.2.2)
  unfold fX5_begin at hf
  by_cases hc : isO h v0 5 = true
  · rw [if_pos hc] at hf
    have nv0 : ¬ v0 = 4 := isO_ne hc
    refine r_aload_n (dGet dX5_begin (j := 0) rfl) nv0 rfl ?_
    obtain ⟨h1, eh1, hf⟩ := Option.bind_eq_some_iff.mp hf
    refine r_virtual (dGet dX5_begin (j := 1) rfl) L5_87 M18 rfl rfl (Nat.le_of_ble_eq_true rfl) (oX5_forget eh1) (cX5_forget X N (d + 3) v0 h h1 eh1) ?_
    refine r_aload_n (dGet dX5_begin (j := 2) rfl) nv0 rfl ?_
    obtain ⟨t2, et2, hf⟩ := Option.bind_eq_some_iff.mp hf
    refine r_getR (dGet dX5_begin (j := 3) rfl) F5_7 et2 ?_
    refine r_bipush (dGet dX5_begin (j := 4) rfl) kB_26 ?_
    obtain ⟨q3, eq3, hf⟩ := Option.bind_eq_some_iff.mp hf
    refine r_virtual (dGet dX5_begin (j := 5) rfl) L5_92 M107 rfl rfl (Nat.le_of_ble_eq_true rfl) (oX1_find eq3) (cX1_find X N (d + 3) t2 (26 : Int32) h1 q3 eq3) ?_
    refine r_istore_n (lv' := [(2, .int q3.1), (0, .ref v0), (1, .int v1)]) (dGet dX5_begin (j := 6) rfl) (by decide) rfl ?_
    refine r_aload_n (dGet dX5_begin (j := 7) rfl) nv0 rfl ?_
    obtain ⟨t4, et4, hf⟩ := Option.bind_eq_some_iff.mp hf
    refine r_getR (dGet dX5_begin (j := 8) rfl) F5_13 et4 ?_
    refine r_iload_n (dGet dX5_begin (j := 9) rfl) rfl ?_
    refine r_iconst (dGet dX5_begin (j := 10) rfl) kI_1 ?_
    refine r_bipush (dGet dX5_begin (j := 11) rfl) kB_27 ?_
    obtain ⟨q5, eq5, hf⟩ := Option.bind_eq_some_iff.mp hf
    refine r_virtual (dGet dX5_begin (j := 12) rfl) L5_98 M118 rfl rfl (Nat.le_of_ble_eq_true rfl) (oX6_had eq5) (cX6_had X N (d + 2) t4 q3.1 (1 : Int32) (27 : Int32) q3.2 q5 eq5) ?_
    refine r_istore_n (lv' := [(3, .int q5.1), (2, .int q3.1), (0, .ref v0), (1, .int v1)]) (dGet dX5_begin (j := 13) rfl) (by decide) rfl ?_
    refine r_iload_n (dGet dX5_begin (j := 14) rfl) rfl ?_
    by_cases c6 : q3.1 < 0
    · rw [if_pos c6] at hf
      refine r_if_lt_t (dGet dX5_begin (j := 15) rfl) rfl c6 ?_
      cases hf
      exact r_vret (dGet dX5_begin (j := 18) rfl) rfl
    · rw [if_neg c6] at hf
      refine r_if_lt_f (dGet dX5_begin (j := 15) rfl) rfl c6 ?_
      refine r_iload_n (dGet dX5_begin (j := 16) rfl) rfl ?_
      by_cases c7 : 0 ≤ q5.1
      · rw [if_pos c7] at hf
        refine r_if_ge_t (dGet dX5_begin (j := 17) rfl) rfl c7 ?_
        refine r_aload_n (dGet dX5_begin (j := 19) rfl) nv0 rfl ?_
        refine r_iconst (dGet dX5_begin (j := 20) rfl) kI_0 ?_
        obtain ⟨h8, eh8, hf⟩ := Option.bind_eq_some_iff.mp hf
        refine r_putI (dGet dX5_begin (j := 21) rfl) F5_52 rfl rfl eh8 ?_
        refine r_aload_n (dGet dX5_begin (j := 22) rfl) nv0 rfl ?_
        refine r_iconst (dGet dX5_begin (j := 23) rfl) kI_2 ?_
        refine r_aload_n (dGet dX5_begin (j := 24) rfl) nv0 rfl ?_
        obtain ⟨t9, et9, hf⟩ := Option.bind_eq_some_iff.mp hf
        refine r_getR (dGet dX5_begin (j := 25) rfl) F5_7 et9 ?_
        obtain ⟨t10, et10, hf⟩ := Option.bind_eq_some_iff.mp hf
        refine r_getR (dGet dX5_begin (j := 26) rfl) F5_104 et10 ?_
        refine r_iload_n (dGet dX5_begin (j := 27) rfl) rfl ?_
        obtain ⟨t11, et11, hf⟩ := Option.bind_eq_some_iff.mp hf
        refine r_iald (dGet dX5_begin (j := 28) rfl) et11 ?_
        refine r_iadd (dGet dX5_begin (j := 29) rfl) ?_
        obtain ⟨h12, eh12, hf⟩ := Option.bind_eq_some_iff.mp hf
        refine r_putI (dGet dX5_begin (j := 30) rfl) F5_62 rfl rfl eh12 ?_
        refine r_aload_n (dGet dX5_begin (j := 31) rfl) nv0 rfl ?_
        obtain ⟨t13, et13, hf⟩ := Option.bind_eq_some_iff.mp hf
        refine r_getR (dGet dX5_begin (j := 32) rfl) F5_28 et13 ?_
        refine r_iload_n (dGet dX5_begin (j := 33) rfl) rfl ?_
        refine r_aload_n (dGet dX5_begin (j := 34) rfl) nv0 rfl ?_
        obtain ⟨t14, et14, hf⟩ := Option.bind_eq_some_iff.mp hf
        refine r_getI (dGet dX5_begin (j := 35) rfl) F5_62 et14 ?_
        refine r_max (dGet dX5_begin (j := 36) rfl) (by decide +kernel) (by decide +kernel : pFind pMx 5 107 = some (0, 5223)) (Nat.le_of_ble_eq_true rfl) ?_
        obtain ⟨h15, eh15, hf⟩ := Option.bind_eq_some_iff.mp hf
        refine r_virtual (dGet dX5_begin (j := 37) rfl) L5_113 M170 rfl rfl (Nat.le_of_ble_eq_true rfl) (oX3_clear eh15) (cX3_clear X N (d + 2) t13 (if v1 < t14 then t14 else v1) h12 h15 eh15) ?_
        refine r_aload_n (dGet dX5_begin (j := 38) rfl) nv0 rfl ?_
        refine r_aload_n (dGet dX5_begin (j := 39) rfl) nv0 rfl ?_
        obtain ⟨t16, et16, hf⟩ := Option.bind_eq_some_iff.mp hf
        refine r_getR (dGet dX5_begin (j := 40) rfl) F5_28 et16 ?_
        refine r_iload_n (dGet dX5_begin (j := 41) rfl) rfl ?_
        refine r_aload_n (dGet dX5_begin (j := 42) rfl) nv0 rfl ?_
        obtain ⟨t17, et17, hf⟩ := Option.bind_eq_some_iff.mp hf
        refine r_getR (dGet dX5_begin (j := 43) rfl) F5_7 et17 ?_
        obtain ⟨t18, et18, hf⟩ := Option.bind_eq_some_iff.mp hf
        refine r_getR (dGet dX5_begin (j := 44) rfl) F5_104 et18 ?_
        refine r_iload_n (dGet dX5_begin (j := 45) rfl) rfl ?_
        obtain ⟨t19, et19, hf⟩ := Option.bind_eq_some_iff.mp hf
        refine r_iald (dGet dX5_begin (j := 46) rfl) et19 ?_
        obtain ⟨q20, eq20, hf⟩ := Option.bind_eq_some_iff.mp hf
        refine r_virtual (dGet dX5_begin (j := 47) rfl) L5_117 M171 rfl rfl (Nat.le_of_ble_eq_true rfl) (oX3_makeObject eq20) (cX3_makeObject X N (d + 1) t16 q3.1 t19 h15 q20 eq20) ?_
        obtain ⟨h21, eh21, hf⟩ := Option.bind_eq_some_iff.mp hf
        refine r_virtual (dGet dX5_begin (j := 48) rfl) L5_121 M174 rfl rfl (Nat.le_of_ble_eq_true rfl) (oX5_push eh21) (cX5_push X N (d + 3) v0 q20.1 q20.2 h21 eh21) ?_
        refine r_aload_n (dGet dX5_begin (j := 49) rfl) nv0 rfl ?_
        refine r_iload_n (dGet dX5_begin (j := 50) rfl) rfl ?_
        refine r_iconst (dGet dX5_begin (j := 51) rfl) kI_0 ?_
        obtain ⟨q22, eq22, hf⟩ := Option.bind_eq_some_iff.mp hf
        refine r_virtual (dGet dX5_begin (j := 52) rfl) L5_125 M175 rfl rfl (Nat.le_of_ble_eq_true rfl) (oX5_openMethod eq22) (cX5_openMethod X N (d + 0) v0 q5.1 (0 : Int32) h21 q22 eq22) ?_
        refine r_aload_n (dGet dX5_begin (j := 53) rfl) nv0 rfl ?_
        obtain ⟨h23, eh23, hf⟩ := Option.bind_eq_some_iff.mp hf
        refine r_virtual (dGet dX5_begin (j := 54) rfl) L5_129 M178 rfl rfl (Nat.le_of_ble_eq_true rfl) (oX5_settle eh23) (cX5_settle X N (d + 0) v0 q22.1 h23 eh23) ?_
        cases hf
        exact r_vret (dGet dX5_begin (j := 55) rfl) rfl
      · rw [if_neg c7] at hf
        refine r_if_ge_f (dGet dX5_begin (j := 17) rfl) rfl c7 ?_
        cases hf
        exact r_vret (dGet dX5_begin (j := 18) rfl) rfl
  · rw [if_neg hc] at hf; cases hf
def eX5_elementFault : List (Nat × Instr × Nat) := [(0, .lload_n 2, 1), (1, .lconst 0, 1), (2, .lcmp, 1), (3, .ifCond .ne 8, 3), (6, .iconst 0, 1), (7, .invokestatic 234, 3), (10, .lreturn, 1), (11, .aload_n 0, 1), (12, .getfield 28, 3), (15, .lload_n 2, 1), (16, .iload_n 1, 1), (17, .invokevirtual 247, 3), (20, .ifCond .eq 7, 3), (23, .lconst 0, 1), (24, .goto 7, 3), (27, .iconst 1, 1), (28, .invokestatic 234, 3), (31, .lreturn, 1)]
theorem dX5_elementFault : dChk (pCd 6152) eX5_elementFault = true := by decide +kernel
def fX5_elementFault (N : Nat) (v0 : Nat) (v1 : Int32) (v2 : Int64) (h : pH) : Option (Int64 × pH) := if isO h v0 5 = true then (
  if (lg_cmp v2 (0 : Int64)) = 0 then (
  (fX3_faultObject N (0 : Int32) h).bind fun q6 =>
  some (q6.1, q6.2)) else (
  (getR h v0 5 4).bind fun t2 =>
  (fX3_has N t2 v2 v1 h).bind fun q3 =>
  if q3.1 = 0 then (
  (fX3_faultObject N (1 : Int32) q3.2).bind fun q5 =>
  some (q5.1, q5.2)) else (
  some ((0 : Int64), q3.2)))) else none
theorem oX5_elementFault {N : Nat} {v0 : Nat} {v1 : Int32} {v2 : Int64} {h : pH} {q : Int64 × pH} (hf : fX5_elementFault N v0 v1 v2 h = some q) : isO h v0 5 = true := by
  unfold fX5_elementFault at hf
  by_cases hc : isO h v0 5 = true
  · exact hc
  · rw [if_neg hc] at hf; cases hf
theorem cX5_elementFault (X : pX) (N d : Nat) (v0 : Nat) (v1 : Int32) (v2 : Int64) (h : pH) (q : Int64 × pH) (hf : fX5_elementFault N v0 v1 v2 h = some q) : Calls X (d + 2) 207 [.ref v0, .int v1, .long v2] h (some (.long q.1), q.2, 0, 0) := by
  refine Calls.of M207 (Nat.le_of_ble_eq_true rfl) ?_
  show Run X (d + 2) 5 false (pCd 6152) 4 (some .long) 0 [(0, .ref v0), (1, .int v1), (2, .long v2)] [] h 0 0 (some (.long q.1), q.2, 0, 0)
  unfold fX5_elementFault at hf
  by_cases hc : isO h v0 5 = true
  · rw [if_pos hc] at hf
    have nv0 : ¬ v0 = 4 := isO_ne hc
    refine r_lload_n (dGet dX5_elementFault (j := 0) rfl) rfl ?_
    refine r_lconst (v := 0) (dGet dX5_elementFault (j := 1) rfl) rfl ?_
    refine r_lcmp (dGet dX5_elementFault (j := 2) rfl) ?_
    by_cases c1 : (lg_cmp v2 (0 : Int64)) = 0
    · rw [if_pos c1] at hf
      refine r_if_ne_f (dGet dX5_elementFault (j := 3) rfl) rfl c1 ?_
      refine r_iconst (dGet dX5_elementFault (j := 4) rfl) kI_0 ?_
      obtain ⟨q6, eq6, hf⟩ := Option.bind_eq_some_iff.mp hf
      refine r_static (dGet dX5_elementFault (j := 5) rfl) (by decide +kernel) (by decide +kernel) L5_234 M195 rfl rfl (Nat.le_of_ble_eq_true rfl) (cX3_faultObject X N (d + 1) (0 : Int32) h q6 eq6) ?_
      cases hf
      exact r_lret (dGet dX5_elementFault (j := 6) rfl) rfl
    · rw [if_neg c1] at hf
      refine r_if_ne_t (dGet dX5_elementFault (j := 3) rfl) rfl c1 ?_
      refine r_aload_n (dGet dX5_elementFault (j := 7) rfl) nv0 rfl ?_
      obtain ⟨t2, et2, hf⟩ := Option.bind_eq_some_iff.mp hf
      refine r_getR (dGet dX5_elementFault (j := 8) rfl) F5_28 et2 ?_
      refine r_lload_n (dGet dX5_elementFault (j := 9) rfl) rfl ?_
      refine r_iload_n (dGet dX5_elementFault (j := 10) rfl) rfl ?_
      obtain ⟨q3, eq3, hf⟩ := Option.bind_eq_some_iff.mp hf
      refine r_virtual (dGet dX5_elementFault (j := 11) rfl) L5_247 M192 rfl rfl (Nat.le_of_ble_eq_true rfl) (oX3_has eq3) (cX3_has X N (d + 0) t2 v2 v1 h q3 eq3) ?_
      by_cases c4 : q3.1 = 0
      · rw [if_pos c4] at hf
        refine r_if_eq_t (dGet dX5_elementFault (j := 12) rfl) rfl c4 ?_
        refine r_iconst (dGet dX5_elementFault (j := 15) rfl) kI_1 ?_
        obtain ⟨q5, eq5, hf⟩ := Option.bind_eq_some_iff.mp hf
        refine r_static (dGet dX5_elementFault (j := 16) rfl) (by decide +kernel) (by decide +kernel) L5_234 M195 rfl rfl (Nat.le_of_ble_eq_true rfl) (cX3_faultObject X N (d + 1) (1 : Int32) q3.2 q5 eq5) ?_
        cases hf
        exact r_lret (dGet dX5_elementFault (j := 17) rfl) rfl
      · rw [if_neg c4] at hf
        refine r_if_eq_f (dGet dX5_elementFault (j := 12) rfl) rfl c4 ?_
        refine r_lconst (v := 0) (dGet dX5_elementFault (j := 13) rfl) rfl ?_
        refine r_goto (dGet dX5_elementFault (j := 14) rfl) rfl ?_
        cases hf
        exact r_lret (dGet dX5_elementFault (j := 17) rfl) rfl
  · rw [if_neg hc] at hf; cases hf
def eX5_giveElement : List (Nat × Instr × Nat) := [(0, .aload_n 0, 1), (1, .iload_n 1, 1), (2, .lload_n 2, 1), (3, .invokevirtual 244, 3), (6, .lstore 6, 2), (8, .lload 6, 2), (10, .lconst 0, 1), (11, .lcmp, 1), (12, .ifCond .ne 14, 3), (15, .aload_n 0, 1), (16, .getfield 28, 3), (19, .lload_n 2, 1), (20, .iload_n 1, 1), (21, .lload 4, 2), (23, .invokevirtual 285, 3), (26, .lload 6, 2), (28, .lreturn, 1)]
theorem dX5_giveElement : dChk (pCd 6198) eX5_giveElement = true := by decide +kernel
def fX5_giveElement (N : Nat) (v0 : Nat) (v1 : Int32) (v2 : Int64) (v3 : Int64) (h : pH) : Option (Int64 × pH) := if isO h v0 5 = true then (
  (fX5_elementFault N v0 v1 v2 h).bind fun q1 =>
  if (lg_cmp q1.1 (0 : Int64)) = 0 then (
  (getR q1.2 v0 5 4).bind fun t3 =>
  (fX3_put N t3 v2 v1 v3 q1.2).bind fun h4 =>
  some (q1.1, h4)) else (
  some (q1.1, q1.2))) else none
theorem oX5_giveElement {N : Nat} {v0 : Nat} {v1 : Int32} {v2 : Int64} {v3 : Int64} {h : pH} {q : Int64 × pH} (hf : fX5_giveElement N v0 v1 v2 v3 h = some q) : isO h v0 5 = true := by
  unfold fX5_giveElement at hf
  by_cases hc : isO h v0 5 = true
  · exact hc
  · rw [if_neg hc] at hf; cases hf
theorem cX5_giveElement (X : pX) (N d : Nat) (v0 : Nat) (v1 : Int32) (v2 : Int64) (v3 : Int64) (h : pH) (q : Int64 × pH) (hf : fX5_giveElement N v0 v1 v2 v3 h = some q) : Calls X (d + 3) 218 [.ref v0, .int v1, .long v2, .long v3] h (some (.long q.1), q.2, 0, 0) := by
  refine Calls.of M218 (Nat.le_of_ble_eq_true rfl) ?_
  show Run X (d + 3) 5 false (pCd 6198) 8 (some .long) 0 [(0, .ref v0), (1, .int v1), (2, .long v2), (4, .long v3)] [] h 0 0 (some (.long q.1), q.2, 0, 0)
  unfold fX5_giveElement at hf
  by_cases hc : isO h v0 5 = true
  · rw [if_pos hc] at hf
    have nv0 : ¬ v0 = 4 := isO_ne hc
    refine r_aload_n (dGet dX5_giveElement (j := 0) rfl) nv0 rfl ?_
    refine r_iload_n (dGet dX5_giveElement (j := 1) rfl) rfl ?_
    refine r_lload_n (dGet dX5_giveElement (j := 2) rfl) rfl ?_
    obtain ⟨q1, eq1, hf⟩ := Option.bind_eq_some_iff.mp hf
    refine r_virtual (dGet dX5_giveElement (j := 3) rfl) L5_244 M207 rfl rfl (Nat.le_of_ble_eq_true rfl) (oX5_elementFault eq1) (cX5_elementFault X N (d + 0) v0 v1 v2 h q1 eq1) ?_
    refine r_lstore (lv' := [(6, .long q1.1), (0, .ref v0), (1, .int v1), (2, .long v2), (4, .long v3)]) (dGet dX5_giveElement (j := 4) rfl) (by decide) rfl ?_
    refine r_lload (dGet dX5_giveElement (j := 5) rfl) rfl ?_
    refine r_lconst (v := 0) (dGet dX5_giveElement (j := 6) rfl) rfl ?_
    refine r_lcmp (dGet dX5_giveElement (j := 7) rfl) ?_
    by_cases c2 : (lg_cmp q1.1 (0 : Int64)) = 0
    · rw [if_pos c2] at hf
      refine r_if_ne_f (dGet dX5_giveElement (j := 8) rfl) rfl c2 ?_
      refine r_aload_n (dGet dX5_giveElement (j := 9) rfl) nv0 rfl ?_
      obtain ⟨t3, et3, hf⟩ := Option.bind_eq_some_iff.mp hf
      refine r_getR (dGet dX5_giveElement (j := 10) rfl) F5_28 et3 ?_
      refine r_lload_n (dGet dX5_giveElement (j := 11) rfl) rfl ?_
      refine r_iload_n (dGet dX5_giveElement (j := 12) rfl) rfl ?_
      refine r_lload (dGet dX5_giveElement (j := 13) rfl) rfl ?_
      obtain ⟨h4, eh4, hf⟩ := Option.bind_eq_some_iff.mp hf
      refine r_virtual (dGet dX5_giveElement (j := 14) rfl) L5_285 M217 rfl rfl (Nat.le_of_ble_eq_true rfl) (oX3_put eh4) (cX3_put X N (d + 0) t3 v2 v1 v3 q1.2 h4 eh4) ?_
      refine r_lload (dGet dX5_giveElement (j := 15) rfl) rfl ?_
      cases hf
      exact r_lret (dGet dX5_giveElement (j := 16) rfl) rfl
    · rw [if_neg c2] at hf
      refine r_if_ne_t (dGet dX5_giveElement (j := 8) rfl) rfl c2 ?_
      refine r_lload (dGet dX5_giveElement (j := 15) rfl) rfl ?_
      cases hf
      exact r_lret (dGet dX5_giveElement (j := 16) rfl) rfl
  · rw [if_neg hc] at hf; cases hf
def eX5_giveField : List (Nat × Instr × Nat) := [(0, .lload_n 1, 1), (1, .lconst 0, 1), (2, .lcmp, 1), (3, .ifCond .ne 8, 3), (6, .iconst 0, 1), (7, .invokestatic 234, 3), (10, .lreturn, 1), (11, .aload_n 0, 1), (12, .getfield 28, 3), (15, .lload_n 1, 1), (16, .iload_n 3, 1), (17, .lload 4, 2), (19, .invokevirtual 285, 3), (22, .lconst 0, 1), (23, .lreturn, 1)]
theorem dX5_giveField : dChk (pCd 6190) eX5_giveField = true := by decide +kernel
def fX5_giveField (N : Nat) (v0 : Nat) (v1 : Int64) (v2 : Int32) (v3 : Int64) (h : pH) : Option (Int64 × pH) := if isO h v0 5 = true then (
  if (lg_cmp v1 (0 : Int64)) = 0 then (
  (fX3_faultObject N (0 : Int32) h).bind fun q4 =>
  some (q4.1, q4.2)) else (
  (getR h v0 5 4).bind fun t2 =>
  (fX3_put N t2 v1 v2 v3 h).bind fun h3 =>
  some ((0 : Int64), h3))) else none
theorem oX5_giveField {N : Nat} {v0 : Nat} {v1 : Int64} {v2 : Int32} {v3 : Int64} {h : pH} {q : Int64 × pH} (hf : fX5_giveField N v0 v1 v2 v3 h = some q) : isO h v0 5 = true := by
  unfold fX5_giveField at hf
  by_cases hc : isO h v0 5 = true
  · exact hc
  · rw [if_neg hc] at hf; cases hf
theorem cX5_giveField (X : pX) (N d : Nat) (v0 : Nat) (v1 : Int64) (v2 : Int32) (v3 : Int64) (h : pH) (q : Int64 × pH) (hf : fX5_giveField N v0 v1 v2 v3 h = some q) : Calls X (d + 3) 216 [.ref v0, .long v1, .int v2, .long v3] h (some (.long q.1), q.2, 0, 0) := by
  refine Calls.of M216 (Nat.le_of_ble_eq_true rfl) ?_
  show Run X (d + 3) 5 false (pCd 6190) 6 (some .long) 0 [(0, .ref v0), (1, .long v1), (3, .int v2), (4, .long v3)] [] h 0 0 (some (.long q.1), q.2, 0, 0)
  unfold fX5_giveField at hf
  by_cases hc : isO h v0 5 = true
  · rw [if_pos hc] at hf
    have nv0 : ¬ v0 = 4 := isO_ne hc
    refine r_lload_n (dGet dX5_giveField (j := 0) rfl) rfl ?_
    refine r_lconst (v := 0) (dGet dX5_giveField (j := 1) rfl) rfl ?_
    refine r_lcmp (dGet dX5_giveField (j := 2) rfl) ?_
    by_cases c1 : (lg_cmp v1 (0 : Int64)) = 0
    · rw [if_pos c1] at hf
      refine r_if_ne_f (dGet dX5_giveField (j := 3) rfl) rfl c1 ?_
      refine r_iconst (dGet dX5_giveField (j := 4) rfl) kI_0 ?_
      obtain ⟨q4, eq4, hf⟩ := Option.bind_eq_some_iff.mp hf
      refine r_static (dGet dX5_giveField (j := 5) rfl) (by decide +kernel) (by decide +kernel) L5_234 M195 rfl rfl (Nat.le_of_ble_eq_true rfl) (cX3_faultObject X N (d + 2) (0 : Int32) h q4 eq4) ?_
      cases hf
      exact r_lret (dGet dX5_giveField (j := 6) rfl) rfl
    · rw [if_neg c1] at hf
      refine r_if_ne_t (dGet dX5_giveField (j := 3) rfl) rfl c1 ?_
      refine r_aload_n (dGet dX5_giveField (j := 7) rfl) nv0 rfl ?_
      obtain ⟨t2, et2, hf⟩ := Option.bind_eq_some_iff.mp hf
      refine r_getR (dGet dX5_giveField (j := 8) rfl) F5_28 et2 ?_
      refine r_lload_n (dGet dX5_giveField (j := 9) rfl) rfl ?_
      refine r_iload_n (dGet dX5_giveField (j := 10) rfl) rfl ?_
      refine r_lload (dGet dX5_giveField (j := 11) rfl) rfl ?_
      obtain ⟨h3, eh3, hf⟩ := Option.bind_eq_some_iff.mp hf
      refine r_virtual (dGet dX5_giveField (j := 12) rfl) L5_285 M217 rfl rfl (Nat.le_of_ble_eq_true rfl) (oX3_put eh3) (cX3_put X N (d + 0) t2 v1 v2 v3 h h3 eh3) ?_
      refine r_lconst (v := 0) (dGet dX5_giveField (j := 13) rfl) rfl ?_
      cases hf
      exact r_lret (dGet dX5_giveField (j := 14) rfl) rfl
  · rw [if_neg hc] at hf; cases hf
def eX5_actGift : List (Nat × Instr × Nat) := [(0, .iload_n 1, 1), (1, .tableswitch 79 33 36 #[57, 79, 31, 42], 31), (32, .aload_n 0, 1), (33, .aload_n 0, 1), (34, .invokevirtual 167, 3), (37, .iload_n 2, 1), (38, .lload_n 3, 1), (39, .invokevirtual 277, 3), (42, .lreturn, 1), (43, .aload_n 0, 1), (44, .aload_n 0, 1), (45, .invokevirtual 167, 3), (48, .l2i, 1), (49, .aload_n 0, 1), (50, .invokevirtual 167, 3), (53, .lload_n 3, 1), (54, .invokevirtual 281, 3), (57, .lreturn, 1), (58, .aload_n 0, 1), (59, .getfield 28, 3), (62, .aload_n 0, 1), (63, .getfield 46, 3), (66, .aload_n 0, 1), (67, .getfield 71, 3), (70, .iconst 1, 1), (71, .isub, 1), (72, .laload, 1), (73, .iload_n 2, 1), (74, .lload_n 3, 1), (75, .invokevirtual 285, 3), (78, .lconst 0, 1), (79, .lreturn, 1), (80, .aload_n 0, 1), (81, .getfield 32, 3), (84, .aload_n 0, 1), (85, .iload_n 2, 1), (86, .invokevirtual 200, 3), (89, .lload_n 3, 1), (90, .lastore, 1), (91, .lconst 0, 1), (92, .lreturn, 1)]
theorem dX5_actGift : dChk (pCd 6186) eX5_actGift = true := by decide +kernel
def fX5_actGift_80 (N : Nat) (v0 : Nat) (v2 : Int32) (v3 : Int64) (h : pH) : Option (Int64 × pH) :=
  (getR h v0 5 5).bind fun t1 =>
  (fX5_slot N v0 v2 h).bind fun q2 =>
  (stJ q2.2 t1 q2.1 v3).bind fun h3 =>
  some ((0 : Int64), h3)
theorem lX5_actGift_80 (X : pX) (N d : Nat)  (v0 : Nat) (v2 : Int32) (v3 : Int64) (h : pH) (q : Int64 × pH) (hf : fX5_actGift_80 N v0 v2 v3 h = some q) (nv0 : ¬ v0 = 4) : Run X (d + 4) 5 false (pCd 6186) 5 (some .long) 80 [(0, .ref v0), (2, .int v2), (3, .long v3)] [] h 0 0 (some (.long q.1), q.2, 0, 0) := by
  unfold fX5_actGift_80 at hf
  refine r_aload_n (dGet dX5_actGift (j := 32) rfl) nv0 rfl ?_
  obtain ⟨t1, et1, hf⟩ := Option.bind_eq_some_iff.mp hf
  refine r_getR (dGet dX5_actGift (j := 33) rfl) F5_32 et1 ?_
  refine r_aload_n (dGet dX5_actGift (j := 34) rfl) nv0 rfl ?_
  refine r_iload_n (dGet dX5_actGift (j := 35) rfl) rfl ?_
  obtain ⟨q2, eq2, hf⟩ := Option.bind_eq_some_iff.mp hf
  refine r_virtual (dGet dX5_actGift (j := 36) rfl) L5_200 M183 rfl rfl (Nat.le_of_ble_eq_true rfl) (oX5_slot eq2) (cX5_slot X N (d + 2) v0 v2 h q2 eq2) ?_
  refine r_lload_n (dGet dX5_actGift (j := 37) rfl) rfl ?_
  obtain ⟨h3, eh3, hf⟩ := Option.bind_eq_some_iff.mp hf
  refine r_last (dGet dX5_actGift (j := 38) rfl) eh3 ?_
  refine r_lconst (v := 0) (dGet dX5_actGift (j := 39) rfl) rfl ?_
  cases hf
  exact r_lret (dGet dX5_actGift (j := 40) rfl) rfl
def fX5_actGift (N : Nat) (v0 : Nat) (v1 : Int32) (v2 : Int32) (v3 : Int64) (h : pH) : Option (Int64 × pH) := if isO h v0 5 = true then (
  if v1 = 33 then (
  (getR h v0 5 4).bind fun t8 =>
  (getR h v0 5 10).bind fun t9 =>
  (getI h v0 5 11).bind fun t10 =>
  (ldJ h t9 (t10 - (1 : Int32))).bind fun t11 =>
  (fX3_put N t8 t11 v2 v3 h).bind fun h12 =>
  some ((0 : Int64), h12)) else
  if v1 = 34 then (
  fX5_actGift_80 N v0 v2 v3 h) else
  if v1 = 35 then (
  (fX5_pop N v0 h).bind fun q13 =>
  (fX5_giveField N v0 q13.1 v2 v3 q13.2).bind fun q14 =>
  some (q14.1, q14.2)) else
  if v1 = 36 then (
  (fX5_pop N v0 h).bind fun q15 =>
  (fX5_pop N v0 q15.2).bind fun q16 =>
  (fX5_giveElement N v0 (q15.1.toInt32) q16.1 v3 q16.2).bind fun q17 =>
  some (q17.1, q17.2)) else
  fX5_actGift_80 N v0 v2 v3 h) else none
theorem oX5_actGift {N : Nat} {v0 : Nat} {v1 : Int32} {v2 : Int32} {v3 : Int64} {h : pH} {q : Int64 × pH} (hf : fX5_actGift N v0 v1 v2 v3 h = some q) : isO h v0 5 = true := by
  unfold fX5_actGift at hf
  by_cases hc : isO h v0 5 = true
  · exact hc
  · rw [if_neg hc] at hf; cases hf
theorem cX5_actGift (X : pX) (N d : Nat) (v0 : Nat) (v1 : Int32) (v2 : Int32) (v3 : Int64) (h : pH) (q : Int64 × pH) (hf : fX5_actGift N v0 v1 v2 v3 h = some q) : Calls X (d + 4) 215 [.ref v0, .int v1, .int v2, .long v3] h (some (.long q.1), q.2, 0, 0) := by
  refine Calls.of M215 (Nat.le_of_ble_eq_true rfl) ?_
  show Run X (d + 4) 5 false (pCd 6186) 5 (some .long) 0 [(0, .ref v0), (1, .int v1), (2, .int v2), (3, .long v3)] [] h 0 0 (some (.long q.1), q.2, 0, 0)
  unfold fX5_actGift at hf
  by_cases hc : isO h v0 5 = true
  · rw [if_pos hc] at hf
    have nv0 : ¬ v0 = 4 := isO_ne hc
    refine r_iload_n (dGet dX5_actGift (j := 0) rfl) rfl ?_
    by_cases c4 : v1 = 33
    · rw [if_pos c4] at hf
      refine r_table (off := 57) (dGet dX5_actGift (j := 1) rfl) (by rw [c4]; decide) rfl ?_
      refine r_aload_n (dGet dX5_actGift (j := 18) rfl) nv0 rfl ?_
      obtain ⟨t8, et8, hf⟩ := Option.bind_eq_some_iff.mp hf
      refine r_getR (dGet dX5_actGift (j := 19) rfl) F5_28 et8 ?_
      refine r_aload_n (dGet dX5_actGift (j := 20) rfl) nv0 rfl ?_
      obtain ⟨t9, et9, hf⟩ := Option.bind_eq_some_iff.mp hf
      refine r_getR (dGet dX5_actGift (j := 21) rfl) F5_46 et9 ?_
      refine r_aload_n (dGet dX5_actGift (j := 22) rfl) nv0 rfl ?_
      obtain ⟨t10, et10, hf⟩ := Option.bind_eq_some_iff.mp hf
      refine r_getI (dGet dX5_actGift (j := 23) rfl) F5_71 et10 ?_
      refine r_iconst (dGet dX5_actGift (j := 24) rfl) kI_1 ?_
      refine r_isub (dGet dX5_actGift (j := 25) rfl) ?_
      obtain ⟨t11, et11, hf⟩ := Option.bind_eq_some_iff.mp hf
      refine r_lald (dGet dX5_actGift (j := 26) rfl) et11 ?_
      refine r_iload_n (dGet dX5_actGift (j := 27) rfl) rfl ?_
      refine r_lload_n (dGet dX5_actGift (j := 28) rfl) rfl ?_
      obtain ⟨h12, eh12, hf⟩ := Option.bind_eq_some_iff.mp hf
      refine r_virtual (dGet dX5_actGift (j := 29) rfl) L5_285 M217 rfl rfl (Nat.le_of_ble_eq_true rfl) (oX3_put eh12) (cX3_put X N (d + 1) t8 t11 v2 v3 h h12 eh12) ?_
      refine r_lconst (v := 0) (dGet dX5_actGift (j := 30) rfl) rfl ?_
      cases hf
      exact r_lret (dGet dX5_actGift (j := 31) rfl) rfl
    rw [if_neg c4] at hf
    by_cases c5 : v1 = 34
    · rw [if_pos c5] at hf
      refine r_table (off := 79) (dGet dX5_actGift (j := 1) rfl) (by rw [c5]; decide) rfl ?_
      refine Run.weak [(0, .ref v0), (2, .int v2), (3, .long v3)] (by simp) (by simp [pNd]) ?_
      exact lX5_actGift_80 X N d v0 v2 v3 h q hf nv0
    rw [if_neg c5] at hf
    by_cases c6 : v1 = 35
    · rw [if_pos c6] at hf
      refine r_table (off := 31) (dGet dX5_actGift (j := 1) rfl) (by rw [c6]; decide) rfl ?_
      refine r_aload_n (dGet dX5_actGift (j := 2) rfl) nv0 rfl ?_
      refine r_aload_n (dGet dX5_actGift (j := 3) rfl) nv0 rfl ?_
      obtain ⟨q13, eq13, hf⟩ := Option.bind_eq_some_iff.mp hf
      refine r_virtual (dGet dX5_actGift (j := 4) rfl) L5_167 M182 rfl rfl (Nat.le_of_ble_eq_true rfl) (oX5_pop eq13) (cX5_pop X N (d + 3) v0 h q13 eq13) ?_
      refine r_iload_n (dGet dX5_actGift (j := 5) rfl) rfl ?_
      refine r_lload_n (dGet dX5_actGift (j := 6) rfl) rfl ?_
      obtain ⟨q14, eq14, hf⟩ := Option.bind_eq_some_iff.mp hf
      refine r_virtual (dGet dX5_actGift (j := 7) rfl) L5_277 M216 rfl rfl (Nat.le_of_ble_eq_true rfl) (oX5_giveField eq14) (cX5_giveField X N (d + 0) v0 q13.1 v2 v3 q13.2 q14 eq14) ?_
      cases hf
      exact r_lret (dGet dX5_actGift (j := 8) rfl) rfl
    rw [if_neg c6] at hf
    by_cases c7 : v1 = 36
    · rw [if_pos c7] at hf
      refine r_table (off := 42) (dGet dX5_actGift (j := 1) rfl) (by rw [c7]; decide) rfl ?_
      refine r_aload_n (dGet dX5_actGift (j := 9) rfl) nv0 rfl ?_
      refine r_aload_n (dGet dX5_actGift (j := 10) rfl) nv0 rfl ?_
      obtain ⟨q15, eq15, hf⟩ := Option.bind_eq_some_iff.mp hf
      refine r_virtual (dGet dX5_actGift (j := 11) rfl) L5_167 M182 rfl rfl (Nat.le_of_ble_eq_true rfl) (oX5_pop eq15) (cX5_pop X N (d + 3) v0 h q15 eq15) ?_
      refine r_l2i (dGet dX5_actGift (j := 12) rfl) ?_
      refine r_aload_n (dGet dX5_actGift (j := 13) rfl) nv0 rfl ?_
      obtain ⟨q16, eq16, hf⟩ := Option.bind_eq_some_iff.mp hf
      refine r_virtual (dGet dX5_actGift (j := 14) rfl) L5_167 M182 rfl rfl (Nat.le_of_ble_eq_true rfl) (oX5_pop eq16) (cX5_pop X N (d + 3) v0 q15.2 q16 eq16) ?_
      refine r_lload_n (dGet dX5_actGift (j := 15) rfl) rfl ?_
      obtain ⟨q17, eq17, hf⟩ := Option.bind_eq_some_iff.mp hf
      refine r_virtual (dGet dX5_actGift (j := 16) rfl) L5_281 M218 rfl rfl (Nat.le_of_ble_eq_true rfl) (oX5_giveElement eq17) (cX5_giveElement X N (d + 0) v0 (q15.1.toInt32) q16.1 v3 q16.2 q17 eq17) ?_
      cases hf
      exact r_lret (dGet dX5_actGift (j := 17) rfl) rfl
    rw [if_neg c7] at hf
    refine r_table (dGet dX5_actGift (j := 1) rfl) (pTable_out (cs := [33, 34, 35, 36]) (by decide) (by decide) (by decide) (List.forall_mem_cons.mpr ⟨c4, List.forall_mem_cons.mpr ⟨c5, List.forall_mem_cons.mpr ⟨c6, List.forall_mem_cons.mpr ⟨c7, fun _ h => absurd h List.not_mem_nil⟩⟩⟩⟩)) rfl ?_
    refine Run.weak [(0, .ref v0), (2, .int v2), (3, .long v3)] (by simp) (by simp [pNd]) ?_
    exact lX5_actGift_80 X N d v0 v2 v3 h q hf nv0
  · rw [if_neg hc] at hf; cases hf
def eX5_pushTruth : List (Nat × Instr × Nat) := [(0, .aload_n 0, 1), (1, .iload_n 1, 1), (2, .ifCond .eq 7, 3), (5, .lconst 1, 1), (6, .goto 4, 3), (9, .lconst 0, 1), (10, .invokevirtual 121, 3), (13, .lconst 0, 1), (14, .lreturn, 1)]
theorem dX5_pushTruth : dChk (pCd 6170) eX5_pushTruth = true := by decide +kernel
def fX5_pushTruth_10 (N : Nat) (s0 : Nat) (s1 : Int64) (h : pH) : Option (Int64 × pH) :=
  (fX5_push N s0 s1 h).bind fun h1 =>
  some ((0 : Int64), h1)
theorem lX5_pushTruth_10 (X : pX) (N d : Nat)  (s0 : Nat) (s1 : Int64) (h : pH) (q : Int64 × pH) (hf : fX5_pushTruth_10 N s0 s1 h = some q) (ns0 : ¬ s0 = 4) : Run X (d + 1) 5 false (pCd 6170) 2 (some .long) 10 [] [.long s1, .ref s0] h 0 0 (some (.long q.1), q.2, 0, 0) := by
  unfold fX5_pushTruth_10 at hf
  obtain ⟨h1, eh1, hf⟩ := Option.bind_eq_some_iff.mp hf
  refine r_virtual (dGet dX5_pushTruth (j := 6) rfl) L5_121 M174 rfl rfl (Nat.le_of_ble_eq_true rfl) (oX5_push eh1) (cX5_push X N (d + 0) s0 s1 h h1 eh1) ?_
  refine r_lconst (v := 0) (dGet dX5_pushTruth (j := 7) rfl) rfl ?_
  cases hf
  exact r_lret (dGet dX5_pushTruth (j := 8) rfl) rfl
def fX5_pushTruth (N : Nat) (v0 : Nat) (v1 : Int32) (h : pH) : Option (Int64 × pH) := if isO h v0 5 = true then (
  if v1 = 0 then (
  fX5_pushTruth_10 N v0 (0 : Int64) h) else (
  fX5_pushTruth_10 N v0 (1 : Int64) h)) else none
theorem oX5_pushTruth {N : Nat} {v0 : Nat} {v1 : Int32} {h : pH} {q : Int64 × pH} (hf : fX5_pushTruth N v0 v1 h = some q) : isO h v0 5 = true := by
  unfold fX5_pushTruth at hf
  by_cases hc : isO h v0 5 = true
  · exact hc
  · rw [if_neg hc] at hf; cases hf
theorem cX5_pushTruth (X : pX) (N d : Nat) (v0 : Nat) (v1 : Int32) (h : pH) (q : Int64 × pH) (hf : fX5_pushTruth N v0 v1 h = some q) : Calls X (d + 1) 211 [.ref v0, .int v1] h (some (.long q.1), q.2, 0, 0) := by
  refine Calls.of M211 (Nat.le_of_ble_eq_true rfl) ?_
  show Run X (d + 1) 5 false (pCd 6170) 2 (some .long) 0 [(0, .ref v0), (1, .int v1)] [] h 0 0 (some (.long q.1), q.2, 0, 0)
  unfold fX5_pushTruth at hf
  by_cases hc : isO h v0 5 = true
  · rw [if_pos hc] at hf
    have nv0 : ¬ v0 = 4 := isO_ne hc
    refine r_aload_n (dGet dX5_pushTruth (j := 0) rfl) nv0 rfl ?_
    refine r_iload_n (dGet dX5_pushTruth (j := 1) rfl) rfl ?_
    by_cases c2 : v1 = 0
    · rw [if_pos c2] at hf
      refine r_if_eq_t (dGet dX5_pushTruth (j := 2) rfl) rfl c2 ?_
      refine r_lconst (v := 0) (dGet dX5_pushTruth (j := 5) rfl) rfl ?_
      refine Run.weak [] (by simp) (by simp [pNd]) ?_
      exact lX5_pushTruth_10 X N d v0 (0 : Int64) h q hf nv0
    · rw [if_neg c2] at hf
      refine r_if_eq_f (dGet dX5_pushTruth (j := 2) rfl) rfl c2 ?_
      refine r_lconst (v := 1) (dGet dX5_pushTruth (j := 3) rfl) rfl ?_
      refine r_goto (dGet dX5_pushTruth (j := 4) rfl) rfl ?_
      refine Run.weak [] (by simp) (by simp [pNd]) ?_
      exact lX5_pushTruth_10 X N d v0 (1 : Int64) h q hf nv0
  · rw [if_neg hc] at hf; cases hf
def eX5_actJoin : List (Nat × Instr × Nat) := [(0, .aload_n 0, 1), (1, .invokevirtual 167, 3), (4, .lconst 0, 1), (5, .lcmp, 1), (6, .ifCond .eq 7, 3), (9, .iconst 1, 1), (10, .goto 4, 3), (13, .iconst 0, 1), (14, .istore_n 3, 1), (15, .iload_n 3, 1), (16, .iload_n 1, 1), (17, .bipush 29, 2), (19, .if_icmp .ne 7, 3), (22, .iconst 1, 1), (23, .goto 4, 3), (26, .iconst 0, 1), (27, .if_icmp .ne 14, 3), (30, .aload_n 0, 1), (31, .iload_n 3, 1), (32, .invokevirtual 230, 3), (35, .pop2, 1), (36, .aload_n 0, 1), (37, .iload_n 2, 1), (38, .putfield 77, 3), (41, .lconst 0, 1), (42, .lreturn, 1)]
theorem dX5_actJoin : dChk (pCd 6178) eX5_actJoin = true := by decide +kernel
def fX5_actJoin_27 (N : Nat) (v0 : Nat) (v2 : Int32) (v3 : Int32) (s0 : Int32) (s1 : Int32) (h : pH) : Option (Int64 × pH) :=
  if s0 = s1 then (
  (fX5_pushTruth N v0 v3 h).bind fun q2 =>
  (putI q2.2 v0 5 12 v2).bind fun h3 =>
  some ((0 : Int64), h3)) else (
  some ((0 : Int64), h))
theorem lX5_actJoin_27 (X : pX) (N d : Nat)  (v0 : Nat) (v2 : Int32) (v3 : Int32) (s0 : Int32) (s1 : Int32) (h : pH) (q : Int64 × pH) (hf : fX5_actJoin_27 N v0 v2 v3 s0 s1 h = some q) (nv0 : ¬ v0 = 4) : Run X (d + 2) 5 false (pCd 6178) 4 (some .long) 27 [(0, .ref v0), (2, .int v2), (3, .int v3)] [.int s1, .int s0] h 0 0 (some (.long q.1), q.2, 0, 0) := by
  unfold fX5_actJoin_27 at hf
  by_cases c1 : s0 = s1
  · rw [if_pos c1] at hf
    refine r_icmp_ne_f (dGet dX5_actJoin (j := 16) rfl) rfl c1 ?_
    refine r_aload_n (dGet dX5_actJoin (j := 17) rfl) nv0 rfl ?_
    refine r_iload_n (dGet dX5_actJoin (j := 18) rfl) rfl ?_
    obtain ⟨q2, eq2, hf⟩ := Option.bind_eq_some_iff.mp hf
    refine r_virtual (dGet dX5_actJoin (j := 19) rfl) L5_230 M211 rfl rfl (Nat.le_of_ble_eq_true rfl) (oX5_pushTruth eq2) (cX5_pushTruth X N (d + 0) v0 v3 h q2 eq2) ?_
    refine r_pop2 (dGet dX5_actJoin (j := 20) rfl) rfl ?_
    refine r_aload_n (dGet dX5_actJoin (j := 21) rfl) nv0 rfl ?_
    refine r_iload_n (dGet dX5_actJoin (j := 22) rfl) rfl ?_
    obtain ⟨h3, eh3, hf⟩ := Option.bind_eq_some_iff.mp hf
    refine r_putI (dGet dX5_actJoin (j := 23) rfl) F5_77 rfl rfl eh3 ?_
    refine r_lconst (v := 0) (dGet dX5_actJoin (j := 24) rfl) rfl ?_
    cases hf
    exact r_lret (dGet dX5_actJoin (j := 25) rfl) rfl
  · rw [if_neg c1] at hf
    refine r_icmp_ne_t (dGet dX5_actJoin (j := 16) rfl) rfl c1 ?_
    refine r_lconst (v := 0) (dGet dX5_actJoin (j := 24) rfl) rfl ?_
    cases hf
    exact r_lret (dGet dX5_actJoin (j := 25) rfl) rfl
def fX5_actJoin_14 (N : Nat) (v0 : Nat) (v1 : Int32) (v2 : Int32) (s0 : Int32) (h : pH) : Option (Int64 × pH) :=
  if v1 = (29 : Int32) then (
  fX5_actJoin_27 N v0 v2 s0 s0 (1 : Int32) h) else (
  fX5_actJoin_27 N v0 v2 s0 s0 (0 : Int32) h)
theorem lX5_actJoin_14 (X : pX) (N d : Nat)  (v0 : Nat) (v1 : Int32) (v2 : Int32) (s0 : Int32) (h : pH) (q : Int64 × pH) (hf : fX5_actJoin_14 N v0 v1 v2 s0 h = some q) (nv0 : ¬ v0 = 4) : Run X (d + 2) 5 false (pCd 6178) 4 (some .long) 14 [(0, .ref v0), (1, .int v1), (2, .int v2)] [.int s0] h 0 0 (some (.long q.1), q.2, 0, 0) := by
  unfold fX5_actJoin_14 at hf
  refine r_istore_n (lv' := [(3, .int s0), (0, .ref v0), (1, .int v1), (2, .int v2)]) (dGet dX5_actJoin (j := 8) rfl) (by decide) rfl ?_
  refine r_iload_n (dGet dX5_actJoin (j := 9) rfl) rfl ?_
  refine r_iload_n (dGet dX5_actJoin (j := 10) rfl) rfl ?_
  refine r_bipush (dGet dX5_actJoin (j := 11) rfl) kB_29 ?_
  by_cases c4 : v1 = (29 : Int32)
  · rw [if_pos c4] at hf
    refine r_icmp_ne_f (dGet dX5_actJoin (j := 12) rfl) rfl c4 ?_
    refine r_iconst (dGet dX5_actJoin (j := 13) rfl) kI_1 ?_
    refine r_goto (dGet dX5_actJoin (j := 14) rfl) rfl ?_
    refine Run.weak [(0, .ref v0), (2, .int v2), (3, .int s0)] (by simp) (by simp [pNd]) ?_
    exact lX5_actJoin_27 X N d v0 v2 s0 s0 (1 : Int32) h q hf nv0
  · rw [if_neg c4] at hf
    refine r_icmp_ne_t (dGet dX5_actJoin (j := 12) rfl) rfl c4 ?_
    refine r_iconst (dGet dX5_actJoin (j := 15) rfl) kI_0 ?_
    refine Run.weak [(0, .ref v0), (2, .int v2), (3, .int s0)] (by simp) (by simp [pNd]) ?_
    exact lX5_actJoin_27 X N d v0 v2 s0 s0 (0 : Int32) h q hf nv0
def fX5_actJoin (N : Nat) (v0 : Nat) (v1 : Int32) (v2 : Int32) (h : pH) : Option (Int64 × pH) := if isO h v0 5 = true then (
  (fX5_pop N v0 h).bind fun q5 =>
  if (lg_cmp q5.1 (0 : Int64)) = 0 then (
  fX5_actJoin_14 N v0 v1 v2 (0 : Int32) q5.2) else (
  fX5_actJoin_14 N v0 v1 v2 (1 : Int32) q5.2)) else none
theorem oX5_actJoin {N : Nat} {v0 : Nat} {v1 : Int32} {v2 : Int32} {h : pH} {q : Int64 × pH} (hf : fX5_actJoin N v0 v1 v2 h = some q) : isO h v0 5 = true := by
  unfold fX5_actJoin at hf
  by_cases hc : isO h v0 5 = true
  · exact hc
  · rw [if_neg hc] at hf; cases hf
theorem cX5_actJoin (X : pX) (N d : Nat) (v0 : Nat) (v1 : Int32) (v2 : Int32) (h : pH) (q : Int64 × pH) (hf : fX5_actJoin N v0 v1 v2 h = some q) : Calls X (d + 2) 213 [.ref v0, .int v1, .int v2] h (some (.long q.1), q.2, 0, 0) := by
  refine Calls.of M213 (Nat.le_of_ble_eq_true rfl) ?_
  show Run X (d + 2) 5 false (pCd 6178) 4 (some .long) 0 [(0, .ref v0), (1, .int v1), (2, .int v2)] [] h 0 0 (some (.long q.1), q.2, 0, 0)
  unfold fX5_actJoin at hf
  by_cases hc : isO h v0 5 = true
  · rw [if_pos hc] at hf
    have nv0 : ¬ v0 = 4 := isO_ne hc
    refine r_aload_n (dGet dX5_actJoin (j := 0) rfl) nv0 rfl ?_
    obtain ⟨q5, eq5, hf⟩ := Option.bind_eq_some_iff.mp hf
    refine r_virtual (dGet dX5_actJoin (j := 1) rfl) L5_167 M182 rfl rfl (Nat.le_of_ble_eq_true rfl) (oX5_pop eq5) (cX5_pop X N (d + 1) v0 h q5 eq5) ?_
    refine r_lconst (v := 0) (dGet dX5_actJoin (j := 2) rfl) rfl ?_
    refine r_lcmp (dGet dX5_actJoin (j := 3) rfl) ?_
    by_cases c6 : (lg_cmp q5.1 (0 : Int64)) = 0
    · rw [if_pos c6] at hf
      refine r_if_eq_t (dGet dX5_actJoin (j := 4) rfl) rfl c6 ?_
      refine r_iconst (dGet dX5_actJoin (j := 7) rfl) kI_0 ?_
      exact lX5_actJoin_14 X N d v0 v1 v2 (0 : Int32) q5.2 q hf nv0
    · rw [if_neg c6] at hf
      refine r_if_eq_f (dGet dX5_actJoin (j := 4) rfl) rfl c6 ?_
      refine r_iconst (dGet dX5_actJoin (j := 5) rfl) kI_1 ?_
      refine r_goto (dGet dX5_actJoin (j := 6) rfl) rfl ?_
      exact lX5_actJoin_14 X N d v0 v1 v2 (1 : Int32) q5.2 q hf nv0
  · rw [if_neg hc] at hf; cases hf
def eX5_isOfClass : List (Nat × Instr × Nat) := [(0, .lload_n 1, 1), (1, .lconst 0, 1), (2, .lcmp, 1), (3, .ifCond .eq 26, 3), (6, .aload_n 0, 1), (7, .getfield 7, 3), (10, .aload_n 0, 1), (11, .getfield 28, 3), (14, .lload_n 1, 1), (15, .invokevirtual 249, 3), (18, .iload_n 3, 1), (19, .invokevirtual 252, 3), (22, .ifCond .eq 7, 3), (25, .iconst 1, 1), (26, .goto 4, 3), (29, .iconst 0, 1), (30, .ireturn, 1)]
theorem dX5_isOfClass : dChk (pCd 6161) eX5_isOfClass = true := by decide +kernel
def fX5_isOfClass (N : Nat) (v0 : Nat) (v1 : Int64) (v2 : Int32) (h : pH) : Option (Int32 × pH) := if isO h v0 5 = true then (
  if (lg_cmp v1 (0 : Int64)) = 0 then (
  some ((0 : Int32), h)) else (
  (getR h v0 5 0).bind fun t2 =>
  (getR h v0 5 4).bind fun t3 =>
  (fX3_classOf N t3 v1 h).bind fun q4 =>
  (fX1_isSub N t2 q4.1 v2 q4.2).bind fun q5 =>
  if q5.1 = 0 then (
  some ((0 : Int32), q5.2)) else (
  some ((1 : Int32), q5.2)))) else none
theorem oX5_isOfClass {N : Nat} {v0 : Nat} {v1 : Int64} {v2 : Int32} {h : pH} {q : Int32 × pH} (hf : fX5_isOfClass N v0 v1 v2 h = some q) : isO h v0 5 = true := by
  unfold fX5_isOfClass at hf
  by_cases hc : isO h v0 5 = true
  · exact hc
  · rw [if_neg hc] at hf; cases hf
theorem cX5_isOfClass (X : pX) (N d : Nat) (v0 : Nat) (v1 : Int64) (v2 : Int32) (h : pH) (q : Int32 × pH) (hf : fX5_isOfClass N v0 v1 v2 h = some q) : Calls X (d + 2) 209 [.ref v0, .long v1, .int v2] h (some (.int q.1), q.2, 0, 0) := by
  refine Calls.of M209 (Nat.le_of_ble_eq_true rfl) ?_
  show Run X (d + 2) 5 false (pCd 6161) 4 (some .boolean) 0 [(0, .ref v0), (1, .long v1), (3, .int v2)] [] h 0 0 (some (.int q.1), q.2, 0, 0)
  unfold fX5_isOfClass at hf
  by_cases hc : isO h v0 5 = true
  · rw [if_pos hc] at hf
    have nv0 : ¬ v0 = 4 := isO_ne hc
    refine r_lload_n (dGet dX5_isOfClass (j := 0) rfl) rfl ?_
    refine r_lconst (v := 0) (dGet dX5_isOfClass (j := 1) rfl) rfl ?_
    refine r_lcmp (dGet dX5_isOfClass (j := 2) rfl) ?_
    by_cases c1 : (lg_cmp v1 (0 : Int64)) = 0
    · rw [if_pos c1] at hf
      refine r_if_eq_t (dGet dX5_isOfClass (j := 3) rfl) rfl c1 ?_
      refine r_iconst (dGet dX5_isOfClass (j := 15) rfl) kI_0 ?_
      cases hf
      exact r_iret (dGet dX5_isOfClass (j := 16) rfl) rfl (by decide)
    · rw [if_neg c1] at hf
      refine r_if_eq_f (dGet dX5_isOfClass (j := 3) rfl) rfl c1 ?_
      refine r_aload_n (dGet dX5_isOfClass (j := 4) rfl) nv0 rfl ?_
      obtain ⟨t2, et2, hf⟩ := Option.bind_eq_some_iff.mp hf
      refine r_getR (dGet dX5_isOfClass (j := 5) rfl) F5_7 et2 ?_
      refine r_aload_n (dGet dX5_isOfClass (j := 6) rfl) nv0 rfl ?_
      obtain ⟨t3, et3, hf⟩ := Option.bind_eq_some_iff.mp hf
      refine r_getR (dGet dX5_isOfClass (j := 7) rfl) F5_28 et3 ?_
      refine r_lload_n (dGet dX5_isOfClass (j := 8) rfl) rfl ?_
      obtain ⟨q4, eq4, hf⟩ := Option.bind_eq_some_iff.mp hf
      refine r_virtual (dGet dX5_isOfClass (j := 9) rfl) L5_249 M210 rfl rfl (Nat.le_of_ble_eq_true rfl) (oX3_classOf eq4) (cX3_classOf X N (d + 1) t3 v1 h q4 eq4) ?_
      refine r_iload_n (dGet dX5_isOfClass (j := 10) rfl) rfl ?_
      obtain ⟨q5, eq5, hf⟩ := Option.bind_eq_some_iff.mp hf
      refine r_virtual (dGet dX5_isOfClass (j := 11) rfl) L5_252 M146 rfl rfl (Nat.le_of_ble_eq_true rfl) (oX1_isSub eq5) (cX1_isSub X N (d + 0) t2 q4.1 v2 q4.2 q5 eq5) ?_
      by_cases c6 : q5.1 = 0
      · rw [if_pos c6] at hf
        refine r_if_eq_t (dGet dX5_isOfClass (j := 12) rfl) rfl c6 ?_
        refine r_iconst (dGet dX5_isOfClass (j := 15) rfl) kI_0 ?_
        cases hf
        exact r_iret (dGet dX5_isOfClass (j := 16) rfl) rfl (by decide)
      · rw [if_neg c6] at hf
        refine r_if_eq_f (dGet dX5_isOfClass (j := 12) rfl) rfl c6 ?_
        refine r_iconst (dGet dX5_isOfClass (j := 13) rfl) kI_1 ?_
        refine r_goto (dGet dX5_isOfClass (j := 14) rfl) rfl ?_
        cases hf
        exact r_iret (dGet dX5_isOfClass (j := 16) rfl) rfl (by decide)
  · rw [if_neg hc] at hf; cases hf
def eX5_cast : List (Nat × Instr × Nat) := [(0, .lload_n 1, 1), (1, .lconst 0, 1), (2, .lcmp, 1), (3, .ifCond .eq 17, 3), (6, .aload_n 0, 1), (7, .lload_n 1, 1), (8, .iload_n 3, 1), (9, .invokevirtual 226, 3), (12, .ifCond .ne 8, 3), (15, .iconst 3, 1), (16, .invokestatic 234, 3), (19, .lreturn, 1), (20, .aload_n 0, 1), (21, .lload_n 1, 1), (22, .invokevirtual 121, 3), (25, .lconst 0, 1), (26, .lreturn, 1)]
theorem dX5_cast : dChk (pCd 6157) eX5_cast = true := by decide +kernel
def fX5_cast_20 (N : Nat) (v0 : Nat) (v1 : Int64) (h : pH) : Option (Int64 × pH) :=
  (fX5_push N v0 v1 h).bind fun h1 =>
  some ((0 : Int64), h1)
theorem lX5_cast_20 (X : pX) (N d : Nat)  (v0 : Nat) (v1 : Int64) (h : pH) (q : Int64 × pH) (hf : fX5_cast_20 N v0 v1 h = some q) (nv0 : ¬ v0 = 4) : Run X (d + 3) 5 false (pCd 6157) 4 (some .long) 20 [(0, .ref v0), (1, .long v1)] [] h 0 0 (some (.long q.1), q.2, 0, 0) := by
  unfold fX5_cast_20 at hf
  refine r_aload_n (dGet dX5_cast (j := 12) rfl) nv0 rfl ?_
  refine r_lload_n (dGet dX5_cast (j := 13) rfl) rfl ?_
  obtain ⟨h1, eh1, hf⟩ := Option.bind_eq_some_iff.mp hf
  refine r_virtual (dGet dX5_cast (j := 14) rfl) L5_121 M174 rfl rfl (Nat.le_of_ble_eq_true rfl) (oX5_push eh1) (cX5_push X N (d + 2) v0 v1 h h1 eh1) ?_
  refine r_lconst (v := 0) (dGet dX5_cast (j := 15) rfl) rfl ?_
  cases hf
  exact r_lret (dGet dX5_cast (j := 16) rfl) rfl
def fX5_cast (N : Nat) (v0 : Nat) (v1 : Int64) (v2 : Int32) (h : pH) : Option (Int64 × pH) := if isO h v0 5 = true then (
  if (lg_cmp v1 (0 : Int64)) = 0 then (
  fX5_cast_20 N v0 v1 h) else (
  (fX5_isOfClass N v0 v1 v2 h).bind fun q3 =>
  if q3.1 = 0 then (
  (fX3_faultObject N (3 : Int32) q3.2).bind fun q5 =>
  some (q5.1, q5.2)) else (
  fX5_cast_20 N v0 v1 q3.2))) else none
theorem oX5_cast {N : Nat} {v0 : Nat} {v1 : Int64} {v2 : Int32} {h : pH} {q : Int64 × pH} (hf : fX5_cast N v0 v1 v2 h = some q) : isO h v0 5 = true := by
  unfold fX5_cast at hf
  by_cases hc : isO h v0 5 = true
  · exact hc
  · rw [if_neg hc] at hf; cases hf
theorem cX5_cast (X : pX) (N d : Nat) (v0 : Nat) (v1 : Int64) (v2 : Int32) (h : pH) (q : Int64 × pH) (hf : fX5_cast N v0 v1 v2 h = some q) : Calls X (d + 3) 208 [.ref v0, .long v1, .int v2] h (some (.long q.1), q.2, 0, 0) := by
  refine Calls.of M208 (Nat.le_of_ble_eq_true rfl) ?_
  show Run X (d + 3) 5 false (pCd 6157) 4 (some .long) 0 [(0, .ref v0), (1, .long v1), (3, .int v2)] [] h 0 0 (some (.long q.1), q.2, 0, 0)
  unfold fX5_cast at hf
  by_cases hc : isO h v0 5 = true
  · rw [if_pos hc] at hf
    have nv0 : ¬ v0 = 4 := isO_ne hc
    refine r_lload_n (dGet dX5_cast (j := 0) rfl) rfl ?_
    refine r_lconst (v := 0) (dGet dX5_cast (j := 1) rfl) rfl ?_
    refine r_lcmp (dGet dX5_cast (j := 2) rfl) ?_
    by_cases c2 : (lg_cmp v1 (0 : Int64)) = 0
    · rw [if_pos c2] at hf
      refine r_if_eq_t (dGet dX5_cast (j := 3) rfl) rfl c2 ?_
      refine Run.weak [(0, .ref v0), (1, .long v1)] (by simp) (by simp [pNd]) ?_
      exact lX5_cast_20 X N d v0 v1 h q hf nv0
    · rw [if_neg c2] at hf
      refine r_if_eq_f (dGet dX5_cast (j := 3) rfl) rfl c2 ?_
      refine r_aload_n (dGet dX5_cast (j := 4) rfl) nv0 rfl ?_
      refine r_lload_n (dGet dX5_cast (j := 5) rfl) rfl ?_
      refine r_iload_n (dGet dX5_cast (j := 6) rfl) rfl ?_
      obtain ⟨q3, eq3, hf⟩ := Option.bind_eq_some_iff.mp hf
      refine r_virtual (dGet dX5_cast (j := 7) rfl) L5_226 M209 rfl rfl (Nat.le_of_ble_eq_true rfl) (oX5_isOfClass eq3) (cX5_isOfClass X N (d + 0) v0 v1 v2 h q3 eq3) ?_
      by_cases c4 : q3.1 = 0
      · rw [if_pos c4] at hf
        refine r_if_ne_f (dGet dX5_cast (j := 8) rfl) rfl c4 ?_
        refine r_iconst (dGet dX5_cast (j := 9) rfl) kI_3 ?_
        obtain ⟨q5, eq5, hf⟩ := Option.bind_eq_some_iff.mp hf
        refine r_static (dGet dX5_cast (j := 10) rfl) (by decide +kernel) (by decide +kernel) L5_234 M195 rfl rfl (Nat.le_of_ble_eq_true rfl) (cX3_faultObject X N (d + 2) (3 : Int32) q3.2 q5 eq5) ?_
        cases hf
        exact r_lret (dGet dX5_cast (j := 11) rfl) rfl
      · rw [if_neg c4] at hf
        refine r_if_ne_t (dGet dX5_cast (j := 8) rfl) rfl c4 ?_
        refine Run.weak [(0, .ref v0), (1, .long v1)] (by simp) (by simp [pNd]) ?_
        exact lX5_cast_20 X N d v0 v1 q3.2 q hf nv0
  · rw [if_neg hc] at hf; cases hf
def eX5_takeElement : List (Nat × Instr × Nat) := [(0, .aload_n 0, 1), (1, .iload_n 1, 1), (2, .lload_n 2, 1), (3, .invokevirtual 244, 3), (6, .lstore 4, 2), (8, .lload 4, 2), (10, .lconst 0, 1), (11, .lcmp, 1), (12, .ifCond .ne 16, 3), (15, .aload_n 0, 1), (16, .aload_n 0, 1), (17, .getfield 28, 3), (20, .lload_n 2, 1), (21, .iload_n 1, 1), (22, .invokevirtual 210, 3), (25, .invokevirtual 121, 3), (28, .lload 4, 2), (30, .lreturn, 1)]
theorem dX5_takeElement : dChk (pCd 6148) eX5_takeElement = true := by decide +kernel
def fX5_takeElement (N : Nat) (v0 : Nat) (v1 : Int32) (v2 : Int64) (h : pH) : Option (Int64 × pH) := if isO h v0 5 = true then (
  (fX5_elementFault N v0 v1 v2 h).bind fun q1 =>
  if (lg_cmp q1.1 (0 : Int64)) = 0 then (
  (getR q1.2 v0 5 4).bind fun t3 =>
  (fX3_at N t3 v2 v1 q1.2).bind fun q4 =>
  (fX5_push N v0 q4.1 q4.2).bind fun h5 =>
  some (q1.1, h5)) else (
  some (q1.1, q1.2))) else none
theorem oX5_takeElement {N : Nat} {v0 : Nat} {v1 : Int32} {v2 : Int64} {h : pH} {q : Int64 × pH} (hf : fX5_takeElement N v0 v1 v2 h = some q) : isO h v0 5 = true := by
  unfold fX5_takeElement at hf
  by_cases hc : isO h v0 5 = true
  · exact hc
  · rw [if_neg hc] at hf; cases hf
theorem cX5_takeElement (X : pX) (N d : Nat) (v0 : Nat) (v1 : Int32) (v2 : Int64) (h : pH) (q : Int64 × pH) (hf : fX5_takeElement N v0 v1 v2 h = some q) : Calls X (d + 3) 206 [.ref v0, .int v1, .long v2] h (some (.long q.1), q.2, 0, 0) := by
  refine Calls.of M206 (Nat.le_of_ble_eq_true rfl) ?_
  show Run X (d + 3) 5 false (pCd 6148) 6 (some .long) 0 [(0, .ref v0), (1, .int v1), (2, .long v2)] [] h 0 0 (some (.long q.1), q.2, 0, 0)
  unfold fX5_takeElement at hf
  by_cases hc : isO h v0 5 = true
  · rw [if_pos hc] at hf
    have nv0 : ¬ v0 = 4 := isO_ne hc
    refine r_aload_n (dGet dX5_takeElement (j := 0) rfl) nv0 rfl ?_
    refine r_iload_n (dGet dX5_takeElement (j := 1) rfl) rfl ?_
    refine r_lload_n (dGet dX5_takeElement (j := 2) rfl) rfl ?_
    obtain ⟨q1, eq1, hf⟩ := Option.bind_eq_some_iff.mp hf
    refine r_virtual (dGet dX5_takeElement (j := 3) rfl) L5_244 M207 rfl rfl (Nat.le_of_ble_eq_true rfl) (oX5_elementFault eq1) (cX5_elementFault X N (d + 0) v0 v1 v2 h q1 eq1) ?_
    refine r_lstore (lv' := [(4, .long q1.1), (0, .ref v0), (1, .int v1), (2, .long v2)]) (dGet dX5_takeElement (j := 4) rfl) (by decide) rfl ?_
    refine r_lload (dGet dX5_takeElement (j := 5) rfl) rfl ?_
    refine r_lconst (v := 0) (dGet dX5_takeElement (j := 6) rfl) rfl ?_
    refine r_lcmp (dGet dX5_takeElement (j := 7) rfl) ?_
    by_cases c2 : (lg_cmp q1.1 (0 : Int64)) = 0
    · rw [if_pos c2] at hf
      refine r_if_ne_f (dGet dX5_takeElement (j := 8) rfl) rfl c2 ?_
      refine r_aload_n (dGet dX5_takeElement (j := 9) rfl) nv0 rfl ?_
      refine r_aload_n (dGet dX5_takeElement (j := 10) rfl) nv0 rfl ?_
      obtain ⟨t3, et3, hf⟩ := Option.bind_eq_some_iff.mp hf
      refine r_getR (dGet dX5_takeElement (j := 11) rfl) F5_28 et3 ?_
      refine r_lload_n (dGet dX5_takeElement (j := 12) rfl) rfl ?_
      refine r_iload_n (dGet dX5_takeElement (j := 13) rfl) rfl ?_
      obtain ⟨q4, eq4, hf⟩ := Option.bind_eq_some_iff.mp hf
      refine r_virtual (dGet dX5_takeElement (j := 14) rfl) L5_210 M191 rfl rfl (Nat.le_of_ble_eq_true rfl) (oX3_at eq4) (cX3_at X N (d + 0) t3 v2 v1 q1.2 q4 eq4) ?_
      obtain ⟨h5, eh5, hf⟩ := Option.bind_eq_some_iff.mp hf
      refine r_virtual (dGet dX5_takeElement (j := 15) rfl) L5_121 M174 rfl rfl (Nat.le_of_ble_eq_true rfl) (oX5_push eh5) (cX5_push X N (d + 2) v0 q4.1 q4.2 h5 eh5) ?_
      refine r_lload (dGet dX5_takeElement (j := 16) rfl) rfl ?_
      cases hf
      exact r_lret (dGet dX5_takeElement (j := 17) rfl) rfl
    · rw [if_neg c2] at hf
      refine r_if_ne_t (dGet dX5_takeElement (j := 8) rfl) rfl c2 ?_
      refine r_lload (dGet dX5_takeElement (j := 16) rfl) rfl ?_
      cases hf
      exact r_lret (dGet dX5_takeElement (j := 17) rfl) rfl
  · rw [if_neg hc] at hf; cases hf
def eX5_takeField : List (Nat × Instr × Nat) := [(0, .lload_n 1, 1), (1, .lconst 0, 1), (2, .lcmp, 1), (3, .ifCond .ne 8, 3), (6, .iconst 0, 1), (7, .invokestatic 234, 3), (10, .lreturn, 1), (11, .aload_n 0, 1), (12, .aload_n 0, 1), (13, .getfield 28, 3), (16, .lload_n 1, 1), (17, .iload_n 3, 1), (18, .invokevirtual 210, 3), (21, .invokevirtual 121, 3), (24, .lconst 0, 1), (25, .lreturn, 1)]
theorem dX5_takeField : dChk (pCd 6135) eX5_takeField = true := by decide +kernel
def fX5_takeField (N : Nat) (v0 : Nat) (v1 : Int64) (v2 : Int32) (h : pH) : Option (Int64 × pH) := if isO h v0 5 = true then (
  if (lg_cmp v1 (0 : Int64)) = 0 then (
  (fX3_faultObject N (0 : Int32) h).bind fun q5 =>
  some (q5.1, q5.2)) else (
  (getR h v0 5 4).bind fun t2 =>
  (fX3_at N t2 v1 v2 h).bind fun q3 =>
  (fX5_push N v0 q3.1 q3.2).bind fun h4 =>
  some ((0 : Int64), h4))) else none
theorem oX5_takeField {N : Nat} {v0 : Nat} {v1 : Int64} {v2 : Int32} {h : pH} {q : Int64 × pH} (hf : fX5_takeField N v0 v1 v2 h = some q) : isO h v0 5 = true := by
  unfold fX5_takeField at hf
  by_cases hc : isO h v0 5 = true
  · exact hc
  · rw [if_neg hc] at hf; cases hf
theorem cX5_takeField (X : pX) (N d : Nat) (v0 : Nat) (v1 : Int64) (v2 : Int32) (h : pH) (q : Int64 × pH) (hf : fX5_takeField N v0 v1 v2 h = some q) : Calls X (d + 3) 203 [.ref v0, .long v1, .int v2] h (some (.long q.1), q.2, 0, 0) := by
  refine Calls.of M203 (Nat.le_of_ble_eq_true rfl) ?_
  show Run X (d + 3) 5 false (pCd 6135) 4 (some .long) 0 [(0, .ref v0), (1, .long v1), (3, .int v2)] [] h 0 0 (some (.long q.1), q.2, 0, 0)
  unfold fX5_takeField at hf
  by_cases hc : isO h v0 5 = true
  · rw [if_pos hc] at hf
    have nv0 : ¬ v0 = 4 := isO_ne hc
    refine r_lload_n (dGet dX5_takeField (j := 0) rfl) rfl ?_
    refine r_lconst (v := 0) (dGet dX5_takeField (j := 1) rfl) rfl ?_
    refine r_lcmp (dGet dX5_takeField (j := 2) rfl) ?_
    by_cases c1 : (lg_cmp v1 (0 : Int64)) = 0
    · rw [if_pos c1] at hf
      refine r_if_ne_f (dGet dX5_takeField (j := 3) rfl) rfl c1 ?_
      refine r_iconst (dGet dX5_takeField (j := 4) rfl) kI_0 ?_
      obtain ⟨q5, eq5, hf⟩ := Option.bind_eq_some_iff.mp hf
      refine r_static (dGet dX5_takeField (j := 5) rfl) (by decide +kernel) (by decide +kernel) L5_234 M195 rfl rfl (Nat.le_of_ble_eq_true rfl) (cX3_faultObject X N (d + 2) (0 : Int32) h q5 eq5) ?_
      cases hf
      exact r_lret (dGet dX5_takeField (j := 6) rfl) rfl
    · rw [if_neg c1] at hf
      refine r_if_ne_t (dGet dX5_takeField (j := 3) rfl) rfl c1 ?_
      refine r_aload_n (dGet dX5_takeField (j := 7) rfl) nv0 rfl ?_
      refine r_aload_n (dGet dX5_takeField (j := 8) rfl) nv0 rfl ?_
      obtain ⟨t2, et2, hf⟩ := Option.bind_eq_some_iff.mp hf
      refine r_getR (dGet dX5_takeField (j := 9) rfl) F5_28 et2 ?_
      refine r_lload_n (dGet dX5_takeField (j := 10) rfl) rfl ?_
      refine r_iload_n (dGet dX5_takeField (j := 11) rfl) rfl ?_
      obtain ⟨q3, eq3, hf⟩ := Option.bind_eq_some_iff.mp hf
      refine r_virtual (dGet dX5_takeField (j := 12) rfl) L5_210 M191 rfl rfl (Nat.le_of_ble_eq_true rfl) (oX3_at eq3) (cX3_at X N (d + 0) t2 v1 v2 h q3 eq3) ?_
      obtain ⟨h4, eh4, hf⟩ := Option.bind_eq_some_iff.mp hf
      refine r_virtual (dGet dX5_takeField (j := 13) rfl) L5_121 M174 rfl rfl (Nat.le_of_ble_eq_true rfl) (oX5_push eh4) (cX5_push X N (d + 2) v0 q3.1 q3.2 h4 eh4) ?_
      refine r_lconst (v := 0) (dGet dX5_takeField (j := 14) rfl) rfl ?_
      cases hf
      exact r_lret (dGet dX5_takeField (j := 15) rfl) rfl
  · rw [if_neg hc] at hf; cases hf
def eX5_pushNumber : List (Nat × Instr × Nat) := [(0, .aload_n 0, 1), (1, .iload_n 1, 1), (2, .invokestatic 145, 3), (5, .invokevirtual 121, 3), (8, .lconst 0, 1), (9, .lreturn, 1)]
theorem dX5_pushNumber : dChk (pCd 6144) eX5_pushNumber = true := by decide +kernel
def fX5_pushNumber (N : Nat) (v0 : Nat) (v1 : Int32) (h : pH) : Option (Int64 × pH) := if isO h v0 5 = true then (
  (fX3_number N v1 h).bind fun q1 =>
  (fX5_push N v0 q1.1 q1.2).bind fun h2 =>
  some ((0 : Int64), h2)) else none
theorem oX5_pushNumber {N : Nat} {v0 : Nat} {v1 : Int32} {h : pH} {q : Int64 × pH} (hf : fX5_pushNumber N v0 v1 h = some q) : isO h v0 5 = true := by
  unfold fX5_pushNumber at hf
  by_cases hc : isO h v0 5 = true
  · exact hc
  · rw [if_neg hc] at hf; cases hf
theorem cX5_pushNumber (X : pX) (N d : Nat) (v0 : Nat) (v1 : Int32) (h : pH) (q : Int64 × pH) (hf : fX5_pushNumber N v0 v1 h = some q) : Calls X (d + 1) 205 [.ref v0, .int v1] h (some (.long q.1), q.2, 0, 0) := by
  refine Calls.of M205 (Nat.le_of_ble_eq_true rfl) ?_
  show Run X (d + 1) 5 false (pCd 6144) 2 (some .long) 0 [(0, .ref v0), (1, .int v1)] [] h 0 0 (some (.long q.1), q.2, 0, 0)
  unfold fX5_pushNumber at hf
  by_cases hc : isO h v0 5 = true
  · rw [if_pos hc] at hf
    have nv0 : ¬ v0 = 4 := isO_ne hc
    refine r_aload_n (dGet dX5_pushNumber (j := 0) rfl) nv0 rfl ?_
    refine r_iload_n (dGet dX5_pushNumber (j := 1) rfl) rfl ?_
    obtain ⟨q1, eq1, hf⟩ := Option.bind_eq_some_iff.mp hf
    refine r_static (dGet dX5_pushNumber (j := 2) rfl) (by decide +kernel) (by decide +kernel) L5_145 M189 rfl rfl (Nat.le_of_ble_eq_true rfl) (cX3_number X N (d + 0) v1 h q1 eq1) ?_
    obtain ⟨h2, eh2, hf⟩ := Option.bind_eq_some_iff.mp hf
    refine r_virtual (dGet dX5_pushNumber (j := 3) rfl) L5_121 M174 rfl rfl (Nat.le_of_ble_eq_true rfl) (oX5_push eh2) (cX5_push X N (d + 0) v0 q1.1 q1.2 h2 eh2) ?_
    refine r_lconst (v := 0) (dGet dX5_pushNumber (j := 4) rfl) rfl ?_
    cases hf
    exact r_lret (dGet dX5_pushNumber (j := 5) rfl) rfl
  · rw [if_neg hc] at hf; cases hf
def eX5_takeLength : List (Nat × Instr × Nat) := [(0, .lload_n 1, 1), (1, .lconst 0, 1), (2, .lcmp, 1), (3, .ifCond .ne 10, 3), (6, .iconst 0, 1), (7, .invokestatic 234, 3), (10, .goto 15, 3), (13, .aload_n 0, 1), (14, .aload_n 0, 1), (15, .getfield 28, 3), (18, .lload_n 1, 1), (19, .invokevirtual 237, 3), (22, .invokevirtual 241, 3), (25, .lreturn, 1)]
theorem dX5_takeLength : dChk (pCd 6139) eX5_takeLength = true := by decide +kernel
def fX5_takeLength (N : Nat) (v0 : Nat) (v1 : Int64) (h : pH) : Option (Int64 × pH) := if isO h v0 5 = true then (
  if (lg_cmp v1 (0 : Int64)) = 0 then (
  (fX3_faultObject N (0 : Int32) h).bind fun q5 =>
  some (q5.1, q5.2)) else (
  (getR h v0 5 4).bind fun t2 =>
  (fX3_lengthOf N t2 v1 h).bind fun q3 =>
  (fX5_pushNumber N v0 q3.1 q3.2).bind fun q4 =>
  some (q4.1, q4.2))) else none
theorem oX5_takeLength {N : Nat} {v0 : Nat} {v1 : Int64} {h : pH} {q : Int64 × pH} (hf : fX5_takeLength N v0 v1 h = some q) : isO h v0 5 = true := by
  unfold fX5_takeLength at hf
  by_cases hc : isO h v0 5 = true
  · exact hc
  · rw [if_neg hc] at hf; cases hf
theorem cX5_takeLength (X : pX) (N d : Nat) (v0 : Nat) (v1 : Int64) (h : pH) (q : Int64 × pH) (hf : fX5_takeLength N v0 v1 h = some q) : Calls X (d + 2) 204 [.ref v0, .long v1] h (some (.long q.1), q.2, 0, 0) := by
  refine Calls.of M204 (Nat.le_of_ble_eq_true rfl) ?_
  show Run X (d + 2) 5 false (pCd 6139) 3 (some .long) 0 [(0, .ref v0), (1, .long v1)] [] h 0 0 (some (.long q.1), q.2, 0, 0)
  unfold fX5_takeLength at hf
  by_cases hc : isO h v0 5 = true
  · rw [if_pos hc] at hf
    have nv0 : ¬ v0 = 4 := isO_ne hc
    refine r_lload_n (dGet dX5_takeLength (j := 0) rfl) rfl ?_
    refine r_lconst (v := 0) (dGet dX5_takeLength (j := 1) rfl) rfl ?_
    refine r_lcmp (dGet dX5_takeLength (j := 2) rfl) ?_
    by_cases c1 : (lg_cmp v1 (0 : Int64)) = 0
    · rw [if_pos c1] at hf
      refine r_if_ne_f (dGet dX5_takeLength (j := 3) rfl) rfl c1 ?_
      refine r_iconst (dGet dX5_takeLength (j := 4) rfl) kI_0 ?_
      obtain ⟨q5, eq5, hf⟩ := Option.bind_eq_some_iff.mp hf
      refine r_static (dGet dX5_takeLength (j := 5) rfl) (by decide +kernel) (by decide +kernel) L5_234 M195 rfl rfl (Nat.le_of_ble_eq_true rfl) (cX3_faultObject X N (d + 1) (0 : Int32) h q5 eq5) ?_
      refine r_goto (dGet dX5_takeLength (j := 6) rfl) rfl ?_
      cases hf
      exact r_lret (dGet dX5_takeLength (j := 13) rfl) rfl
    · rw [if_neg c1] at hf
      refine r_if_ne_t (dGet dX5_takeLength (j := 3) rfl) rfl c1 ?_
      refine r_aload_n (dGet dX5_takeLength (j := 7) rfl) nv0 rfl ?_
      refine r_aload_n (dGet dX5_takeLength (j := 8) rfl) nv0 rfl ?_
      obtain ⟨t2, et2, hf⟩ := Option.bind_eq_some_iff.mp hf
      refine r_getR (dGet dX5_takeLength (j := 9) rfl) F5_28 et2 ?_
      refine r_lload_n (dGet dX5_takeLength (j := 10) rfl) rfl ?_
      obtain ⟨q3, eq3, hf⟩ := Option.bind_eq_some_iff.mp hf
      refine r_virtual (dGet dX5_takeLength (j := 11) rfl) L5_237 M193 rfl rfl (Nat.le_of_ble_eq_true rfl) (oX3_lengthOf eq3) (cX3_lengthOf X N (d + 1) t2 v1 h q3 eq3) ?_
      obtain ⟨q4, eq4, hf⟩ := Option.bind_eq_some_iff.mp hf
      refine r_virtual (dGet dX5_takeLength (j := 12) rfl) L5_241 M205 rfl rfl (Nat.le_of_ble_eq_true rfl) (oX5_pushNumber eq4) (cX5_pushNumber X N (d + 0) v0 q3.1 q3.2 q4 eq4) ?_
      cases hf
      exact r_lret (dGet dX5_takeLength (j := 13) rfl) rfl
  · rw [if_neg hc] at hf; cases hf
def eX5_actPart : List (Nat × Instr × Nat) := [(0, .iload_n 1, 1), (1, .tableswitch 82 10 15 #[39, 49, 58, 82, 82, 72], 39), (40, .aload_n 0, 1), (41, .aload_n 0, 1), (42, .invokevirtual 167, 3), (45, .iload_n 2, 1), (46, .invokevirtual 213, 3), (49, .lreturn, 1), (50, .aload_n 0, 1), (51, .aload_n 0, 1), (52, .invokevirtual 167, 3), (55, .invokevirtual 216, 3), (58, .lreturn, 1), (59, .aload_n 0, 1), (60, .aload_n 0, 1), (61, .invokevirtual 167, 3), (64, .l2i, 1), (65, .aload_n 0, 1), (66, .invokevirtual 167, 3), (69, .invokevirtual 220, 3), (72, .lreturn, 1), (73, .aload_n 0, 1), (74, .aload_n 0, 1), (75, .invokevirtual 167, 3), (78, .iload_n 2, 1), (79, .invokevirtual 223, 3), (82, .lreturn, 1), (83, .aload_n 0, 1), (84, .aload_n 0, 1), (85, .aload_n 0, 1), (86, .invokevirtual 167, 3), (89, .iload_n 2, 1), (90, .invokevirtual 226, 3), (93, .invokevirtual 230, 3), (96, .lreturn, 1)]
theorem dX5_actPart : dChk (pCd 6131) eX5_actPart = true := by decide +kernel
def fX5_actPart_83 (N : Nat) (v0 : Nat) (v2 : Int32) (h : pH) : Option (Int64 × pH) :=
  (fX5_pop N v0 h).bind fun q1 =>
  (fX5_isOfClass N v0 q1.1 v2 q1.2).bind fun q2 =>
  (fX5_pushTruth N v0 q2.1 q2.2).bind fun q3 =>
  some (q3.1, q3.2)
theorem lX5_actPart_83 (X : pX) (N d : Nat)  (v0 : Nat) (v2 : Int32) (h : pH) (q : Int64 × pH) (hf : fX5_actPart_83 N v0 v2 h = some q) (nv0 : ¬ v0 = 4) : Run X (d + 4) 5 false (pCd 6131) 3 (some .long) 83 [(0, .ref v0), (2, .int v2)] [] h 0 0 (some (.long q.1), q.2, 0, 0) := by
  unfold fX5_actPart_83 at hf
  refine r_aload_n (dGet dX5_actPart (j := 27) rfl) nv0 rfl ?_
  refine r_aload_n (dGet dX5_actPart (j := 28) rfl) nv0 rfl ?_
  refine r_aload_n (dGet dX5_actPart (j := 29) rfl) nv0 rfl ?_
  obtain ⟨q1, eq1, hf⟩ := Option.bind_eq_some_iff.mp hf
  refine r_virtual (dGet dX5_actPart (j := 30) rfl) L5_167 M182 rfl rfl (Nat.le_of_ble_eq_true rfl) (oX5_pop eq1) (cX5_pop X N (d + 3) v0 h q1 eq1) ?_
  refine r_iload_n (dGet dX5_actPart (j := 31) rfl) rfl ?_
  obtain ⟨q2, eq2, hf⟩ := Option.bind_eq_some_iff.mp hf
  refine r_virtual (dGet dX5_actPart (j := 32) rfl) L5_226 M209 rfl rfl (Nat.le_of_ble_eq_true rfl) (oX5_isOfClass eq2) (cX5_isOfClass X N (d + 1) v0 q1.1 v2 q1.2 q2 eq2) ?_
  obtain ⟨q3, eq3, hf⟩ := Option.bind_eq_some_iff.mp hf
  refine r_virtual (dGet dX5_actPart (j := 33) rfl) L5_230 M211 rfl rfl (Nat.le_of_ble_eq_true rfl) (oX5_pushTruth eq3) (cX5_pushTruth X N (d + 2) v0 q2.1 q2.2 q3 eq3) ?_
  cases hf
  exact r_lret (dGet dX5_actPart (j := 34) rfl) rfl
def fX5_actPart (N : Nat) (v0 : Nat) (v1 : Int32) (v2 : Int32) (h : pH) : Option (Int64 × pH) := if isO h v0 5 = true then (
  if v1 = 10 then (
  (fX5_pop N v0 h).bind fun q10 =>
  (fX5_takeField N v0 q10.1 v2 q10.2).bind fun q11 =>
  some (q11.1, q11.2)) else
  if v1 = 11 then (
  (fX5_pop N v0 h).bind fun q12 =>
  (fX5_takeLength N v0 q12.1 q12.2).bind fun q13 =>
  some (q13.1, q13.2)) else
  if v1 = 12 then (
  (fX5_pop N v0 h).bind fun q14 =>
  (fX5_pop N v0 q14.2).bind fun q15 =>
  (fX5_takeElement N v0 (q14.1.toInt32) q15.1 q15.2).bind fun q16 =>
  some (q16.1, q16.2)) else
  if v1 = 13 then (
  fX5_actPart_83 N v0 v2 h) else
  if v1 = 14 then (
  fX5_actPart_83 N v0 v2 h) else
  if v1 = 15 then (
  (fX5_pop N v0 h).bind fun q17 =>
  (fX5_cast N v0 q17.1 v2 q17.2).bind fun q18 =>
  some (q18.1, q18.2)) else
  fX5_actPart_83 N v0 v2 h) else none
theorem oX5_actPart {N : Nat} {v0 : Nat} {v1 : Int32} {v2 : Int32} {h : pH} {q : Int64 × pH} (hf : fX5_actPart N v0 v1 v2 h = some q) : isO h v0 5 = true := by
  unfold fX5_actPart at hf
  by_cases hc : isO h v0 5 = true
  · exact hc
  · rw [if_neg hc] at hf; cases hf
theorem cX5_actPart (X : pX) (N d : Nat) (v0 : Nat) (v1 : Int32) (v2 : Int32) (h : pH) (q : Int64 × pH) (hf : fX5_actPart N v0 v1 v2 h = some q) : Calls X (d + 4) 202 [.ref v0, .int v1, .int v2] h (some (.long q.1), q.2, 0, 0) := by
  refine Calls.of M202 (Nat.le_of_ble_eq_true rfl) ?_
  show Run X (d + 4) 5 false (pCd 6131) 3 (some .long) 0 [(0, .ref v0), (1, .int v1), (2, .int v2)] [] h 0 0 (some (.long q.1), q.2, 0, 0)
  unfold fX5_actPart at hf
  by_cases hc : isO h v0 5 = true
  · rw [if_pos hc] at hf
    have nv0 : ¬ v0 = 4 := isO_ne hc
    refine r_iload_n (dGet dX5_actPart (j := 0) rfl) rfl ?_
    by_cases c4 : v1 = 10
    · rw [if_pos c4] at hf
      refine r_table (off := 39) (dGet dX5_actPart (j := 1) rfl) (by rw [c4]; decide) rfl ?_
      refine r_aload_n (dGet dX5_actPart (j := 2) rfl) nv0 rfl ?_
      refine r_aload_n (dGet dX5_actPart (j := 3) rfl) nv0 rfl ?_
      obtain ⟨q10, eq10, hf⟩ := Option.bind_eq_some_iff.mp hf
      refine r_virtual (dGet dX5_actPart (j := 4) rfl) L5_167 M182 rfl rfl (Nat.le_of_ble_eq_true rfl) (oX5_pop eq10) (cX5_pop X N (d + 3) v0 h q10 eq10) ?_
      refine r_iload_n (dGet dX5_actPart (j := 5) rfl) rfl ?_
      obtain ⟨q11, eq11, hf⟩ := Option.bind_eq_some_iff.mp hf
      refine r_virtual (dGet dX5_actPart (j := 6) rfl) L5_213 M203 rfl rfl (Nat.le_of_ble_eq_true rfl) (oX5_takeField eq11) (cX5_takeField X N (d + 0) v0 q10.1 v2 q10.2 q11 eq11) ?_
      cases hf
      exact r_lret (dGet dX5_actPart (j := 7) rfl) rfl
    rw [if_neg c4] at hf
    by_cases c5 : v1 = 11
    · rw [if_pos c5] at hf
      refine r_table (off := 49) (dGet dX5_actPart (j := 1) rfl) (by rw [c5]; decide) rfl ?_
      refine r_aload_n (dGet dX5_actPart (j := 8) rfl) nv0 rfl ?_
      refine r_aload_n (dGet dX5_actPart (j := 9) rfl) nv0 rfl ?_
      obtain ⟨q12, eq12, hf⟩ := Option.bind_eq_some_iff.mp hf
      refine r_virtual (dGet dX5_actPart (j := 10) rfl) L5_167 M182 rfl rfl (Nat.le_of_ble_eq_true rfl) (oX5_pop eq12) (cX5_pop X N (d + 3) v0 h q12 eq12) ?_
      obtain ⟨q13, eq13, hf⟩ := Option.bind_eq_some_iff.mp hf
      refine r_virtual (dGet dX5_actPart (j := 11) rfl) L5_216 M204 rfl rfl (Nat.le_of_ble_eq_true rfl) (oX5_takeLength eq13) (cX5_takeLength X N (d + 1) v0 q12.1 q12.2 q13 eq13) ?_
      cases hf
      exact r_lret (dGet dX5_actPart (j := 12) rfl) rfl
    rw [if_neg c5] at hf
    by_cases c6 : v1 = 12
    · rw [if_pos c6] at hf
      refine r_table (off := 58) (dGet dX5_actPart (j := 1) rfl) (by rw [c6]; decide) rfl ?_
      refine r_aload_n (dGet dX5_actPart (j := 13) rfl) nv0 rfl ?_
      refine r_aload_n (dGet dX5_actPart (j := 14) rfl) nv0 rfl ?_
      obtain ⟨q14, eq14, hf⟩ := Option.bind_eq_some_iff.mp hf
      refine r_virtual (dGet dX5_actPart (j := 15) rfl) L5_167 M182 rfl rfl (Nat.le_of_ble_eq_true rfl) (oX5_pop eq14) (cX5_pop X N (d + 3) v0 h q14 eq14) ?_
      refine r_l2i (dGet dX5_actPart (j := 16) rfl) ?_
      refine r_aload_n (dGet dX5_actPart (j := 17) rfl) nv0 rfl ?_
      obtain ⟨q15, eq15, hf⟩ := Option.bind_eq_some_iff.mp hf
      refine r_virtual (dGet dX5_actPart (j := 18) rfl) L5_167 M182 rfl rfl (Nat.le_of_ble_eq_true rfl) (oX5_pop eq15) (cX5_pop X N (d + 3) v0 q14.2 q15 eq15) ?_
      obtain ⟨q16, eq16, hf⟩ := Option.bind_eq_some_iff.mp hf
      refine r_virtual (dGet dX5_actPart (j := 19) rfl) L5_220 M206 rfl rfl (Nat.le_of_ble_eq_true rfl) (oX5_takeElement eq16) (cX5_takeElement X N (d + 0) v0 (q14.1.toInt32) q15.1 q15.2 q16 eq16) ?_
      cases hf
      exact r_lret (dGet dX5_actPart (j := 20) rfl) rfl
    rw [if_neg c6] at hf
    by_cases c7 : v1 = 13
    · rw [if_pos c7] at hf
      refine r_table (off := 82) (dGet dX5_actPart (j := 1) rfl) (by rw [c7]; decide) rfl ?_
      refine Run.weak [(0, .ref v0), (2, .int v2)] (by simp) (by simp [pNd]) ?_
      exact lX5_actPart_83 X N d v0 v2 h q hf nv0
    rw [if_neg c7] at hf
    by_cases c8 : v1 = 14
    · rw [if_pos c8] at hf
      refine r_table (off := 82) (dGet dX5_actPart (j := 1) rfl) (by rw [c8]; decide) rfl ?_
      refine Run.weak [(0, .ref v0), (2, .int v2)] (by simp) (by simp [pNd]) ?_
      exact lX5_actPart_83 X N d v0 v2 h q hf nv0
    rw [if_neg c8] at hf
    by_cases c9 : v1 = 15
    · rw [if_pos c9] at hf
      refine r_table (off := 72) (dGet dX5_actPart (j := 1) rfl) (by rw [c9]; decide) rfl ?_
      refine r_aload_n (dGet dX5_actPart (j := 21) rfl) nv0 rfl ?_
      refine r_aload_n (dGet dX5_actPart (j := 22) rfl) nv0 rfl ?_
      obtain ⟨q17, eq17, hf⟩ := Option.bind_eq_some_iff.mp hf
      refine r_virtual (dGet dX5_actPart (j := 23) rfl) L5_167 M182 rfl rfl (Nat.le_of_ble_eq_true rfl) (oX5_pop eq17) (cX5_pop X N (d + 3) v0 h q17 eq17) ?_
      refine r_iload_n (dGet dX5_actPart (j := 24) rfl) rfl ?_
      obtain ⟨q18, eq18, hf⟩ := Option.bind_eq_some_iff.mp hf
      refine r_virtual (dGet dX5_actPart (j := 25) rfl) L5_223 M208 rfl rfl (Nat.le_of_ble_eq_true rfl) (oX5_cast eq18) (cX5_cast X N (d + 0) v0 q17.1 v2 q17.2 q18 eq18) ?_
      cases hf
      exact r_lret (dGet dX5_actPart (j := 26) rfl) rfl
    rw [if_neg c9] at hf
    refine r_table (dGet dX5_actPart (j := 1) rfl) (pTable_out (cs := [10, 11, 12, 13, 14, 15]) (by decide) (by decide) (by decide) (List.forall_mem_cons.mpr ⟨c4, List.forall_mem_cons.mpr ⟨c5, List.forall_mem_cons.mpr ⟨c6, List.forall_mem_cons.mpr ⟨c7, List.forall_mem_cons.mpr ⟨c8, List.forall_mem_cons.mpr ⟨c9, fun _ h => absurd h List.not_mem_nil⟩⟩⟩⟩⟩⟩)) rfl ?_
    refine Run.weak [(0, .ref v0), (2, .int v2)] (by simp) (by simp [pNd]) ?_
    exact lX5_actPart_83 X N d v0 v2 h q hf nv0
  · rw [if_neg hc] at hf; cases hf
def eX5_actSign : List (Nat × Instr × Nat) := [(0, .lload_n 2, 1), (1, .l2i, 1), (2, .istore 4, 2), (4, .iload_n 1, 1), (5, .bipush 17, 2), (7, .if_icmp .ne 11, 3), (10, .aload_n 0, 1), (11, .iload 4, 2), (13, .ineg, 1), (14, .invokevirtual 241, 3), (17, .lreturn, 1), (18, .iload_n 1, 1), (19, .bipush 18, 2), (21, .if_icmp .ne 18, 3), (24, .aload_n 0, 1), (25, .iload 4, 2), (27, .ifCond .ne 7, 3), (30, .iconst 1, 1), (31, .goto 4, 3), (34, .iconst 0, 1), (35, .invokevirtual 230, 3), (38, .lreturn, 1), (39, .aload_n 0, 1), (40, .invokevirtual 167, 3), (43, .lstore 5, 2), (45, .lload 5, 2), (47, .l2i, 1), (48, .istore 7, 2), (50, .iload_n 1, 1), (51, .tableswitch 170 19 26 #[45, 55, 77, 99, 109, 119, 136, 153], 45), (96, .aload_n 0, 1), (97, .iload 7, 2), (99, .iload 4, 2), (101, .imul, 1), (102, .invokevirtual 241, 3), (105, .lreturn, 1), (106, .iload 4, 2), (108, .ifCond .ne 10, 3), (111, .iconst 2, 1), (112, .invokestatic 234, 3), (115, .goto 12, 3), (118, .aload_n 0, 1), (119, .iload 7, 2), (121, .iload 4, 2), (123, .idiv, 1), (124, .invokevirtual 241, 3), (127, .lreturn, 1), (128, .iload 4, 2), (130, .ifCond .ne 10, 3), (133, .iconst 2, 1), (134, .invokestatic 234, 3), (137, .goto 12, 3), (140, .aload_n 0, 1), (141, .iload 7, 2), (143, .iload 4, 2), (145, .irem, 1), (146, .invokevirtual 241, 3), (149, .lreturn, 1), (150, .aload_n 0, 1), (151, .iload 7, 2), (153, .iload 4, 2), (155, .iadd, 1), (156, .invokevirtual 241, 3), (159, .lreturn, 1), (160, .aload_n 0, 1), (161, .iload 7, 2), (163, .iload 4, 2), (165, .isub, 1), (166, .invokevirtual 241, 3), (169, .lreturn, 1), (170, .aload_n 0, 1), (171, .iload 7, 2), (173, .iload 4, 2), (175, .if_icmp .ge 7, 3), (178, .iconst 1, 1), (179, .goto 4, 3), (182, .iconst 0, 1), (183, .invokevirtual 230, 3), (186, .lreturn, 1), (187, .aload_n 0, 1), (188, .iload 7, 2), (190, .iload 4, 2), (192, .if_icmp .gt 7, 3), (195, .iconst 1, 1), (196, .goto 4, 3), (199, .iconst 0, 1), (200, .invokevirtual 230, 3), (203, .lreturn, 1), (204, .aload_n 0, 1), (205, .lload 5, 2), (207, .lload_n 2, 1), (208, .lcmp, 1), (209, .ifCond .ne 7, 3), (212, .iconst 1, 1), (213, .goto 4, 3), (216, .iconst 0, 1), (217, .invokevirtual 230, 3), (220, .lreturn, 1), (221, .aload_n 0, 1), (222, .lload 5, 2), (224, .lload_n 2, 1), (225, .lcmp, 1), (226, .ifCond .eq 7, 3), (229, .iconst 1, 1), (230, .goto 4, 3), (233, .iconst 0, 1), (234, .invokevirtual 230, 3), (237, .lreturn, 1)]
theorem dX5_actSign : dChk (pCd 6174) eX5_actSign = true := by decide +kernel
def fX5_actSign_234 (N : Nat) (s0 : Nat) (s1 : Int32) (h : pH) : Option (Int64 × pH) :=
  (fX5_pushTruth N s0 s1 h).bind fun q1 =>
  some (q1.1, q1.2)
theorem lX5_actSign_234 (X : pX) (N d : Nat)  (s0 : Nat) (s1 : Int32) (h : pH) (q : Int64 × pH) (hf : fX5_actSign_234 N s0 s1 h = some q) (ns0 : ¬ s0 = 4) : Run X (d + 2) 5 false (pCd 6174) 8 (some .long) 234 [] [.int s1, .ref s0] h 0 0 (some (.long q.1), q.2, 0, 0) := by
  unfold fX5_actSign_234 at hf
  obtain ⟨q1, eq1, hf⟩ := Option.bind_eq_some_iff.mp hf
  refine r_virtual (dGet dX5_actSign (j := 106) rfl) L5_230 M211 rfl rfl (Nat.le_of_ble_eq_true rfl) (oX5_pushTruth eq1) (cX5_pushTruth X N (d + 0) s0 s1 h q1 eq1) ?_
  cases hf
  exact r_lret (dGet dX5_actSign (j := 107) rfl) rfl
def fX5_actSign_217 (N : Nat) (s0 : Nat) (s1 : Int32) (h : pH) : Option (Int64 × pH) :=
  (fX5_pushTruth N s0 s1 h).bind fun q2 =>
  some (q2.1, q2.2)
theorem lX5_actSign_217 (X : pX) (N d : Nat)  (s0 : Nat) (s1 : Int32) (h : pH) (q : Int64 × pH) (hf : fX5_actSign_217 N s0 s1 h = some q) (ns0 : ¬ s0 = 4) : Run X (d + 2) 5 false (pCd 6174) 8 (some .long) 217 [] [.int s1, .ref s0] h 0 0 (some (.long q.1), q.2, 0, 0) := by
  unfold fX5_actSign_217 at hf
  obtain ⟨q2, eq2, hf⟩ := Option.bind_eq_some_iff.mp hf
  refine r_virtual (dGet dX5_actSign (j := 96) rfl) L5_230 M211 rfl rfl (Nat.le_of_ble_eq_true rfl) (oX5_pushTruth eq2) (cX5_pushTruth X N (d + 0) s0 s1 h q2 eq2) ?_
  cases hf
  exact r_lret (dGet dX5_actSign (j := 97) rfl) rfl
def fX5_actSign_200 (N : Nat) (s0 : Nat) (s1 : Int32) (h : pH) : Option (Int64 × pH) :=
  (fX5_pushTruth N s0 s1 h).bind fun q3 =>
  some (q3.1, q3.2)
theorem lX5_actSign_200 (X : pX) (N d : Nat)  (s0 : Nat) (s1 : Int32) (h : pH) (q : Int64 × pH) (hf : fX5_actSign_200 N s0 s1 h = some q) (ns0 : ¬ s0 = 4) : Run X (d + 2) 5 false (pCd 6174) 8 (some .long) 200 [] [.int s1, .ref s0] h 0 0 (some (.long q.1), q.2, 0, 0) := by
  unfold fX5_actSign_200 at hf
  obtain ⟨q3, eq3, hf⟩ := Option.bind_eq_some_iff.mp hf
  refine r_virtual (dGet dX5_actSign (j := 86) rfl) L5_230 M211 rfl rfl (Nat.le_of_ble_eq_true rfl) (oX5_pushTruth eq3) (cX5_pushTruth X N (d + 0) s0 s1 h q3 eq3) ?_
  cases hf
  exact r_lret (dGet dX5_actSign (j := 87) rfl) rfl
def fX5_actSign_183 (N : Nat) (s0 : Nat) (s1 : Int32) (h : pH) : Option (Int64 × pH) :=
  (fX5_pushTruth N s0 s1 h).bind fun q4 =>
  some (q4.1, q4.2)
theorem lX5_actSign_183 (X : pX) (N d : Nat)  (s0 : Nat) (s1 : Int32) (h : pH) (q : Int64 × pH) (hf : fX5_actSign_183 N s0 s1 h = some q) (ns0 : ¬ s0 = 4) : Run X (d + 2) 5 false (pCd 6174) 8 (some .long) 183 [] [.int s1, .ref s0] h 0 0 (some (.long q.1), q.2, 0, 0) := by
  unfold fX5_actSign_183 at hf
  obtain ⟨q4, eq4, hf⟩ := Option.bind_eq_some_iff.mp hf
  refine r_virtual (dGet dX5_actSign (j := 77) rfl) L5_230 M211 rfl rfl (Nat.le_of_ble_eq_true rfl) (oX5_pushTruth eq4) (cX5_pushTruth X N (d + 0) s0 s1 h q4 eq4) ?_
  cases hf
  exact r_lret (dGet dX5_actSign (j := 78) rfl) rfl
def fX5_actSign_35 (N : Nat) (s0 : Nat) (s1 : Int32) (h : pH) : Option (Int64 × pH) :=
  (fX5_pushTruth N s0 s1 h).bind fun q5 =>
  some (q5.1, q5.2)
theorem lX5_actSign_35 (X : pX) (N d : Nat)  (s0 : Nat) (s1 : Int32) (h : pH) (q : Int64 × pH) (hf : fX5_actSign_35 N s0 s1 h = some q) (ns0 : ¬ s0 = 4) : Run X (d + 2) 5 false (pCd 6174) 8 (some .long) 35 [] [.int s1, .ref s0] h 0 0 (some (.long q.1), q.2, 0, 0) := by
  unfold fX5_actSign_35 at hf
  obtain ⟨q5, eq5, hf⟩ := Option.bind_eq_some_iff.mp hf
  refine r_virtual (dGet dX5_actSign (j := 20) rfl) L5_230 M211 rfl rfl (Nat.le_of_ble_eq_true rfl) (oX5_pushTruth eq5) (cX5_pushTruth X N (d + 0) s0 s1 h q5 eq5) ?_
  cases hf
  exact r_lret (dGet dX5_actSign (j := 21) rfl) rfl
def fX5_actSign (N : Nat) (v0 : Nat) (v1 : Int32) (v2 : Int64) (h : pH) : Option (Int64 × pH) := if isO h v0 5 = true then (
  if v1 = (17 : Int32) then (
  (fX5_pushNumber N v0 (-(v2.toInt32)) h).bind fun q33 =>
  some (q33.1, q33.2)) else (
  if v1 = (18 : Int32) then (
  if (v2.toInt32) = 0 then (
  fX5_actSign_35 N v0 (1 : Int32) h) else (
  fX5_actSign_35 N v0 (0 : Int32) h)) else (
  (fX5_pop N v0 h).bind fun q8 =>
  if v1 = 19 then (
  (fX5_pushNumber N v0 ((q8.1.toInt32) * (v2.toInt32)) q8.2).bind fun q17 =>
  some (q17.1, q17.2)) else
  if v1 = 20 then (
  if (v2.toInt32) = 0 then (
  (fX3_faultObject N (2 : Int32) q8.2).bind fun q21 =>
  some (q21.1, q21.2)) else (
  if (v2.toInt32) = 0 then none else
  (fX5_pushNumber N v0 ((q8.1.toInt32) / (v2.toInt32)) q8.2).bind fun q20 =>
  some (q20.1, q20.2))) else
  if v1 = 21 then (
  if (v2.toInt32) = 0 then (
  (fX3_faultObject N (2 : Int32) q8.2).bind fun q25 =>
  some (q25.1, q25.2)) else (
  if (v2.toInt32) = 0 then none else
  (fX5_pushNumber N v0 ((q8.1.toInt32) - (q8.1.toInt32) / (v2.toInt32) * (v2.toInt32)) q8.2).bind fun q24 =>
  some (q24.1, q24.2))) else
  if v1 = 22 then (
  (fX5_pushNumber N v0 ((q8.1.toInt32) + (v2.toInt32)) q8.2).bind fun q26 =>
  some (q26.1, q26.2)) else
  if v1 = 23 then (
  (fX5_pushNumber N v0 ((q8.1.toInt32) - (v2.toInt32)) q8.2).bind fun q27 =>
  some (q27.1, q27.2)) else
  if v1 = 24 then (
  if (v2.toInt32) ≤ (q8.1.toInt32) then (
  fX5_actSign_183 N v0 (0 : Int32) q8.2) else (
  fX5_actSign_183 N v0 (1 : Int32) q8.2)) else
  if v1 = 25 then (
  if (v2.toInt32) < (q8.1.toInt32) then (
  fX5_actSign_200 N v0 (0 : Int32) q8.2) else (
  fX5_actSign_200 N v0 (1 : Int32) q8.2)) else
  if v1 = 26 then (
  if (lg_cmp q8.1 v2) = 0 then (
  fX5_actSign_217 N v0 (1 : Int32) q8.2) else (
  fX5_actSign_217 N v0 (0 : Int32) q8.2)) else
  if (lg_cmp q8.1 v2) = 0 then (
  fX5_actSign_234 N v0 (0 : Int32) q8.2) else (
  fX5_actSign_234 N v0 (1 : Int32) q8.2)))) else none
theorem oX5_actSign {N : Nat} {v0 : Nat} {v1 : Int32} {v2 : Int64} {h : pH} {q : Int64 × pH} (hf : fX5_actSign N v0 v1 v2 h = some q) : isO h v0 5 = true := by
  unfold fX5_actSign at hf
  by_cases hc : isO h v0 5 = true
  · exact hc
  · rw [if_neg hc] at hf; cases hf
theorem cX5_actSign (X : pX) (N d : Nat) (v0 : Nat) (v1 : Int32) (v2 : Int64) (h : pH) (q : Int64 × pH) (hf : fX5_actSign N v0 v1 v2 h = some q) : Calls X (d + 2) 212 [.ref v0, .int v1, .long v2] h (some (.long q.1), q.2, 0, 0) := by
  refine Calls.of M212 (Nat.le_of_ble_eq_true rfl) ?_
  show Run X (d + 2) 5 false (pCd 6174) 8 (some .long) 0 [(0, .ref v0), (1, .int v1), (2, .long v2)] [] h 0 0 (some (.long q.1), q.2, 0, 0)
  unfold fX5_actSign at hf
  by_cases hc : isO h v0 5 = true
  · rw [if_pos hc] at hf
    have nv0 : ¬ v0 = 4 := isO_ne hc
    refine r_lload_n (dGet dX5_actSign (j := 0) rfl) rfl ?_
    refine r_l2i (dGet dX5_actSign (j := 1) rfl) ?_
    refine r_istore (lv' := [(4, .int (v2.toInt32)), (0, .ref v0), (1, .int v1), (2, .long v2)]) (dGet dX5_actSign (j := 2) rfl) (by decide) rfl ?_
    refine r_iload_n (dGet dX5_actSign (j := 3) rfl) rfl ?_
    refine r_bipush (dGet dX5_actSign (j := 4) rfl) kB_17 ?_
    by_cases c6 : v1 = (17 : Int32)
    · rw [if_pos c6] at hf
      refine r_icmp_ne_f (dGet dX5_actSign (j := 5) rfl) rfl c6 ?_
      refine r_aload_n (dGet dX5_actSign (j := 6) rfl) nv0 rfl ?_
      refine r_iload (dGet dX5_actSign (j := 7) rfl) rfl ?_
      refine r_ineg (dGet dX5_actSign (j := 8) rfl) ?_
      obtain ⟨q33, eq33, hf⟩ := Option.bind_eq_some_iff.mp hf
      refine r_virtual (dGet dX5_actSign (j := 9) rfl) L5_241 M205 rfl rfl (Nat.le_of_ble_eq_true rfl) (oX5_pushNumber eq33) (cX5_pushNumber X N (d + 0) v0 (-(v2.toInt32)) h q33 eq33) ?_
      cases hf
      exact r_lret (dGet dX5_actSign (j := 10) rfl) rfl
    · rw [if_neg c6] at hf
      refine r_icmp_ne_t (dGet dX5_actSign (j := 5) rfl) rfl c6 ?_
      refine r_iload_n (dGet dX5_actSign (j := 11) rfl) rfl ?_
      refine r_bipush (dGet dX5_actSign (j := 12) rfl) kB_18 ?_
      by_cases c7 : v1 = (18 : Int32)
      · rw [if_pos c7] at hf
        refine r_icmp_ne_f (dGet dX5_actSign (j := 13) rfl) rfl c7 ?_
        refine r_aload_n (dGet dX5_actSign (j := 14) rfl) nv0 rfl ?_
        refine r_iload (dGet dX5_actSign (j := 15) rfl) rfl ?_
        by_cases c32 : (v2.toInt32) = 0
        · rw [if_pos c32] at hf
          refine r_if_ne_f (dGet dX5_actSign (j := 16) rfl) rfl c32 ?_
          refine r_iconst (dGet dX5_actSign (j := 17) rfl) kI_1 ?_
          refine r_goto (dGet dX5_actSign (j := 18) rfl) rfl ?_
          refine Run.weak [] (by simp) (by simp [pNd]) ?_
          exact lX5_actSign_35 X N d v0 (1 : Int32) h q hf nv0
        · rw [if_neg c32] at hf
          refine r_if_ne_t (dGet dX5_actSign (j := 16) rfl) rfl c32 ?_
          refine r_iconst (dGet dX5_actSign (j := 19) rfl) kI_0 ?_
          refine Run.weak [] (by simp) (by simp [pNd]) ?_
          exact lX5_actSign_35 X N d v0 (0 : Int32) h q hf nv0
      · rw [if_neg c7] at hf
        refine r_icmp_ne_t (dGet dX5_actSign (j := 13) rfl) rfl c7 ?_
        refine r_aload_n (dGet dX5_actSign (j := 22) rfl) nv0 rfl ?_
        obtain ⟨q8, eq8, hf⟩ := Option.bind_eq_some_iff.mp hf
        refine r_virtual (dGet dX5_actSign (j := 23) rfl) L5_167 M182 rfl rfl (Nat.le_of_ble_eq_true rfl) (oX5_pop eq8) (cX5_pop X N (d + 1) v0 h q8 eq8) ?_
        refine r_lstore (lv' := [(5, .long q8.1), (4, .int (v2.toInt32)), (0, .ref v0), (1, .int v1), (2, .long v2)]) (dGet dX5_actSign (j := 24) rfl) (by decide) rfl ?_
        refine r_lload (dGet dX5_actSign (j := 25) rfl) rfl ?_
        refine r_l2i (dGet dX5_actSign (j := 26) rfl) ?_
        refine r_istore (lv' := [(7, .int (q8.1.toInt32)), (5, .long q8.1), (4, .int (v2.toInt32)), (0, .ref v0), (1, .int v1), (2, .long v2)]) (dGet dX5_actSign (j := 27) rfl) (by decide) rfl ?_
        refine r_iload_n (dGet dX5_actSign (j := 28) rfl) rfl ?_
        by_cases c9 : v1 = 19
        · rw [if_pos c9] at hf
          refine r_table (off := 45) (dGet dX5_actSign (j := 29) rfl) (by rw [c9]; decide) rfl ?_
          refine r_aload_n (dGet dX5_actSign (j := 30) rfl) nv0 rfl ?_
          refine r_iload (dGet dX5_actSign (j := 31) rfl) rfl ?_
          refine r_iload (dGet dX5_actSign (j := 32) rfl) rfl ?_
          refine r_imul (dGet dX5_actSign (j := 33) rfl) ?_
          obtain ⟨q17, eq17, hf⟩ := Option.bind_eq_some_iff.mp hf
          refine r_virtual (dGet dX5_actSign (j := 34) rfl) L5_241 M205 rfl rfl (Nat.le_of_ble_eq_true rfl) (oX5_pushNumber eq17) (cX5_pushNumber X N (d + 0) v0 ((q8.1.toInt32) * (v2.toInt32)) q8.2 q17 eq17) ?_
          cases hf
          exact r_lret (dGet dX5_actSign (j := 35) rfl) rfl
        rw [if_neg c9] at hf
        by_cases c10 : v1 = 20
        · rw [if_pos c10] at hf
          refine r_table (off := 55) (dGet dX5_actSign (j := 29) rfl) (by rw [c10]; decide) rfl ?_
          refine r_iload (dGet dX5_actSign (j := 36) rfl) rfl ?_
          by_cases c18 : (v2.toInt32) = 0
          · rw [if_pos c18] at hf
            refine r_if_ne_f (dGet dX5_actSign (j := 37) rfl) rfl c18 ?_
            refine r_iconst (dGet dX5_actSign (j := 38) rfl) kI_2 ?_
            obtain ⟨q21, eq21, hf⟩ := Option.bind_eq_some_iff.mp hf
            refine r_static (dGet dX5_actSign (j := 39) rfl) (by decide +kernel) (by decide +kernel) L5_234 M195 rfl rfl (Nat.le_of_ble_eq_true rfl) (cX3_faultObject X N (d + 1) (2 : Int32) q8.2 q21 eq21) ?_
            refine r_goto (dGet dX5_actSign (j := 40) rfl) rfl ?_
            cases hf
            exact r_lret (dGet dX5_actSign (j := 46) rfl) rfl
          · rw [if_neg c18] at hf
            refine r_if_ne_t (dGet dX5_actSign (j := 37) rfl) rfl c18 ?_
            refine r_aload_n (dGet dX5_actSign (j := 41) rfl) nv0 rfl ?_
            refine r_iload (dGet dX5_actSign (j := 42) rfl) rfl ?_
            refine r_iload (dGet dX5_actSign (j := 43) rfl) rfl ?_
            by_cases c19 : (v2.toInt32) = 0
            · rw [if_pos c19] at hf; cases hf
            rw [if_neg c19] at hf
            refine r_idiv (dGet dX5_actSign (j := 44) rfl) c19 ?_
            obtain ⟨q20, eq20, hf⟩ := Option.bind_eq_some_iff.mp hf
            refine r_virtual (dGet dX5_actSign (j := 45) rfl) L5_241 M205 rfl rfl (Nat.le_of_ble_eq_true rfl) (oX5_pushNumber eq20) (cX5_pushNumber X N (d + 0) v0 ((q8.1.toInt32) / (v2.toInt32)) q8.2 q20 eq20) ?_
            cases hf
            exact r_lret (dGet dX5_actSign (j := 46) rfl) rfl
        rw [if_neg c10] at hf
        by_cases c11 : v1 = 21
        · rw [if_pos c11] at hf
          refine r_table (off := 77) (dGet dX5_actSign (j := 29) rfl) (by rw [c11]; decide) rfl ?_
          refine r_iload (dGet dX5_actSign (j := 47) rfl) rfl ?_
          by_cases c22 : (v2.toInt32) = 0
          · rw [if_pos c22] at hf
            refine r_if_ne_f (dGet dX5_actSign (j := 48) rfl) rfl c22 ?_
            refine r_iconst (dGet dX5_actSign (j := 49) rfl) kI_2 ?_
            obtain ⟨q25, eq25, hf⟩ := Option.bind_eq_some_iff.mp hf
            refine r_static (dGet dX5_actSign (j := 50) rfl) (by decide +kernel) (by decide +kernel) L5_234 M195 rfl rfl (Nat.le_of_ble_eq_true rfl) (cX3_faultObject X N (d + 1) (2 : Int32) q8.2 q25 eq25) ?_
            refine r_goto (dGet dX5_actSign (j := 51) rfl) rfl ?_
            cases hf
            exact r_lret (dGet dX5_actSign (j := 57) rfl) rfl
          · rw [if_neg c22] at hf
            refine r_if_ne_t (dGet dX5_actSign (j := 48) rfl) rfl c22 ?_
            refine r_aload_n (dGet dX5_actSign (j := 52) rfl) nv0 rfl ?_
            refine r_iload (dGet dX5_actSign (j := 53) rfl) rfl ?_
            refine r_iload (dGet dX5_actSign (j := 54) rfl) rfl ?_
            by_cases c23 : (v2.toInt32) = 0
            · rw [if_pos c23] at hf; cases hf
            rw [if_neg c23] at hf
            refine r_irem (dGet dX5_actSign (j := 55) rfl) c23 ?_
            obtain ⟨q24, eq24, hf⟩ := Option.bind_eq_some_iff.mp hf
            refine r_virtual (dGet dX5_actSign (j := 56) rfl) L5_241 M205 rfl rfl (Nat.le_of_ble_eq_true rfl) (oX5_pushNumber eq24) (cX5_pushNumber X N (d + 0) v0 ((q8.1.toInt32) - (q8.1.toInt32) / (v2.toInt32) * (v2.toInt32)) q8.2 q24 eq24) ?_
            cases hf
            exact r_lret (dGet dX5_actSign (j := 57) rfl) rfl
        rw [if_neg c11] at hf
        by_cases c12 : v1 = 22
        · rw [if_pos c12] at hf
          refine r_table (off := 99) (dGet dX5_actSign (j := 29) rfl) (by rw [c12]; decide) rfl ?_
          refine r_aload_n (dGet dX5_actSign (j := 58) rfl) nv0 rfl ?_
          refine r_iload (dGet dX5_actSign (j := 59) rfl) rfl ?_
          refine r_iload (dGet dX5_actSign (j := 60) rfl) rfl ?_
          refine r_iadd (dGet dX5_actSign (j := 61) rfl) ?_
          obtain ⟨q26, eq26, hf⟩ := Option.bind_eq_some_iff.mp hf
          refine r_virtual (dGet dX5_actSign (j := 62) rfl) L5_241 M205 rfl rfl (Nat.le_of_ble_eq_true rfl) (oX5_pushNumber eq26) (cX5_pushNumber X N (d + 0) v0 ((q8.1.toInt32) + (v2.toInt32)) q8.2 q26 eq26) ?_
          cases hf
          exact r_lret (dGet dX5_actSign (j := 63) rfl) rfl
        rw [if_neg c12] at hf
        by_cases c13 : v1 = 23
        · rw [if_pos c13] at hf
          refine r_table (off := 109) (dGet dX5_actSign (j := 29) rfl) (by rw [c13]; decide) rfl ?_
          refine r_aload_n (dGet dX5_actSign (j := 64) rfl) nv0 rfl ?_
          refine r_iload (dGet dX5_actSign (j := 65) rfl) rfl ?_
          refine r_iload (dGet dX5_actSign (j := 66) rfl) rfl ?_
          refine r_isub (dGet dX5_actSign (j := 67) rfl) ?_
          obtain ⟨q27, eq27, hf⟩ := Option.bind_eq_some_iff.mp hf
          refine r_virtual (dGet dX5_actSign (j := 68) rfl) L5_241 M205 rfl rfl (Nat.le_of_ble_eq_true rfl) (oX5_pushNumber eq27) (cX5_pushNumber X N (d + 0) v0 ((q8.1.toInt32) - (v2.toInt32)) q8.2 q27 eq27) ?_
          cases hf
          exact r_lret (dGet dX5_actSign (j := 69) rfl) rfl
        rw [if_neg c13] at hf
        by_cases c14 : v1 = 24
        · rw [if_pos c14] at hf
          refine r_table (off := 119) (dGet dX5_actSign (j := 29) rfl) (by rw [c14]; decide) rfl ?_
          refine r_aload_n (dGet dX5_actSign (j := 70) rfl) nv0 rfl ?_
          refine r_iload (dGet dX5_actSign (j := 71) rfl) rfl ?_
          refine r_iload (dGet dX5_actSign (j := 72) rfl) rfl ?_
          by_cases c28 : (v2.toInt32) ≤ (q8.1.toInt32)
          · rw [if_pos c28] at hf
            refine r_icmp_ge_t (dGet dX5_actSign (j := 73) rfl) rfl c28 ?_
            refine r_iconst (dGet dX5_actSign (j := 76) rfl) kI_0 ?_
            refine Run.weak [] (by simp) (by simp [pNd]) ?_
            exact lX5_actSign_183 X N d v0 (0 : Int32) q8.2 q hf nv0
          · rw [if_neg c28] at hf
            refine r_icmp_ge_f (dGet dX5_actSign (j := 73) rfl) rfl c28 ?_
            refine r_iconst (dGet dX5_actSign (j := 74) rfl) kI_1 ?_
            refine r_goto (dGet dX5_actSign (j := 75) rfl) rfl ?_
            refine Run.weak [] (by simp) (by simp [pNd]) ?_
            exact lX5_actSign_183 X N d v0 (1 : Int32) q8.2 q hf nv0
        rw [if_neg c14] at hf
        by_cases c15 : v1 = 25
        · rw [if_pos c15] at hf
          refine r_table (off := 136) (dGet dX5_actSign (j := 29) rfl) (by rw [c15]; decide) rfl ?_
          refine r_aload_n (dGet dX5_actSign (j := 79) rfl) nv0 rfl ?_
          refine r_iload (dGet dX5_actSign (j := 80) rfl) rfl ?_
          refine r_iload (dGet dX5_actSign (j := 81) rfl) rfl ?_
          by_cases c29 : (v2.toInt32) < (q8.1.toInt32)
          · rw [if_pos c29] at hf
            refine r_icmp_gt_t (dGet dX5_actSign (j := 82) rfl) rfl c29 ?_
            refine r_iconst (dGet dX5_actSign (j := 85) rfl) kI_0 ?_
            refine Run.weak [] (by simp) (by simp [pNd]) ?_
            exact lX5_actSign_200 X N d v0 (0 : Int32) q8.2 q hf nv0
          · rw [if_neg c29] at hf
            refine r_icmp_gt_f (dGet dX5_actSign (j := 82) rfl) rfl c29 ?_
            refine r_iconst (dGet dX5_actSign (j := 83) rfl) kI_1 ?_
            refine r_goto (dGet dX5_actSign (j := 84) rfl) rfl ?_
            refine Run.weak [] (by simp) (by simp [pNd]) ?_
            exact lX5_actSign_200 X N d v0 (1 : Int32) q8.2 q hf nv0
        rw [if_neg c15] at hf
        by_cases c16 : v1 = 26
        · rw [if_pos c16] at hf
          refine r_table (off := 153) (dGet dX5_actSign (j := 29) rfl) (by rw [c16]; decide) rfl ?_
          refine r_aload_n (dGet dX5_actSign (j := 88) rfl) nv0 rfl ?_
          refine r_lload (dGet dX5_actSign (j := 89) rfl) rfl ?_
          refine r_lload_n (dGet dX5_actSign (j := 90) rfl) rfl ?_
          refine r_lcmp (dGet dX5_actSign (j := 91) rfl) ?_
          by_cases c30 : (lg_cmp q8.1 v2) = 0
          · rw [if_pos c30] at hf
            refine r_if_ne_f (dGet dX5_actSign (j := 92) rfl) rfl c30 ?_
            refine r_iconst (dGet dX5_actSign (j := 93) rfl) kI_1 ?_
            refine r_goto (dGet dX5_actSign (j := 94) rfl) rfl ?_
            refine Run.weak [] (by simp) (by simp [pNd]) ?_
            exact lX5_actSign_217 X N d v0 (1 : Int32) q8.2 q hf nv0
          · rw [if_neg c30] at hf
            refine r_if_ne_t (dGet dX5_actSign (j := 92) rfl) rfl c30 ?_
            refine r_iconst (dGet dX5_actSign (j := 95) rfl) kI_0 ?_
            refine Run.weak [] (by simp) (by simp [pNd]) ?_
            exact lX5_actSign_217 X N d v0 (0 : Int32) q8.2 q hf nv0
        rw [if_neg c16] at hf
        refine r_table (dGet dX5_actSign (j := 29) rfl) (pTable_out (cs := [19, 20, 21, 22, 23, 24, 25, 26]) (by decide) (by decide) (by decide) (List.forall_mem_cons.mpr ⟨c9, List.forall_mem_cons.mpr ⟨c10, List.forall_mem_cons.mpr ⟨c11, List.forall_mem_cons.mpr ⟨c12, List.forall_mem_cons.mpr ⟨c13, List.forall_mem_cons.mpr ⟨c14, List.forall_mem_cons.mpr ⟨c15, List.forall_mem_cons.mpr ⟨c16, fun _ h => absurd h List.not_mem_nil⟩⟩⟩⟩⟩⟩⟩⟩)) rfl ?_
        refine r_aload_n (dGet dX5_actSign (j := 98) rfl) nv0 rfl ?_
        refine r_lload (dGet dX5_actSign (j := 99) rfl) rfl ?_
        refine r_lload_n (dGet dX5_actSign (j := 100) rfl) rfl ?_
        refine r_lcmp (dGet dX5_actSign (j := 101) rfl) ?_
        by_cases c31 : (lg_cmp q8.1 v2) = 0
        · rw [if_pos c31] at hf
          refine r_if_eq_t (dGet dX5_actSign (j := 102) rfl) rfl c31 ?_
          refine r_iconst (dGet dX5_actSign (j := 105) rfl) kI_0 ?_
          refine Run.weak [] (by simp) (by simp [pNd]) ?_
          exact lX5_actSign_234 X N d v0 (0 : Int32) q8.2 q hf nv0
        · rw [if_neg c31] at hf
          refine r_if_eq_f (dGet dX5_actSign (j := 102) rfl) rfl c31 ?_
          refine r_iconst (dGet dX5_actSign (j := 103) rfl) kI_1 ?_
          refine r_goto (dGet dX5_actSign (j := 104) rfl) rfl ?_
          refine Run.weak [] (by simp) (by simp [pNd]) ?_
          exact lX5_actSign_234 X N d v0 (1 : Int32) q8.2 q hf nv0
  · rw [if_neg hc] at hf; cases hf
def eX5_actValue : List (Nat × Instr × Nat) := [(0, .iload_n 1, 1), (1, .tableswitch 114 1 7 #[43, 43, 54, 62, 80, 114, 97], 43), (44, .aload_n 0, 1), (45, .iload_n 2, 1), (46, .invokestatic 145, 3), (49, .invokevirtual 121, 3), (52, .goto 86, 3), (55, .aload_n 0, 1), (56, .lconst 0, 1), (57, .invokevirtual 121, 3), (60, .goto 78, 3), (63, .aload_n 0, 1), (64, .aload_n 0, 1), (65, .getfield 46, 3), (68, .aload_n 0, 1), (69, .getfield 71, 3), (72, .iconst 1, 1), (73, .isub, 1), (74, .laload, 1), (75, .invokevirtual 121, 3), (78, .goto 60, 3), (81, .aload_n 0, 1), (82, .aload_n 0, 1), (83, .getfield 21, 3), (86, .invokevirtual 206, 3), (89, .invokestatic 145, 3), (92, .invokevirtual 121, 3), (95, .goto 43, 3), (98, .aload_n 0, 1), (99, .aload_n 0, 1), (100, .getfield 32, 3), (103, .aload_n 0, 1), (104, .iload_n 2, 1), (105, .invokevirtual 200, 3), (108, .laload, 1), (109, .invokevirtual 121, 3), (112, .goto 26, 3), (115, .aload_n 0, 1), (116, .aload_n 0, 1), (117, .getfield 28, 3), (120, .aload_n 0, 1), (121, .getfield 46, 3), (124, .aload_n 0, 1), (125, .getfield 71, 3), (128, .iconst 1, 1), (129, .isub, 1), (130, .laload, 1), (131, .iload_n 2, 1), (132, .invokevirtual 210, 3), (135, .invokevirtual 121, 3), (138, .lconst 0, 1), (139, .lreturn, 1)]
theorem dX5_actValue : dChk (pCd 6071) eX5_actValue = true := by decide +kernel
def fX5_actValue_115 (N : Nat) (v0 : Nat) (v2 : Int32) (h : pH) : Option (Int64 × pH) :=
  (getR h v0 5 4).bind fun t1 =>
  (getR h v0 5 10).bind fun t2 =>
  (getI h v0 5 11).bind fun t3 =>
  (ldJ h t2 (t3 - (1 : Int32))).bind fun t4 =>
  (fX3_at N t1 t4 v2 h).bind fun q5 =>
  (fX5_push N v0 q5.1 q5.2).bind fun h6 =>
  some ((0 : Int64), h6)
theorem lX5_actValue_115 (X : pX) (N d : Nat)  (v0 : Nat) (v2 : Int32) (h : pH) (q : Int64 × pH) (hf : fX5_actValue_115 N v0 v2 h = some q) (nv0 : ¬ v0 = 4) : Run X (d + 3) 5 false (pCd 6071) 3 (some .long) 115 [(0, .ref v0), (2, .int v2)] [] h 0 0 (some (.long q.1), q.2, 0, 0) := by
  unfold fX5_actValue_115 at hf
  refine r_aload_n (dGet dX5_actValue (j := 37) rfl) nv0 rfl ?_
  refine r_aload_n (dGet dX5_actValue (j := 38) rfl) nv0 rfl ?_
  obtain ⟨t1, et1, hf⟩ := Option.bind_eq_some_iff.mp hf
  refine r_getR (dGet dX5_actValue (j := 39) rfl) F5_28 et1 ?_
  refine r_aload_n (dGet dX5_actValue (j := 40) rfl) nv0 rfl ?_
  obtain ⟨t2, et2, hf⟩ := Option.bind_eq_some_iff.mp hf
  refine r_getR (dGet dX5_actValue (j := 41) rfl) F5_46 et2 ?_
  refine r_aload_n (dGet dX5_actValue (j := 42) rfl) nv0 rfl ?_
  obtain ⟨t3, et3, hf⟩ := Option.bind_eq_some_iff.mp hf
  refine r_getI (dGet dX5_actValue (j := 43) rfl) F5_71 et3 ?_
  refine r_iconst (dGet dX5_actValue (j := 44) rfl) kI_1 ?_
  refine r_isub (dGet dX5_actValue (j := 45) rfl) ?_
  obtain ⟨t4, et4, hf⟩ := Option.bind_eq_some_iff.mp hf
  refine r_lald (dGet dX5_actValue (j := 46) rfl) et4 ?_
  refine r_iload_n (dGet dX5_actValue (j := 47) rfl) rfl ?_
  obtain ⟨q5, eq5, hf⟩ := Option.bind_eq_some_iff.mp hf
  refine r_virtual (dGet dX5_actValue (j := 48) rfl) L5_210 M191 rfl rfl (Nat.le_of_ble_eq_true rfl) (oX3_at eq5) (cX3_at X N (d + 0) t1 t4 v2 h q5 eq5) ?_
  obtain ⟨h6, eh6, hf⟩ := Option.bind_eq_some_iff.mp hf
  refine r_virtual (dGet dX5_actValue (j := 49) rfl) L5_121 M174 rfl rfl (Nat.le_of_ble_eq_true rfl) (oX5_push eh6) (cX5_push X N (d + 2) v0 q5.1 q5.2 h6 eh6) ?_
  refine r_lconst (v := 0) (dGet dX5_actValue (j := 50) rfl) rfl ?_
  cases hf
  exact r_lret (dGet dX5_actValue (j := 51) rfl) rfl
def fX5_actValue_44 (N : Nat) (v0 : Nat) (v2 : Int32) (h : pH) : Option (Int64 × pH) :=
  (fX3_number N v2 h).bind fun q7 =>
  (fX5_push N v0 q7.1 q7.2).bind fun h8 =>
  some ((0 : Int64), h8)
theorem lX5_actValue_44 (X : pX) (N d : Nat)  (v0 : Nat) (v2 : Int32) (h : pH) (q : Int64 × pH) (hf : fX5_actValue_44 N v0 v2 h = some q) (nv0 : ¬ v0 = 4) : Run X (d + 3) 5 false (pCd 6071) 3 (some .long) 44 [(0, .ref v0), (2, .int v2)] [] h 0 0 (some (.long q.1), q.2, 0, 0) := by
  unfold fX5_actValue_44 at hf
  refine r_aload_n (dGet dX5_actValue (j := 2) rfl) nv0 rfl ?_
  refine r_iload_n (dGet dX5_actValue (j := 3) rfl) rfl ?_
  obtain ⟨q7, eq7, hf⟩ := Option.bind_eq_some_iff.mp hf
  refine r_static (dGet dX5_actValue (j := 4) rfl) (by decide +kernel) (by decide +kernel) L5_145 M189 rfl rfl (Nat.le_of_ble_eq_true rfl) (cX3_number X N (d + 2) v2 h q7 eq7) ?_
  obtain ⟨h8, eh8, hf⟩ := Option.bind_eq_some_iff.mp hf
  refine r_virtual (dGet dX5_actValue (j := 5) rfl) L5_121 M174 rfl rfl (Nat.le_of_ble_eq_true rfl) (oX5_push eh8) (cX5_push X N (d + 2) v0 q7.1 q7.2 h8 eh8) ?_
  refine r_goto (dGet dX5_actValue (j := 6) rfl) rfl ?_
  refine r_lconst (v := 0) (dGet dX5_actValue (j := 50) rfl) rfl ?_
  cases hf
  exact r_lret (dGet dX5_actValue (j := 51) rfl) rfl
def fX5_actValue (N : Nat) (v0 : Nat) (v1 : Int32) (v2 : Int32) (h : pH) : Option (Int64 × pH) := if isO h v0 5 = true then (
  if v1 = 1 then (
  fX5_actValue_44 N v0 v2 h) else
  if v1 = 2 then (
  fX5_actValue_44 N v0 v2 h) else
  if v1 = 3 then (
  (fX5_push N v0 (0 : Int64) h).bind fun h16 =>
  some ((0 : Int64), h16)) else
  if v1 = 4 then (
  (getR h v0 5 10).bind fun t17 =>
  (getI h v0 5 11).bind fun t18 =>
  (ldJ h t17 (t18 - (1 : Int32))).bind fun t19 =>
  (fX5_push N v0 t19 h).bind fun h20 =>
  some ((0 : Int64), h20)) else
  if v1 = 5 then (
  (getR h v0 5 3).bind fun t21 =>
  (fX4_next N t21 h).bind fun q22 =>
  (fX3_number N q22.1 q22.2).bind fun q23 =>
  (fX5_push N v0 q23.1 q23.2).bind fun h24 =>
  some ((0 : Int64), h24)) else
  if v1 = 6 then (
  fX5_actValue_115 N v0 v2 h) else
  if v1 = 7 then (
  (getR h v0 5 5).bind fun t25 =>
  (fX5_slot N v0 v2 h).bind fun q26 =>
  (ldJ q26.2 t25 q26.1).bind fun t27 =>
  (fX5_push N v0 t27 q26.2).bind fun h28 =>
  some ((0 : Int64), h28)) else
  fX5_actValue_115 N v0 v2 h) else none
theorem oX5_actValue {N : Nat} {v0 : Nat} {v1 : Int32} {v2 : Int32} {h : pH} {q : Int64 × pH} (hf : fX5_actValue N v0 v1 v2 h = some q) : isO h v0 5 = true := by
  unfold fX5_actValue at hf
  by_cases hc : isO h v0 5 = true
  · exact hc
  · rw [if_neg hc] at hf; cases hf
theorem cX5_actValue (X : pX) (N d : Nat) (v0 : Nat) (v1 : Int32) (v2 : Int32) (h : pH) (q : Int64 × pH) (hf : fX5_actValue N v0 v1 v2 h = some q) : Calls X (d + 3) 188 [.ref v0, .int v1, .int v2] h (some (.long q.1), q.2, 0, 0) := by
  refine Calls.of M188 (Nat.le_of_ble_eq_true rfl) ?_
  show Run X (d + 3) 5 false (pCd 6071) 3 (some .long) 0 [(0, .ref v0), (1, .int v1), (2, .int v2)] [] h 0 0 (some (.long q.1), q.2, 0, 0)
  unfold fX5_actValue at hf
  by_cases hc : isO h v0 5 = true
  · rw [if_pos hc] at hf
    have nv0 : ¬ v0 = 4 := isO_ne hc
    refine r_iload_n (dGet dX5_actValue (j := 0) rfl) rfl ?_
    by_cases c9 : v1 = 1
    · rw [if_pos c9] at hf
      refine r_table (off := 43) (dGet dX5_actValue (j := 1) rfl) (by rw [c9]; decide) rfl ?_
      refine Run.weak [(0, .ref v0), (2, .int v2)] (by simp) (by simp [pNd]) ?_
      exact lX5_actValue_44 X N d v0 v2 h q hf nv0
    rw [if_neg c9] at hf
    by_cases c10 : v1 = 2
    · rw [if_pos c10] at hf
      refine r_table (off := 43) (dGet dX5_actValue (j := 1) rfl) (by rw [c10]; decide) rfl ?_
      refine Run.weak [(0, .ref v0), (2, .int v2)] (by simp) (by simp [pNd]) ?_
      exact lX5_actValue_44 X N d v0 v2 h q hf nv0
    rw [if_neg c10] at hf
    by_cases c11 : v1 = 3
    · rw [if_pos c11] at hf
      refine r_table (off := 54) (dGet dX5_actValue (j := 1) rfl) (by rw [c11]; decide) rfl ?_
      refine r_aload_n (dGet dX5_actValue (j := 7) rfl) nv0 rfl ?_
      refine r_lconst (v := 0) (dGet dX5_actValue (j := 8) rfl) rfl ?_
      obtain ⟨h16, eh16, hf⟩ := Option.bind_eq_some_iff.mp hf
      refine r_virtual (dGet dX5_actValue (j := 9) rfl) L5_121 M174 rfl rfl (Nat.le_of_ble_eq_true rfl) (oX5_push eh16) (cX5_push X N (d + 2) v0 (0 : Int64) h h16 eh16) ?_
      refine r_goto (dGet dX5_actValue (j := 10) rfl) rfl ?_
      refine r_lconst (v := 0) (dGet dX5_actValue (j := 50) rfl) rfl ?_
      cases hf
      exact r_lret (dGet dX5_actValue (j := 51) rfl) rfl
    rw [if_neg c11] at hf
    by_cases c12 : v1 = 4
    · rw [if_pos c12] at hf
      refine r_table (off := 62) (dGet dX5_actValue (j := 1) rfl) (by rw [c12]; decide) rfl ?_
      refine r_aload_n (dGet dX5_actValue (j := 11) rfl) nv0 rfl ?_
      refine r_aload_n (dGet dX5_actValue (j := 12) rfl) nv0 rfl ?_
      obtain ⟨t17, et17, hf⟩ := Option.bind_eq_some_iff.mp hf
      refine r_getR (dGet dX5_actValue (j := 13) rfl) F5_46 et17 ?_
      refine r_aload_n (dGet dX5_actValue (j := 14) rfl) nv0 rfl ?_
      obtain ⟨t18, et18, hf⟩ := Option.bind_eq_some_iff.mp hf
      refine r_getI (dGet dX5_actValue (j := 15) rfl) F5_71 et18 ?_
      refine r_iconst (dGet dX5_actValue (j := 16) rfl) kI_1 ?_
      refine r_isub (dGet dX5_actValue (j := 17) rfl) ?_
      obtain ⟨t19, et19, hf⟩ := Option.bind_eq_some_iff.mp hf
      refine r_lald (dGet dX5_actValue (j := 18) rfl) et19 ?_
      obtain ⟨h20, eh20, hf⟩ := Option.bind_eq_some_iff.mp hf
      refine r_virtual (dGet dX5_actValue (j := 19) rfl) L5_121 M174 rfl rfl (Nat.le_of_ble_eq_true rfl) (oX5_push eh20) (cX5_push X N (d + 2) v0 t19 h h20 eh20) ?_
      refine r_goto (dGet dX5_actValue (j := 20) rfl) rfl ?_
      refine r_lconst (v := 0) (dGet dX5_actValue (j := 50) rfl) rfl ?_
      cases hf
      exact r_lret (dGet dX5_actValue (j := 51) rfl) rfl
    rw [if_neg c12] at hf
    by_cases c13 : v1 = 5
    · rw [if_pos c13] at hf
      refine r_table (off := 80) (dGet dX5_actValue (j := 1) rfl) (by rw [c13]; decide) rfl ?_
      refine r_aload_n (dGet dX5_actValue (j := 21) rfl) nv0 rfl ?_
      refine r_aload_n (dGet dX5_actValue (j := 22) rfl) nv0 rfl ?_
      obtain ⟨t21, et21, hf⟩ := Option.bind_eq_some_iff.mp hf
      refine r_getR (dGet dX5_actValue (j := 23) rfl) F5_21 et21 ?_
      obtain ⟨q22, eq22, hf⟩ := Option.bind_eq_some_iff.mp hf
      refine r_virtual (dGet dX5_actValue (j := 24) rfl) L5_206 M190 rfl rfl (Nat.le_of_ble_eq_true rfl) (oX4_next eq22) (cX4_next X N (d + 2) t21 h q22 eq22) ?_
      obtain ⟨q23, eq23, hf⟩ := Option.bind_eq_some_iff.mp hf
      refine r_static (dGet dX5_actValue (j := 25) rfl) (by decide +kernel) (by decide +kernel) L5_145 M189 rfl rfl (Nat.le_of_ble_eq_true rfl) (cX3_number X N (d + 2) q22.1 q22.2 q23 eq23) ?_
      obtain ⟨h24, eh24, hf⟩ := Option.bind_eq_some_iff.mp hf
      refine r_virtual (dGet dX5_actValue (j := 26) rfl) L5_121 M174 rfl rfl (Nat.le_of_ble_eq_true rfl) (oX5_push eh24) (cX5_push X N (d + 2) v0 q23.1 q23.2 h24 eh24) ?_
      refine r_goto (dGet dX5_actValue (j := 27) rfl) rfl ?_
      refine r_lconst (v := 0) (dGet dX5_actValue (j := 50) rfl) rfl ?_
      cases hf
      exact r_lret (dGet dX5_actValue (j := 51) rfl) rfl
    rw [if_neg c13] at hf
    by_cases c14 : v1 = 6
    · rw [if_pos c14] at hf
      refine r_table (off := 114) (dGet dX5_actValue (j := 1) rfl) (by rw [c14]; decide) rfl ?_
      refine Run.weak [(0, .ref v0), (2, .int v2)] (by simp) (by simp [pNd]) ?_
      exact lX5_actValue_115 X N d v0 v2 h q hf nv0
    rw [if_neg c14] at hf
    by_cases c15 : v1 = 7
    · rw [if_pos c15] at hf
      refine r_table (off := 97) (dGet dX5_actValue (j := 1) rfl) (by rw [c15]; decide) rfl ?_
      refine r_aload_n (dGet dX5_actValue (j := 28) rfl) nv0 rfl ?_
      refine r_aload_n (dGet dX5_actValue (j := 29) rfl) nv0 rfl ?_
      obtain ⟨t25, et25, hf⟩ := Option.bind_eq_some_iff.mp hf
      refine r_getR (dGet dX5_actValue (j := 30) rfl) F5_32 et25 ?_
      refine r_aload_n (dGet dX5_actValue (j := 31) rfl) nv0 rfl ?_
      refine r_iload_n (dGet dX5_actValue (j := 32) rfl) rfl ?_
      obtain ⟨q26, eq26, hf⟩ := Option.bind_eq_some_iff.mp hf
      refine r_virtual (dGet dX5_actValue (j := 33) rfl) L5_200 M183 rfl rfl (Nat.le_of_ble_eq_true rfl) (oX5_slot eq26) (cX5_slot X N (d + 1) v0 v2 h q26 eq26) ?_
      obtain ⟨t27, et27, hf⟩ := Option.bind_eq_some_iff.mp hf
      refine r_lald (dGet dX5_actValue (j := 34) rfl) et27 ?_
      obtain ⟨h28, eh28, hf⟩ := Option.bind_eq_some_iff.mp hf
      refine r_virtual (dGet dX5_actValue (j := 35) rfl) L5_121 M174 rfl rfl (Nat.le_of_ble_eq_true rfl) (oX5_push eh28) (cX5_push X N (d + 2) v0 t27 q26.2 h28 eh28) ?_
      refine r_goto (dGet dX5_actValue (j := 36) rfl) rfl ?_
      refine r_lconst (v := 0) (dGet dX5_actValue (j := 50) rfl) rfl ?_
      cases hf
      exact r_lret (dGet dX5_actValue (j := 51) rfl) rfl
    rw [if_neg c15] at hf
    refine r_table (dGet dX5_actValue (j := 1) rfl) (pTable_out (cs := [1, 2, 3, 4, 5, 6, 7]) (by decide) (by decide) (by decide) (List.forall_mem_cons.mpr ⟨c9, List.forall_mem_cons.mpr ⟨c10, List.forall_mem_cons.mpr ⟨c11, List.forall_mem_cons.mpr ⟨c12, List.forall_mem_cons.mpr ⟨c13, List.forall_mem_cons.mpr ⟨c14, List.forall_mem_cons.mpr ⟨c15, fun _ h => absurd h List.not_mem_nil⟩⟩⟩⟩⟩⟩⟩)) rfl ?_
    refine Run.weak [(0, .ref v0), (2, .int v2)] (by simp) (by simp [pNd]) ?_
    exact lX5_actValue_115 X N d v0 v2 h q hf nv0
  · rw [if_neg hc] at hf; cases hf
def eX5_print : List (Nat × Instr × Nat) := [(0, .aload_n 0, 1), (1, .getfield 68, 3), (4, .ifCond .lt 23, 3), (7, .aload_n 0, 1), (8, .getfield 68, 3), (11, .sipush 500, 3), (14, .if_icmp .ge 13, 3), (17, .aload_n 0, 1), (18, .getfield 49, 3), (21, .aload_n 0, 1), (22, .getfield 68, 3), (25, .iload_n 1, 1), (26, .iastore, 1), (27, .aload_n 0, 1), (28, .dup, 1), (29, .getfield 68, 3), (32, .iconst 1, 1), (33, .iadd, 1), (34, .putfield 68, 3), (37, .return_, 1)]
theorem dX5_print : dChk (pCd 6206) eX5_print = true := by decide +kernel
def fX5_print_27 (N : Nat) (v0 : Nat) (h : pH) : Option (pH) :=
  (getI h v0 5 19).bind fun t1 =>
  (putI h v0 5 19 (t1 + (1 : Int32))).bind fun h2 =>
  some h2
theorem lX5_print_27 (X : pX) (N d : Nat)  (v0 : Nat) (h : pH) (q : pH) (hf : fX5_print_27 N v0 h = some q) (nv0 : ¬ v0 = 4) : Run X (d + 0) 5 false (pCd 6206) 2 none 27 [(0, .ref v0)] [] h 0 0 (none, q, 0, 0) := by
  unfold fX5_print_27 at hf
  refine r_aload_n (dGet dX5_print (j := 13) rfl) nv0 rfl ?_
  refine r_dup (dGet dX5_print (j := 14) rfl) rfl ?_
  obtain ⟨t1, et1, hf⟩ := Option.bind_eq_some_iff.mp hf
  refine r_getI (dGet dX5_print (j := 15) rfl) F5_68 et1 ?_
  refine r_iconst (dGet dX5_print (j := 16) rfl) kI_1 ?_
  refine r_iadd (dGet dX5_print (j := 17) rfl) ?_
  obtain ⟨h2, eh2, hf⟩ := Option.bind_eq_some_iff.mp hf
  refine r_putI (dGet dX5_print (j := 18) rfl) F5_68 rfl rfl eh2 ?_
  cases hf
  exact r_vret (dGet dX5_print (j := 19) rfl) rfl
def fX5_print (N : Nat) (v0 : Nat) (v1 : Int32) (h : pH) : Option (pH) := if isO h v0 5 = true then (
  (getI h v0 5 19).bind fun t3 =>
  if t3 < 0 then (
  fX5_print_27 N v0 h) else (
  (getI h v0 5 19).bind fun t5 =>
  if (500 : Int32) ≤ t5 then (
  fX5_print_27 N v0 h) else (
  (getR h v0 5 18).bind fun t7 =>
  (getI h v0 5 19).bind fun t8 =>
  (stI h t7 t8 v1).bind fun h9 =>
  fX5_print_27 N v0 h9))) else none
theorem oX5_print {N : Nat} {v0 : Nat} {v1 : Int32} {h : pH} {q : pH} (hf : fX5_print N v0 v1 h = some q) : isO h v0 5 = true := by
  unfold fX5_print at hf
  by_cases hc : isO h v0 5 = true
  · exact hc
  · rw [if_neg hc] at hf; cases hf
theorem cX5_print (X : pX) (N d : Nat) (v0 : Nat) (v1 : Int32) (h : pH) (q : pH) (hf : fX5_print N v0 v1 h = some q) : Calls X (d + 0) 220 [.ref v0, .int v1] h (none, q, 0, 0) := by
  refine Calls.of M220 (Nat.le_of_ble_eq_true rfl) ?_
  show Run X (d + 0) 5 false (pCd 6206) 2 none 0 [(0, .ref v0), (1, .int v1)] [] h 0 0 (none, q, 0, 0)
  unfold fX5_print at hf
  by_cases hc : isO h v0 5 = true
  · rw [if_pos hc] at hf
    have nv0 : ¬ v0 = 4 := isO_ne hc
    refine r_aload_n (dGet dX5_print (j := 0) rfl) nv0 rfl ?_
    obtain ⟨t3, et3, hf⟩ := Option.bind_eq_some_iff.mp hf
    refine r_getI (dGet dX5_print (j := 1) rfl) F5_68 et3 ?_
    by_cases c4 : t3 < 0
    · rw [if_pos c4] at hf
      refine r_if_lt_t (dGet dX5_print (j := 2) rfl) rfl c4 ?_
      refine Run.weak [(0, .ref v0)] (by simp) (by simp [pNd]) ?_
      exact lX5_print_27 X N d v0 h q hf nv0
    · rw [if_neg c4] at hf
      refine r_if_lt_f (dGet dX5_print (j := 2) rfl) rfl c4 ?_
      refine r_aload_n (dGet dX5_print (j := 3) rfl) nv0 rfl ?_
      obtain ⟨t5, et5, hf⟩ := Option.bind_eq_some_iff.mp hf
      refine r_getI (dGet dX5_print (j := 4) rfl) F5_68 et5 ?_
      refine r_sipush (dGet dX5_print (j := 5) rfl) kS_500 ?_
      by_cases c6 : (500 : Int32) ≤ t5
      · rw [if_pos c6] at hf
        refine r_icmp_ge_t (dGet dX5_print (j := 6) rfl) rfl c6 ?_
        refine Run.weak [(0, .ref v0)] (by simp) (by simp [pNd]) ?_
        exact lX5_print_27 X N d v0 h q hf nv0
      · rw [if_neg c6] at hf
        refine r_icmp_ge_f (dGet dX5_print (j := 6) rfl) rfl c6 ?_
        refine r_aload_n (dGet dX5_print (j := 7) rfl) nv0 rfl ?_
        obtain ⟨t7, et7, hf⟩ := Option.bind_eq_some_iff.mp hf
        refine r_getR (dGet dX5_print (j := 8) rfl) F5_49 et7 ?_
        refine r_aload_n (dGet dX5_print (j := 9) rfl) nv0 rfl ?_
        obtain ⟨t8, et8, hf⟩ := Option.bind_eq_some_iff.mp hf
        refine r_getI (dGet dX5_print (j := 10) rfl) F5_68 et8 ?_
        refine r_iload_n (dGet dX5_print (j := 11) rfl) rfl ?_
        obtain ⟨h9, eh9, hf⟩ := Option.bind_eq_some_iff.mp hf
        refine r_iast (dGet dX5_print (j := 12) rfl) eh9 ?_
        refine Run.weak [(0, .ref v0)] (by simp) (by simp [pNd]) ?_
        exact lX5_print_27 X N d v0 h9 q hf nv0
  · rw [if_neg hc] at hf; cases hf
def eX5_actWork : List (Nat × Instr × Nat) := [(0, .iload_n 1, 1), (1, .tableswitch 88 38 42 #[35, 35, 51, 58, 68], 35), (36, .aload_n 0, 1), (37, .invokevirtual 167, 3), (40, .lconst 0, 1), (41, .lcmp, 1), (42, .ifCond .ne 8, 3), (45, .aload_n 0, 1), (46, .iload_n 2, 1), (47, .putfield 77, 3), (50, .lconst 0, 1), (51, .lreturn, 1), (52, .aload_n 0, 1), (53, .lconst 0, 1), (54, .invokevirtual 203, 3), (57, .lconst 0, 1), (58, .lreturn, 1), (59, .aload_n 0, 1), (60, .aload_n 0, 1), (61, .invokevirtual 167, 3), (64, .invokevirtual 203, 3), (67, .lconst 0, 1), (68, .lreturn, 1), (69, .aload_n 0, 1), (70, .invokevirtual 167, 3), (73, .lstore_n 3, 1), (74, .lload_n 3, 1), (75, .lconst 0, 1), (76, .lcmp, 1), (77, .ifCond .ne 10, 3), (80, .iconst 0, 1), (81, .invokestatic 234, 3), (84, .goto 4, 3), (87, .lload_n 3, 1), (88, .lreturn, 1), (89, .aload_n 0, 1), (90, .aload_n 0, 1), (91, .invokevirtual 167, 3), (94, .l2i, 1), (95, .invokevirtual 304, 3), (98, .lconst 0, 1), (99, .lreturn, 1)]
theorem dX5_actWork : dChk (pCd 6202) eX5_actWork = true := by decide +kernel
def fX5_actWork_36 (N : Nat) (v0 : Nat) (v2 : Int32) (h : pH) : Option (Int64 × pH) :=
  (fX5_pop N v0 h).bind fun q1 =>
  if (lg_cmp q1.1 (0 : Int64)) = 0 then (
  (putI q1.2 v0 5 12 v2).bind fun h3 =>
  some ((0 : Int64), h3)) else (
  some ((0 : Int64), q1.2))
theorem lX5_actWork_36 (X : pX) (N d : Nat)  (v0 : Nat) (v2 : Int32) (h : pH) (q : Int64 × pH) (hf : fX5_actWork_36 N v0 v2 h = some q) (nv0 : ¬ v0 = 4) : Run X (d + 2) 5 false (pCd 6202) 5 (some .long) 36 [(0, .ref v0), (2, .int v2)] [] h 0 0 (some (.long q.1), q.2, 0, 0) := by
  unfold fX5_actWork_36 at hf
  refine r_aload_n (dGet dX5_actWork (j := 2) rfl) nv0 rfl ?_
  obtain ⟨q1, eq1, hf⟩ := Option.bind_eq_some_iff.mp hf
  refine r_virtual (dGet dX5_actWork (j := 3) rfl) L5_167 M182 rfl rfl (Nat.le_of_ble_eq_true rfl) (oX5_pop eq1) (cX5_pop X N (d + 1) v0 h q1 eq1) ?_
  refine r_lconst (v := 0) (dGet dX5_actWork (j := 4) rfl) rfl ?_
  refine r_lcmp (dGet dX5_actWork (j := 5) rfl) ?_
  by_cases c2 : (lg_cmp q1.1 (0 : Int64)) = 0
  · rw [if_pos c2] at hf
    refine r_if_ne_f (dGet dX5_actWork (j := 6) rfl) rfl c2 ?_
    refine r_aload_n (dGet dX5_actWork (j := 7) rfl) nv0 rfl ?_
    refine r_iload_n (dGet dX5_actWork (j := 8) rfl) rfl ?_
    obtain ⟨h3, eh3, hf⟩ := Option.bind_eq_some_iff.mp hf
    refine r_putI (dGet dX5_actWork (j := 9) rfl) F5_77 rfl rfl eh3 ?_
    refine r_lconst (v := 0) (dGet dX5_actWork (j := 10) rfl) rfl ?_
    cases hf
    exact r_lret (dGet dX5_actWork (j := 11) rfl) rfl
  · rw [if_neg c2] at hf
    refine r_if_ne_t (dGet dX5_actWork (j := 6) rfl) rfl c2 ?_
    refine r_lconst (v := 0) (dGet dX5_actWork (j := 10) rfl) rfl ?_
    cases hf
    exact r_lret (dGet dX5_actWork (j := 11) rfl) rfl
def fX5_actWork (N : Nat) (v0 : Nat) (v1 : Int32) (v2 : Int32) (h : pH) : Option (Int64 × pH) := if isO h v0 5 = true then (
  if v1 = 38 then (
  fX5_actWork_36 N v0 v2 h) else
  if v1 = 39 then (
  fX5_actWork_36 N v0 v2 h) else
  if v1 = 40 then (
  (fX5_closeMethod N v0 (0 : Int64) h).bind fun h9 =>
  some ((0 : Int64), h9)) else
  if v1 = 41 then (
  (fX5_pop N v0 h).bind fun q10 =>
  (fX5_closeMethod N v0 q10.1 q10.2).bind fun h11 =>
  some ((0 : Int64), h11)) else
  if v1 = 42 then (
  (fX5_pop N v0 h).bind fun q12 =>
  if (lg_cmp q12.1 (0 : Int64)) = 0 then (
  (fX3_faultObject N (0 : Int32) q12.2).bind fun q14 =>
  some (q14.1, q14.2)) else (
  some (q12.1, q12.2))) else
  (fX5_pop N v0 h).bind fun q15 =>
  (fX5_print N v0 (q15.1.toInt32) q15.2).bind fun h16 =>
  some ((0 : Int64), h16)) else none
theorem oX5_actWork {N : Nat} {v0 : Nat} {v1 : Int32} {v2 : Int32} {h : pH} {q : Int64 × pH} (hf : fX5_actWork N v0 v1 v2 h = some q) : isO h v0 5 = true := by
  unfold fX5_actWork at hf
  by_cases hc : isO h v0 5 = true
  · exact hc
  · rw [if_neg hc] at hf; cases hf
theorem cX5_actWork (X : pX) (N d : Nat) (v0 : Nat) (v1 : Int32) (v2 : Int32) (h : pH) (q : Int64 × pH) (hf : fX5_actWork N v0 v1 v2 h = some q) : Calls X (d + 2) 219 [.ref v0, .int v1, .int v2] h (some (.long q.1), q.2, 0, 0) := by
  refine Calls.of M219 (Nat.le_of_ble_eq_true rfl) ?_
  show Run X (d + 2) 5 false (pCd 6202) 5 (some .long) 0 [(0, .ref v0), (1, .int v1), (2, .int v2)] [] h 0 0 (some (.long q.1), q.2, 0, 0)
  unfold fX5_actWork at hf
  by_cases hc : isO h v0 5 = true
  · rw [if_pos hc] at hf
    have nv0 : ¬ v0 = 4 := isO_ne hc
    refine r_iload_n (dGet dX5_actWork (j := 0) rfl) rfl ?_
    by_cases c4 : v1 = 38
    · rw [if_pos c4] at hf
      refine r_table (off := 35) (dGet dX5_actWork (j := 1) rfl) (by rw [c4]; decide) rfl ?_
      refine Run.weak [(0, .ref v0), (2, .int v2)] (by simp) (by simp [pNd]) ?_
      exact lX5_actWork_36 X N d v0 v2 h q hf nv0
    rw [if_neg c4] at hf
    by_cases c5 : v1 = 39
    · rw [if_pos c5] at hf
      refine r_table (off := 35) (dGet dX5_actWork (j := 1) rfl) (by rw [c5]; decide) rfl ?_
      refine Run.weak [(0, .ref v0), (2, .int v2)] (by simp) (by simp [pNd]) ?_
      exact lX5_actWork_36 X N d v0 v2 h q hf nv0
    rw [if_neg c5] at hf
    by_cases c6 : v1 = 40
    · rw [if_pos c6] at hf
      refine r_table (off := 51) (dGet dX5_actWork (j := 1) rfl) (by rw [c6]; decide) rfl ?_
      refine r_aload_n (dGet dX5_actWork (j := 12) rfl) nv0 rfl ?_
      refine r_lconst (v := 0) (dGet dX5_actWork (j := 13) rfl) rfl ?_
      obtain ⟨h9, eh9, hf⟩ := Option.bind_eq_some_iff.mp hf
      refine r_virtual (dGet dX5_actWork (j := 14) rfl) L5_203 M184 rfl rfl (Nat.le_of_ble_eq_true rfl) (oX5_closeMethod eh9) (cX5_closeMethod X N (d + 0) v0 (0 : Int64) h h9 eh9) ?_
      refine r_lconst (v := 0) (dGet dX5_actWork (j := 15) rfl) rfl ?_
      cases hf
      exact r_lret (dGet dX5_actWork (j := 16) rfl) rfl
    rw [if_neg c6] at hf
    by_cases c7 : v1 = 41
    · rw [if_pos c7] at hf
      refine r_table (off := 58) (dGet dX5_actWork (j := 1) rfl) (by rw [c7]; decide) rfl ?_
      refine r_aload_n (dGet dX5_actWork (j := 17) rfl) nv0 rfl ?_
      refine r_aload_n (dGet dX5_actWork (j := 18) rfl) nv0 rfl ?_
      obtain ⟨q10, eq10, hf⟩ := Option.bind_eq_some_iff.mp hf
      refine r_virtual (dGet dX5_actWork (j := 19) rfl) L5_167 M182 rfl rfl (Nat.le_of_ble_eq_true rfl) (oX5_pop eq10) (cX5_pop X N (d + 1) v0 h q10 eq10) ?_
      obtain ⟨h11, eh11, hf⟩ := Option.bind_eq_some_iff.mp hf
      refine r_virtual (dGet dX5_actWork (j := 20) rfl) L5_203 M184 rfl rfl (Nat.le_of_ble_eq_true rfl) (oX5_closeMethod eh11) (cX5_closeMethod X N (d + 0) v0 q10.1 q10.2 h11 eh11) ?_
      refine r_lconst (v := 0) (dGet dX5_actWork (j := 21) rfl) rfl ?_
      cases hf
      exact r_lret (dGet dX5_actWork (j := 22) rfl) rfl
    rw [if_neg c7] at hf
    by_cases c8 : v1 = 42
    · rw [if_pos c8] at hf
      refine r_table (off := 68) (dGet dX5_actWork (j := 1) rfl) (by rw [c8]; decide) rfl ?_
      refine r_aload_n (dGet dX5_actWork (j := 23) rfl) nv0 rfl ?_
      obtain ⟨q12, eq12, hf⟩ := Option.bind_eq_some_iff.mp hf
      refine r_virtual (dGet dX5_actWork (j := 24) rfl) L5_167 M182 rfl rfl (Nat.le_of_ble_eq_true rfl) (oX5_pop eq12) (cX5_pop X N (d + 1) v0 h q12 eq12) ?_
      refine r_lstore_n (lv' := [(3, .long q12.1), (0, .ref v0), (1, .int v1), (2, .int v2)]) (dGet dX5_actWork (j := 25) rfl) (by decide) rfl ?_
      refine r_lload_n (dGet dX5_actWork (j := 26) rfl) rfl ?_
      refine r_lconst (v := 0) (dGet dX5_actWork (j := 27) rfl) rfl ?_
      refine r_lcmp (dGet dX5_actWork (j := 28) rfl) ?_
      by_cases c13 : (lg_cmp q12.1 (0 : Int64)) = 0
      · rw [if_pos c13] at hf
        refine r_if_ne_f (dGet dX5_actWork (j := 29) rfl) rfl c13 ?_
        refine r_iconst (dGet dX5_actWork (j := 30) rfl) kI_0 ?_
        obtain ⟨q14, eq14, hf⟩ := Option.bind_eq_some_iff.mp hf
        refine r_static (dGet dX5_actWork (j := 31) rfl) (by decide +kernel) (by decide +kernel) L5_234 M195 rfl rfl (Nat.le_of_ble_eq_true rfl) (cX3_faultObject X N (d + 1) (0 : Int32) q12.2 q14 eq14) ?_
        refine r_goto (dGet dX5_actWork (j := 32) rfl) rfl ?_
        cases hf
        exact r_lret (dGet dX5_actWork (j := 34) rfl) rfl
      · rw [if_neg c13] at hf
        refine r_if_ne_t (dGet dX5_actWork (j := 29) rfl) rfl c13 ?_
        refine r_lload_n (dGet dX5_actWork (j := 33) rfl) rfl ?_
        cases hf
        exact r_lret (dGet dX5_actWork (j := 34) rfl) rfl
    rw [if_neg c8] at hf
    refine r_table (dGet dX5_actWork (j := 1) rfl) (pTable_out (cs := [38, 39, 40, 41, 42]) (by decide) (by decide) (by decide) (List.forall_mem_cons.mpr ⟨c4, List.forall_mem_cons.mpr ⟨c5, List.forall_mem_cons.mpr ⟨c6, List.forall_mem_cons.mpr ⟨c7, List.forall_mem_cons.mpr ⟨c8, fun _ h => absurd h List.not_mem_nil⟩⟩⟩⟩⟩)) rfl ?_
    refine r_aload_n (dGet dX5_actWork (j := 35) rfl) nv0 rfl ?_
    refine r_aload_n (dGet dX5_actWork (j := 36) rfl) nv0 rfl ?_
    obtain ⟨q15, eq15, hf⟩ := Option.bind_eq_some_iff.mp hf
    refine r_virtual (dGet dX5_actWork (j := 37) rfl) L5_167 M182 rfl rfl (Nat.le_of_ble_eq_true rfl) (oX5_pop eq15) (cX5_pop X N (d + 1) v0 h q15 eq15) ?_
    refine r_l2i (dGet dX5_actWork (j := 38) rfl) ?_
    obtain ⟨h16, eh16, hf⟩ := Option.bind_eq_some_iff.mp hf
    refine r_virtual (dGet dX5_actWork (j := 39) rfl) L5_304 M220 rfl rfl (Nat.le_of_ble_eq_true rfl) (oX5_print eh16) (cX5_print X N (d + 1) v0 (q15.1.toInt32) q15.2 h16 eh16) ?_
    refine r_lconst (v := 0) (dGet dX5_actWork (j := 40) rfl) rfl ?_
    cases hf
    exact r_lret (dGet dX5_actWork (j := 41) rfl) rfl
  · rw [if_neg hc] at hf; cases hf
def eX5_call : List (Nat × Instr × Nat) := [(0, .aload_n 0, 1), (1, .getfield 74, 3), (4, .iload_n 2, 1), (5, .isub, 1), (6, .iconst 1, 1), (7, .isub, 1), (8, .istore_n 3, 1), (9, .iload_n 3, 1), (10, .ifCond .lt 12, 3), (13, .aload_n 0, 1), (14, .getfield 32, 3), (17, .iload_n 3, 1), (18, .laload, 1), (19, .goto 4, 3), (22, .lconst 0, 1), (23, .lstore 4, 2), (25, .lload 4, 2), (27, .lconst 0, 1), (28, .lcmp, 1), (29, .ifCond .ne 8, 3), (32, .iconst 0, 1), (33, .invokestatic 234, 3), (36, .lreturn, 1), (37, .aload_n 0, 1), (38, .aload_n 0, 1), (39, .getfield 13, 3), (42, .aload_n 0, 1), (43, .getfield 28, 3), (46, .lload 4, 2), (48, .invokevirtual 249, 3), (51, .iconst 1, 1), (52, .iload_n 1, 1), (53, .invokevirtual 98, 3), (56, .iload_n 2, 1), (57, .invokevirtual 125, 3), (60, .lconst 0, 1), (61, .lreturn, 1)]
theorem dX5_call : dChk (pCd 6182) eX5_call = true := by decide +kernel
def fX5_call_23 (N : Nat) (v0 : Nat) (v1 : Int32) (v2 : Int32) (s0 : Int64) (nc : Nat) (ns : Nat) (h : pH) : Option (Int64 × pH × Nat × Nat) :=
  if (lg_cmp s0 (0 : Int64)) = 0 then (
  (fX3_faultObject N (0 : Int32) h).bind fun q7 =>
  some (q7.1, q7.2, nc, ns)) else (
  (getR h v0 5 1).bind fun t2 =>
  (getR h v0 5 4).bind fun t3 =>
  (fX3_classOf N t3 s0 h).bind fun q4 =>
  (fX6_had N t2 q4.1 (1 : Int32) v1 q4.2).bind fun q5 =>
  (fX5_openMethod N v0 q5.1 v2 q5.2).bind fun q6 =>
  some ((0 : Int64), q6.1, (nc + q6.2.1), (ns + q6.2.2)))
theorem lX5_call_23 (X : pX) (N d : Nat)  (v0 : Nat) (v1 : Int32) (v2 : Int32) (s0 : Int64) (nc : Nat) (ns : Nat) (h : pH) (q : Int64 × pH × Nat × Nat) (hf : fX5_call_23 N v0 v1 v2 s0 nc ns h = some q) (nv0 : ¬ v0 = 4) : Run X (d + 4) 5 false (pCd 6182) 6 (some .long) 23 [(0, .ref v0), (1, .int v1), (2, .int v2)] [.long s0] h nc ns (some (.long q.1), q.2.1, q.2.2.1, q.2.2.2) := by
  unfold fX5_call_23 at hf
  refine r_lstore (lv' := [(4, .long s0), (0, .ref v0), (1, .int v1), (2, .int v2)]) (dGet dX5_call (j := 15) rfl) (by decide) rfl ?_
  refine r_lload (dGet dX5_call (j := 16) rfl) rfl ?_
  refine r_lconst (v := 0) (dGet dX5_call (j := 17) rfl) rfl ?_
  refine r_lcmp (dGet dX5_call (j := 18) rfl) ?_
  by_cases c1 : (lg_cmp s0 (0 : Int64)) = 0
  · rw [if_pos c1] at hf
    refine r_if_ne_f (dGet dX5_call (j := 19) rfl) rfl c1 ?_
    refine r_iconst (dGet dX5_call (j := 20) rfl) kI_0 ?_
    obtain ⟨q7, eq7, hf⟩ := Option.bind_eq_some_iff.mp hf
    refine r_static (dGet dX5_call (j := 21) rfl) (by decide +kernel) (by decide +kernel) L5_234 M195 rfl rfl (Nat.le_of_ble_eq_true rfl) (cX3_faultObject X N (d + 3) (0 : Int32) h q7 eq7) ?_
    cases hf
    exact r_lret (dGet dX5_call (j := 22) rfl) rfl
  · rw [if_neg c1] at hf
    refine r_if_ne_t (dGet dX5_call (j := 19) rfl) rfl c1 ?_
    refine r_aload_n (dGet dX5_call (j := 23) rfl) nv0 rfl ?_
    refine r_aload_n (dGet dX5_call (j := 24) rfl) nv0 rfl ?_
    obtain ⟨t2, et2, hf⟩ := Option.bind_eq_some_iff.mp hf
    refine r_getR (dGet dX5_call (j := 25) rfl) F5_13 et2 ?_
    refine r_aload_n (dGet dX5_call (j := 26) rfl) nv0 rfl ?_
    obtain ⟨t3, et3, hf⟩ := Option.bind_eq_some_iff.mp hf
    refine r_getR (dGet dX5_call (j := 27) rfl) F5_28 et3 ?_
    refine r_lload (dGet dX5_call (j := 28) rfl) rfl ?_
    obtain ⟨q4, eq4, hf⟩ := Option.bind_eq_some_iff.mp hf
    refine r_virtual (dGet dX5_call (j := 29) rfl) L5_249 M210 rfl rfl (Nat.le_of_ble_eq_true rfl) (oX3_classOf eq4) (cX3_classOf X N (d + 3) t3 s0 h q4 eq4) ?_
    refine r_iconst (dGet dX5_call (j := 30) rfl) kI_1 ?_
    refine r_iload_n (dGet dX5_call (j := 31) rfl) rfl ?_
    obtain ⟨q5, eq5, hf⟩ := Option.bind_eq_some_iff.mp hf
    refine r_virtual (dGet dX5_call (j := 32) rfl) L5_98 M118 rfl rfl (Nat.le_of_ble_eq_true rfl) (oX6_had eq5) (cX6_had X N (d + 2) t2 q4.1 (1 : Int32) v1 q4.2 q5 eq5) ?_
    refine r_iload_n (dGet dX5_call (j := 33) rfl) rfl ?_
    obtain ⟨q6, eq6, hf⟩ := Option.bind_eq_some_iff.mp hf
    refine r_virtual (dGet dX5_call (j := 34) rfl) L5_125 M175 rfl rfl (Nat.le_of_ble_eq_true rfl) (oX5_openMethod eq6) (cX5_openMethod X N (d + 0) v0 q5.1 v2 q5.2 q6 eq6) ?_
    refine r_lconst (v := 0) (dGet dX5_call (j := 35) rfl) rfl ?_
    cases hf
    exact r_lret (dGet dX5_call (j := 36) rfl) rfl
def fX5_call (N : Nat) (v0 : Nat) (v1 : Int32) (v2 : Int32) (h : pH) : Option (Int64 × pH × Nat × Nat) := if isO h v0 5 = true then (
  (getI h v0 5 6).bind fun t8 =>
  if ((t8 - v2) - (1 : Int32)) < 0 then (
  fX5_call_23 N v0 v1 v2 (0 : Int64) 0 0 h) else (
  (getR h v0 5 5).bind fun t10 =>
  (ldJ h t10 ((t8 - v2) - (1 : Int32))).bind fun t11 =>
  fX5_call_23 N v0 v1 v2 t11 0 0 h)) else none
theorem oX5_call {N : Nat} {v0 : Nat} {v1 : Int32} {v2 : Int32} {h : pH} {q : Int64 × pH × Nat × Nat} (hf : fX5_call N v0 v1 v2 h = some q) : isO h v0 5 = true := by
  unfold fX5_call at hf
  by_cases hc : isO h v0 5 = true
  · exact hc
  · rw [if_neg hc] at hf; cases hf
theorem cX5_call (X : pX) (N d : Nat) (v0 : Nat) (v1 : Int32) (v2 : Int32) (h : pH) (q : Int64 × pH × Nat × Nat) (hf : fX5_call N v0 v1 v2 h = some q) : Calls X (d + 4) 214 [.ref v0, .int v1, .int v2] h (some (.long q.1), q.2.1, q.2.2.1, q.2.2.2) := by
  refine Calls.of M214 (Nat.le_of_ble_eq_true rfl) ?_
  show Run X (d + 4) 5 false (pCd 6182) 6 (some .long) 0 [(0, .ref v0), (1, .int v1), (2, .int v2)] [] h 0 0 (some (.long q.1), q.2.1, q.2.2.1, q.2.2.2)
  unfold fX5_call at hf
  by_cases hc : isO h v0 5 = true
  · rw [if_pos hc] at hf
    have nv0 : ¬ v0 = 4 := isO_ne hc
    refine r_aload_n (dGet dX5_call (j := 0) rfl) nv0 rfl ?_
    obtain ⟨t8, et8, hf⟩ := Option.bind_eq_some_iff.mp hf
    refine r_getI (dGet dX5_call (j := 1) rfl) F5_74 et8 ?_
    refine r_iload_n (dGet dX5_call (j := 2) rfl) rfl ?_
    refine r_isub (dGet dX5_call (j := 3) rfl) ?_
    refine r_iconst (dGet dX5_call (j := 4) rfl) kI_1 ?_
    refine r_isub (dGet dX5_call (j := 5) rfl) ?_
    refine r_istore_n (lv' := [(3, .int ((t8 - v2) - (1 : Int32))), (0, .ref v0), (1, .int v1), (2, .int v2)]) (dGet dX5_call (j := 6) rfl) (by decide) rfl ?_
    refine r_iload_n (dGet dX5_call (j := 7) rfl) rfl ?_
    by_cases c9 : ((t8 - v2) - (1 : Int32)) < 0
    · rw [if_pos c9] at hf
      refine r_if_lt_t (dGet dX5_call (j := 8) rfl) rfl c9 ?_
      refine r_lconst (v := 0) (dGet dX5_call (j := 14) rfl) rfl ?_
      refine Run.weak [(0, .ref v0), (1, .int v1), (2, .int v2)] (by simp) (by simp [pNd]) ?_
      exact lX5_call_23 X N d v0 v1 v2 (0 : Int64) 0 0 h q hf nv0
    · rw [if_neg c9] at hf
      refine r_if_lt_f (dGet dX5_call (j := 8) rfl) rfl c9 ?_
      refine r_aload_n (dGet dX5_call (j := 9) rfl) nv0 rfl ?_
      obtain ⟨t10, et10, hf⟩ := Option.bind_eq_some_iff.mp hf
      refine r_getR (dGet dX5_call (j := 10) rfl) F5_32 et10 ?_
      refine r_iload_n (dGet dX5_call (j := 11) rfl) rfl ?_
      obtain ⟨t11, et11, hf⟩ := Option.bind_eq_some_iff.mp hf
      refine r_lald (dGet dX5_call (j := 12) rfl) et11 ?_
      refine r_goto (dGet dX5_call (j := 13) rfl) rfl ?_
      refine Run.weak [(0, .ref v0), (1, .int v1), (2, .int v2)] (by simp) (by simp [pNd]) ?_
      exact lX5_call_23 X N d v0 v1 v2 t11 0 0 h q hf nv0
  · rw [if_neg hc] at hf; cases hf
def eX5_make : List (Nat × Instr × Nat) := [(0, .iload_n 1, 1), (1, .bipush 14, 2), (3, .if_icmp .ne 11, 3), (6, .aload_n 0, 1), (7, .invokevirtual 167, 3), (10, .l2i, 1), (11, .goto 12, 3), (14, .aload_n 0, 1), (15, .getfield 7, 3), (18, .getfield 104, 3), (21, .iload_n 2, 1), (22, .iaload, 1), (23, .istore_n 3, 1), (24, .iload_n 3, 1), (25, .ifCond .ge 8, 3), (28, .iconst 4, 1), (29, .invokestatic 234, 3), (32, .lreturn, 1), (33, .ldc2_w 256, 3), (36, .iload_n 3, 1), (37, .i2l, 1), (38, .ladd, 1), (39, .lstore 4, 2), (41, .aload_n 0, 1), (42, .getfield 28, 3), (45, .lload 4, 2), (47, .invokevirtual 258, 3), (50, .ifCond .ne 7, 3), (53, .aload_n 0, 1), (54, .invokevirtual 80, 3), (57, .aload_n 0, 1), (58, .getfield 28, 3), (61, .lload 4, 2), (63, .invokevirtual 258, 3), (66, .ifCond .ne 10, 3), (69, .aload_n 0, 1), (70, .iconst 3, 1), (71, .putfield 52, 3), (74, .lconst 0, 1), (75, .lreturn, 1), (76, .aload_n 0, 1), (77, .dup, 1), (78, .getfield 62, 3), (81, .lload 4, 2), (83, .l2i, 1), (84, .iadd, 1), (85, .putfield 62, 3), (88, .aload_n 0, 1), (89, .aload_n 0, 1), (90, .getfield 28, 3), (93, .iload_n 1, 1), (94, .bipush 14, 2), (96, .if_icmp .ne 7, 3), (99, .iconst (-1), 1), (100, .goto 4, 3), (103, .iload_n 2, 1), (104, .iload_n 3, 1), (105, .invokevirtual 117, 3), (108, .invokevirtual 121, 3), (111, .lconst 0, 1), (112, .lreturn, 1)]
theorem dX5_make : dChk (pCd 6095) eX5_make = true := by decide +kernel
def fX5_make_104 (N : Nat) (v3 : Int32) (s0 : Nat) (s1 : Nat) (s2 : Int32) (h : pH) : Option (Int64 × pH) :=
  (fX3_makeObject N s1 s2 v3 h).bind fun q1 =>
  (fX5_push N s0 q1.1 q1.2).bind fun h2 =>
  some ((0 : Int64), h2)
theorem lX5_make_104 (X : pX) (N d : Nat)  (v3 : Int32) (s0 : Nat) (s1 : Nat) (s2 : Int32) (h : pH) (q : Int64 × pH) (hf : fX5_make_104 N v3 s0 s1 s2 h = some q) (ns0 : ¬ s0 = 4) (ns1 : ¬ s1 = 4) : Run X (d + 4) 5 false (pCd 6095) 6 (some .long) 104 [(3, .int v3)] [.int s2, .ref s1, .ref s0] h 0 0 (some (.long q.1), q.2, 0, 0) := by
  unfold fX5_make_104 at hf
  refine r_iload_n (dGet dX5_make (j := 56) rfl) rfl ?_
  obtain ⟨q1, eq1, hf⟩ := Option.bind_eq_some_iff.mp hf
  refine r_virtual (dGet dX5_make (j := 57) rfl) L5_117 M171 rfl rfl (Nat.le_of_ble_eq_true rfl) (oX3_makeObject eq1) (cX3_makeObject X N (d + 1) s1 s2 v3 h q1 eq1) ?_
  obtain ⟨h2, eh2, hf⟩ := Option.bind_eq_some_iff.mp hf
  refine r_virtual (dGet dX5_make (j := 58) rfl) L5_121 M174 rfl rfl (Nat.le_of_ble_eq_true rfl) (oX5_push eh2) (cX5_push X N (d + 3) s0 q1.1 q1.2 h2 eh2) ?_
  refine r_lconst (v := 0) (dGet dX5_make (j := 59) rfl) rfl ?_
  cases hf
  exact r_lret (dGet dX5_make (j := 60) rfl) rfl
def fX5_make_57 (N : Nat) (v0 : Nat) (v1 : Int32) (v2 : Int32) (v3 : Int32) (v4 : Int64) (h : pH) : Option (Int64 × pH) :=
  (getR h v0 5 4).bind fun t3 =>
  (fX3_hasRoom N t3 v4 h).bind fun q4 =>
  if q4.1 = 0 then (
  (putI q4.2 v0 5 13 (3 : Int32)).bind fun h10 =>
  some ((0 : Int64), h10)) else (
  (getI q4.2 v0 5 16).bind fun t6 =>
  (putI q4.2 v0 5 16 (t6 + (v4.toInt32))).bind fun h7 =>
  (getR h7 v0 5 4).bind fun t8 =>
  if v1 = (14 : Int32) then (
  if t8 = 4 then none else
  fX5_make_104 N v3 v0 t8 (-1 : Int32) h7) else (
  if t8 = 4 then none else
  fX5_make_104 N v3 v0 t8 v2 h7))
theorem lX5_make_57 (X : pX) (N d : Nat)  (v0 : Nat) (v1 : Int32) (v2 : Int32) (v3 : Int32) (v4 : Int64) (h : pH) (q : Int64 × pH) (hf : fX5_make_57 N v0 v1 v2 v3 v4 h = some q) (nv0 : ¬ v0 = 4) : Run X (d + 4) 5 false (pCd 6095) 6 (some .long) 57 [(0, .ref v0), (1, .int v1), (2, .int v2), (3, .int v3), (4, .long v4)] [] h 0 0 (some (.long q.1), q.2, 0, 0) := by
  unfold fX5_make_57 at hf
  refine r_aload_n (dGet dX5_make (j := 30) rfl) nv0 rfl ?_
  obtain ⟨t3, et3, hf⟩ := Option.bind_eq_some_iff.mp hf
  refine r_getR (dGet dX5_make (j := 31) rfl) F5_28 et3 ?_
  refine r_lload (dGet dX5_make (j := 32) rfl) rfl ?_
  obtain ⟨q4, eq4, hf⟩ := Option.bind_eq_some_iff.mp hf
  refine r_virtual (dGet dX5_make (j := 33) rfl) L5_258 M196 rfl rfl (Nat.le_of_ble_eq_true rfl) (oX3_hasRoom eq4) (cX3_hasRoom X N (d + 2) t3 v4 h q4 eq4) ?_
  by_cases c5 : q4.1 = 0
  · rw [if_pos c5] at hf
    refine r_if_ne_f (dGet dX5_make (j := 34) rfl) rfl c5 ?_
    refine r_aload_n (dGet dX5_make (j := 35) rfl) nv0 rfl ?_
    refine r_iconst (dGet dX5_make (j := 36) rfl) kI_3 ?_
    obtain ⟨h10, eh10, hf⟩ := Option.bind_eq_some_iff.mp hf
    refine r_putI (dGet dX5_make (j := 37) rfl) F5_52 rfl rfl eh10 ?_
    refine r_lconst (v := 0) (dGet dX5_make (j := 38) rfl) rfl ?_
    cases hf
    exact r_lret (dGet dX5_make (j := 39) rfl) rfl
  · rw [if_neg c5] at hf
    refine r_if_ne_t (dGet dX5_make (j := 34) rfl) rfl c5 ?_
    refine r_aload_n (dGet dX5_make (j := 40) rfl) nv0 rfl ?_
    refine r_dup (dGet dX5_make (j := 41) rfl) rfl ?_
    obtain ⟨t6, et6, hf⟩ := Option.bind_eq_some_iff.mp hf
    refine r_getI (dGet dX5_make (j := 42) rfl) F5_62 et6 ?_
    refine r_lload (dGet dX5_make (j := 43) rfl) rfl ?_
    refine r_l2i (dGet dX5_make (j := 44) rfl) ?_
    refine r_iadd (dGet dX5_make (j := 45) rfl) ?_
    obtain ⟨h7, eh7, hf⟩ := Option.bind_eq_some_iff.mp hf
    refine r_putI (dGet dX5_make (j := 46) rfl) F5_62 rfl rfl eh7 ?_
    refine r_aload_n (dGet dX5_make (j := 47) rfl) nv0 rfl ?_
    refine r_aload_n (dGet dX5_make (j := 48) rfl) nv0 rfl ?_
    obtain ⟨t8, et8, hf⟩ := Option.bind_eq_some_iff.mp hf
    refine r_getR (dGet dX5_make (j := 49) rfl) F5_28 et8 ?_
    refine r_iload_n (dGet dX5_make (j := 50) rfl) rfl ?_
    refine r_bipush (dGet dX5_make (j := 51) rfl) kB_14 ?_
    by_cases c9 : v1 = (14 : Int32)
    · rw [if_pos c9] at hf
      refine r_icmp_ne_f (dGet dX5_make (j := 52) rfl) rfl c9 ?_
      refine r_iconst (dGet dX5_make (j := 53) rfl) kI_m1 ?_
      refine r_goto (dGet dX5_make (j := 54) rfl) rfl ?_
      by_cases nt8 : t8 = 4
      · rw [if_pos nt8] at hf; cases hf
      rw [if_neg nt8] at hf
      refine Run.weak [(3, .int v3)] (by simp) (by simp [pNd]) ?_
      exact lX5_make_104 X N d v3 v0 t8 (-1 : Int32) h7 q hf nv0 nt8
    · rw [if_neg c9] at hf
      refine r_icmp_ne_t (dGet dX5_make (j := 52) rfl) rfl c9 ?_
      refine r_iload_n (dGet dX5_make (j := 55) rfl) rfl ?_
      by_cases nt8 : t8 = 4
      · rw [if_pos nt8] at hf; cases hf
      rw [if_neg nt8] at hf
      refine Run.weak [(3, .int v3)] (by simp) (by simp [pNd]) ?_
      exact lX5_make_104 X N d v3 v0 t8 v2 h7 q hf nv0 nt8
def fX5_make_23 (N : Nat) (v0 : Nat) (v1 : Int32) (v2 : Int32) (s0 : Int32) (h : pH) : Option (Int64 × pH) :=
  if 0 ≤ s0 then (
  (getR h v0 5 4).bind fun t12 =>
  (fX3_hasRoom N t12 ((2 : Int64) + (s0.toInt64)) h).bind fun q13 =>
  if q13.1 = 0 then (
  (fX5_moveReached N v0 q13.2).bind fun h15 =>
  fX5_make_57 N v0 v1 v2 s0 ((2 : Int64) + (s0.toInt64)) h15) else (
  fX5_make_57 N v0 v1 v2 s0 ((2 : Int64) + (s0.toInt64)) q13.2)) else (
  (fX3_faultObject N (4 : Int32) h).bind fun q16 =>
  some (q16.1, q16.2))
theorem lX5_make_23 (X : pX) (N d : Nat)  (v0 : Nat) (v1 : Int32) (v2 : Int32) (s0 : Int32) (h : pH) (q : Int64 × pH) (hf : fX5_make_23 N v0 v1 v2 s0 h = some q) (nv0 : ¬ v0 = 4) : Run X (d + 4) 5 false (pCd 6095) 6 (some .long) 23 [(0, .ref v0), (1, .int v1), (2, .int v2)] [.int s0] h 0 0 (some (.long q.1), q.2, 0, 0) := by
  unfold fX5_make_23 at hf
  refine r_istore_n (lv' := [(3, .int s0), (0, .ref v0), (1, .int v1), (2, .int v2)]) (dGet dX5_make (j := 12) rfl) (by decide) rfl ?_
  refine r_iload_n (dGet dX5_make (j := 13) rfl) rfl ?_
  by_cases c11 : 0 ≤ s0
  · rw [if_pos c11] at hf
    refine r_if_ge_t (dGet dX5_make (j := 14) rfl) rfl c11 ?_
    refine r_ldc2 (v := 2) (dGet dX5_make (j := 18) rfl) (by decide +kernel : pFind pKl 5 256 = some (2, 6099)) ?_
    refine r_iload_n (dGet dX5_make (j := 19) rfl) rfl ?_
    refine r_i2l (dGet dX5_make (j := 20) rfl) ?_
    refine r_ladd (dGet dX5_make (j := 21) rfl) ?_
    refine r_lstore (lv' := [(4, .long ((2 : Int64) + (s0.toInt64))), (3, .int s0), (0, .ref v0), (1, .int v1), (2, .int v2)]) (dGet dX5_make (j := 22) rfl) (by decide) rfl ?_
    refine r_aload_n (dGet dX5_make (j := 23) rfl) nv0 rfl ?_
    obtain ⟨t12, et12, hf⟩ := Option.bind_eq_some_iff.mp hf
    refine r_getR (dGet dX5_make (j := 24) rfl) F5_28 et12 ?_
    refine r_lload (dGet dX5_make (j := 25) rfl) rfl ?_
    obtain ⟨q13, eq13, hf⟩ := Option.bind_eq_some_iff.mp hf
    refine r_virtual (dGet dX5_make (j := 26) rfl) L5_258 M196 rfl rfl (Nat.le_of_ble_eq_true rfl) (oX3_hasRoom eq13) (cX3_hasRoom X N (d + 2) t12 ((2 : Int64) + (s0.toInt64)) h q13 eq13) ?_
    by_cases c14 : q13.1 = 0
    · rw [if_pos c14] at hf
      refine r_if_ne_f (dGet dX5_make (j := 27) rfl) rfl c14 ?_
      refine r_aload_n (dGet dX5_make (j := 28) rfl) nv0 rfl ?_
      obtain ⟨h15, eh15, hf⟩ := Option.bind_eq_some_iff.mp hf
      refine r_virtual (dGet dX5_make (j := 29) rfl) L5_80 M198 rfl rfl (Nat.le_of_ble_eq_true rfl) (oX5_moveReached eh15) (cX5_moveReached X N (d + 0) v0 q13.2 h15 eh15) ?_
      refine Run.weak [(0, .ref v0), (1, .int v1), (2, .int v2), (3, .int s0), (4, .long ((2 : Int64) + (s0.toInt64)))] (by simp) (by simp [pNd]) ?_
      exact lX5_make_57 X N d v0 v1 v2 s0 ((2 : Int64) + (s0.toInt64)) h15 q hf nv0
    · rw [if_neg c14] at hf
      refine r_if_ne_t (dGet dX5_make (j := 27) rfl) rfl c14 ?_
      refine Run.weak [(0, .ref v0), (1, .int v1), (2, .int v2), (3, .int s0), (4, .long ((2 : Int64) + (s0.toInt64)))] (by simp) (by simp [pNd]) ?_
      exact lX5_make_57 X N d v0 v1 v2 s0 ((2 : Int64) + (s0.toInt64)) q13.2 q hf nv0
  · rw [if_neg c11] at hf
    refine r_if_ge_f (dGet dX5_make (j := 14) rfl) rfl c11 ?_
    refine r_iconst (dGet dX5_make (j := 15) rfl) kI_4 ?_
    obtain ⟨q16, eq16, hf⟩ := Option.bind_eq_some_iff.mp hf
    refine r_static (dGet dX5_make (j := 16) rfl) (by decide +kernel) (by decide +kernel) L5_234 M195 rfl rfl (Nat.le_of_ble_eq_true rfl) (cX3_faultObject X N (d + 3) (4 : Int32) h q16 eq16) ?_
    cases hf
    exact r_lret (dGet dX5_make (j := 17) rfl) rfl
def fX5_make (N : Nat) (v0 : Nat) (v1 : Int32) (v2 : Int32) (h : pH) : Option (Int64 × pH) := if isO h v0 5 = true then (
  if v1 = (14 : Int32) then (
  (fX5_pop N v0 h).bind fun q21 =>
  fX5_make_23 N v0 v1 v2 (q21.1.toInt32) q21.2) else (
  (getR h v0 5 0).bind fun t18 =>
  (getR h t18 1 6).bind fun t19 =>
  (ldI h t19 v2).bind fun t20 =>
  fX5_make_23 N v0 v1 v2 t20 h)) else none
theorem oX5_make {N : Nat} {v0 : Nat} {v1 : Int32} {v2 : Int32} {h : pH} {q : Int64 × pH} (hf : fX5_make N v0 v1 v2 h = some q) : isO h v0 5 = true := by
  unfold fX5_make at hf
  by_cases hc : isO h v0 5 = true
  · exact hc
  · rw [if_neg hc] at hf; cases hf
theorem cX5_make (X : pX) (N d : Nat) (v0 : Nat) (v1 : Int32) (v2 : Int32) (h : pH) (q : Int64 × pH) (hf : fX5_make N v0 v1 v2 h = some q) : Calls X (d + 4) 194 [.ref v0, .int v1, .int v2] h (some (.long q.1), q.2, 0, 0) := by
  refine Calls.of M194 (Nat.le_of_ble_eq_true rfl) ?_
  show Run X (d + 4) 5 false (pCd 6095) 6 (some .long) 0 [(0, .ref v0), (1, .int v1), (2, .int v2)] [] h 0 0 (some (.long q.1), q.2, 0, 0)
  unfold fX5_make at hf
  by_cases hc : isO h v0 5 = true
  · rw [if_pos hc] at hf
    have nv0 : ¬ v0 = 4 := isO_ne hc
    refine r_iload_n (dGet dX5_make (j := 0) rfl) rfl ?_
    refine r_bipush (dGet dX5_make (j := 1) rfl) kB_14 ?_
    by_cases c17 : v1 = (14 : Int32)
    · rw [if_pos c17] at hf
      refine r_icmp_ne_f (dGet dX5_make (j := 2) rfl) rfl c17 ?_
      refine r_aload_n (dGet dX5_make (j := 3) rfl) nv0 rfl ?_
      obtain ⟨q21, eq21, hf⟩ := Option.bind_eq_some_iff.mp hf
      refine r_virtual (dGet dX5_make (j := 4) rfl) L5_167 M182 rfl rfl (Nat.le_of_ble_eq_true rfl) (oX5_pop eq21) (cX5_pop X N (d + 3) v0 h q21 eq21) ?_
      refine r_l2i (dGet dX5_make (j := 5) rfl) ?_
      refine r_goto (dGet dX5_make (j := 6) rfl) rfl ?_
      exact lX5_make_23 X N d v0 v1 v2 (q21.1.toInt32) q21.2 q hf nv0
    · rw [if_neg c17] at hf
      refine r_icmp_ne_t (dGet dX5_make (j := 2) rfl) rfl c17 ?_
      refine r_aload_n (dGet dX5_make (j := 7) rfl) nv0 rfl ?_
      obtain ⟨t18, et18, hf⟩ := Option.bind_eq_some_iff.mp hf
      refine r_getR (dGet dX5_make (j := 8) rfl) F5_7 et18 ?_
      obtain ⟨t19, et19, hf⟩ := Option.bind_eq_some_iff.mp hf
      refine r_getR (dGet dX5_make (j := 9) rfl) F5_104 et19 ?_
      refine r_iload_n (dGet dX5_make (j := 10) rfl) rfl ?_
      obtain ⟨t20, et20, hf⟩ := Option.bind_eq_some_iff.mp hf
      refine r_iald (dGet dX5_make (j := 11) rfl) et20 ?_
      exact lX5_make_23 X N d v0 v1 v2 t20 h q hf nv0
  · rw [if_neg hc] at hf; cases hf
def eX5_act : List (Nat × Instr × Nat) := [(0, .aload_n 0, 1), (1, .getfield 77, 3), (4, .istore_n 1, 1), (5, .aload_n 0, 1), (6, .getfield 36, 3), (9, .aload_n 0, 1), (10, .getfield 71, 3), (13, .iconst 1, 1), (14, .isub, 1), (15, .iload_n 1, 1), (16, .iastore, 1), (17, .aload_n 0, 1), (18, .iload_n 1, 1), (19, .iconst 1, 1), (20, .iadd, 1), (21, .putfield 77, 3), (24, .aload_n 0, 1), (25, .getfield 17, 3), (28, .getfield 152, 3), (31, .iload_n 1, 1), (32, .iaload, 1), (33, .istore_n 2, 1), (34, .iload_n 2, 1), (35, .bipush 8, 2), (37, .if_icmp .gt 18, 3), (40, .aload_n 0, 1), (41, .iload_n 2, 1), (42, .aload_n 0, 1), (43, .getfield 17, 3), (46, .getfield 155, 3), (49, .iload_n 1, 1), (50, .iaload, 1), (51, .invokevirtual 158, 3), (54, .lreturn, 1), (55, .iload_n 2, 1), (56, .bipush 13, 2), (58, .if_icmp .eq 9, 3), (61, .iload_n 2, 1), (62, .bipush 14, 2), (64, .if_icmp .ne 18, 3), (67, .aload_n 0, 1), (68, .iload_n 2, 1), (69, .aload_n 0, 1), (70, .getfield 17, 3), (73, .getfield 155, 3), (76, .iload_n 1, 1), (77, .iaload, 1), (78, .invokevirtual 161, 3), (81, .lreturn, 1), (82, .iload_n 2, 1), (83, .bipush 16, 2), (85, .if_icmp .gt 18, 3), (88, .aload_n 0, 1), (89, .iload_n 2, 1), (90, .aload_n 0, 1), (91, .getfield 17, 3), (94, .getfield 155, 3), (97, .iload_n 1, 1), (98, .iaload, 1), (99, .invokevirtual 164, 3), (102, .lreturn, 1), (103, .iload_n 2, 1), (104, .bipush 27, 2), (106, .if_icmp .gt 13, 3), (109, .aload_n 0, 1), (110, .iload_n 2, 1), (111, .aload_n 0, 1), (112, .invokevirtual 167, 3), (115, .invokevirtual 170, 3), (118, .lreturn, 1), (119, .iload_n 2, 1), (120, .bipush 29, 2), (122, .if_icmp .gt 18, 3), (125, .aload_n 0, 1), (126, .iload_n 2, 1), (127, .aload_n 0, 1), (128, .getfield 17, 3), (131, .getfield 174, 3), (134, .iload_n 1, 1), (135, .iaload, 1), (136, .invokevirtual 177, 3), (139, .lreturn, 1), (140, .iload_n 2, 1), (141, .bipush 30, 2), (143, .if_icmp .ne 26, 3), (146, .aload_n 0, 1), (147, .aload_n 0, 1), (148, .getfield 17, 3), (151, .getfield 155, 3), (154, .iload_n 1, 1), (155, .iaload, 1), (156, .aload_n 0, 1), (157, .getfield 17, 3), (160, .getfield 180, 3), (163, .iload_n 1, 1), (164, .iaload, 1), (165, .invokevirtual 183, 3), (168, .lreturn, 1), (169, .iload_n 2, 1), (170, .bipush 37, 2), (172, .if_icmp .gt 22, 3), (175, .aload_n 0, 1), (176, .iload_n 2, 1), (177, .aload_n 0, 1), (178, .getfield 17, 3), (181, .getfield 155, 3), (184, .iload_n 1, 1), (185, .iaload, 1), (186, .aload_n 0, 1), (187, .invokevirtual 167, 3), (190, .invokevirtual 186, 3), (193, .lreturn, 1), (194, .aload_n 0, 1), (195, .iload_n 2, 1), (196, .aload_n 0, 1), (197, .getfield 17, 3), (200, .getfield 174, 3), (203, .iload_n 1, 1), (204, .iaload, 1), (205, .invokevirtual 190, 3), (208, .lreturn, 1)]
theorem dX5_act : dChk (pCd 6067) eX5_act = true := by decide +kernel
def fX5_act_67 (N : Nat) (v0 : Nat) (v1 : Int32) (v2 : Int32) (nc : Nat) (ns : Nat) (h : pH) : Option (Int64 × pH × Nat × Nat) :=
  (getR h v0 5 2).bind fun t1 =>
  (getR h t1 2 1).bind fun t2 =>
  (ldI h t2 v1).bind fun t3 =>
  (fX5_make N v0 v2 t3 h).bind fun q4 =>
  some (q4.1, q4.2, nc, ns)
theorem lX5_act_67 (X : pX) (N d : Nat)  (v0 : Nat) (v1 : Int32) (v2 : Int32) (nc : Nat) (ns : Nat) (h : pH) (q : Int64 × pH × Nat × Nat) (hf : fX5_act_67 N v0 v1 v2 nc ns h = some q) (nv0 : ¬ v0 = 4) : Run X (d + 5) 5 false (pCd 6067) 3 (some .long) 67 [(0, .ref v0), (1, .int v1), (2, .int v2)] [] h nc ns (some (.long q.1), q.2.1, q.2.2.1, q.2.2.2) := by
  unfold fX5_act_67 at hf
  refine r_aload_n (dGet dX5_act (j := 40) rfl) nv0 rfl ?_
  refine r_iload_n (dGet dX5_act (j := 41) rfl) rfl ?_
  refine r_aload_n (dGet dX5_act (j := 42) rfl) nv0 rfl ?_
  obtain ⟨t1, et1, hf⟩ := Option.bind_eq_some_iff.mp hf
  refine r_getR (dGet dX5_act (j := 43) rfl) F5_17 et1 ?_
  obtain ⟨t2, et2, hf⟩ := Option.bind_eq_some_iff.mp hf
  refine r_getR (dGet dX5_act (j := 44) rfl) F5_155 et2 ?_
  refine r_iload_n (dGet dX5_act (j := 45) rfl) rfl ?_
  obtain ⟨t3, et3, hf⟩ := Option.bind_eq_some_iff.mp hf
  refine r_iald (dGet dX5_act (j := 46) rfl) et3 ?_
  obtain ⟨q4, eq4, hf⟩ := Option.bind_eq_some_iff.mp hf
  refine r_virtual (dGet dX5_act (j := 47) rfl) L5_161 M194 rfl rfl (Nat.le_of_ble_eq_true rfl) (oX5_make eq4) (cX5_make X N (d + 0) v0 v2 t3 h q4 eq4) ?_
  cases hf
  exact r_lret (dGet dX5_act (j := 48) rfl) rfl
def fX5_act (N : Nat) (v0 : Nat) (h : pH) : Option (Int64 × pH × Nat × Nat) := if isO h v0 5 = true then (
  (getI h v0 5 12).bind fun t5 =>
  (getR h v0 5 7).bind fun t6 =>
  (getI h v0 5 11).bind fun t7 =>
  (stI h t6 (t7 - (1 : Int32)) t5).bind fun h8 =>
  (putI h8 v0 5 12 (t5 + (1 : Int32))).bind fun h9 =>
  (getR h9 v0 5 2).bind fun t10 =>
  (getR h9 t10 2 0).bind fun t11 =>
  (ldI h9 t11 t5).bind fun t12 =>
  if (8 : Int32) < t12 then (
  if t12 = (13 : Int32) then (
  fX5_act_67 N v0 t5 t12 0 0 h9) else (
  if t12 = (14 : Int32) then (
  fX5_act_67 N v0 t5 t12 0 0 h9) else (
  if (16 : Int32) < t12 then (
  if (27 : Int32) < t12 then (
  if (29 : Int32) < t12 then (
  if t12 = (30 : Int32) then (
  (getR h9 v0 5 2).bind fun t30 =>
  (getR h9 t30 2 1).bind fun t31 =>
  (ldI h9 t31 t5).bind fun t32 =>
  (getR h9 v0 5 2).bind fun t33 =>
  (getR h9 t33 2 2).bind fun t34 =>
  (ldI h9 t34 t5).bind fun t35 =>
  (fX5_call N v0 t32 t35 h9).bind fun q36 =>
  some (q36.1, q36.2.1, (0 + q36.2.2.1), (0 + q36.2.2.2))) else (
  if (37 : Int32) < t12 then (
  (getR h9 v0 5 2).bind fun t21 =>
  (getR h9 t21 2 3).bind fun t22 =>
  (ldI h9 t22 t5).bind fun t23 =>
  (fX5_actWork N v0 t12 t23 h9).bind fun q24 =>
  some (q24.1, q24.2, 0, 0)) else (
  (getR h9 v0 5 2).bind fun t25 =>
  (getR h9 t25 2 1).bind fun t26 =>
  (ldI h9 t26 t5).bind fun t27 =>
  (fX5_pop N v0 h9).bind fun q28 =>
  (fX5_actGift N v0 t12 t27 q28.1 q28.2).bind fun q29 =>
  some (q29.1, q29.2, 0, 0)))) else (
  (getR h9 v0 5 2).bind fun t37 =>
  (getR h9 t37 2 3).bind fun t38 =>
  (ldI h9 t38 t5).bind fun t39 =>
  (fX5_actJoin N v0 t12 t39 h9).bind fun q40 =>
  some (q40.1, q40.2, 0, 0))) else (
  (fX5_pop N v0 h9).bind fun q41 =>
  (fX5_actSign N v0 t12 q41.1 q41.2).bind fun q42 =>
  some (q42.1, q42.2, 0, 0))) else (
  (getR h9 v0 5 2).bind fun t43 =>
  (getR h9 t43 2 1).bind fun t44 =>
  (ldI h9 t44 t5).bind fun t45 =>
  (fX5_actPart N v0 t12 t45 h9).bind fun q46 =>
  some (q46.1, q46.2, 0, 0))))) else (
  (getR h9 v0 5 2).bind fun t47 =>
  (getR h9 t47 2 1).bind fun t48 =>
  (ldI h9 t48 t5).bind fun t49 =>
  (fX5_actValue N v0 t12 t49 h9).bind fun q50 =>
  some (q50.1, q50.2, 0, 0))) else none
theorem oX5_act {N : Nat} {v0 : Nat} {h : pH} {q : Int64 × pH × Nat × Nat} (hf : fX5_act N v0 h = some q) : isO h v0 5 = true := by
  unfold fX5_act at hf
  by_cases hc : isO h v0 5 = true
  · exact hc
  · rw [if_neg hc] at hf; cases hf
theorem cX5_act (X : pX) (N d : Nat) (v0 : Nat) (h : pH) (q : Int64 × pH × Nat × Nat) (hf : fX5_act N v0 h = some q) : Calls X (d + 5) 187 [.ref v0] h (some (.long q.1), q.2.1, q.2.2.1, q.2.2.2) := by
  refine Calls.of M187 (Nat.le_of_ble_eq_true rfl) ?_
  show Run X (d + 5) 5 false (pCd 6067) 3 (some .long) 0 [(0, .ref v0)] [] h 0 0 (some (.long q.1), q.2.1, q.2.2.1, q.2.2.2)
  unfold fX5_act at hf
  by_cases hc : isO h v0 5 = true
  · rw [if_pos hc] at hf
    have nv0 : ¬ v0 = 4 := isO_ne hc
    refine r_aload_n (dGet dX5_act (j := 0) rfl) nv0 rfl ?_
    obtain ⟨t5, et5, hf⟩ := Option.bind_eq_some_iff.mp hf
    refine r_getI (dGet dX5_act (j := 1) rfl) F5_77 et5 ?_
    refine r_istore_n (lv' := [(1, .int t5), (0, .ref v0)]) (dGet dX5_act (j := 2) rfl) (by decide) rfl ?_
    refine r_aload_n (dGet dX5_act (j := 3) rfl) nv0 rfl ?_
    obtain ⟨t6, et6, hf⟩ := Option.bind_eq_some_iff.mp hf
    refine r_getR (dGet dX5_act (j := 4) rfl) F5_36 et6 ?_
    refine r_aload_n (dGet dX5_act (j := 5) rfl) nv0 rfl ?_
    obtain ⟨t7, et7, hf⟩ := Option.bind_eq_some_iff.mp hf
    refine r_getI (dGet dX5_act (j := 6) rfl) F5_71 et7 ?_
    refine r_iconst (dGet dX5_act (j := 7) rfl) kI_1 ?_
    refine r_isub (dGet dX5_act (j := 8) rfl) ?_
    refine r_iload_n (dGet dX5_act (j := 9) rfl) rfl ?_
    obtain ⟨h8, eh8, hf⟩ := Option.bind_eq_some_iff.mp hf
    refine r_iast (dGet dX5_act (j := 10) rfl) eh8 ?_
    refine r_aload_n (dGet dX5_act (j := 11) rfl) nv0 rfl ?_
    refine r_iload_n (dGet dX5_act (j := 12) rfl) rfl ?_
    refine r_iconst (dGet dX5_act (j := 13) rfl) kI_1 ?_
    refine r_iadd (dGet dX5_act (j := 14) rfl) ?_
    obtain ⟨h9, eh9, hf⟩ := Option.bind_eq_some_iff.mp hf
    refine r_putI (dGet dX5_act (j := 15) rfl) F5_77 rfl rfl eh9 ?_
    refine r_aload_n (dGet dX5_act (j := 16) rfl) nv0 rfl ?_
    obtain ⟨t10, et10, hf⟩ := Option.bind_eq_some_iff.mp hf
    refine r_getR (dGet dX5_act (j := 17) rfl) F5_17 et10 ?_
    obtain ⟨t11, et11, hf⟩ := Option.bind_eq_some_iff.mp hf
    refine r_getR (dGet dX5_act (j := 18) rfl) F5_152 et11 ?_
    refine r_iload_n (dGet dX5_act (j := 19) rfl) rfl ?_
    obtain ⟨t12, et12, hf⟩ := Option.bind_eq_some_iff.mp hf
    refine r_iald (dGet dX5_act (j := 20) rfl) et12 ?_
    refine r_istore_n (lv' := [(2, .int t12), (1, .int t5), (0, .ref v0)]) (dGet dX5_act (j := 21) rfl) (by decide) rfl ?_
    refine r_iload_n (dGet dX5_act (j := 22) rfl) rfl ?_
    refine r_bipush (dGet dX5_act (j := 23) rfl) kB_8 ?_
    by_cases c13 : (8 : Int32) < t12
    · rw [if_pos c13] at hf
      refine r_icmp_gt_t (dGet dX5_act (j := 24) rfl) rfl c13 ?_
      refine r_iload_n (dGet dX5_act (j := 34) rfl) rfl ?_
      refine r_bipush (dGet dX5_act (j := 35) rfl) kB_13 ?_
      by_cases c14 : t12 = (13 : Int32)
      · rw [if_pos c14] at hf
        refine r_icmp_eq_t (dGet dX5_act (j := 36) rfl) rfl c14 ?_
        refine Run.weak [(0, .ref v0), (1, .int t5), (2, .int t12)] (by simp) (by simp [pNd]) ?_
        exact lX5_act_67 X N d v0 t5 t12 0 0 h9 q hf nv0
      · rw [if_neg c14] at hf
        refine r_icmp_eq_f (dGet dX5_act (j := 36) rfl) rfl c14 ?_
        refine r_iload_n (dGet dX5_act (j := 37) rfl) rfl ?_
        refine r_bipush (dGet dX5_act (j := 38) rfl) kB_14 ?_
        by_cases c15 : t12 = (14 : Int32)
        · rw [if_pos c15] at hf
          refine r_icmp_ne_f (dGet dX5_act (j := 39) rfl) rfl c15 ?_
          refine Run.weak [(0, .ref v0), (1, .int t5), (2, .int t12)] (by simp) (by simp [pNd]) ?_
          exact lX5_act_67 X N d v0 t5 t12 0 0 h9 q hf nv0
        · rw [if_neg c15] at hf
          refine r_icmp_ne_t (dGet dX5_act (j := 39) rfl) rfl c15 ?_
          refine r_iload_n (dGet dX5_act (j := 49) rfl) rfl ?_
          refine r_bipush (dGet dX5_act (j := 50) rfl) kB_16 ?_
          by_cases c16 : (16 : Int32) < t12
          · rw [if_pos c16] at hf
            refine r_icmp_gt_t (dGet dX5_act (j := 51) rfl) rfl c16 ?_
            refine r_iload_n (dGet dX5_act (j := 61) rfl) rfl ?_
            refine r_bipush (dGet dX5_act (j := 62) rfl) kB_27 ?_
            by_cases c17 : (27 : Int32) < t12
            · rw [if_pos c17] at hf
              refine r_icmp_gt_t (dGet dX5_act (j := 63) rfl) rfl c17 ?_
              refine r_iload_n (dGet dX5_act (j := 70) rfl) rfl ?_
              refine r_bipush (dGet dX5_act (j := 71) rfl) kB_29 ?_
              by_cases c18 : (29 : Int32) < t12
              · rw [if_pos c18] at hf
                refine r_icmp_gt_t (dGet dX5_act (j := 72) rfl) rfl c18 ?_
                refine r_iload_n (dGet dX5_act (j := 82) rfl) rfl ?_
                refine r_bipush (dGet dX5_act (j := 83) rfl) kB_30 ?_
                by_cases c19 : t12 = (30 : Int32)
                · rw [if_pos c19] at hf
                  refine r_icmp_ne_f (dGet dX5_act (j := 84) rfl) rfl c19 ?_
                  refine r_aload_n (dGet dX5_act (j := 85) rfl) nv0 rfl ?_
                  refine r_aload_n (dGet dX5_act (j := 86) rfl) nv0 rfl ?_
                  obtain ⟨t30, et30, hf⟩ := Option.bind_eq_some_iff.mp hf
                  refine r_getR (dGet dX5_act (j := 87) rfl) F5_17 et30 ?_
                  obtain ⟨t31, et31, hf⟩ := Option.bind_eq_some_iff.mp hf
                  refine r_getR (dGet dX5_act (j := 88) rfl) F5_155 et31 ?_
                  refine r_iload_n (dGet dX5_act (j := 89) rfl) rfl ?_
                  obtain ⟨t32, et32, hf⟩ := Option.bind_eq_some_iff.mp hf
                  refine r_iald (dGet dX5_act (j := 90) rfl) et32 ?_
                  refine r_aload_n (dGet dX5_act (j := 91) rfl) nv0 rfl ?_
                  obtain ⟨t33, et33, hf⟩ := Option.bind_eq_some_iff.mp hf
                  refine r_getR (dGet dX5_act (j := 92) rfl) F5_17 et33 ?_
                  obtain ⟨t34, et34, hf⟩ := Option.bind_eq_some_iff.mp hf
                  refine r_getR (dGet dX5_act (j := 93) rfl) F5_180 et34 ?_
                  refine r_iload_n (dGet dX5_act (j := 94) rfl) rfl ?_
                  obtain ⟨t35, et35, hf⟩ := Option.bind_eq_some_iff.mp hf
                  refine r_iald (dGet dX5_act (j := 95) rfl) et35 ?_
                  obtain ⟨q36, eq36, hf⟩ := Option.bind_eq_some_iff.mp hf
                  refine r_virtual (dGet dX5_act (j := 96) rfl) L5_183 M214 rfl rfl (Nat.le_of_ble_eq_true rfl) (oX5_call eq36) (cX5_call X N (d + 0) v0 t32 t35 h9 q36 eq36) ?_
                  cases hf
                  exact r_lret (dGet dX5_act (j := 97) rfl) rfl
                · rw [if_neg c19] at hf
                  refine r_icmp_ne_t (dGet dX5_act (j := 84) rfl) rfl c19 ?_
                  refine r_iload_n (dGet dX5_act (j := 98) rfl) rfl ?_
                  refine r_bipush (dGet dX5_act (j := 99) rfl) kB_37 ?_
                  by_cases c20 : (37 : Int32) < t12
                  · rw [if_pos c20] at hf
                    refine r_icmp_gt_t (dGet dX5_act (j := 100) rfl) rfl c20 ?_
                    refine r_aload_n (dGet dX5_act (j := 112) rfl) nv0 rfl ?_
                    refine r_iload_n (dGet dX5_act (j := 113) rfl) rfl ?_
                    refine r_aload_n (dGet dX5_act (j := 114) rfl) nv0 rfl ?_
                    obtain ⟨t21, et21, hf⟩ := Option.bind_eq_some_iff.mp hf
                    refine r_getR (dGet dX5_act (j := 115) rfl) F5_17 et21 ?_
                    obtain ⟨t22, et22, hf⟩ := Option.bind_eq_some_iff.mp hf
                    refine r_getR (dGet dX5_act (j := 116) rfl) F5_174 et22 ?_
                    refine r_iload_n (dGet dX5_act (j := 117) rfl) rfl ?_
                    obtain ⟨t23, et23, hf⟩ := Option.bind_eq_some_iff.mp hf
                    refine r_iald (dGet dX5_act (j := 118) rfl) et23 ?_
                    obtain ⟨q24, eq24, hf⟩ := Option.bind_eq_some_iff.mp hf
                    refine r_virtual (dGet dX5_act (j := 119) rfl) L5_190 M219 rfl rfl (Nat.le_of_ble_eq_true rfl) (oX5_actWork eq24) (cX5_actWork X N (d + 2) v0 t12 t23 h9 q24 eq24) ?_
                    cases hf
                    exact r_lret (dGet dX5_act (j := 120) rfl) rfl
                  · rw [if_neg c20] at hf
                    refine r_icmp_gt_f (dGet dX5_act (j := 100) rfl) rfl c20 ?_
                    refine r_aload_n (dGet dX5_act (j := 101) rfl) nv0 rfl ?_
                    refine r_iload_n (dGet dX5_act (j := 102) rfl) rfl ?_
                    refine r_aload_n (dGet dX5_act (j := 103) rfl) nv0 rfl ?_
                    obtain ⟨t25, et25, hf⟩ := Option.bind_eq_some_iff.mp hf
                    refine r_getR (dGet dX5_act (j := 104) rfl) F5_17 et25 ?_
                    obtain ⟨t26, et26, hf⟩ := Option.bind_eq_some_iff.mp hf
                    refine r_getR (dGet dX5_act (j := 105) rfl) F5_155 et26 ?_
                    refine r_iload_n (dGet dX5_act (j := 106) rfl) rfl ?_
                    obtain ⟨t27, et27, hf⟩ := Option.bind_eq_some_iff.mp hf
                    refine r_iald (dGet dX5_act (j := 107) rfl) et27 ?_
                    refine r_aload_n (dGet dX5_act (j := 108) rfl) nv0 rfl ?_
                    obtain ⟨q28, eq28, hf⟩ := Option.bind_eq_some_iff.mp hf
                    refine r_virtual (dGet dX5_act (j := 109) rfl) L5_167 M182 rfl rfl (Nat.le_of_ble_eq_true rfl) (oX5_pop eq28) (cX5_pop X N (d + 4) v0 h9 q28 eq28) ?_
                    obtain ⟨q29, eq29, hf⟩ := Option.bind_eq_some_iff.mp hf
                    refine r_virtual (dGet dX5_act (j := 110) rfl) L5_186 M215 rfl rfl (Nat.le_of_ble_eq_true rfl) (oX5_actGift eq29) (cX5_actGift X N (d + 0) v0 t12 t27 q28.1 q28.2 q29 eq29) ?_
                    cases hf
                    exact r_lret (dGet dX5_act (j := 111) rfl) rfl
              · rw [if_neg c18] at hf
                refine r_icmp_gt_f (dGet dX5_act (j := 72) rfl) rfl c18 ?_
                refine r_aload_n (dGet dX5_act (j := 73) rfl) nv0 rfl ?_
                refine r_iload_n (dGet dX5_act (j := 74) rfl) rfl ?_
                refine r_aload_n (dGet dX5_act (j := 75) rfl) nv0 rfl ?_
                obtain ⟨t37, et37, hf⟩ := Option.bind_eq_some_iff.mp hf
                refine r_getR (dGet dX5_act (j := 76) rfl) F5_17 et37 ?_
                obtain ⟨t38, et38, hf⟩ := Option.bind_eq_some_iff.mp hf
                refine r_getR (dGet dX5_act (j := 77) rfl) F5_174 et38 ?_
                refine r_iload_n (dGet dX5_act (j := 78) rfl) rfl ?_
                obtain ⟨t39, et39, hf⟩ := Option.bind_eq_some_iff.mp hf
                refine r_iald (dGet dX5_act (j := 79) rfl) et39 ?_
                obtain ⟨q40, eq40, hf⟩ := Option.bind_eq_some_iff.mp hf
                refine r_virtual (dGet dX5_act (j := 80) rfl) L5_177 M213 rfl rfl (Nat.le_of_ble_eq_true rfl) (oX5_actJoin eq40) (cX5_actJoin X N (d + 2) v0 t12 t39 h9 q40 eq40) ?_
                cases hf
                exact r_lret (dGet dX5_act (j := 81) rfl) rfl
            · rw [if_neg c17] at hf
              refine r_icmp_gt_f (dGet dX5_act (j := 63) rfl) rfl c17 ?_
              refine r_aload_n (dGet dX5_act (j := 64) rfl) nv0 rfl ?_
              refine r_iload_n (dGet dX5_act (j := 65) rfl) rfl ?_
              refine r_aload_n (dGet dX5_act (j := 66) rfl) nv0 rfl ?_
              obtain ⟨q41, eq41, hf⟩ := Option.bind_eq_some_iff.mp hf
              refine r_virtual (dGet dX5_act (j := 67) rfl) L5_167 M182 rfl rfl (Nat.le_of_ble_eq_true rfl) (oX5_pop eq41) (cX5_pop X N (d + 4) v0 h9 q41 eq41) ?_
              obtain ⟨q42, eq42, hf⟩ := Option.bind_eq_some_iff.mp hf
              refine r_virtual (dGet dX5_act (j := 68) rfl) L5_170 M212 rfl rfl (Nat.le_of_ble_eq_true rfl) (oX5_actSign eq42) (cX5_actSign X N (d + 2) v0 t12 q41.1 q41.2 q42 eq42) ?_
              cases hf
              exact r_lret (dGet dX5_act (j := 69) rfl) rfl
          · rw [if_neg c16] at hf
            refine r_icmp_gt_f (dGet dX5_act (j := 51) rfl) rfl c16 ?_
            refine r_aload_n (dGet dX5_act (j := 52) rfl) nv0 rfl ?_
            refine r_iload_n (dGet dX5_act (j := 53) rfl) rfl ?_
            refine r_aload_n (dGet dX5_act (j := 54) rfl) nv0 rfl ?_
            obtain ⟨t43, et43, hf⟩ := Option.bind_eq_some_iff.mp hf
            refine r_getR (dGet dX5_act (j := 55) rfl) F5_17 et43 ?_
            obtain ⟨t44, et44, hf⟩ := Option.bind_eq_some_iff.mp hf
            refine r_getR (dGet dX5_act (j := 56) rfl) F5_155 et44 ?_
            refine r_iload_n (dGet dX5_act (j := 57) rfl) rfl ?_
            obtain ⟨t45, et45, hf⟩ := Option.bind_eq_some_iff.mp hf
            refine r_iald (dGet dX5_act (j := 58) rfl) et45 ?_
            obtain ⟨q46, eq46, hf⟩ := Option.bind_eq_some_iff.mp hf
            refine r_virtual (dGet dX5_act (j := 59) rfl) L5_164 M202 rfl rfl (Nat.le_of_ble_eq_true rfl) (oX5_actPart eq46) (cX5_actPart X N (d + 0) v0 t12 t45 h9 q46 eq46) ?_
            cases hf
            exact r_lret (dGet dX5_act (j := 60) rfl) rfl
    · rw [if_neg c13] at hf
      refine r_icmp_gt_f (dGet dX5_act (j := 24) rfl) rfl c13 ?_
      refine r_aload_n (dGet dX5_act (j := 25) rfl) nv0 rfl ?_
      refine r_iload_n (dGet dX5_act (j := 26) rfl) rfl ?_
      refine r_aload_n (dGet dX5_act (j := 27) rfl) nv0 rfl ?_
      obtain ⟨t47, et47, hf⟩ := Option.bind_eq_some_iff.mp hf
      refine r_getR (dGet dX5_act (j := 28) rfl) F5_17 et47 ?_
      obtain ⟨t48, et48, hf⟩ := Option.bind_eq_some_iff.mp hf
      refine r_getR (dGet dX5_act (j := 29) rfl) F5_155 et48 ?_
      refine r_iload_n (dGet dX5_act (j := 30) rfl) rfl ?_
      obtain ⟨t49, et49, hf⟩ := Option.bind_eq_some_iff.mp hf
      refine r_iald (dGet dX5_act (j := 31) rfl) et49 ?_
      obtain ⟨q50, eq50, hf⟩ := Option.bind_eq_some_iff.mp hf
      refine r_virtual (dGet dX5_act (j := 32) rfl) L5_158 M188 rfl rfl (Nat.le_of_ble_eq_true rfl) (oX5_actValue eq50) (cX5_actValue X N (d + 1) v0 t12 t49 h9 q50 eq50) ?_
      cases hf
      exact r_lret (dGet dX5_act (j := 33) rfl) rfl
  · rw [if_neg hc] at hf; cases hf
def eX5_land : List (Nat × Instr × Nat) := [(0, .aload_n 0, 1), (1, .iload_n 1, 1), (2, .iconst 1, 1), (3, .iadd, 1), (4, .putfield 71, 3), (7, .aload_n 0, 1), (8, .aload_n 0, 1), (9, .getfield 40, 3), (12, .iload_n 1, 1), (13, .iaload, 1), (14, .aload_n 0, 1), (15, .getfield 13, 3), (18, .getfield 271, 3), (21, .aload_n 0, 1), (22, .getfield 43, 3), (25, .iload_n 1, 1), (26, .iaload, 1), (27, .iaload, 1), (28, .iadd, 1), (29, .putfield 74, 3), (32, .aload_n 0, 1), (33, .getfield 32, 3), (36, .aload_n 0, 1), (37, .aload_n 0, 1), (38, .getfield 17, 3), (41, .getfield 180, 3), (44, .iload_n 2, 1), (45, .iaload, 1), (46, .invokevirtual 200, 3), (49, .lload_n 3, 1), (50, .lastore, 1), (51, .aload_n 0, 1), (52, .iload_n 2, 1), (53, .iconst 1, 1), (54, .iadd, 1), (55, .putfield 77, 3), (58, .return_, 1)]
theorem dX5_land : dChk (pCd 6214) eX5_land = true := by decide +kernel
def fX5_land (N : Nat) (v0 : Nat) (v1 : Int32) (v2 : Int32) (v3 : Int64) (h : pH) : Option (pH) := if isO h v0 5 = true then (
  (putI h v0 5 11 (v1 + (1 : Int32))).bind fun h1 =>
  (getR h1 v0 5 8).bind fun t2 =>
  (ldI h1 t2 v1).bind fun t3 =>
  (getR h1 v0 5 1).bind fun t4 =>
  (getR h1 t4 6 9).bind fun t5 =>
  (getR h1 v0 5 9).bind fun t6 =>
  (ldI h1 t6 v1).bind fun t7 =>
  (ldI h1 t5 t7).bind fun t8 =>
  (putI h1 v0 5 6 (t3 + t8)).bind fun h9 =>
  (getR h9 v0 5 5).bind fun t10 =>
  (getR h9 v0 5 2).bind fun t11 =>
  (getR h9 t11 2 2).bind fun t12 =>
  (ldI h9 t12 v2).bind fun t13 =>
  (fX5_slot N v0 t13 h9).bind fun q14 =>
  (stJ q14.2 t10 q14.1 v3).bind fun h15 =>
  (putI h15 v0 5 12 (v2 + (1 : Int32))).bind fun h16 =>
  some h16) else none
theorem oX5_land {N : Nat} {v0 : Nat} {v1 : Int32} {v2 : Int32} {v3 : Int64} {h : pH} {q : pH} (hf : fX5_land N v0 v1 v2 v3 h = some q) : isO h v0 5 = true := by
  unfold fX5_land at hf
  by_cases hc : isO h v0 5 = true
  · exact hc
  · rw [if_neg hc] at hf; cases hf
theorem cX5_land (X : pX) (N d : Nat) (v0 : Nat) (v1 : Int32) (v2 : Int32) (v3 : Int64) (h : pH) (q : pH) (hf : fX5_land N v0 v1 v2 v3 h = some q) : Calls X (d + 2) 222 [.ref v0, .int v1, .int v2, .long v3] h (none, q, 0, 0) := by
  refine Calls.of M222 (Nat.le_of_ble_eq_true rfl) ?_
  show Run X (d + 2) 5 false (pCd 6214) 5 none 0 [(0, .ref v0), (1, .int v1), (2, .int v2), (3, .long v3)] [] h 0 0 (none, q, 0, 0)
  unfold fX5_land at hf
  by_cases hc : isO h v0 5 = true
  · rw [if_pos hc] at hf
    have nv0 : ¬ v0 = 4 := isO_ne hc
    refine r_aload_n (dGet dX5_land (j := 0) rfl) nv0 rfl ?_
    refine r_iload_n (dGet dX5_land (j := 1) rfl) rfl ?_
    refine r_iconst (dGet dX5_land (j := 2) rfl) kI_1 ?_
    refine r_iadd (dGet dX5_land (j := 3) rfl) ?_
    obtain ⟨h1, eh1, hf⟩ := Option.bind_eq_some_iff.mp hf
    refine r_putI (dGet dX5_land (j := 4) rfl) F5_71 rfl rfl eh1 ?_
    refine r_aload_n (dGet dX5_land (j := 5) rfl) nv0 rfl ?_
    refine r_aload_n (dGet dX5_land (j := 6) rfl) nv0 rfl ?_
    obtain ⟨t2, et2, hf⟩ := Option.bind_eq_some_iff.mp hf
    refine r_getR (dGet dX5_land (j := 7) rfl) F5_40 et2 ?_
    refine r_iload_n (dGet dX5_land (j := 8) rfl) rfl ?_
    obtain ⟨t3, et3, hf⟩ := Option.bind_eq_some_iff.mp hf
    refine r_iald (dGet dX5_land (j := 9) rfl) et3 ?_
    refine r_aload_n (dGet dX5_land (j := 10) rfl) nv0 rfl ?_
    obtain ⟨t4, et4, hf⟩ := Option.bind_eq_some_iff.mp hf
    refine r_getR (dGet dX5_land (j := 11) rfl) F5_13 et4 ?_
    obtain ⟨t5, et5, hf⟩ := Option.bind_eq_some_iff.mp hf
    refine r_getR (dGet dX5_land (j := 12) rfl) F5_271 et5 ?_
    refine r_aload_n (dGet dX5_land (j := 13) rfl) nv0 rfl ?_
    obtain ⟨t6, et6, hf⟩ := Option.bind_eq_some_iff.mp hf
    refine r_getR (dGet dX5_land (j := 14) rfl) F5_43 et6 ?_
    refine r_iload_n (dGet dX5_land (j := 15) rfl) rfl ?_
    obtain ⟨t7, et7, hf⟩ := Option.bind_eq_some_iff.mp hf
    refine r_iald (dGet dX5_land (j := 16) rfl) et7 ?_
    obtain ⟨t8, et8, hf⟩ := Option.bind_eq_some_iff.mp hf
    refine r_iald (dGet dX5_land (j := 17) rfl) et8 ?_
    refine r_iadd (dGet dX5_land (j := 18) rfl) ?_
    obtain ⟨h9, eh9, hf⟩ := Option.bind_eq_some_iff.mp hf
    refine r_putI (dGet dX5_land (j := 19) rfl) F5_74 rfl rfl eh9 ?_
    refine r_aload_n (dGet dX5_land (j := 20) rfl) nv0 rfl ?_
    obtain ⟨t10, et10, hf⟩ := Option.bind_eq_some_iff.mp hf
    refine r_getR (dGet dX5_land (j := 21) rfl) F5_32 et10 ?_
    refine r_aload_n (dGet dX5_land (j := 22) rfl) nv0 rfl ?_
    refine r_aload_n (dGet dX5_land (j := 23) rfl) nv0 rfl ?_
    obtain ⟨t11, et11, hf⟩ := Option.bind_eq_some_iff.mp hf
    refine r_getR (dGet dX5_land (j := 24) rfl) F5_17 et11 ?_
    obtain ⟨t12, et12, hf⟩ := Option.bind_eq_some_iff.mp hf
    refine r_getR (dGet dX5_land (j := 25) rfl) F5_180 et12 ?_
    refine r_iload_n (dGet dX5_land (j := 26) rfl) rfl ?_
    obtain ⟨t13, et13, hf⟩ := Option.bind_eq_some_iff.mp hf
    refine r_iald (dGet dX5_land (j := 27) rfl) et13 ?_
    obtain ⟨q14, eq14, hf⟩ := Option.bind_eq_some_iff.mp hf
    refine r_virtual (dGet dX5_land (j := 28) rfl) L5_200 M183 rfl rfl (Nat.le_of_ble_eq_true rfl) (oX5_slot eq14) (cX5_slot X N (d + 0) v0 t13 h9 q14 eq14) ?_
    refine r_lload_n (dGet dX5_land (j := 29) rfl) rfl ?_
    obtain ⟨h15, eh15, hf⟩ := Option.bind_eq_some_iff.mp hf
    refine r_last (dGet dX5_land (j := 30) rfl) eh15 ?_
    refine r_aload_n (dGet dX5_land (j := 31) rfl) nv0 rfl ?_
    refine r_iload_n (dGet dX5_land (j := 32) rfl) rfl ?_
    refine r_iconst (dGet dX5_land (j := 33) rfl) kI_1 ?_
    refine r_iadd (dGet dX5_land (j := 34) rfl) ?_
    obtain ⟨h16, eh16, hf⟩ := Option.bind_eq_some_iff.mp hf
    refine r_putI (dGet dX5_land (j := 35) rfl) F5_77 rfl rfl eh16 ?_
    cases hf
    exact r_vret (dGet dX5_land (j := 36) rfl) rfl
  · rw [if_neg hc] at hf; cases hf
def eX5_throwObject : List (Nat × Instr × Nat) := [(0, .aload_n 0, 1), (1, .dup, 1), (2, .getfield 65, 3), (5, .iconst 1, 1), (6, .iadd, 1), (7, .putfield 65, 3), (10, .aload_n 0, 1), (11, .getfield 28, 3), (14, .lload_n 1, 1), (15, .invokevirtual 249, 3), (18, .istore_n 3, 1), (19, .aload_n 0, 1), (20, .getfield 71, 3), (23, .iconst 1, 1), (24, .isub, 1), (25, .istore 4, 2), (27, .iload 4, 2), (29, .ifCond .lt 104, 3), (32, .aload_n 0, 1), (33, .getfield 17, 3), (36, .getfield 307, 3), (39, .aload_n 0, 1), (40, .getfield 36, 3), (43, .iload 4, 2), (45, .iaload, 1), (46, .iaload, 1), (47, .istore 5, 2), (49, .iconst 0, 1), (50, .istore 6, 2), (52, .iload 6, 2), (54, .sipush 3100, 3), (57, .if_icmp .ge 70, 3), (60, .iload 5, 2), (62, .iconst (-1), 1), (63, .if_icmp .eq 64, 3), (66, .aload_n 0, 1), (67, .getfield 17, 3), (70, .getfield 155, 3), (73, .iload 5, 2), (75, .iaload, 1), (76, .istore 7, 2), (78, .aload_n 0, 1), (79, .getfield 7, 3), (82, .iload_n 3, 1), (83, .aload_n 0, 1), (84, .getfield 17, 3), (87, .getfield 155, 3), (90, .iload 7, 2), (92, .iaload, 1), (93, .invokevirtual 252, 3), (96, .ifCond .eq 13, 3), (99, .aload_n 0, 1), (100, .iload 4, 2), (102, .iload 7, 2), (104, .lload_n 1, 1), (105, .invokevirtual 310, 3), (108, .return_, 1), (109, .aload_n 0, 1), (110, .getfield 17, 3), (113, .getfield 307, 3), (116, .iload 5, 2), (118, .iaload, 1), (119, .istore 5, 2), (121, .iinc 6 1, 3), (124, .goto (-72), 3), (127, .iinc 4 (-1), 3), (130, .goto (-103), 3), (133, .aload_n 0, 1), (134, .iconst 2, 1), (135, .putfield 52, 3), (138, .aload_n 0, 1), (139, .iload_n 3, 1), (140, .putfield 56, 3), (143, .return_, 1)]
theorem dX5_throwObject : dChk (pCd 6210) eX5_throwObject = true := by decide +kernel
def fX5_throwObject_127 (N : Nat) (k27 : Nat → Int64 → Int32 → Int32 → pH → Option (pH)) (v0 : Nat) (v1 : Int64) (v3 : Int32) (v4 : Int32) (h : pH) : Option (pH) :=
  k27 v0 v1 v3 (v4 + (-1 : Int32)) h
theorem lX5_throwObject_127 (X : pX) (N d : Nat)  (k27 : Nat → Int64 → Int32 → Int32 → pH → Option (pH)) (K27 : ∀ (w0 : Nat) (w1 : Int64) (w3 : Int32) (w4 : Int32) (h : pH) (q : pH), k27 w0 w1 w3 w4 h = some q → ¬ w0 = 4 → Run X (d + 3) 5 false (pCd 6210) 8 none 27 [(0, .ref w0), (1, .long w1), (3, .int w3), (4, .int w4)] [] h 0 0 (none, q, 0, 0)) (v0 : Nat) (v1 : Int64) (v3 : Int32) (v4 : Int32) (h : pH) (q : pH) (hf : fX5_throwObject_127 N k27 v0 v1 v3 v4 h = some q) (nv0 : ¬ v0 = 4) : Run X (d + 3) 5 false (pCd 6210) 8 none 127 [(0, .ref v0), (1, .long v1), (3, .int v3), (4, .int v4)] [] h 0 0 (none, q, 0, 0) := by
  unfold fX5_throwObject_127 at hf
  refine r_iinc (lv' := [(4, .int (v4 + (-1 : Int32))), (0, .ref v0), (1, .long v1), (3, .int v3)]) (dGet dX5_throwObject (j := 65) rfl) rfl (by decide) kI_m1 rfl ?_
  refine r_goto (dGet dX5_throwObject (j := 66) rfl) rfl ?_
  refine Run.weak [(0, .ref v0), (1, .long v1), (3, .int v3), (4, .int (v4 + (-1 : Int32)))] (by simp) (by simp [pNd]) ?_
  exact K27 v0 v1 v3 (v4 + (-1 : Int32)) h q hf nv0
def fX5_throwObject_52 (N : Nat) (k27 : Nat → Int64 → Int32 → Int32 → pH → Option (pH)) : Nat → Nat → Int64 → Int32 → Int32 → Int32 → Int32 → pH → Option (pH)
  | 0, _, _, _, _, _, _, _ => none
  | n + 1, v0, v1, v3, v4, v5, v6, h => if (3100 : Int32) ≤ v6 then (
  fX5_throwObject_127 N k27 v0 v1 v3 v4 h) else (
  if v5 = (-1 : Int32) then (
  fX5_throwObject_127 N k27 v0 v1 v3 v4 h) else (
  (getR h v0 5 2).bind fun t3 =>
  (getR h t3 2 1).bind fun t4 =>
  (ldI h t4 v5).bind fun t5 =>
  (getR h v0 5 0).bind fun t6 =>
  (getR h v0 5 2).bind fun t7 =>
  (getR h t7 2 1).bind fun t8 =>
  (ldI h t8 t5).bind fun t9 =>
  (fX1_isSub N t6 v3 t9 h).bind fun q10 =>
  if q10.1 = 0 then (
  (getR q10.2 v0 5 2).bind fun t12 =>
  (getR q10.2 t12 2 6).bind fun t13 =>
  (ldI q10.2 t13 v5).bind fun t14 =>
  fX5_throwObject_52 N k27 n v0 v1 v3 v4 t14 (v6 + (1 : Int32)) q10.2) else (
  (fX5_land N v0 v4 t5 v1 q10.2).bind fun h15 =>
  some h15)))
theorem lX5_throwObject_52 (X : pX) (N d : Nat)  (k27 : Nat → Int64 → Int32 → Int32 → pH → Option (pH)) (K27 : ∀ (w0 : Nat) (w1 : Int64) (w3 : Int32) (w4 : Int32) (h : pH) (q : pH), k27 w0 w1 w3 w4 h = some q → ¬ w0 = 4 → Run X (d + 3) 5 false (pCd 6210) 8 none 27 [(0, .ref w0), (1, .long w1), (3, .int w3), (4, .int w4)] [] h 0 0 (none, q, 0, 0)) : ∀ (n : Nat) (v0 : Nat) (v1 : Int64) (v3 : Int32) (v4 : Int32) (v5 : Int32) (v6 : Int32) (h : pH) (q : pH), fX5_throwObject_52 N k27 n v0 v1 v3 v4 v5 v6 h = some q → ¬ v0 = 4 → Run X (d + 3) 5 false (pCd 6210) 8 none 52 [(0, .ref v0), (1, .long v1), (3, .int v3), (4, .int v4), (5, .int v5), (6, .int v6)] [] h 0 0 (none, q, 0, 0) := by
  intro n
  induction n with
  | zero => intro v0 v1 v3 v4 v5 v6 h q hf; cases hf
  | succ n ih =>
    intro v0 v1 v3 v4 v5 v6 h q hf nv0
    unfold fX5_throwObject_52 at hf
    refine r_iload (dGet dX5_throwObject (j := 29) rfl) rfl ?_
    refine r_sipush (dGet dX5_throwObject (j := 30) rfl) kS_3100 ?_
    by_cases c1 : (3100 : Int32) ≤ v6
    · rw [if_pos c1] at hf
      refine r_icmp_ge_t (dGet dX5_throwObject (j := 31) rfl) rfl c1 ?_
      refine Run.weak [(0, .ref v0), (1, .long v1), (3, .int v3), (4, .int v4)] (by simp) (by simp [pNd]) ?_
      exact lX5_throwObject_127 X N d k27 K27 v0 v1 v3 v4 h q hf nv0
    · rw [if_neg c1] at hf
      refine r_icmp_ge_f (dGet dX5_throwObject (j := 31) rfl) rfl c1 ?_
      refine r_iload (dGet dX5_throwObject (j := 32) rfl) rfl ?_
      refine r_iconst (dGet dX5_throwObject (j := 33) rfl) kI_m1 ?_
      by_cases c2 : v5 = (-1 : Int32)
      · rw [if_pos c2] at hf
        refine r_icmp_eq_t (dGet dX5_throwObject (j := 34) rfl) rfl c2 ?_
        refine Run.weak [(0, .ref v0), (1, .long v1), (3, .int v3), (4, .int v4)] (by simp) (by simp [pNd]) ?_
        exact lX5_throwObject_127 X N d k27 K27 v0 v1 v3 v4 h q hf nv0
      · rw [if_neg c2] at hf
        refine r_icmp_eq_f (dGet dX5_throwObject (j := 34) rfl) rfl c2 ?_
        refine r_aload_n (dGet dX5_throwObject (j := 35) rfl) nv0 rfl ?_
        obtain ⟨t3, et3, hf⟩ := Option.bind_eq_some_iff.mp hf
        refine r_getR (dGet dX5_throwObject (j := 36) rfl) F5_17 et3 ?_
        obtain ⟨t4, et4, hf⟩ := Option.bind_eq_some_iff.mp hf
        refine r_getR (dGet dX5_throwObject (j := 37) rfl) F5_155 et4 ?_
        refine r_iload (dGet dX5_throwObject (j := 38) rfl) rfl ?_
        obtain ⟨t5, et5, hf⟩ := Option.bind_eq_some_iff.mp hf
        refine r_iald (dGet dX5_throwObject (j := 39) rfl) et5 ?_
        refine r_istore (lv' := [(7, .int t5), (0, .ref v0), (1, .long v1), (3, .int v3), (4, .int v4), (5, .int v5), (6, .int v6)]) (dGet dX5_throwObject (j := 40) rfl) (by decide) rfl ?_
        refine r_aload_n (dGet dX5_throwObject (j := 41) rfl) nv0 rfl ?_
        obtain ⟨t6, et6, hf⟩ := Option.bind_eq_some_iff.mp hf
        refine r_getR (dGet dX5_throwObject (j := 42) rfl) F5_7 et6 ?_
        refine r_iload_n (dGet dX5_throwObject (j := 43) rfl) rfl ?_
        refine r_aload_n (dGet dX5_throwObject (j := 44) rfl) nv0 rfl ?_
        obtain ⟨t7, et7, hf⟩ := Option.bind_eq_some_iff.mp hf
        refine r_getR (dGet dX5_throwObject (j := 45) rfl) F5_17 et7 ?_
        obtain ⟨t8, et8, hf⟩ := Option.bind_eq_some_iff.mp hf
        refine r_getR (dGet dX5_throwObject (j := 46) rfl) F5_155 et8 ?_
        refine r_iload (dGet dX5_throwObject (j := 47) rfl) rfl ?_
        obtain ⟨t9, et9, hf⟩ := Option.bind_eq_some_iff.mp hf
        refine r_iald (dGet dX5_throwObject (j := 48) rfl) et9 ?_
        obtain ⟨q10, eq10, hf⟩ := Option.bind_eq_some_iff.mp hf
        refine r_virtual (dGet dX5_throwObject (j := 49) rfl) L5_252 M146 rfl rfl (Nat.le_of_ble_eq_true rfl) (oX1_isSub eq10) (cX1_isSub X N (d + 1) t6 v3 t9 h q10 eq10) ?_
        by_cases c11 : q10.1 = 0
        · rw [if_pos c11] at hf
          refine r_if_eq_t (dGet dX5_throwObject (j := 50) rfl) rfl c11 ?_
          refine r_aload_n (dGet dX5_throwObject (j := 57) rfl) nv0 rfl ?_
          obtain ⟨t12, et12, hf⟩ := Option.bind_eq_some_iff.mp hf
          refine r_getR (dGet dX5_throwObject (j := 58) rfl) F5_17 et12 ?_
          obtain ⟨t13, et13, hf⟩ := Option.bind_eq_some_iff.mp hf
          refine r_getR (dGet dX5_throwObject (j := 59) rfl) F5_307 et13 ?_
          refine r_iload (dGet dX5_throwObject (j := 60) rfl) rfl ?_
          obtain ⟨t14, et14, hf⟩ := Option.bind_eq_some_iff.mp hf
          refine r_iald (dGet dX5_throwObject (j := 61) rfl) et14 ?_
          refine r_istore (lv' := [(5, .int t14), (7, .int t5), (0, .ref v0), (1, .long v1), (3, .int v3), (4, .int v4), (6, .int v6)]) (dGet dX5_throwObject (j := 62) rfl) (by decide) rfl ?_
          refine r_iinc (lv' := [(6, .int (v6 + (1 : Int32))), (5, .int t14), (7, .int t5), (0, .ref v0), (1, .long v1), (3, .int v3), (4, .int v4)]) (dGet dX5_throwObject (j := 63) rfl) rfl (by decide) kI_1 rfl ?_
          refine r_goto (dGet dX5_throwObject (j := 64) rfl) rfl ?_
          refine Run.weak [(0, .ref v0), (1, .long v1), (3, .int v3), (4, .int v4), (5, .int t14), (6, .int (v6 + (1 : Int32)))] (by simp) (by simp [pNd]) ?_
          exact ih v0 v1 v3 v4 t14 (v6 + (1 : Int32)) q10.2 q hf nv0
        · rw [if_neg c11] at hf
          refine r_if_eq_f (dGet dX5_throwObject (j := 50) rfl) rfl c11 ?_
          refine r_aload_n (dGet dX5_throwObject (j := 51) rfl) nv0 rfl ?_
          refine r_iload (dGet dX5_throwObject (j := 52) rfl) rfl ?_
          refine r_iload (dGet dX5_throwObject (j := 53) rfl) rfl ?_
          refine r_lload_n (dGet dX5_throwObject (j := 54) rfl) rfl ?_
          obtain ⟨h15, eh15, hf⟩ := Option.bind_eq_some_iff.mp hf
          refine r_virtual (dGet dX5_throwObject (j := 55) rfl) L5_310 M222 rfl rfl (Nat.le_of_ble_eq_true rfl) (oX5_land eh15) (cX5_land X N (d + 0) v0 v4 t5 v1 q10.2 h15 eh15) ?_
          cases hf
          exact r_vret (dGet dX5_throwObject (j := 56) rfl) rfl
def fX5_throwObject_27 (N : Nat) : Nat → Nat → Int64 → Int32 → Int32 → pH → Option (pH)
  | 0, _, _, _, _, _ => none
  | n + 1, v0, v1, v3, v4, h => if v4 < 0 then (
  (putI h v0 5 13 (2 : Int32)).bind fun h17 =>
  (putI h17 v0 5 14 v3).bind fun h18 =>
  some h18) else (
  (getR h v0 5 2).bind fun t19 =>
  (getR h t19 2 6).bind fun t20 =>
  (getR h v0 5 7).bind fun t21 =>
  (ldI h t21 v4).bind fun t22 =>
  (ldI h t20 t22).bind fun t23 =>
  fX5_throwObject_52 N (fX5_throwObject_27 N n) N v0 v1 v3 v4 t23 (0 : Int32) h)
theorem lX5_throwObject_27 (X : pX) (N d : Nat)  : ∀ (n : Nat) (v0 : Nat) (v1 : Int64) (v3 : Int32) (v4 : Int32) (h : pH) (q : pH), fX5_throwObject_27 N n v0 v1 v3 v4 h = some q → ¬ v0 = 4 → Run X (d + 3) 5 false (pCd 6210) 8 none 27 [(0, .ref v0), (1, .long v1), (3, .int v3), (4, .int v4)] [] h 0 0 (none, q, 0, 0) := by
  intro n
  induction n with
  | zero => intro v0 v1 v3 v4 h q hf; cases hf
  | succ n ih =>
    intro v0 v1 v3 v4 h q hf nv0
    unfold fX5_throwObject_27 at hf
    refine r_iload (dGet dX5_throwObject (j := 16) rfl) rfl ?_
    by_cases c16 : v4 < 0
    · rw [if_pos c16] at hf
      refine r_if_lt_t (dGet dX5_throwObject (j := 17) rfl) rfl c16 ?_
      refine r_aload_n (dGet dX5_throwObject (j := 67) rfl) nv0 rfl ?_
      refine r_iconst (dGet dX5_throwObject (j := 68) rfl) kI_2 ?_
      obtain ⟨h17, eh17, hf⟩ := Option.bind_eq_some_iff.mp hf
      refine r_putI (dGet dX5_throwObject (j := 69) rfl) F5_52 rfl rfl eh17 ?_
      refine r_aload_n (dGet dX5_throwObject (j := 70) rfl) nv0 rfl ?_
      refine r_iload_n (dGet dX5_throwObject (j := 71) rfl) rfl ?_
      obtain ⟨h18, eh18, hf⟩ := Option.bind_eq_some_iff.mp hf
      refine r_putI (dGet dX5_throwObject (j := 72) rfl) F5_56 rfl rfl eh18 ?_
      cases hf
      exact r_vret (dGet dX5_throwObject (j := 73) rfl) rfl
    · rw [if_neg c16] at hf
      refine r_if_lt_f (dGet dX5_throwObject (j := 17) rfl) rfl c16 ?_
      refine r_aload_n (dGet dX5_throwObject (j := 18) rfl) nv0 rfl ?_
      obtain ⟨t19, et19, hf⟩ := Option.bind_eq_some_iff.mp hf
      refine r_getR (dGet dX5_throwObject (j := 19) rfl) F5_17 et19 ?_
      obtain ⟨t20, et20, hf⟩ := Option.bind_eq_some_iff.mp hf
      refine r_getR (dGet dX5_throwObject (j := 20) rfl) F5_307 et20 ?_
      refine r_aload_n (dGet dX5_throwObject (j := 21) rfl) nv0 rfl ?_
      obtain ⟨t21, et21, hf⟩ := Option.bind_eq_some_iff.mp hf
      refine r_getR (dGet dX5_throwObject (j := 22) rfl) F5_36 et21 ?_
      refine r_iload (dGet dX5_throwObject (j := 23) rfl) rfl ?_
      obtain ⟨t22, et22, hf⟩ := Option.bind_eq_some_iff.mp hf
      refine r_iald (dGet dX5_throwObject (j := 24) rfl) et22 ?_
      obtain ⟨t23, et23, hf⟩ := Option.bind_eq_some_iff.mp hf
      refine r_iald (dGet dX5_throwObject (j := 25) rfl) et23 ?_
      refine r_istore (lv' := [(5, .int t23), (0, .ref v0), (1, .long v1), (3, .int v3), (4, .int v4)]) (dGet dX5_throwObject (j := 26) rfl) (by decide) rfl ?_
      refine r_iconst (dGet dX5_throwObject (j := 27) rfl) kI_0 ?_
      refine r_istore (lv' := [(6, .int (0 : Int32)), (5, .int t23), (0, .ref v0), (1, .long v1), (3, .int v3), (4, .int v4)]) (dGet dX5_throwObject (j := 28) rfl) (by decide) rfl ?_
      refine Run.weak [(0, .ref v0), (1, .long v1), (3, .int v3), (4, .int v4), (5, .int t23), (6, .int (0 : Int32))] (by simp) (by simp [pNd]) ?_
      exact lX5_throwObject_52 X N d (fX5_throwObject_27 N n) ih N v0 v1 v3 v4 t23 (0 : Int32) h q hf nv0
def fX5_throwObject (N : Nat) (v0 : Nat) (v1 : Int64) (h : pH) : Option (pH) := if isO h v0 5 = true then (
  (getI h v0 5 17).bind fun t24 =>
  (putI h v0 5 17 (t24 + (1 : Int32))).bind fun h25 =>
  (getR h25 v0 5 4).bind fun t26 =>
  (fX3_classOf N t26 v1 h25).bind fun q27 =>
  (getI q27.2 v0 5 11).bind fun t28 =>
  fX5_throwObject_27 N N v0 v1 q27.1 (t28 - (1 : Int32)) q27.2) else none
theorem oX5_throwObject {N : Nat} {v0 : Nat} {v1 : Int64} {h : pH} {q : pH} (hf : fX5_throwObject N v0 v1 h = some q) : isO h v0 5 = true := by
  unfold fX5_throwObject at hf
  by_cases hc : isO h v0 5 = true
  · exact hc
  · rw [if_neg hc] at hf; cases hf
theorem cX5_throwObject (X : pX) (N d : Nat) (v0 : Nat) (v1 : Int64) (h : pH) (q : pH) (hf : fX5_throwObject N v0 v1 h = some q) : Calls X (d + 3) 221 [.ref v0, .long v1] h (none, q, 0, 0) := by
  refine Calls.of M221 (Nat.le_of_ble_eq_true rfl) ?_
  show Run X (d + 3) 5 false (pCd 6210) 8 none 0 [(0, .ref v0), (1, .long v1)] [] h 0 0 (none, q, 0, 0)
  unfold fX5_throwObject at hf
  by_cases hc : isO h v0 5 = true
  · rw [if_pos hc] at hf
    have nv0 : ¬ v0 = 4 := isO_ne hc
    refine r_aload_n (dGet dX5_throwObject (j := 0) rfl) nv0 rfl ?_
    refine r_dup (dGet dX5_throwObject (j := 1) rfl) rfl ?_
    obtain ⟨t24, et24, hf⟩ := Option.bind_eq_some_iff.mp hf
    refine r_getI (dGet dX5_throwObject (j := 2) rfl) F5_65 et24 ?_
    refine r_iconst (dGet dX5_throwObject (j := 3) rfl) kI_1 ?_
    refine r_iadd (dGet dX5_throwObject (j := 4) rfl) ?_
    obtain ⟨h25, eh25, hf⟩ := Option.bind_eq_some_iff.mp hf
    refine r_putI (dGet dX5_throwObject (j := 5) rfl) F5_65 rfl rfl eh25 ?_
    refine r_aload_n (dGet dX5_throwObject (j := 6) rfl) nv0 rfl ?_
    obtain ⟨t26, et26, hf⟩ := Option.bind_eq_some_iff.mp hf
    refine r_getR (dGet dX5_throwObject (j := 7) rfl) F5_28 et26 ?_
    refine r_lload_n (dGet dX5_throwObject (j := 8) rfl) rfl ?_
    obtain ⟨q27, eq27, hf⟩ := Option.bind_eq_some_iff.mp hf
    refine r_virtual (dGet dX5_throwObject (j := 9) rfl) L5_249 M210 rfl rfl (Nat.le_of_ble_eq_true rfl) (oX3_classOf eq27) (cX3_classOf X N (d + 2) t26 v1 h25 q27 eq27) ?_
    refine r_istore_n (lv' := [(3, .int q27.1), (0, .ref v0), (1, .long v1)]) (dGet dX5_throwObject (j := 10) rfl) (by decide) rfl ?_
    refine r_aload_n (dGet dX5_throwObject (j := 11) rfl) nv0 rfl ?_
    obtain ⟨t28, et28, hf⟩ := Option.bind_eq_some_iff.mp hf
    refine r_getI (dGet dX5_throwObject (j := 12) rfl) F5_71 et28 ?_
    refine r_iconst (dGet dX5_throwObject (j := 13) rfl) kI_1 ?_
    refine r_isub (dGet dX5_throwObject (j := 14) rfl) ?_
    refine r_istore (lv' := [(4, .int (t28 - (1 : Int32))), (3, .int q27.1), (0, .ref v0), (1, .long v1)]) (dGet dX5_throwObject (j := 15) rfl) (by decide) rfl ?_
    refine Run.weak [(0, .ref v0), (1, .long v1), (3, .int q27.1), (4, .int (t28 - (1 : Int32)))] (by simp) (by simp [pNd]) ?_
    exact lX5_throwObject_27 X N d N v0 v1 q27.1 (t28 - (1 : Int32)) q27.2 q hf nv0
  · rw [if_neg hc] at hf; cases hf
def eX5_run : List (Nat × Instr × Nat) := [(0, .iconst 0, 1), (1, .istore_n 2, 1), (2, .iload_n 2, 1), (3, .iload_n 1, 1), (4, .if_icmp .ge 60, 3), (7, .aload_n 0, 1), (8, .getfield 52, 3), (11, .ifCond .ne 53, 3), (14, .aload_n 0, 1), (15, .getfield 17, 3), (18, .aload_n 0, 1), (19, .getfield 77, 3), (22, .invokevirtual 132, 3), (25, .ifCond .eq 39, 3), (28, .aload_n 0, 1), (29, .dup, 1), (30, .getfield 59, 3), (33, .iconst 1, 1), (34, .iadd, 1), (35, .putfield 59, 3), (38, .aload_n 0, 1), (39, .invokevirtual 138, 3), (42, .lstore_n 3, 1), (43, .lload_n 3, 1), (44, .lconst 0, 1), (45, .lcmp, 1), (46, .ifCond .eq 8, 3), (49, .aload_n 0, 1), (50, .lload_n 3, 1), (51, .invokevirtual 142, 3), (54, .aload_n 0, 1), (55, .invokevirtual 129, 3), (58, .iinc 2 1, 3), (61, .goto (-59), 3), (64, .aload_n 0, 1), (65, .getfield 52, 3), (68, .ireturn, 1)]
theorem dX5_run : dChk (pCd 6062) eX5_run = true := by decide +kernel
def fX5_run_54 (N : Nat) (k2 : Nat → Int32 → Int32 → Nat → Nat → pH → Option (Int32 × pH × Nat × Nat)) (v0 : Nat) (v1 : Int32) (v2 : Int32) (nc : Nat) (ns : Nat) (h : pH) : Option (Int32 × pH × Nat × Nat) :=
  (fX5_settle N v0 h).bind fun h1 =>
  k2 v0 v1 (v2 + (1 : Int32)) nc ns h1
theorem lX5_run_54 (X : pX) (N d : Nat)  (k2 : Nat → Int32 → Int32 → Nat → Nat → pH → Option (Int32 × pH × Nat × Nat)) (K2 : ∀ (w0 : Nat) (w1 : Int32) (w2 : Int32) (nc : Nat) (ns : Nat) (h : pH) (q : Int32 × pH × Nat × Nat), k2 w0 w1 w2 nc ns h = some q → ¬ w0 = 4 → Run X (d + 6) 5 false (pCd 6062) 5 (some .int) 2 [(0, .ref w0), (1, .int w1), (2, .int w2)] [] h nc ns (some (.int q.1), q.2.1, q.2.2.1, q.2.2.2)) (v0 : Nat) (v1 : Int32) (v2 : Int32) (nc : Nat) (ns : Nat) (h : pH) (q : Int32 × pH × Nat × Nat) (hf : fX5_run_54 N k2 v0 v1 v2 nc ns h = some q) (nv0 : ¬ v0 = 4) : Run X (d + 6) 5 false (pCd 6062) 5 (some .int) 54 [(0, .ref v0), (1, .int v1), (2, .int v2)] [] h nc ns (some (.int q.1), q.2.1, q.2.2.1, q.2.2.2) := by
  unfold fX5_run_54 at hf
  refine r_aload_n (dGet dX5_run (j := 30) rfl) nv0 rfl ?_
  obtain ⟨h1, eh1, hf⟩ := Option.bind_eq_some_iff.mp hf
  refine r_virtual (dGet dX5_run (j := 31) rfl) L5_129 M178 rfl rfl (Nat.le_of_ble_eq_true rfl) (oX5_settle eh1) (cX5_settle X N (d + 2) v0 h h1 eh1) ?_
  refine r_iinc (lv' := [(2, .int (v2 + (1 : Int32))), (0, .ref v0), (1, .int v1)]) (dGet dX5_run (j := 32) rfl) rfl (by decide) kI_1 rfl ?_
  refine r_goto (dGet dX5_run (j := 33) rfl) rfl ?_
  refine Run.weak [(0, .ref v0), (1, .int v1), (2, .int (v2 + (1 : Int32)))] (by simp) (by simp [pNd]) ?_
  exact K2 v0 v1 (v2 + (1 : Int32)) nc ns h1 q hf nv0
def fX5_run_2 (N : Nat) : Nat → Nat → Int32 → Int32 → Nat → Nat → pH → Option (Int32 × pH × Nat × Nat)
  | 0, _, _, _, _, _, _ => none
  | n + 1, v0, v1, v2, nc, ns, h => if v1 ≤ v2 then (
  (getI h v0 5 13).bind fun t3 =>
  some (t3, h, nc, ns)) else (
  (getI h v0 5 13).bind fun t4 =>
  if t4 = 0 then (
  (getR h v0 5 2).bind fun t7 =>
  (getI h v0 5 12).bind fun t8 =>
  (fX2_has N t7 t8 h).bind fun q9 =>
  if q9.1 = 0 then (
  (getI q9.2 v0 5 13).bind fun t11 =>
  some (t11, q9.2, nc, ns)) else (
  (getI q9.2 v0 5 15).bind fun t12 =>
  (putI q9.2 v0 5 15 (t12 + (1 : Int32))).bind fun h13 =>
  (fX5_act N v0 h13).bind fun q14 =>
  if (lg_cmp q14.1 (0 : Int64)) = 0 then (
  fX5_run_54 N (fX5_run_2 N n) v0 v1 v2 (nc + q14.2.2.1) (ns + q14.2.2.2) q14.2.1) else (
  (fX5_throwObject N v0 q14.1 q14.2.1).bind fun h16 =>
  fX5_run_54 N (fX5_run_2 N n) v0 v1 v2 (nc + q14.2.2.1) (ns + q14.2.2.2) h16))) else (
  (getI h v0 5 13).bind fun t6 =>
  some (t6, h, nc, ns)))
theorem lX5_run_2 (X : pX) (N d : Nat)  : ∀ (n : Nat) (v0 : Nat) (v1 : Int32) (v2 : Int32) (nc : Nat) (ns : Nat) (h : pH) (q : Int32 × pH × Nat × Nat), fX5_run_2 N n v0 v1 v2 nc ns h = some q → ¬ v0 = 4 → Run X (d + 6) 5 false (pCd 6062) 5 (some .int) 2 [(0, .ref v0), (1, .int v1), (2, .int v2)] [] h nc ns (some (.int q.1), q.2.1, q.2.2.1, q.2.2.2) := by
  intro n
  induction n with
  | zero => intro v0 v1 v2 nc ns h q hf; cases hf
  | succ n ih =>
    intro v0 v1 v2 nc ns h q hf nv0
    unfold fX5_run_2 at hf
    refine r_iload_n (dGet dX5_run (j := 2) rfl) rfl ?_
    refine r_iload_n (dGet dX5_run (j := 3) rfl) rfl ?_
    by_cases c2 : v1 ≤ v2
    · rw [if_pos c2] at hf
      refine r_icmp_ge_t (dGet dX5_run (j := 4) rfl) rfl c2 ?_
      refine r_aload_n (dGet dX5_run (j := 34) rfl) nv0 rfl ?_
      obtain ⟨t3, et3, hf⟩ := Option.bind_eq_some_iff.mp hf
      refine r_getI (dGet dX5_run (j := 35) rfl) F5_52 et3 ?_
      cases hf
      exact r_iret (dGet dX5_run (j := 36) rfl) rfl rfl
    · rw [if_neg c2] at hf
      refine r_icmp_ge_f (dGet dX5_run (j := 4) rfl) rfl c2 ?_
      refine r_aload_n (dGet dX5_run (j := 5) rfl) nv0 rfl ?_
      obtain ⟨t4, et4, hf⟩ := Option.bind_eq_some_iff.mp hf
      refine r_getI (dGet dX5_run (j := 6) rfl) F5_52 et4 ?_
      by_cases c5 : t4 = 0
      · rw [if_pos c5] at hf
        refine r_if_ne_f (dGet dX5_run (j := 7) rfl) rfl c5 ?_
        refine r_aload_n (dGet dX5_run (j := 8) rfl) nv0 rfl ?_
        obtain ⟨t7, et7, hf⟩ := Option.bind_eq_some_iff.mp hf
        refine r_getR (dGet dX5_run (j := 9) rfl) F5_17 et7 ?_
        refine r_aload_n (dGet dX5_run (j := 10) rfl) nv0 rfl ?_
        obtain ⟨t8, et8, hf⟩ := Option.bind_eq_some_iff.mp hf
        refine r_getI (dGet dX5_run (j := 11) rfl) F5_77 et8 ?_
        obtain ⟨q9, eq9, hf⟩ := Option.bind_eq_some_iff.mp hf
        refine r_virtual (dGet dX5_run (j := 12) rfl) L5_132 M180 rfl rfl (Nat.le_of_ble_eq_true rfl) (oX2_has eq9) (cX2_has X N (d + 5) t7 t8 h q9 eq9) ?_
        by_cases c10 : q9.1 = 0
        · rw [if_pos c10] at hf
          refine r_if_eq_t (dGet dX5_run (j := 13) rfl) rfl c10 ?_
          refine r_aload_n (dGet dX5_run (j := 34) rfl) nv0 rfl ?_
          obtain ⟨t11, et11, hf⟩ := Option.bind_eq_some_iff.mp hf
          refine r_getI (dGet dX5_run (j := 35) rfl) F5_52 et11 ?_
          cases hf
          exact r_iret (dGet dX5_run (j := 36) rfl) rfl rfl
        · rw [if_neg c10] at hf
          refine r_if_eq_f (dGet dX5_run (j := 13) rfl) rfl c10 ?_
          refine r_aload_n (dGet dX5_run (j := 14) rfl) nv0 rfl ?_
          refine r_dup (dGet dX5_run (j := 15) rfl) rfl ?_
          obtain ⟨t12, et12, hf⟩ := Option.bind_eq_some_iff.mp hf
          refine r_getI (dGet dX5_run (j := 16) rfl) F5_59 et12 ?_
          refine r_iconst (dGet dX5_run (j := 17) rfl) kI_1 ?_
          refine r_iadd (dGet dX5_run (j := 18) rfl) ?_
          obtain ⟨h13, eh13, hf⟩ := Option.bind_eq_some_iff.mp hf
          refine r_putI (dGet dX5_run (j := 19) rfl) F5_59 rfl rfl eh13 ?_
          refine r_aload_n (dGet dX5_run (j := 20) rfl) nv0 rfl ?_
          obtain ⟨q14, eq14, hf⟩ := Option.bind_eq_some_iff.mp hf
          refine r_virtual (dGet dX5_run (j := 21) rfl) L5_138 M187 rfl rfl (Nat.le_of_ble_eq_true rfl) (oX5_act eq14) (cX5_act X N (d + 0) v0 h13 q14 eq14) ?_
          refine r_lstore_n (lv' := [(3, .long q14.1), (0, .ref v0), (1, .int v1), (2, .int v2)]) (dGet dX5_run (j := 22) rfl) (by decide) rfl ?_
          refine r_lload_n (dGet dX5_run (j := 23) rfl) rfl ?_
          refine r_lconst (v := 0) (dGet dX5_run (j := 24) rfl) rfl ?_
          refine r_lcmp (dGet dX5_run (j := 25) rfl) ?_
          by_cases c15 : (lg_cmp q14.1 (0 : Int64)) = 0
          · rw [if_pos c15] at hf
            refine r_if_eq_t (dGet dX5_run (j := 26) rfl) rfl c15 ?_
            refine Run.weak [(0, .ref v0), (1, .int v1), (2, .int v2)] (by simp) (by simp [pNd]) ?_
            exact lX5_run_54 X N d (fX5_run_2 N n) ih v0 v1 v2 (nc + q14.2.2.1) (ns + q14.2.2.2) q14.2.1 q hf nv0
          · rw [if_neg c15] at hf
            refine r_if_eq_f (dGet dX5_run (j := 26) rfl) rfl c15 ?_
            refine r_aload_n (dGet dX5_run (j := 27) rfl) nv0 rfl ?_
            refine r_lload_n (dGet dX5_run (j := 28) rfl) rfl ?_
            obtain ⟨h16, eh16, hf⟩ := Option.bind_eq_some_iff.mp hf
            refine r_virtual (dGet dX5_run (j := 29) rfl) L5_142 M221 rfl rfl (Nat.le_of_ble_eq_true rfl) (oX5_throwObject eh16) (cX5_throwObject X N (d + 2) v0 q14.1 q14.2.1 h16 eh16) ?_
            refine Run.weak [(0, .ref v0), (1, .int v1), (2, .int v2)] (by simp) (by simp [pNd]) ?_
            exact lX5_run_54 X N d (fX5_run_2 N n) ih v0 v1 v2 (nc + q14.2.2.1) (ns + q14.2.2.2) h16 q hf nv0
      · rw [if_neg c5] at hf
        refine r_if_ne_t (dGet dX5_run (j := 7) rfl) rfl c5 ?_
        refine r_aload_n (dGet dX5_run (j := 34) rfl) nv0 rfl ?_
        obtain ⟨t6, et6, hf⟩ := Option.bind_eq_some_iff.mp hf
        refine r_getI (dGet dX5_run (j := 35) rfl) F5_52 et6 ?_
        cases hf
        exact r_iret (dGet dX5_run (j := 36) rfl) rfl rfl
def fX5_run (N : Nat) (v0 : Nat) (v1 : Int32) (h : pH) : Option (Int32 × pH × Nat × Nat) := if isO h v0 5 = true then (
  fX5_run_2 N N v0 v1 (0 : Int32) 0 0 h) else none
theorem oX5_run {N : Nat} {v0 : Nat} {v1 : Int32} {h : pH} {q : Int32 × pH × Nat × Nat} (hf : fX5_run N v0 v1 h = some q) : isO h v0 5 = true := by
  unfold fX5_run at hf
  by_cases hc : isO h v0 5 = true
  · exact hc
  · rw [if_neg hc] at hf; cases hf
theorem cX5_run (X : pX) (N d : Nat) (v0 : Nat) (v1 : Int32) (h : pH) (q : Int32 × pH × Nat × Nat) (hf : fX5_run N v0 v1 h = some q) : Calls X (d + 6) 186 [.ref v0, .int v1] h (some (.int q.1), q.2.1, q.2.2.1, q.2.2.2) := by
  refine Calls.of M186 (Nat.le_of_ble_eq_true rfl) ?_
  show Run X (d + 6) 5 false (pCd 6062) 5 (some .int) 0 [(0, .ref v0), (1, .int v1)] [] h 0 0 (some (.int q.1), q.2.1, q.2.2.1, q.2.2.2)
  unfold fX5_run at hf
  by_cases hc : isO h v0 5 = true
  · rw [if_pos hc] at hf
    have nv0 : ¬ v0 = 4 := isO_ne hc
    refine r_iconst (dGet dX5_run (j := 0) rfl) kI_0 ?_
    refine r_istore_n (lv' := [(2, .int (0 : Int32)), (0, .ref v0), (1, .int v1)]) (dGet dX5_run (j := 1) rfl) (by decide) rfl ?_
    refine Run.weak [(0, .ref v0), (1, .int v1), (2, .int (0 : Int32))] (by simp) (by simp [pNd]) ?_
    exact lX5_run_2 X N d N v0 v1 (0 : Int32) 0 0 h q hf nv0
  · rw [if_neg hc] at hf; cases hf
