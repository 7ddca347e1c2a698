def eX12_leaf : List (Nat × Instr × Nat) := [(0, .aload_n 0, 1), (1, .getfield 554, 3), (4, .iconst 1, 1), (5, .isub, 1), (6, .istore_n 2, 1), (7, .aload_n 0, 1), (8, .getfield 25, 3), (11, .iload_n 1, 1), (12, .iaload, 1), (13, .tableswitch 233 0 21 #[103, 117, 126, 140, 233, 233, 233, 233, 233, 233, 233, 233, 233, 233, 233, 233, 233, 233, 233, 152, 195, 103], 103), (116, .aload_n 0, 1), (117, .aload_n 0, 1), (118, .getfield 34, 3), (121, .iload_n 1, 1), (122, .iaload, 1), (123, .iconst 0, 1), (124, .invokevirtual 623, 3), (127, .goto 165, 3), (130, .aload_n 0, 1), (131, .iconst (-1), 1), (132, .iconst 1, 1), (133, .invokevirtual 623, 3), (136, .goto 156, 3), (139, .aload_n 0, 1), (140, .aload_n 0, 1), (141, .getfield 178, 3), (144, .iload_n 2, 1), (145, .iaload, 1), (146, .iconst 1, 1), (147, .invokevirtual 623, 3), (150, .goto 142, 3), (153, .aload_n 0, 1), (154, .aload_n 0, 1), (155, .invokevirtual 626, 3), (158, .iconst 0, 1), (159, .invokevirtual 623, 3), (162, .goto 130, 3), (165, .aload_n 0, 1), (166, .aload_n 0, 1), (167, .getfield 191, 3), (170, .aload_n 0, 1), (171, .getfield 181, 3), (174, .iload_n 2, 1), (175, .iaload, 1), (176, .aload_n 0, 1), (177, .getfield 34, 3), (180, .iload_n 1, 1), (181, .iaload, 1), (182, .iadd, 1), (183, .iaload, 1), (184, .aload_n 0, 1), (185, .getfield 194, 3), (188, .aload_n 0, 1), (189, .getfield 181, 3), (192, .iload_n 2, 1), (193, .iaload, 1), (194, .aload_n 0, 1), (195, .getfield 34, 3), (198, .iload_n 1, 1), (199, .iaload, 1), (200, .iadd, 1), (201, .baload, 1), (202, .invokevirtual 623, 3), (205, .goto 87, 3), (208, .aload_n 0, 1), (209, .getfield 157, 3), (212, .aload_n 0, 1), (213, .getfield 178, 3), (216, .iload_n 2, 1), (217, .iaload, 1), (218, .iaload, 1), (219, .aload_n 0, 1), (220, .getfield 34, 3), (223, .iload_n 1, 1), (224, .iaload, 1), (225, .iadd, 1), (226, .istore_n 3, 1), (227, .aload_n 0, 1), (228, .aload_n 0, 1), (229, .getfield 172, 3), (232, .iload_n 3, 1), (233, .iaload, 1), (234, .aload_n 0, 1), (235, .getfield 175, 3), (238, .iload_n 3, 1), (239, .baload, 1), (240, .invokevirtual 623, 3), (243, .goto 49, 3), (246, .aload_n 0, 1), (247, .getfield 91, 3), (250, .aload_n 0, 1), (251, .getfield 34, 3), (254, .iload_n 1, 1), (255, .iaload, 1), (256, .iaload, 1), (257, .istore_n 3, 1), (258, .aload_n 0, 1), (259, .iconst 2, 1), (260, .iload_n 3, 1), (261, .iadd, 1), (262, .invokevirtual 629, 3), (265, .ifCond .eq 22, 3), (268, .aload_n 0, 1), (269, .aload_n 0, 1), (270, .aload_n 0, 1), (271, .getfield 34, 3), (274, .iload_n 1, 1), (275, .iaload, 1), (276, .iload_n 3, 1), (277, .invokevirtual 632, 3), (280, .iconst 1, 1), (281, .invokevirtual 623, 3), (284, .goto 8, 3), (287, .aload_n 0, 1), (288, .iconst 3, 1), (289, .invokevirtual 605, 3), (292, .return_, 1)]
theorem dX12_leaf : dChk (pCd 9228) eX12_leaf = true := by decide +kernel
def fX12_leaf_246 (N : Nat) (v0 : Nat) (v1 : Int32) (h : pH) : Option (pH) :=
  (getR h v0 12 42).bind fun t1 =>
  (getR h v0 12 19).bind fun t2 =>
  (ldI h t2 v1).bind fun t3 =>
  (ldI h t1 t3).bind fun t4 =>
  (fX12_hasRoom N v0 ((2 : Int32) + t4) h).bind fun q5 =>
  if q5.1 = 0 then (
  (fX12_ends N v0 (3 : Int32) q5.2).bind fun h7 =>
  some h7) else (
  (getR q5.2 v0 12 19).bind fun t8 =>
  (ldI q5.2 t8 v1).bind fun t9 =>
  (fX12_object N v0 t9 t4 q5.2).bind fun q10 =>
  (fX12_push N v0 q10.1 (1 : Int32) q10.2).bind fun h11 =>
  some h11)
theorem lX12_leaf_246 (X : pX) (N d : Nat)  (v0 : Nat) (v1 : Int32) (h : pH) (q : pH) (hf : fX12_leaf_246 N v0 v1 h = some q) (nv0 : ¬ v0 = 4) : Run X (d + 3) 12 false (pCd 9228) 4 none 246 [(0, .ref v0), (1, .int v1)] [] h 0 0 (none, q, 0, 0) := by
  unfold fX12_leaf_246 at hf
  refine r_aload_n (dGet dX12_leaf (j := 88) rfl) nv0 rfl ?_
  obtain ⟨t1, et1, hf⟩ := Option.bind_eq_some_iff.mp hf
  refine r_getR (dGet dX12_leaf (j := 89) rfl) F12_91 et1 ?_
  refine r_aload_n (dGet dX12_leaf (j := 90) rfl) nv0 rfl ?_
  obtain ⟨t2, et2, hf⟩ := Option.bind_eq_some_iff.mp hf
  refine r_getR (dGet dX12_leaf (j := 91) rfl) F12_34 et2 ?_
  refine r_iload_n (dGet dX12_leaf (j := 92) rfl) rfl ?_
  obtain ⟨t3, et3, hf⟩ := Option.bind_eq_some_iff.mp hf
  refine r_iald (dGet dX12_leaf (j := 93) rfl) et3 ?_
  obtain ⟨t4, et4, hf⟩ := Option.bind_eq_some_iff.mp hf
  refine r_iald (dGet dX12_leaf (j := 94) rfl) et4 ?_
  refine r_istore_n (lv' := [(3, .int t4), (0, .ref v0), (1, .int v1)]) (dGet dX12_leaf (j := 95) rfl) (by decide) rfl ?_
  refine r_aload_n (dGet dX12_leaf (j := 96) rfl) nv0 rfl ?_
  refine r_iconst (dGet dX12_leaf (j := 97) rfl) kI_2 ?_
  refine r_iload_n (dGet dX12_leaf (j := 98) rfl) rfl ?_
  refine r_iadd (dGet dX12_leaf (j := 99) rfl) ?_
  obtain ⟨q5, eq5, hf⟩ := Option.bind_eq_some_iff.mp hf
  refine r_virtual (dGet dX12_leaf (j := 100) rfl) L12_629 M323 rfl rfl (Nat.le_of_ble_eq_true rfl) (oX12_hasRoom eq5) (cX12_hasRoom X N (d + 0) v0 ((2 : Int32) + t4) h q5 eq5) ?_
  by_cases c6 : q5.1 = 0
  · rw [if_pos c6] at hf
    refine r_if_eq_t (dGet dX12_leaf (j := 101) rfl) rfl c6 ?_
    refine r_aload_n (dGet dX12_leaf (j := 113) rfl) nv0 rfl ?_
    refine r_iconst (dGet dX12_leaf (j := 114) rfl) kI_3 ?_
    obtain ⟨h7, eh7, hf⟩ := Option.bind_eq_some_iff.mp hf
    refine r_virtual (dGet dX12_leaf (j := 115) rfl) L12_605 M328 rfl rfl (Nat.le_of_ble_eq_true rfl) (oX12_ends eh7) (cX12_ends X N (d + 2) v0 (3 : Int32) q5.2 h7 eh7) ?_
    have hq := Option.some.inj hf
    subst hq
    exact r_vret (dGet dX12_leaf (j := 116) rfl) rfl
  · rw [if_neg c6] at hf
    refine r_if_eq_f (dGet dX12_leaf (j := 101) rfl) rfl c6 ?_
    refine r_aload_n (dGet dX12_leaf (j := 102) rfl) nv0 rfl ?_
    refine r_aload_n (dGet dX12_leaf (j := 103) rfl) nv0 rfl ?_
    refine r_aload_n (dGet dX12_leaf (j := 104) rfl) nv0 rfl ?_
    obtain ⟨t8, et8, hf⟩ := Option.bind_eq_some_iff.mp hf
    refine r_getR (dGet dX12_leaf (j := 105) rfl) F12_34 et8 ?_
    refine r_iload_n (dGet dX12_leaf (j := 106) rfl) rfl ?_
    obtain ⟨t9, et9, hf⟩ := Option.bind_eq_some_iff.mp hf
    refine r_iald (dGet dX12_leaf (j := 107) rfl) et9 ?_
    refine r_iload_n (dGet dX12_leaf (j := 108) rfl) rfl ?_
    obtain ⟨q10, eq10, hf⟩ := Option.bind_eq_some_iff.mp hf
    refine r_virtual (dGet dX12_leaf (j := 109) rfl) L12_632 M309 rfl rfl (Nat.le_of_ble_eq_true rfl) (oX12_object eq10) (cX12_object X N (d + 2) v0 t9 t4 q5.2 q10 eq10) ?_
    refine r_iconst (dGet dX12_leaf (j := 110) rfl) kI_1 ?_
    obtain ⟨h11, eh11, hf⟩ := Option.bind_eq_some_iff.mp hf
    refine r_virtual (dGet dX12_leaf (j := 111) rfl) L12_623 M321 rfl rfl (Nat.le_of_ble_eq_true rfl) (oX12_push eh11) (cX12_push X N (d + 2) v0 q10.1 (1 : Int32) q10.2 h11 eh11) ?_
    refine r_goto (dGet dX12_leaf (j := 112) rfl) rfl ?_
    have hq := Option.some.inj hf
    subst hq
    exact r_vret (dGet dX12_leaf (j := 116) rfl) rfl
def fX12_leaf_116 (N : Nat) (v0 : Nat) (v1 : Int32) (h : pH) : Option (pH) :=
  (getR h v0 12 19).bind fun t12 =>
  (ldI h t12 v1).bind fun t13 =>
  (fX12_push N v0 t13 (0 : Int32) h).bind fun h14 =>
  some h14
theorem lX12_leaf_116 (X : pX) (N d : Nat)  (v0 : Nat) (v1 : Int32) (h : pH) (q : pH) (hf : fX12_leaf_116 N v0 v1 h = some q) (nv0 : ¬ v0 = 4) : Run X (d + 3) 12 false (pCd 9228) 4 none 116 [(0, .ref v0), (1, .int v1)] [] h 0 0 (none, q, 0, 0) := by
  unfold fX12_leaf_116 at hf
  refine r_aload_n (dGet dX12_leaf (j := 10) rfl) nv0 rfl ?_
  refine r_aload_n (dGet dX12_leaf (j := 11) rfl) nv0 rfl ?_
  obtain ⟨t12, et12, hf⟩ := Option.bind_eq_some_iff.mp hf
  refine r_getR (dGet dX12_leaf (j := 12) rfl) F12_34 et12 ?_
  refine r_iload_n (dGet dX12_leaf (j := 13) rfl) rfl ?_
  obtain ⟨t13, et13, hf⟩ := Option.bind_eq_some_iff.mp hf
  refine r_iald (dGet dX12_leaf (j := 14) rfl) et13 ?_
  refine r_iconst (dGet dX12_leaf (j := 15) rfl) kI_0 ?_
  obtain ⟨h14, eh14, hf⟩ := Option.bind_eq_some_iff.mp hf
  refine r_virtual (dGet dX12_leaf (j := 16) rfl) L12_623 M321 rfl rfl (Nat.le_of_ble_eq_true rfl) (oX12_push eh14) (cX12_push X N (d + 2) v0 t13 (0 : Int32) h h14 eh14) ?_
  refine r_goto (dGet dX12_leaf (j := 17) rfl) rfl ?_
  have hq := Option.some.inj hf
  subst hq
  exact r_vret (dGet dX12_leaf (j := 116) rfl) rfl
def fX12_leaf (N : Nat) (v0 : Nat) (v1 : Int32) (h : pH) : Option (pH) := if isO h v0 12 = true then (
  (getI h v0 12 93).bind fun t15 =>
  (getR h v0 12 16).bind fun t16 =>
  (ldI h t16 v1).bind fun t17 =>
  if t17 = 0 then (
  fX12_leaf_116 N v0 v1 h) else
  if t17 = 1 then (
  (fX12_push N v0 (-1 : Int32) (1 : Int32) h).bind fun h40 =>
  some h40) else
  if t17 = 2 then (
  (getR h v0 12 94).bind fun t41 =>
  (ldI h t41 (t15 - (1 : Int32))).bind fun t42 =>
  (fX12_push N v0 t42 (1 : Int32) h).bind fun h43 =>
  some h43) else
  if t17 = 3 then (
  (fX12_nextInput N v0 h).bind fun q44 =>
  (fX12_push N v0 q44.1 (0 : Int32) q44.2).bind fun h45 =>
  some h45) else
  if t17 = 4 then (
  fX12_leaf_246 N v0 v1 h) else
  if t17 = 5 then (
  fX12_leaf_246 N v0 v1 h) else
  if t17 = 6 then (
  fX12_leaf_246 N v0 v1 h) else
  if t17 = 7 then (
  fX12_leaf_246 N v0 v1 h) else
  if t17 = 8 then (
  fX12_leaf_246 N v0 v1 h) else
  if t17 = 9 then (
  fX12_leaf_246 N v0 v1 h) else
  if t17 = 10 then (
  fX12_leaf_246 N v0 v1 h) else
  if t17 = 11 then (
  fX12_leaf_246 N v0 v1 h) else
  if t17 = 12 then (
  fX12_leaf_246 N v0 v1 h) else
  if t17 = 13 then (
  fX12_leaf_246 N v0 v1 h) else
  if t17 = 14 then (
  fX12_leaf_246 N v0 v1 h) else
  if t17 = 15 then (
  fX12_leaf_246 N v0 v1 h) else
  if t17 = 16 then (
  fX12_leaf_246 N v0 v1 h) else
  if t17 = 17 then (
  fX12_leaf_246 N v0 v1 h) else
  if t17 = 18 then (
  fX12_leaf_246 N v0 v1 h) else
  if t17 = 19 then (
  (getR h v0 12 98).bind fun t46 =>
  (getR h v0 12 95).bind fun t47 =>
  (ldI h t47 (t15 - (1 : Int32))).bind fun t48 =>
  (getR h v0 12 19).bind fun t49 =>
  (ldI h t49 v1).bind fun t50 =>
  (ldI h t46 (t48 + t50)).bind fun t51 =>
  (getR h v0 12 99).bind fun t52 =>
  (getR h v0 12 95).bind fun t53 =>
  (ldI h t53 (t15 - (1 : Int32))).bind fun t54 =>
  (getR h v0 12 19).bind fun t55 =>
  (ldI h t55 v1).bind fun t56 =>
  (ldZ h t52 (t54 + t56)).bind fun t57 =>
  (fX12_push N v0 t51 t57 h).bind fun h58 =>
  some h58) else
  if t17 = 20 then (
  (getR h v0 12 84).bind fun t59 =>
  (getR h v0 12 94).bind fun t60 =>
  (ldI h t60 (t15 - (1 : Int32))).bind fun t61 =>
  (ldI h t59 t61).bind fun t62 =>
  (getR h v0 12 19).bind fun t63 =>
  (ldI h t63 v1).bind fun t64 =>
  (getR h v0 12 91).bind fun t65 =>
  (ldI h t65 (t62 + t64)).bind fun t66 =>
  (getR h v0 12 92).bind fun t67 =>
  (ldZ h t67 (t62 + t64)).bind fun t68 =>
  (fX12_push N v0 t66 t68 h).bind fun h69 =>
  some h69) else
  if t17 = 21 then (
  fX12_leaf_116 N v0 v1 h) else
  fX12_leaf_246 N v0 v1 h) else none
theorem oX12_leaf {N : Nat} {v0 : Nat} {v1 : Int32} {h : pH} {q : pH} (hf : fX12_leaf N v0 v1 h = some q) : isO h v0 12 = true := by
  unfold fX12_leaf at hf
  by_cases hc : isO h v0 12 = true
  · exact hc
  · rw [if_neg hc] at hf; cases hf
theorem cX12_leaf (X : pX) (N d : Nat) (v0 : Nat) (v1 : Int32) (h : pH) (q : pH) (hf : fX12_leaf N v0 v1 h = some q) : Calls X (d + 3) 320 [.ref v0, .int v1] h (none, q, 0, 0) := by
  refine Calls.of M320 (Nat.le_of_ble_eq_true rfl) ?_
  show Run X (d + 3) 12 false (pCd 9228) 4 none 0 [(0, .ref v0), (1, .int v1)] [] h 0 0 (none, q, 0, 0)
  unfold fX12_leaf at hf
  by_cases hc : isO h v0 12 = true
  · rw [if_pos hc] at hf
    have nv0 : ¬ v0 = 4 := isO_ne hc
    refine r_aload_n (dGet dX12_leaf (j := 0) rfl) nv0 rfl ?_
    obtain ⟨t15, et15, hf⟩ := Option.bind_eq_some_iff.mp hf
    refine r_getI (dGet dX12_leaf (j := 1) rfl) F12_554 et15 ?_
    refine r_iconst (dGet dX12_leaf (j := 2) rfl) kI_1 ?_
    refine r_isub (dGet dX12_leaf (j := 3) rfl) ?_
    refine r_istore_n (lv' := [(2, .int (t15 - (1 : Int32))), (0, .ref v0), (1, .int v1)]) (dGet dX12_leaf (j := 4) rfl) (by decide) rfl ?_
    refine r_aload_n (dGet dX12_leaf (j := 5) rfl) nv0 rfl ?_
    obtain ⟨t16, et16, hf⟩ := Option.bind_eq_some_iff.mp hf
    refine r_getR (dGet dX12_leaf (j := 6) rfl) F12_25 et16 ?_
    refine r_iload_n (dGet dX12_leaf (j := 7) rfl) rfl ?_
    obtain ⟨t17, et17, hf⟩ := Option.bind_eq_some_iff.mp hf
    refine r_iald (dGet dX12_leaf (j := 8) rfl) et17 ?_
    by_cases c18 : t17 = 0
    · rw [if_pos c18] at hf
      refine r_table (off := 103) (dGet dX12_leaf (j := 9) rfl) (by rw [c18]; decide) rfl ?_
      refine Run.weak [(0, .ref v0), (1, .int v1)] (by simp) (by simp [pNd]) ?_
      exact lX12_leaf_116 X N d v0 v1 h q hf nv0
    rw [if_neg c18] at hf
    by_cases c19 : t17 = 1
    · rw [if_pos c19] at hf
      refine r_table (off := 117) (dGet dX12_leaf (j := 9) rfl) (by rw [c19]; decide) rfl ?_
      refine r_aload_n (dGet dX12_leaf (j := 18) rfl) nv0 rfl ?_
      refine r_iconst (dGet dX12_leaf (j := 19) rfl) kI_m1 ?_
      refine r_iconst (dGet dX12_leaf (j := 20) rfl) kI_1 ?_
      obtain ⟨h40, eh40, hf⟩ := Option.bind_eq_some_iff.mp hf
      refine r_virtual (dGet dX12_leaf (j := 21) rfl) L12_623 M321 rfl rfl (Nat.le_of_ble_eq_true rfl) (oX12_push eh40) (cX12_push X N (d + 2) v0 (-1 : Int32) (1 : Int32) h h40 eh40) ?_
      refine r_goto (dGet dX12_leaf (j := 22) rfl) rfl ?_
      have hq := Option.some.inj hf
      subst hq
      exact r_vret (dGet dX12_leaf (j := 116) rfl) rfl
    rw [if_neg c19] at hf
    by_cases c20 : t17 = 2
    · rw [if_pos c20] at hf
      refine r_table (off := 126) (dGet dX12_leaf (j := 9) rfl) (by rw [c20]; decide) rfl ?_
      refine r_aload_n (dGet dX12_leaf (j := 23) rfl) nv0 rfl ?_
      refine r_aload_n (dGet dX12_leaf (j := 24) rfl) nv0 rfl ?_
      obtain ⟨t41, et41, hf⟩ := Option.bind_eq_some_iff.mp hf
      refine r_getR (dGet dX12_leaf (j := 25) rfl) F12_178 et41 ?_
      refine r_iload_n (dGet dX12_leaf (j := 26) rfl) rfl ?_
      obtain ⟨t42, et42, hf⟩ := Option.bind_eq_some_iff.mp hf
      refine r_iald (dGet dX12_leaf (j := 27) rfl) et42 ?_
      refine r_iconst (dGet dX12_leaf (j := 28) rfl) kI_1 ?_
      obtain ⟨h43, eh43, hf⟩ := Option.bind_eq_some_iff.mp hf
      refine r_virtual (dGet dX12_leaf (j := 29) rfl) L12_623 M321 rfl rfl (Nat.le_of_ble_eq_true rfl) (oX12_push eh43) (cX12_push X N (d + 2) v0 t42 (1 : Int32) h h43 eh43) ?_
      refine r_goto (dGet dX12_leaf (j := 30) rfl) rfl ?_
      have hq := Option.some.inj hf
      subst hq
      exact r_vret (dGet dX12_leaf (j := 116) rfl) rfl
    rw [if_neg c20] at hf
    by_cases c21 : t17 = 3
    · rw [if_pos c21] at hf
      refine r_table (off := 140) (dGet dX12_leaf (j := 9) rfl) (by rw [c21]; decide) rfl ?_
      refine r_aload_n (dGet dX12_leaf (j := 31) rfl) nv0 rfl ?_
      refine r_aload_n (dGet dX12_leaf (j := 32) rfl) nv0 rfl ?_
      obtain ⟨q44, eq44, hf⟩ := Option.bind_eq_some_iff.mp hf
      refine r_virtual (dGet dX12_leaf (j := 33) rfl) L12_626 M322 rfl rfl (Nat.le_of_ble_eq_true rfl) (oX12_nextInput eq44) (cX12_nextInput X N (d + 2) v0 h q44 eq44) ?_
      refine r_iconst (dGet dX12_leaf (j := 34) rfl) kI_0 ?_
      obtain ⟨h45, eh45, hf⟩ := Option.bind_eq_some_iff.mp hf
      refine r_virtual (dGet dX12_leaf (j := 35) rfl) L12_623 M321 rfl rfl (Nat.le_of_ble_eq_true rfl) (oX12_push eh45) (cX12_push X N (d + 2) v0 q44.1 (0 : Int32) q44.2 h45 eh45) ?_
      refine r_goto (dGet dX12_leaf (j := 36) rfl) rfl ?_
      have hq := Option.some.inj hf
      subst hq
      exact r_vret (dGet dX12_leaf (j := 116) rfl) rfl
    rw [if_neg c21] at hf
    by_cases c22 : t17 = 4
    · rw [if_pos c22] at hf
      refine r_table (off := 233) (dGet dX12_leaf (j := 9) rfl) (by rw [c22]; decide) rfl ?_
      refine Run.weak [(0, .ref v0), (1, .int v1)] (by simp) (by simp [pNd]) ?_
      exact lX12_leaf_246 X N d v0 v1 h q hf nv0
    rw [if_neg c22] at hf
    by_cases c23 : t17 = 5
    · rw [if_pos c23] at hf
      refine r_table (off := 233) (dGet dX12_leaf (j := 9) rfl) (by rw [c23]; decide) rfl ?_
      refine Run.weak [(0, .ref v0), (1, .int v1)] (by simp) (by simp [pNd]) ?_
      exact lX12_leaf_246 X N d v0 v1 h q hf nv0
    rw [if_neg c23] at hf
    by_cases c24 : t17 = 6
    · rw [if_pos c24] at hf
      refine r_table (off := 233) (dGet dX12_leaf (j := 9) rfl) (by rw [c24]; decide) rfl ?_
      refine Run.weak [(0, .ref v0), (1, .int v1)] (by simp) (by simp [pNd]) ?_
      exact lX12_leaf_246 X N d v0 v1 h q hf nv0
    rw [if_neg c24] at hf
    by_cases c25 : t17 = 7
    · rw [if_pos c25] at hf
      refine r_table (off := 233) (dGet dX12_leaf (j := 9) rfl) (by rw [c25]; decide) rfl ?_
      refine Run.weak [(0, .ref v0), (1, .int v1)] (by simp) (by simp [pNd]) ?_
      exact lX12_leaf_246 X N d v0 v1 h q hf nv0
    rw [if_neg c25] at hf
    by_cases c26 : t17 = 8
    · rw [if_pos c26] at hf
      refine r_table (off := 233) (dGet dX12_leaf (j := 9) rfl) (by rw [c26]; decide) rfl ?_
      refine Run.weak [(0, .ref v0), (1, .int v1)] (by simp) (by simp [pNd]) ?_
      exact lX12_leaf_246 X N d v0 v1 h q hf nv0
    rw [if_neg c26] at hf
    by_cases c27 : t17 = 9
    · rw [if_pos c27] at hf
      refine r_table (off := 233) (dGet dX12_leaf (j := 9) rfl) (by rw [c27]; decide) rfl ?_
      refine Run.weak [(0, .ref v0), (1, .int v1)] (by simp) (by simp [pNd]) ?_
      exact lX12_leaf_246 X N d v0 v1 h q hf nv0
    rw [if_neg c27] at hf
    by_cases c28 : t17 = 10
    · rw [if_pos c28] at hf
      refine r_table (off := 233) (dGet dX12_leaf (j := 9) rfl) (by rw [c28]; decide) rfl ?_
      refine Run.weak [(0, .ref v0), (1, .int v1)] (by simp) (by simp [pNd]) ?_
      exact lX12_leaf_246 X N d v0 v1 h q hf nv0
    rw [if_neg c28] at hf
    by_cases c29 : t17 = 11
    · rw [if_pos c29] at hf
      refine r_table (off := 233) (dGet dX12_leaf (j := 9) rfl) (by rw [c29]; decide) rfl ?_
      refine Run.weak [(0, .ref v0), (1, .int v1)] (by simp) (by simp [pNd]) ?_
      exact lX12_leaf_246 X N d v0 v1 h q hf nv0
    rw [if_neg c29] at hf
    by_cases c30 : t17 = 12
    · rw [if_pos c30] at hf
      refine r_table (off := 233) (dGet dX12_leaf (j := 9) rfl) (by rw [c30]; decide) rfl ?_
      refine Run.weak [(0, .ref v0), (1, .int v1)] (by simp) (by simp [pNd]) ?_
      exact lX12_leaf_246 X N d v0 v1 h q hf nv0
    rw [if_neg c30] at hf
    by_cases c31 : t17 = 13
    · rw [if_pos c31] at hf
      refine r_table (off := 233) (dGet dX12_leaf (j := 9) rfl) (by rw [c31]; decide) rfl ?_
      refine Run.weak [(0, .ref v0), (1, .int v1)] (by simp) (by simp [pNd]) ?_
      exact lX12_leaf_246 X N d v0 v1 h q hf nv0
    rw [if_neg c31] at hf
    by_cases c32 : t17 = 14
    · rw [if_pos c32] at hf
      refine r_table (off := 233) (dGet dX12_leaf (j := 9) rfl) (by rw [c32]; decide) rfl ?_
      refine Run.weak [(0, .ref v0), (1, .int v1)] (by simp) (by simp [pNd]) ?_
      exact lX12_leaf_246 X N d v0 v1 h q hf nv0
    rw [if_neg c32] at hf
    by_cases c33 : t17 = 15
    · rw [if_pos c33] at hf
      refine r_table (off := 233) (dGet dX12_leaf (j := 9) rfl) (by rw [c33]; decide) rfl ?_
      refine Run.weak [(0, .ref v0), (1, .int v1)] (by simp) (by simp [pNd]) ?_
      exact lX12_leaf_246 X N d v0 v1 h q hf nv0
    rw [if_neg c33] at hf
    by_cases c34 : t17 = 16
    · rw [if_pos c34] at hf
      refine r_table (off := 233) (dGet dX12_leaf (j := 9) rfl) (by rw [c34]; decide) rfl ?_
      refine Run.weak [(0, .ref v0), (1, .int v1)] (by simp) (by simp [pNd]) ?_
      exact lX12_leaf_246 X N d v0 v1 h q hf nv0
    rw [if_neg c34] at hf
    by_cases c35 : t17 = 17
    · rw [if_pos c35] at hf
      refine r_table (off := 233) (dGet dX12_leaf (j := 9) rfl) (by rw [c35]; decide) rfl ?_
      refine Run.weak [(0, .ref v0), (1, .int v1)] (by simp) (by simp [pNd]) ?_
      exact lX12_leaf_246 X N d v0 v1 h q hf nv0
    rw [if_neg c35] at hf
    by_cases c36 : t17 = 18
    · rw [if_pos c36] at hf
      refine r_table (off := 233) (dGet dX12_leaf (j := 9) rfl) (by rw [c36]; decide) rfl ?_
      refine Run.weak [(0, .ref v0), (1, .int v1)] (by simp) (by simp [pNd]) ?_
      exact lX12_leaf_246 X N d v0 v1 h q hf nv0
    rw [if_neg c36] at hf
    by_cases c37 : t17 = 19
    · rw [if_pos c37] at hf
      refine r_table (off := 152) (dGet dX12_leaf (j := 9) rfl) (by rw [c37]; decide) rfl ?_
      refine r_aload_n (dGet dX12_leaf (j := 37) rfl) nv0 rfl ?_
      refine r_aload_n (dGet dX12_leaf (j := 38) rfl) nv0 rfl ?_
      obtain ⟨t46, et46, hf⟩ := Option.bind_eq_some_iff.mp hf
      refine r_getR (dGet dX12_leaf (j := 39) rfl) F12_191 et46 ?_
      refine r_aload_n (dGet dX12_leaf (j := 40) rfl) nv0 rfl ?_
      obtain ⟨t47, et47, hf⟩ := Option.bind_eq_some_iff.mp hf
      refine r_getR (dGet dX12_leaf (j := 41) rfl) F12_181 et47 ?_
      refine r_iload_n (dGet dX12_leaf (j := 42) rfl) rfl ?_
      obtain ⟨t48, et48, hf⟩ := Option.bind_eq_some_iff.mp hf
      refine r_iald (dGet dX12_leaf (j := 43) rfl) et48 ?_
      refine r_aload_n (dGet dX12_leaf (j := 44) rfl) nv0 rfl ?_
      obtain ⟨t49, et49, hf⟩ := Option.bind_eq_some_iff.mp hf
      refine r_getR (dGet dX12_leaf (j := 45) rfl) F12_34 et49 ?_
      refine r_iload_n (dGet dX12_leaf (j := 46) rfl) rfl ?_
      obtain ⟨t50, et50, hf⟩ := Option.bind_eq_some_iff.mp hf
      refine r_iald (dGet dX12_leaf (j := 47) rfl) et50 ?_
      refine r_iadd (dGet dX12_leaf (j := 48) rfl) ?_
      obtain ⟨t51, et51, hf⟩ := Option.bind_eq_some_iff.mp hf
      refine r_iald (dGet dX12_leaf (j := 49) rfl) et51 ?_
      refine r_aload_n (dGet dX12_leaf (j := 50) rfl) nv0 rfl ?_
      obtain ⟨t52, et52, hf⟩ := Option.bind_eq_some_iff.mp hf
      refine r_getR (dGet dX12_leaf (j := 51) rfl) F12_194 et52 ?_
      refine r_aload_n (dGet dX12_leaf (j := 52) rfl) nv0 rfl ?_
      obtain ⟨t53, et53, hf⟩ := Option.bind_eq_some_iff.mp hf
      refine r_getR (dGet dX12_leaf (j := 53) rfl) F12_181 et53 ?_
      refine r_iload_n (dGet dX12_leaf (j := 54) rfl) rfl ?_
      obtain ⟨t54, et54, hf⟩ := Option.bind_eq_some_iff.mp hf
      refine r_iald (dGet dX12_leaf (j := 55) rfl) et54 ?_
      refine r_aload_n (dGet dX12_leaf (j := 56) rfl) nv0 rfl ?_
      obtain ⟨t55, et55, hf⟩ := Option.bind_eq_some_iff.mp hf
      refine r_getR (dGet dX12_leaf (j := 57) rfl) F12_34 et55 ?_
      refine r_iload_n (dGet dX12_leaf (j := 58) rfl) rfl ?_
      obtain ⟨t56, et56, hf⟩ := Option.bind_eq_some_iff.mp hf
      refine r_iald (dGet dX12_leaf (j := 59) rfl) et56 ?_
      refine r_iadd (dGet dX12_leaf (j := 60) rfl) ?_
      obtain ⟨t57, et57, hf⟩ := Option.bind_eq_some_iff.mp hf
      refine r_zald (dGet dX12_leaf (j := 61) rfl) et57 ?_
      obtain ⟨h58, eh58, hf⟩ := Option.bind_eq_some_iff.mp hf
      refine r_virtual (dGet dX12_leaf (j := 62) rfl) L12_623 M321 rfl rfl (Nat.le_of_ble_eq_true rfl) (oX12_push eh58) (cX12_push X N (d + 2) v0 t51 t57 h h58 eh58) ?_
      refine r_goto (dGet dX12_leaf (j := 63) rfl) rfl ?_
      have hq := Option.some.inj hf
      subst hq
      exact r_vret (dGet dX12_leaf (j := 116) rfl) rfl
    rw [if_neg c37] at hf
    by_cases c38 : t17 = 20
    · rw [if_pos c38] at hf
      refine r_table (off := 195) (dGet dX12_leaf (j := 9) rfl) (by rw [c38]; decide) rfl ?_
      refine r_aload_n (dGet dX12_leaf (j := 64) rfl) nv0 rfl ?_
      obtain ⟨t59, et59, hf⟩ := Option.bind_eq_some_iff.mp hf
      refine r_getR (dGet dX12_leaf (j := 65) rfl) F12_157 et59 ?_
      refine r_aload_n (dGet dX12_leaf (j := 66) rfl) nv0 rfl ?_
      obtain ⟨t60, et60, hf⟩ := Option.bind_eq_some_iff.mp hf
      refine r_getR (dGet dX12_leaf (j := 67) rfl) F12_178 et60 ?_
      refine r_iload_n (dGet dX12_leaf (j := 68) rfl) rfl ?_
      obtain ⟨t61, et61, hf⟩ := Option.bind_eq_some_iff.mp hf
      refine r_iald (dGet dX12_leaf (j := 69) rfl) et61 ?_
      obtain ⟨t62, et62, hf⟩ := Option.bind_eq_some_iff.mp hf
      refine r_iald (dGet dX12_leaf (j := 70) rfl) et62 ?_
      refine r_aload_n (dGet dX12_leaf (j := 71) rfl) nv0 rfl ?_
      obtain ⟨t63, et63, hf⟩ := Option.bind_eq_some_iff.mp hf
      refine r_getR (dGet dX12_leaf (j := 72) rfl) F12_34 et63 ?_
      refine r_iload_n (dGet dX12_leaf (j := 73) rfl) rfl ?_
      obtain ⟨t64, et64, hf⟩ := Option.bind_eq_some_iff.mp hf
      refine r_iald (dGet dX12_leaf (j := 74) rfl) et64 ?_
      refine r_iadd (dGet dX12_leaf (j := 75) rfl) ?_
      refine r_istore_n (lv' := [(3, .int (t62 + t64)), (2, .int (t15 - (1 : Int32))), (0, .ref v0), (1, .int v1)]) (dGet dX12_leaf (j := 76) rfl) (by decide) rfl ?_
      refine r_aload_n (dGet dX12_leaf (j := 77) rfl) nv0 rfl ?_
      refine r_aload_n (dGet dX12_leaf (j := 78) rfl) nv0 rfl ?_
      obtain ⟨t65, et65, hf⟩ := Option.bind_eq_some_iff.mp hf
      refine r_getR (dGet dX12_leaf (j := 79) rfl) F12_172 et65 ?_
      refine r_iload_n (dGet dX12_leaf (j := 80) rfl) rfl ?_
      obtain ⟨t66, et66, hf⟩ := Option.bind_eq_some_iff.mp hf
      refine r_iald (dGet dX12_leaf (j := 81) rfl) et66 ?_
      refine r_aload_n (dGet dX12_leaf (j := 82) rfl) nv0 rfl ?_
      obtain ⟨t67, et67, hf⟩ := Option.bind_eq_some_iff.mp hf
      refine r_getR (dGet dX12_leaf (j := 83) rfl) F12_175 et67 ?_
      refine r_iload_n (dGet dX12_leaf (j := 84) rfl) rfl ?_
      obtain ⟨t68, et68, hf⟩ := Option.bind_eq_some_iff.mp hf
      refine r_zald (dGet dX12_leaf (j := 85) rfl) et68 ?_
      obtain ⟨h69, eh69, hf⟩ := Option.bind_eq_some_iff.mp hf
      refine r_virtual (dGet dX12_leaf (j := 86) rfl) L12_623 M321 rfl rfl (Nat.le_of_ble_eq_true rfl) (oX12_push eh69) (cX12_push X N (d + 2) v0 t66 t68 h h69 eh69) ?_
      refine r_goto (dGet dX12_leaf (j := 87) rfl) rfl ?_
      have hq := Option.some.inj hf
      subst hq
      exact r_vret (dGet dX12_leaf (j := 116) rfl) rfl
    rw [if_neg c38] at hf
    by_cases c39 : t17 = 21
    · rw [if_pos c39] at hf
      refine r_table (off := 103) (dGet dX12_leaf (j := 9) rfl) (by rw [c39]; decide) rfl ?_
      refine Run.weak [(0, .ref v0), (1, .int v1)] (by simp) (by simp [pNd]) ?_
      exact lX12_leaf_116 X N d v0 v1 h q hf nv0
    rw [if_neg c39] at hf
    refine r_table (dGet dX12_leaf (j := 9) rfl) (pTable_out (cs := [0, 1, 2, 3, 4, 5, 6, 7, 8, 9, 10, 11, 12, 13, 14, 15, 16, 17, 18, 19, 20, 21]) (by decide) (by decide) (by decide) (List.forall_mem_cons.mpr ⟨c18, List.forall_mem_cons.mpr ⟨c19, List.forall_mem_cons.mpr ⟨c20, List.forall_mem_cons.mpr ⟨c21, List.forall_mem_cons.mpr ⟨c22, List.forall_mem_cons.mpr ⟨c23, List.forall_mem_cons.mpr ⟨c24, List.forall_mem_cons.mpr ⟨c25, List.forall_mem_cons.mpr ⟨c26, List.forall_mem_cons.mpr ⟨c27, List.forall_mem_cons.mpr ⟨c28, List.forall_mem_cons.mpr ⟨c29, List.forall_mem_cons.mpr ⟨c30, List.forall_mem_cons.mpr ⟨c31, List.forall_mem_cons.mpr ⟨c32, List.forall_mem_cons.mpr ⟨c33, List.forall_mem_cons.mpr ⟨c34, List.forall_mem_cons.mpr ⟨c35, List.forall_mem_cons.mpr ⟨c36, List.forall_mem_cons.mpr ⟨c37, List.forall_mem_cons.mpr ⟨c38, List.forall_mem_cons.mpr ⟨c39, fun _ h => absurd h List.not_mem_nil⟩⟩⟩⟩⟩⟩⟩⟩⟩⟩⟩⟩⟩⟩⟩⟩⟩⟩⟩⟩⟩⟩)) rfl ?_
    refine Run.weak [(0, .ref v0), (1, .int v1)] (by simp) (by simp [pNd]) ?_
    exact lX12_leaf_246 X N d v0 v1 h q hf nv0
  · rw [if_neg hc] at hf; cases hf
def eX12_member : List (Nat × Instr × Nat) := [(0, .aload_n 0, 1), (1, .getfield 403, 3), (4, .istore_n 1, 1), (5, .aload_n 0, 1), (6, .iconst 5, 1), (7, .invokevirtual 330, 3), (10, .istore_n 2, 1), (11, .aload_n 0, 1), (12, .getfield 103, 3), (15, .iload_n 1, 1), (16, .iconst 3, 1), (17, .iastore, 1), (18, .iload_n 2, 1), (19, .ifCond .eq 10, 3), (22, .aload_n 0, 1), (23, .invokevirtual 289, 3), (26, .goto 13, 3), (29, .aload_n 0, 1), (30, .getfield 103, 3), (33, .iload_n 1, 1), (34, .aload_n 0, 1), (35, .invokevirtual 385, 3), (38, .iastore, 1), (39, .aload_n 0, 1), (40, .getfield 100, 3), (43, .iload_n 1, 1), (44, .aload_n 0, 1), (45, .getfield 246, 3), (48, .iastore, 1), (49, .aload_n 0, 1), (50, .getfield 97, 3), (53, .iload_n 1, 1), (54, .aload_n 0, 1), (55, .invokevirtual 333, 3), (58, .iastore, 1), (59, .aload_n 0, 1), (60, .dup, 1), (61, .getfield 403, 3), (64, .iconst 1, 1), (65, .iadd, 1), (66, .putfield 403, 3), (69, .aload_n 0, 1), (70, .getfield 106, 3), (73, .iload_n 1, 1), (74, .iload_n 2, 1), (75, .ifCond .ne 12, 3), (78, .aload_n 0, 1), (79, .bipush 40, 2), (81, .invokevirtual 295, 3), (84, .ifCond .eq 7, 3), (87, .iconst 1, 1), (88, .goto 4, 3), (91, .iconst 0, 1), (92, .bastore, 1), (93, .aload_n 0, 1), (94, .getfield 110, 3), (97, .iload_n 1, 1), (98, .aload_n 0, 1), (99, .getfield 406, 3), (102, .iastore, 1), (103, .aload_n 0, 1), (104, .getfield 110, 3), (107, .iload_n 1, 1), (108, .iconst 1, 1), (109, .iadd, 1), (110, .aload_n 0, 1), (111, .getfield 406, 3), (114, .iastore, 1), (115, .aload_n 0, 1), (116, .getfield 106, 3), (119, .iload_n 1, 1), (120, .baload, 1), (121, .ifCond .ne 15, 3), (124, .aload_n 0, 1), (125, .aload_n 0, 1), (126, .bipush 59, 2), (128, .invokevirtual 295, 3), (131, .invokevirtual 298, 3), (134, .istore_n 3, 1), (135, .return_, 1), (136, .aload_n 0, 1), (137, .aload_n 0, 1), (138, .bipush 40, 2), (140, .invokevirtual 295, 3), (143, .invokevirtual 339, 3), (146, .ifCond .ne 4, 3), (149, .return_, 1), (150, .aload_n 0, 1), (151, .bipush 41, 2), (153, .invokevirtual 295, 3), (156, .ifCond .ne 7, 3), (159, .iconst 1, 1), (160, .goto 4, 3), (163, .iconst 0, 1), (164, .istore_n 3, 1), (165, .iload_n 3, 1), (166, .ifCond .eq 64, 3), (169, .aload_n 0, 1), (170, .getfield 283, 3), (173, .ifCond .ge 57, 3), (176, .aload_n 0, 1), (177, .getfield 122, 3), (180, .aload_n 0, 1), (181, .getfield 406, 3), (184, .aload_n 0, 1), (185, .invokevirtual 385, 3), (188, .iastore, 1), (189, .aload_n 0, 1), (190, .getfield 125, 3), (193, .aload_n 0, 1), (194, .getfield 406, 3), (197, .aload_n 0, 1), (198, .invokevirtual 333, 3), (201, .iastore, 1), (202, .aload_n 0, 1), (203, .dup, 1), (204, .getfield 406, 3), (207, .iconst 1, 1), (208, .iadd, 1), (209, .putfield 406, 3), (212, .aload_n 0, 1), (213, .bipush 44, 2), (215, .invokevirtual 295, 3), (218, .istore_n 3, 1), (219, .iload_n 3, 1), (220, .ifCond .eq (-55), 3), (223, .aload_n 0, 1), (224, .invokevirtual 289, 3), (227, .goto (-62), 3), (230, .aload_n 0, 1), (231, .bipush 41, 2), (233, .invokevirtual 352, 3), (236, .aload_n 0, 1), (237, .getfield 110, 3), (240, .iload_n 1, 1), (241, .iconst 1, 1), (242, .iadd, 1), (243, .aload_n 0, 1), (244, .getfield 406, 3), (247, .iastore, 1), (248, .aload_n 0, 1), (249, .getfield 113, 3), (252, .iload_n 1, 1), (253, .aload_n 0, 1), (254, .invokevirtual 391, 3), (257, .iastore, 1), (258, .aload_n 0, 1), (259, .getfield 116, 3), (262, .iload_n 1, 1), (263, .aload_n 0, 1), (264, .getfield 372, 3), (267, .iastore, 1), (268, .return_, 1)]
theorem dX12_member : dChk (pCd 8179) eX12_member = true := by decide +kernel
def fX12_member_230 (N : Nat) (v0 : Nat) (v1 : Int32) (h : pH) : Option (pH) :=
  (fX12_closes N v0 (41 : Int32) h).bind fun h1 =>
  (getR h1 v0 12 49).bind fun t2 =>
  (getI h1 v0 12 53).bind fun t3 =>
  (stI h1 t2 (v1 + (1 : Int32)) t3).bind fun h4 =>
  (getR h4 v0 12 50).bind fun t5 =>
  (if isO h4 v0 12 = true then some () else none).bind fun _ =>
  (rcI (gX12_statement N 200) 253 [.ref v0] h4).bind fun q6 =>
  (stI q6.2 t5 v1 q6.1).bind fun h8 =>
  (getR h8 v0 12 51).bind fun t9 =>
  (getI h8 v0 12 57).bind fun t10 =>
  (stI h8 t9 v1 t10).bind fun h11 =>
  some h11
theorem lX12_member_230 (X : pX) (N d : Nat)  (v0 : Nat) (v1 : Int32) (h : pH) (q : pH) (hf : fX12_member_230 N v0 v1 h = some q) (nv0 : ¬ v0 = 4) : Run X (d + 806) 12 false (pCd 8179) 4 none 230 [(0, .ref v0), (1, .int v1)] [] h 0 0 (none, q, 0, 0) := by
  unfold fX12_member_230 at hf
  refine r_aload_n (dGet dX12_member (j := 129) rfl) nv0 rfl ?_
  refine r_bipush (dGet dX12_member (j := 130) rfl) kB_41 ?_
  obtain ⟨h1, eh1, hf⟩ := Option.bind_eq_some_iff.mp hf
  refine r_virtual (dGet dX12_member (j := 131) rfl) L12_352 M252 rfl rfl (Nat.le_of_ble_eq_true rfl) (oX12_closes eh1) (cX12_closes X N (d + 801) v0 (41 : Int32) h h1 eh1) ?_
  refine r_aload_n (dGet dX12_member (j := 132) rfl) nv0 rfl ?_
  obtain ⟨t2, et2, hf⟩ := Option.bind_eq_some_iff.mp hf
  refine r_getR (dGet dX12_member (j := 133) rfl) F12_110 et2 ?_
  refine r_iload_n (dGet dX12_member (j := 134) rfl) rfl ?_
  refine r_iconst (dGet dX12_member (j := 135) rfl) kI_1 ?_
  refine r_iadd (dGet dX12_member (j := 136) rfl) ?_
  refine r_aload_n (dGet dX12_member (j := 137) rfl) nv0 rfl ?_
  obtain ⟨t3, et3, hf⟩ := Option.bind_eq_some_iff.mp hf
  refine r_getI (dGet dX12_member (j := 138) rfl) F12_406 et3 ?_
  obtain ⟨h4, eh4, hf⟩ := Option.bind_eq_some_iff.mp hf
  refine r_iast (dGet dX12_member (j := 139) rfl) eh4 ?_
  refine r_aload_n (dGet dX12_member (j := 140) rfl) nv0 rfl ?_
  obtain ⟨t5, et5, hf⟩ := Option.bind_eq_some_iff.mp hf
  refine r_getR (dGet dX12_member (j := 141) rfl) F12_113 et5 ?_
  refine r_iload_n (dGet dX12_member (j := 142) rfl) rfl ?_
  refine r_aload_n (dGet dX12_member (j := 143) rfl) nv0 rfl ?_
  obtain ⟨_, ec7, hf⟩ := Option.bind_eq_some_iff.mp hf
  obtain ⟨q6, eq6, hf⟩ := Option.bind_eq_some_iff.mp hf
  refine r_virtual (dGet dX12_member (j := 144) rfl) L12_391 M253 rfl rfl (Nat.le_of_ble_eq_true rfl) (guard_of ec7) (rcI_calls (gX12_statement_calls X N (d + 0) 200) eq6) ?_
  obtain ⟨h8, eh8, hf⟩ := Option.bind_eq_some_iff.mp hf
  refine r_iast (dGet dX12_member (j := 145) rfl) eh8 ?_
  refine r_aload_n (dGet dX12_member (j := 146) rfl) nv0 rfl ?_
  obtain ⟨t9, et9, hf⟩ := Option.bind_eq_some_iff.mp hf
  refine r_getR (dGet dX12_member (j := 147) rfl) F12_116 et9 ?_
  refine r_iload_n (dGet dX12_member (j := 148) rfl) rfl ?_
  refine r_aload_n (dGet dX12_member (j := 149) rfl) nv0 rfl ?_
  obtain ⟨t10, et10, hf⟩ := Option.bind_eq_some_iff.mp hf
  refine r_getI (dGet dX12_member (j := 150) rfl) F12_372 et10 ?_
  obtain ⟨h11, eh11, hf⟩ := Option.bind_eq_some_iff.mp hf
  refine r_iast (dGet dX12_member (j := 151) rfl) eh11 ?_
  have hq := Option.some.inj hf
  subst hq
  exact r_vret (dGet dX12_member (j := 152) rfl) rfl
def fX12_member_165 (N : Nat) : Nat → Nat → Int32 → Int32 → pH → Option (pH)
  | 0, _, _, _, _ => none
  | n + 1, v0, v1, v3, h => if v3 = 0 then (
  fX12_member_230 N v0 v1 h) else (
  (getI h v0 12 9).bind fun t13 =>
  if 0 ≤ t13 then (
  fX12_member_230 N v0 v1 h) else (
  (getR h v0 12 54).bind fun t15 =>
  (getI h v0 12 53).bind fun t16 =>
  (fX12_type N v0 h).bind fun q17 =>
  (stI q17.2 t15 t16 q17.1).bind fun h18 =>
  (getR h18 v0 12 55).bind fun t19 =>
  (getI h18 v0 12 53).bind fun t20 =>
  (fX12_name N v0 h18).bind fun q21 =>
  (stI q21.2 t19 t20 q21.1).bind fun h22 =>
  (getI h22 v0 12 53).bind fun t23 =>
  (putI h22 v0 12 53 (t23 + (1 : Int32))).bind fun h24 =>
  (fX12_isSign N v0 (44 : Int32) h24).bind fun q25 =>
  if q25.1 = 0 then (
  fX12_member_165 N n v0 v1 q25.1 q25.2) else (
  (fX12_next N v0 q25.2).bind fun h27 =>
  fX12_member_165 N n v0 v1 q25.1 h27)))
theorem lX12_member_165 (X : pX) (N d : Nat)  : ∀ (n : Nat) (v0 : Nat) (v1 : Int32) (v3 : Int32) (h : pH) (q : pH), fX12_member_165 N n v0 v1 v3 h = some q → ¬ v0 = 4 → Run X (d + 806) 12 false (pCd 8179) 4 none 165 [(0, .ref v0), (1, .int v1), (3, .int v3)] [] h 0 0 (none, q, 0, 0) := by
  intro n
  induction n with
  | zero => intro v0 v1 v3 h q hf; cases hf
  | succ n ih =>
    intro v0 v1 v3 h q hf nv0
    unfold fX12_member_165 at hf
    refine r_iload_n (dGet dX12_member (j := 95) rfl) rfl ?_
    by_cases c12 : v3 = 0
    · rw [if_pos c12] at hf
      refine r_if_eq_t (dGet dX12_member (j := 96) rfl) rfl c12 ?_
      refine Run.weak [(0, .ref v0), (1, .int v1)] (by simp) (by simp [pNd]) ?_
      exact lX12_member_230 X N d v0 v1 h q hf nv0
    · rw [if_neg c12] at hf
      refine r_if_eq_f (dGet dX12_member (j := 96) rfl) rfl c12 ?_
      refine r_aload_n (dGet dX12_member (j := 97) rfl) nv0 rfl ?_
      obtain ⟨t13, et13, hf⟩ := Option.bind_eq_some_iff.mp hf
      refine r_getI (dGet dX12_member (j := 98) rfl) F12_283 et13 ?_
      by_cases c14 : 0 ≤ t13
      · rw [if_pos c14] at hf
        refine r_if_ge_t (dGet dX12_member (j := 99) rfl) rfl c14 ?_
        refine Run.weak [(0, .ref v0), (1, .int v1)] (by simp) (by simp [pNd]) ?_
        exact lX12_member_230 X N d v0 v1 h q hf nv0
      · rw [if_neg c14] at hf
        refine r_if_ge_f (dGet dX12_member (j := 99) rfl) rfl c14 ?_
        refine r_aload_n (dGet dX12_member (j := 100) rfl) nv0 rfl ?_
        obtain ⟨t15, et15, hf⟩ := Option.bind_eq_some_iff.mp hf
        refine r_getR (dGet dX12_member (j := 101) rfl) F12_122 et15 ?_
        refine r_aload_n (dGet dX12_member (j := 102) rfl) nv0 rfl ?_
        obtain ⟨t16, et16, hf⟩ := Option.bind_eq_some_iff.mp hf
        refine r_getI (dGet dX12_member (j := 103) rfl) F12_406 et16 ?_
        refine r_aload_n (dGet dX12_member (j := 104) rfl) nv0 rfl ?_
        obtain ⟨q17, eq17, hf⟩ := Option.bind_eq_some_iff.mp hf
        refine r_virtual (dGet dX12_member (j := 105) rfl) L12_385 M250 rfl rfl (Nat.le_of_ble_eq_true rfl) (oX12_type eq17) (cX12_type X N (d + 801) v0 h q17 eq17) ?_
        obtain ⟨h18, eh18, hf⟩ := Option.bind_eq_some_iff.mp hf
        refine r_iast (dGet dX12_member (j := 106) rfl) eh18 ?_
        refine r_aload_n (dGet dX12_member (j := 107) rfl) nv0 rfl ?_
        obtain ⟨t19, et19, hf⟩ := Option.bind_eq_some_iff.mp hf
        refine r_getR (dGet dX12_member (j := 108) rfl) F12_125 et19 ?_
        refine r_aload_n (dGet dX12_member (j := 109) rfl) nv0 rfl ?_
        obtain ⟨t20, et20, hf⟩ := Option.bind_eq_some_iff.mp hf
        refine r_getI (dGet dX12_member (j := 110) rfl) F12_406 et20 ?_
        refine r_aload_n (dGet dX12_member (j := 111) rfl) nv0 rfl ?_
        obtain ⟨q21, eq21, hf⟩ := Option.bind_eq_some_iff.mp hf
        refine r_virtual (dGet dX12_member (j := 112) rfl) L12_333 M246 rfl rfl (Nat.le_of_ble_eq_true rfl) (oX12_name eq21) (cX12_name X N (d + 801) v0 h18 q21 eq21) ?_
        obtain ⟨h22, eh22, hf⟩ := Option.bind_eq_some_iff.mp hf
        refine r_iast (dGet dX12_member (j := 113) rfl) eh22 ?_
        refine r_aload_n (dGet dX12_member (j := 114) rfl) nv0 rfl ?_
        refine r_dup (dGet dX12_member (j := 115) rfl) rfl ?_
        obtain ⟨t23, et23, hf⟩ := Option.bind_eq_some_iff.mp hf
        refine r_getI (dGet dX12_member (j := 116) rfl) F12_406 et23 ?_
        refine r_iconst (dGet dX12_member (j := 117) rfl) kI_1 ?_
        refine r_iadd (dGet dX12_member (j := 118) rfl) ?_
        obtain ⟨h24, eh24, hf⟩ := Option.bind_eq_some_iff.mp hf
        refine r_putI (dGet dX12_member (j := 119) rfl) F12_406 rfl rfl eh24 ?_
        refine r_aload_n (dGet dX12_member (j := 120) rfl) nv0 rfl ?_
        refine r_bipush (dGet dX12_member (j := 121) rfl) kB_44 ?_
        obtain ⟨q25, eq25, hf⟩ := Option.bind_eq_some_iff.mp hf
        refine r_virtual (dGet dX12_member (j := 122) rfl) L12_295 M247 rfl rfl (Nat.le_of_ble_eq_true rfl) (oX12_isSign eq25) (cX12_isSign X N (d + 805) v0 (44 : Int32) h24 q25 eq25) ?_
        refine r_istore_n (lv' := [(3, .int q25.1), (0, .ref v0), (1, .int v1)]) (dGet dX12_member (j := 123) rfl) (by decide) rfl ?_
        refine r_iload_n (dGet dX12_member (j := 124) rfl) rfl ?_
        by_cases c26 : q25.1 = 0
        · rw [if_pos c26] at hf
          refine r_if_eq_t (dGet dX12_member (j := 125) rfl) rfl c26 ?_
          refine Run.weak [(0, .ref v0), (1, .int v1), (3, .int q25.1)] (by simp) (by simp [pNd]) ?_
          exact ih v0 v1 q25.1 q25.2 q hf nv0
        · rw [if_neg c26] at hf
          refine r_if_eq_f (dGet dX12_member (j := 125) rfl) rfl c26 ?_
          refine r_aload_n (dGet dX12_member (j := 126) rfl) nv0 rfl ?_
          obtain ⟨h27, eh27, hf⟩ := Option.bind_eq_some_iff.mp hf
          refine r_virtual (dGet dX12_member (j := 127) rfl) L12_289 M233 rfl rfl (Nat.le_of_ble_eq_true rfl) (oX12_next eh27) (cX12_next X N (d + 803) v0 q25.2 h27 eh27) ?_
          refine r_goto (dGet dX12_member (j := 128) rfl) rfl ?_
          refine Run.weak [(0, .ref v0), (1, .int v1), (3, .int q25.1)] (by simp) (by simp [pNd]) ?_
          exact ih v0 v1 q25.1 h27 q hf nv0
def fX12_member_164 (N : Nat) (v0 : Nat) (v1 : Int32) (s0 : Int32) (h : pH) : Option (pH) :=
  fX12_member_165 N N v0 v1 s0 h
theorem lX12_member_164 (X : pX) (N d : Nat)  (v0 : Nat) (v1 : Int32) (s0 : Int32) (h : pH) (q : pH) (hf : fX12_member_164 N v0 v1 s0 h = some q) (nv0 : ¬ v0 = 4) : Run X (d + 806) 12 false (pCd 8179) 4 none 164 [(0, .ref v0), (1, .int v1)] [.int s0] h 0 0 (none, q, 0, 0) := by
  unfold fX12_member_164 at hf
  refine r_istore_n (lv' := [(3, .int s0), (0, .ref v0), (1, .int v1)]) (dGet dX12_member (j := 94) rfl) (by decide) rfl ?_
  refine Run.weak [(0, .ref v0), (1, .int v1), (3, .int s0)] (by simp) (by simp [pNd]) ?_
  exact lX12_member_165 X N d N v0 v1 s0 h q hf nv0
def fX12_member_92 (N : Nat) (v0 : Nat) (v1 : Int32) (s0 : Nat) (s1 : Int32) (s2 : Int32) (h : pH) : Option (pH) :=
  (stZ h s0 s1 s2).bind fun h28 =>
  (getR h28 v0 12 49).bind fun t29 =>
  (getI h28 v0 12 53).bind fun t30 =>
  (stI h28 t29 v1 t30).bind fun h31 =>
  (getR h31 v0 12 49).bind fun t32 =>
  (getI h31 v0 12 53).bind fun t33 =>
  (stI h31 t32 (v1 + (1 : Int32)) t33).bind fun h34 =>
  (getR h34 v0 12 48).bind fun t35 =>
  (ldZ h34 t35 v1).bind fun t36 =>
  if t36 = 0 then (
  (fX12_isSign N v0 (59 : Int32) h34).bind fun q43 =>
  (fX12_passes N v0 q43.1 q43.2).bind fun q44 =>
  some q44.2) else (
  (fX12_isSign N v0 (40 : Int32) h34).bind fun q38 =>
  (fX12_opens N v0 q38.1 q38.2).bind fun q39 =>
  if q39.1 = 0 then (
  some q39.2) else (
  (fX12_isSign N v0 (41 : Int32) q39.2).bind fun q41 =>
  if q41.1 = 0 then (
  fX12_member_164 N v0 v1 (1 : Int32) q41.2) else (
  fX12_member_164 N v0 v1 (0 : Int32) q41.2)))
theorem lX12_member_92 (X : pX) (N d : Nat)  (v0 : Nat) (v1 : Int32) (s0 : Nat) (s1 : Int32) (s2 : Int32) (h : pH) (q : pH) (hf : fX12_member_92 N v0 v1 s0 s1 s2 h = some q) (nv0 : ¬ v0 = 4) (ns0 : ¬ s0 = 4) : Run X (d + 806) 12 false (pCd 8179) 4 none 92 [(0, .ref v0), (1, .int v1)] [.int s2, .int s1, .ref s0] h 0 0 (none, q, 0, 0) := by
  unfold fX12_member_92 at hf
  obtain ⟨h28, eh28, hf⟩ := Option.bind_eq_some_iff.mp hf
  refine r_zast (dGet dX12_member (j := 53) rfl) eh28 ?_
  refine r_aload_n (dGet dX12_member (j := 54) rfl) nv0 rfl ?_
  obtain ⟨t29, et29, hf⟩ := Option.bind_eq_some_iff.mp hf
  refine r_getR (dGet dX12_member (j := 55) rfl) F12_110 et29 ?_
  refine r_iload_n (dGet dX12_member (j := 56) rfl) rfl ?_
  refine r_aload_n (dGet dX12_member (j := 57) rfl) nv0 rfl ?_
  obtain ⟨t30, et30, hf⟩ := Option.bind_eq_some_iff.mp hf
  refine r_getI (dGet dX12_member (j := 58) rfl) F12_406 et30 ?_
  obtain ⟨h31, eh31, hf⟩ := Option.bind_eq_some_iff.mp hf
  refine r_iast (dGet dX12_member (j := 59) rfl) eh31 ?_
  refine r_aload_n (dGet dX12_member (j := 60) rfl) nv0 rfl ?_
  obtain ⟨t32, et32, hf⟩ := Option.bind_eq_some_iff.mp hf
  refine r_getR (dGet dX12_member (j := 61) rfl) F12_110 et32 ?_
  refine r_iload_n (dGet dX12_member (j := 62) rfl) rfl ?_
  refine r_iconst (dGet dX12_member (j := 63) rfl) kI_1 ?_
  refine r_iadd (dGet dX12_member (j := 64) rfl) ?_
  refine r_aload_n (dGet dX12_member (j := 65) rfl) nv0 rfl ?_
  obtain ⟨t33, et33, hf⟩ := Option.bind_eq_some_iff.mp hf
  refine r_getI (dGet dX12_member (j := 66) rfl) F12_406 et33 ?_
  obtain ⟨h34, eh34, hf⟩ := Option.bind_eq_some_iff.mp hf
  refine r_iast (dGet dX12_member (j := 67) rfl) eh34 ?_
  refine r_aload_n (dGet dX12_member (j := 68) rfl) nv0 rfl ?_
  obtain ⟨t35, et35, hf⟩ := Option.bind_eq_some_iff.mp hf
  refine r_getR (dGet dX12_member (j := 69) rfl) F12_106 et35 ?_
  refine r_iload_n (dGet dX12_member (j := 70) rfl) rfl ?_
  obtain ⟨t36, et36, hf⟩ := Option.bind_eq_some_iff.mp hf
  refine r_zald (dGet dX12_member (j := 71) rfl) et36 ?_
  by_cases c37 : t36 = 0
  · rw [if_pos c37] at hf
    refine r_if_ne_f (dGet dX12_member (j := 72) rfl) rfl c37 ?_
    refine r_aload_n (dGet dX12_member (j := 73) rfl) nv0 rfl ?_
    refine r_aload_n (dGet dX12_member (j := 74) rfl) nv0 rfl ?_
    refine r_bipush (dGet dX12_member (j := 75) rfl) kB_59 ?_
    obtain ⟨q43, eq43, hf⟩ := Option.bind_eq_some_iff.mp hf
    refine r_virtual (dGet dX12_member (j := 76) rfl) L12_295 M247 rfl rfl (Nat.le_of_ble_eq_true rfl) (oX12_isSign eq43) (cX12_isSign X N (d + 805) v0 (59 : Int32) h34 q43 eq43) ?_
    obtain ⟨q44, eq44, hf⟩ := Option.bind_eq_some_iff.mp hf
    refine r_virtual (dGet dX12_member (j := 77) rfl) L12_298 M243 rfl rfl (Nat.le_of_ble_eq_true rfl) (oX12_passes eq44) (cX12_passes X N (d + 802) v0 q43.1 q43.2 q44 eq44) ?_
    refine r_istore_n (lv' := [(3, .int q44.1), (0, .ref v0), (1, .int v1)]) (dGet dX12_member (j := 78) rfl) (by decide) rfl ?_
    have hq := Option.some.inj hf
    subst hq
    exact r_vret (dGet dX12_member (j := 79) rfl) rfl
  · rw [if_neg c37] at hf
    refine r_if_ne_t (dGet dX12_member (j := 72) rfl) rfl c37 ?_
    refine r_aload_n (dGet dX12_member (j := 80) rfl) nv0 rfl ?_
    refine r_aload_n (dGet dX12_member (j := 81) rfl) nv0 rfl ?_
    refine r_bipush (dGet dX12_member (j := 82) rfl) kB_40 ?_
    obtain ⟨q38, eq38, hf⟩ := Option.bind_eq_some_iff.mp hf
    refine r_virtual (dGet dX12_member (j := 83) rfl) L12_295 M247 rfl rfl (Nat.le_of_ble_eq_true rfl) (oX12_isSign eq38) (cX12_isSign X N (d + 805) v0 (40 : Int32) h34 q38 eq38) ?_
    obtain ⟨q39, eq39, hf⟩ := Option.bind_eq_some_iff.mp hf
    refine r_virtual (dGet dX12_member (j := 84) rfl) L12_339 M248 rfl rfl (Nat.le_of_ble_eq_true rfl) (oX12_opens eq39) (cX12_opens X N (d + 802) v0 q38.1 q38.2 q39 eq39) ?_
    by_cases c40 : q39.1 = 0
    · rw [if_pos c40] at hf
      refine r_if_ne_f (dGet dX12_member (j := 85) rfl) rfl c40 ?_
      have hq := Option.some.inj hf
      subst hq
      exact r_vret (dGet dX12_member (j := 86) rfl) rfl
    · rw [if_neg c40] at hf
      refine r_if_ne_t (dGet dX12_member (j := 85) rfl) rfl c40 ?_
      refine r_aload_n (dGet dX12_member (j := 87) rfl) nv0 rfl ?_
      refine r_bipush (dGet dX12_member (j := 88) rfl) kB_41 ?_
      obtain ⟨q41, eq41, hf⟩ := Option.bind_eq_some_iff.mp hf
      refine r_virtual (dGet dX12_member (j := 89) rfl) L12_295 M247 rfl rfl (Nat.le_of_ble_eq_true rfl) (oX12_isSign eq41) (cX12_isSign X N (d + 805) v0 (41 : Int32) q39.2 q41 eq41) ?_
      by_cases c42 : q41.1 = 0
      · rw [if_pos c42] at hf
        refine r_if_ne_f (dGet dX12_member (j := 90) rfl) rfl c42 ?_
        refine r_iconst (dGet dX12_member (j := 91) rfl) kI_1 ?_
        refine r_goto (dGet dX12_member (j := 92) rfl) rfl ?_
        exact lX12_member_164 X N d v0 v1 (1 : Int32) q41.2 q hf nv0
      · rw [if_neg c42] at hf
        refine r_if_ne_t (dGet dX12_member (j := 90) rfl) rfl c42 ?_
        refine r_iconst (dGet dX12_member (j := 93) rfl) kI_0 ?_
        exact lX12_member_164 X N d v0 v1 (0 : Int32) q41.2 q hf nv0
def fX12_member_87 (N : Nat) (v0 : Nat) (v1 : Int32) (s0 : Nat) (s1 : Int32) (h : pH) : Option (pH) :=
  fX12_member_92 N v0 v1 s0 s1 (1 : Int32) h
theorem lX12_member_87 (X : pX) (N d : Nat)  (v0 : Nat) (v1 : Int32) (s0 : Nat) (s1 : Int32) (h : pH) (q : pH) (hf : fX12_member_87 N v0 v1 s0 s1 h = some q) (nv0 : ¬ v0 = 4) (ns0 : ¬ s0 = 4) : Run X (d + 806) 12 false (pCd 8179) 4 none 87 [(0, .ref v0), (1, .int v1)] [.int s1, .ref s0] h 0 0 (none, q, 0, 0) := by
  unfold fX12_member_87 at hf
  refine r_iconst (dGet dX12_member (j := 50) rfl) kI_1 ?_
  refine r_goto (dGet dX12_member (j := 51) rfl) rfl ?_
  exact lX12_member_92 X N d v0 v1 s0 s1 (1 : Int32) h q hf nv0 ns0
def fX12_member_39 (N : Nat) (v0 : Nat) (v1 : Int32) (v2 : Int32) (h : pH) : Option (pH) :=
  (getR h v0 12 46).bind fun t45 =>
  (getI h v0 12 6).bind fun t46 =>
  (stI h t45 v1 t46).bind fun h47 =>
  (getR h47 v0 12 45).bind fun t48 =>
  (fX12_name N v0 h47).bind fun q49 =>
  (stI q49.2 t48 v1 q49.1).bind fun h50 =>
  (getI h50 v0 12 44).bind fun t51 =>
  (putI h50 v0 12 44 (t51 + (1 : Int32))).bind fun h52 =>
  (getR h52 v0 12 48).bind fun t53 =>
  if v2 = 0 then (
  (fX12_isSign N v0 (40 : Int32) h52).bind fun q55 =>
  if q55.1 = 0 then (
  if t53 = 4 then none else
  fX12_member_92 N v0 v1 t53 v1 (0 : Int32) q55.2) else (
  if t53 = 4 then none else
  fX12_member_87 N v0 v1 t53 v1 q55.2)) else (
  if t53 = 4 then none else
  fX12_member_87 N v0 v1 t53 v1 h52)
theorem lX12_member_39 (X : pX) (N d : Nat)  (v0 : Nat) (v1 : Int32) (v2 : Int32) (h : pH) (q : pH) (hf : fX12_member_39 N v0 v1 v2 h = some q) (nv0 : ¬ v0 = 4) : Run X (d + 806) 12 false (pCd 8179) 4 none 39 [(0, .ref v0), (1, .int v1), (2, .int v2)] [] h 0 0 (none, q, 0, 0) := by
  unfold fX12_member_39 at hf
  refine r_aload_n (dGet dX12_member (j := 23) rfl) nv0 rfl ?_
  obtain ⟨t45, et45, hf⟩ := Option.bind_eq_some_iff.mp hf
  refine r_getR (dGet dX12_member (j := 24) rfl) F12_100 et45 ?_
  refine r_iload_n (dGet dX12_member (j := 25) rfl) rfl ?_
  refine r_aload_n (dGet dX12_member (j := 26) rfl) nv0 rfl ?_
  obtain ⟨t46, et46, hf⟩ := Option.bind_eq_some_iff.mp hf
  refine r_getI (dGet dX12_member (j := 27) rfl) F12_246 et46 ?_
  obtain ⟨h47, eh47, hf⟩ := Option.bind_eq_some_iff.mp hf
  refine r_iast (dGet dX12_member (j := 28) rfl) eh47 ?_
  refine r_aload_n (dGet dX12_member (j := 29) rfl) nv0 rfl ?_
  obtain ⟨t48, et48, hf⟩ := Option.bind_eq_some_iff.mp hf
  refine r_getR (dGet dX12_member (j := 30) rfl) F12_97 et48 ?_
  refine r_iload_n (dGet dX12_member (j := 31) rfl) rfl ?_
  refine r_aload_n (dGet dX12_member (j := 32) rfl) nv0 rfl ?_
  obtain ⟨q49, eq49, hf⟩ := Option.bind_eq_some_iff.mp hf
  refine r_virtual (dGet dX12_member (j := 33) rfl) L12_333 M246 rfl rfl (Nat.le_of_ble_eq_true rfl) (oX12_name eq49) (cX12_name X N (d + 801) v0 h47 q49 eq49) ?_
  obtain ⟨h50, eh50, hf⟩ := Option.bind_eq_some_iff.mp hf
  refine r_iast (dGet dX12_member (j := 34) rfl) eh50 ?_
  refine r_aload_n (dGet dX12_member (j := 35) rfl) nv0 rfl ?_
  refine r_dup (dGet dX12_member (j := 36) rfl) rfl ?_
  obtain ⟨t51, et51, hf⟩ := Option.bind_eq_some_iff.mp hf
  refine r_getI (dGet dX12_member (j := 37) rfl) F12_403 et51 ?_
  refine r_iconst (dGet dX12_member (j := 38) rfl) kI_1 ?_
  refine r_iadd (dGet dX12_member (j := 39) rfl) ?_
  obtain ⟨h52, eh52, hf⟩ := Option.bind_eq_some_iff.mp hf
  refine r_putI (dGet dX12_member (j := 40) rfl) F12_403 rfl rfl eh52 ?_
  refine r_aload_n (dGet dX12_member (j := 41) rfl) nv0 rfl ?_
  obtain ⟨t53, et53, hf⟩ := Option.bind_eq_some_iff.mp hf
  refine r_getR (dGet dX12_member (j := 42) rfl) F12_106 et53 ?_
  refine r_iload_n (dGet dX12_member (j := 43) rfl) rfl ?_
  refine r_iload_n (dGet dX12_member (j := 44) rfl) rfl ?_
  by_cases c54 : v2 = 0
  · rw [if_pos c54] at hf
    refine r_if_ne_f (dGet dX12_member (j := 45) rfl) rfl c54 ?_
    refine r_aload_n (dGet dX12_member (j := 46) rfl) nv0 rfl ?_
    refine r_bipush (dGet dX12_member (j := 47) rfl) kB_40 ?_
    obtain ⟨q55, eq55, hf⟩ := Option.bind_eq_some_iff.mp hf
    refine r_virtual (dGet dX12_member (j := 48) rfl) L12_295 M247 rfl rfl (Nat.le_of_ble_eq_true rfl) (oX12_isSign eq55) (cX12_isSign X N (d + 805) v0 (40 : Int32) h52 q55 eq55) ?_
    by_cases c56 : q55.1 = 0
    · rw [if_pos c56] at hf
      refine r_if_eq_t (dGet dX12_member (j := 49) rfl) rfl c56 ?_
      refine r_iconst (dGet dX12_member (j := 52) rfl) kI_0 ?_
      by_cases nt53 : t53 = 4
      · rw [if_pos nt53] at hf; cases hf
      rw [if_neg nt53] at hf
      refine Run.weak [(0, .ref v0), (1, .int v1)] (by simp) (by simp [pNd]) ?_
      exact lX12_member_92 X N d v0 v1 t53 v1 (0 : Int32) q55.2 q hf nv0 nt53
    · rw [if_neg c56] at hf
      refine r_if_eq_f (dGet dX12_member (j := 49) rfl) rfl c56 ?_
      by_cases nt53 : t53 = 4
      · rw [if_pos nt53] at hf; cases hf
      rw [if_neg nt53] at hf
      refine Run.weak [(0, .ref v0), (1, .int v1)] (by simp) (by simp [pNd]) ?_
      exact lX12_member_87 X N d v0 v1 t53 v1 q55.2 q hf nv0 nt53
  · rw [if_neg c54] at hf
    refine r_if_ne_t (dGet dX12_member (j := 45) rfl) rfl c54 ?_
    by_cases nt53 : t53 = 4
    · rw [if_pos nt53] at hf; cases hf
    rw [if_neg nt53] at hf
    refine Run.weak [(0, .ref v0), (1, .int v1)] (by simp) (by simp [pNd]) ?_
    exact lX12_member_87 X N d v0 v1 t53 v1 h52 q hf nv0 nt53
def fX12_member (N : Nat) (v0 : Nat) (h : pH) : Option (pH) := if isO h v0 12 = true then (
  (getI h v0 12 44).bind fun t57 =>
  (fX12_isKey N v0 (5 : Int32) h).bind fun q58 =>
  (getR q58.2 v0 12 47).bind fun t59 =>
  (stI q58.2 t59 t57 (3 : Int32)).bind fun h60 =>
  if q58.1 = 0 then (
  (getR h60 v0 12 47).bind fun t62 =>
  (fX12_type N v0 h60).bind fun q63 =>
  (stI q63.2 t62 t57 q63.1).bind fun h64 =>
  fX12_member_39 N v0 t57 q58.1 h64) else (
  (fX12_next N v0 h60).bind fun h65 =>
  fX12_member_39 N v0 t57 q58.1 h65)) else none
theorem oX12_member {N : Nat} {v0 : Nat} {h : pH} {q : pH} (hf : fX12_member N v0 h = some q) : isO h v0 12 = true := by
  unfold fX12_member at hf
  by_cases hc : isO h v0 12 = true
  · exact hc
  · rw [if_neg hc] at hf; cases hf
theorem cX12_member (X : pX) (N d : Nat) (v0 : Nat) (h : pH) (q : pH) (hf : fX12_member N v0 h = some q) : Calls X (d + 806) 249 [.ref v0] h (none, q, 0, 0) := by
  refine Calls.of M249 (Nat.le_of_ble_eq_true rfl) ?_
  show Run X (d + 806) 12 false (pCd 8179) 4 none 0 [(0, .ref v0)] [] h 0 0 (none, q, 0, 0)
  unfold fX12_member at hf
  by_cases hc : isO h v0 12 = true
  · rw [if_pos hc] at hf
    have nv0 : ¬ v0 = 4 := isO_ne hc
    refine r_aload_n (dGet dX12_member (j := 0) rfl) nv0 rfl ?_
    obtain ⟨t57, et57, hf⟩ := Option.bind_eq_some_iff.mp hf
    refine r_getI (dGet dX12_member (j := 1) rfl) F12_403 et57 ?_
    refine r_istore_n (lv' := [(1, .int t57), (0, .ref v0)]) (dGet dX12_member (j := 2) rfl) (by decide) rfl ?_
    refine r_aload_n (dGet dX12_member (j := 3) rfl) nv0 rfl ?_
    refine r_iconst (dGet dX12_member (j := 4) rfl) kI_5 ?_
    obtain ⟨q58, eq58, hf⟩ := Option.bind_eq_some_iff.mp hf
    refine r_virtual (dGet dX12_member (j := 5) rfl) L12_330 M242 rfl rfl (Nat.le_of_ble_eq_true rfl) (oX12_isKey eq58) (cX12_isKey X N (d + 805) v0 (5 : Int32) h q58 eq58) ?_
    refine r_istore_n (lv' := [(2, .int q58.1), (1, .int t57), (0, .ref v0)]) (dGet dX12_member (j := 6) rfl) (by decide) rfl ?_
    refine r_aload_n (dGet dX12_member (j := 7) rfl) nv0 rfl ?_
    obtain ⟨t59, et59, hf⟩ := Option.bind_eq_some_iff.mp hf
    refine r_getR (dGet dX12_member (j := 8) rfl) F12_103 et59 ?_
    refine r_iload_n (dGet dX12_member (j := 9) rfl) rfl ?_
    refine r_iconst (dGet dX12_member (j := 10) rfl) kI_3 ?_
    obtain ⟨h60, eh60, hf⟩ := Option.bind_eq_some_iff.mp hf
    refine r_iast (dGet dX12_member (j := 11) rfl) eh60 ?_
    refine r_iload_n (dGet dX12_member (j := 12) rfl) rfl ?_
    by_cases c61 : q58.1 = 0
    · rw [if_pos c61] at hf
      refine r_if_eq_t (dGet dX12_member (j := 13) rfl) rfl c61 ?_
      refine r_aload_n (dGet dX12_member (j := 17) rfl) nv0 rfl ?_
      obtain ⟨t62, et62, hf⟩ := Option.bind_eq_some_iff.mp hf
      refine r_getR (dGet dX12_member (j := 18) rfl) F12_103 et62 ?_
      refine r_iload_n (dGet dX12_member (j := 19) rfl) rfl ?_
      refine r_aload_n (dGet dX12_member (j := 20) rfl) nv0 rfl ?_
      obtain ⟨q63, eq63, hf⟩ := Option.bind_eq_some_iff.mp hf
      refine r_virtual (dGet dX12_member (j := 21) rfl) L12_385 M250 rfl rfl (Nat.le_of_ble_eq_true rfl) (oX12_type eq63) (cX12_type X N (d + 801) v0 h60 q63 eq63) ?_
      obtain ⟨h64, eh64, hf⟩ := Option.bind_eq_some_iff.mp hf
      refine r_iast (dGet dX12_member (j := 22) rfl) eh64 ?_
      refine Run.weak [(0, .ref v0), (1, .int t57), (2, .int q58.1)] (by simp) (by simp [pNd]) ?_
      exact lX12_member_39 X N d v0 t57 q58.1 h64 q hf nv0
    · rw [if_neg c61] at hf
      refine r_if_eq_f (dGet dX12_member (j := 13) rfl) rfl c61 ?_
      refine r_aload_n (dGet dX12_member (j := 14) rfl) nv0 rfl ?_
      obtain ⟨h65, eh65, hf⟩ := Option.bind_eq_some_iff.mp hf
      refine r_virtual (dGet dX12_member (j := 15) rfl) L12_289 M233 rfl rfl (Nat.le_of_ble_eq_true rfl) (oX12_next eh65) (cX12_next X N (d + 803) v0 h60 h65 eh65) ?_
      refine r_goto (dGet dX12_member (j := 16) rfl) rfl ?_
      refine Run.weak [(0, .ref v0), (1, .int t57), (2, .int q58.1)] (by simp) (by simp [pNd]) ?_
      exact lX12_member_39 X N d v0 t57 q58.1 h65 q hf nv0
  · rw [if_neg hc] at hf; cases hf
def eX12_output : List (Nat × Instr × Nat) := [(0, .aload_n 0, 1), (1, .getfield 442, 3), (4, .ifCond .eq 34, 3), (7, .iload_n 1, 1), (8, .i2l, 1), (9, .lconst 0, 1), (10, .aload_n 0, 1), (11, .getfield 657, 3), (14, .sipush 500, 3), (17, .invokestatic 694, 3), (20, .iconst 1, 1), (21, .isub, 1), (22, .i2l, 1), (23, .invokestatic 228, 3), (26, .ifCond .eq 12, 3), (29, .aload_n 0, 1), (30, .getfield 148, 3), (33, .iload_n 1, 1), (34, .iaload, 1), (35, .goto 4, 3), (38, .iconst 0, 1), (39, .ireturn, 1)]
theorem dX12_output : dChk (pCd 10067) eX12_output = true := by decide +kernel
def fX12_output (N : Nat) (v0 : Nat) (v1 : Int32) (h : pH) : Option (Int32 × pH) := if isO h v0 12 = true then (
  (getI h v0 12 69).bind fun t1 =>
  if t1 = 0 then (
  some ((0 : Int32), h)) else (
  (getI h v0 12 78).bind fun t3 =>
  (fX12_isIn N (v1.toInt64) (0 : Int64) (((if (500 : Int32) < t3 then (500 : Int32) else t3) - (1 : Int32)).toInt64) h).bind fun q4 =>
  if q4.1 = 0 then (
  some ((0 : Int32), q4.2)) else (
  (getR q4.2 v0 12 79).bind fun t6 =>
  (ldI q4.2 t6 v1).bind fun t7 =>
  some (t7, q4.2)))) else none
theorem oX12_output {N : Nat} {v0 : Nat} {v1 : Int32} {h : pH} {q : Int32 × pH} (hf : fX12_output N v0 v1 h = some q) : isO h v0 12 = true := by
  unfold fX12_output at hf
  by_cases hc : isO h v0 12 = true
  · exact hc
  · rw [if_neg hc] at hf; cases hf
theorem cX12_output (X : pX) (N d : Nat) (v0 : Nat) (v1 : Int32) (h : pH) (q : Int32 × pH) (hf : fX12_output N v0 v1 h = some q) : Calls X (d + 1) 340 [.ref v0, .int v1] h (some (.int q.1), q.2, 0, 0) := by
  refine Calls.of M340 (Nat.le_of_ble_eq_true rfl) ?_
  show Run X (d + 1) 12 false (pCd 10067) 2 (some .int) 0 [(0, .ref v0), (1, .int v1)] [] h 0 0 (some (.int q.1), q.2, 0, 0)
  unfold fX12_output at hf
  by_cases hc : isO h v0 12 = true
  · rw [if_pos hc] at hf
    have nv0 : ¬ v0 = 4 := isO_ne hc
    refine r_aload_n (dGet dX12_output (j := 0) rfl) nv0 rfl ?_
    obtain ⟨t1, et1, hf⟩ := Option.bind_eq_some_iff.mp hf
    refine r_getI (dGet dX12_output (j := 1) rfl) F12_442 et1 ?_
    by_cases c2 : t1 = 0
    · rw [if_pos c2] at hf
      refine r_if_eq_t (dGet dX12_output (j := 2) rfl) rfl c2 ?_
      refine r_iconst (dGet dX12_output (j := 20) rfl) kI_0 ?_
      have hq := Option.some.inj hf
      subst hq
      exact r_iret (dGet dX12_output (j := 21) rfl) rfl rfl
    · rw [if_neg c2] at hf
      refine r_if_eq_f (dGet dX12_output (j := 2) rfl) rfl c2 ?_
      refine r_iload_n (dGet dX12_output (j := 3) rfl) rfl ?_
      refine r_i2l (dGet dX12_output (j := 4) rfl) ?_
      refine r_lconst (v := 0) (dGet dX12_output (j := 5) rfl) rfl ?_
      refine r_aload_n (dGet dX12_output (j := 6) rfl) nv0 rfl ?_
      obtain ⟨t3, et3, hf⟩ := Option.bind_eq_some_iff.mp hf
      refine r_getI (dGet dX12_output (j := 7) rfl) F12_657 et3 ?_
      refine r_sipush (dGet dX12_output (j := 8) rfl) kS_500 ?_
      refine r_min (dGet dX12_output (j := 9) rfl) (by decide +kernel) (by decide +kernel : pFind pMx 12 694 = some (1, 10068)) (Nat.le_of_ble_eq_true rfl) ?_
      refine r_iconst (dGet dX12_output (j := 10) rfl) kI_1 ?_
      refine r_isub (dGet dX12_output (j := 11) rfl) ?_
      refine r_i2l (dGet dX12_output (j := 12) rfl) ?_
      obtain ⟨q4, eq4, hf⟩ := Option.bind_eq_some_iff.mp hf
      refine r_static (dGet dX12_output (j := 13) rfl) (by decide +kernel) (by decide +kernel) L12_228 M236 rfl rfl (Nat.le_of_ble_eq_true rfl) (cX12_isIn X N (d + 0) (v1.toInt64) (0 : Int64) (((if (500 : Int32) < t3 then (500 : Int32) else t3) - (1 : Int32)).toInt64) h q4 eq4) ?_
      by_cases c5 : q4.1 = 0
      · rw [if_pos c5] at hf
        refine r_if_eq_t (dGet dX12_output (j := 14) rfl) rfl c5 ?_
        refine r_iconst (dGet dX12_output (j := 20) rfl) kI_0 ?_
        have hq := Option.some.inj hf
        subst hq
        exact r_iret (dGet dX12_output (j := 21) rfl) rfl rfl
      · rw [if_neg c5] at hf
        refine r_if_eq_f (dGet dX12_output (j := 14) rfl) rfl c5 ?_
        refine r_aload_n (dGet dX12_output (j := 15) rfl) nv0 rfl ?_
        obtain ⟨t6, et6, hf⟩ := Option.bind_eq_some_iff.mp hf
        refine r_getR (dGet dX12_output (j := 16) rfl) F12_148 et6 ?_
        refine r_iload_n (dGet dX12_output (j := 17) rfl) rfl ?_
        obtain ⟨t7, et7, hf⟩ := Option.bind_eq_some_iff.mp hf
        refine r_iald (dGet dX12_output (j := 18) rfl) et7 ?_
        refine r_goto (dGet dX12_output (j := 19) rfl) rfl ?_
        have hq := Option.some.inj hf
        subst hq
        exact r_iret (dGet dX12_output (j := 21) rfl) rfl rfl
  · rw [if_neg hc] at hf; cases hf
def eX12_readClass : List (Nat × Instr × Nat) := [(0, .aload_n 0, 1), (1, .getfield 397, 3), (4, .istore_n 1, 1), (5, .aload_n 0, 1), (6, .getfield 82, 3), (9, .iload_n 1, 1), (10, .aload_n 0, 1), (11, .getfield 246, 3), (14, .iastore, 1), (15, .aload_n 0, 1), (16, .getfield 79, 3), (19, .iload_n 1, 1), (20, .aload_n 0, 1), (21, .invokevirtual 333, 3), (24, .iastore, 1), (25, .aload_n 0, 1), (26, .getfield 85, 3), (29, .iload_n 1, 1), (30, .iconst (-1), 1), (31, .iastore, 1), (32, .aload_n 0, 1), (33, .bipush 58, 2), (35, .invokevirtual 295, 3), (38, .ifCond .eq 17, 3), (41, .aload_n 0, 1), (42, .invokevirtual 289, 3), (45, .aload_n 0, 1), (46, .getfield 85, 3), (49, .iload_n 1, 1), (50, .aload_n 0, 1), (51, .invokevirtual 333, 3), (54, .iastore, 1), (55, .aload_n 0, 1), (56, .dup, 1), (57, .getfield 397, 3), (60, .iconst 1, 1), (61, .iadd, 1), (62, .putfield 397, 3), (65, .aload_n 0, 1), (66, .aload_n 0, 1), (67, .bipush 123, 2), (69, .invokevirtual 295, 3), (72, .invokevirtual 339, 3), (75, .ifCond .ne 4, 3), (78, .return_, 1), (79, .aload_n 0, 1), (80, .getfield 283, 3), (83, .ifCond .ge 19, 3), (86, .aload_n 0, 1), (87, .bipush 125, 2), (89, .invokevirtual 295, 3), (92, .ifCond .ne 10, 3), (95, .aload_n 0, 1), (96, .invokevirtual 400, 3), (99, .goto (-20), 3), (102, .aload_n 0, 1), (103, .bipush 125, 2), (105, .invokevirtual 352, 3), (108, .aload_n 0, 1), (109, .getfield 94, 3), (112, .aload_n 0, 1), (113, .getfield 397, 3), (116, .aload_n 0, 1), (117, .getfield 403, 3), (120, .iastore, 1), (121, .return_, 1)]
theorem dX12_readClass : dChk (pCd 8163) eX12_readClass = true := by decide +kernel
def fX12_readClass_102 (N : Nat) (v0 : Nat) (h : pH) : Option (pH) :=
  (fX12_closes N v0 (125 : Int32) h).bind fun h1 =>
  (getR h1 v0 12 43).bind fun t2 =>
  (getI h1 v0 12 37).bind fun t3 =>
  (getI h1 v0 12 44).bind fun t4 =>
  (stI h1 t2 t3 t4).bind fun h5 =>
  some h5
theorem lX12_readClass_102 (X : pX) (N d : Nat)  (v0 : Nat) (h : pH) (q : pH) (hf : fX12_readClass_102 N v0 h = some q) (nv0 : ¬ v0 = 4) : Run X (d + 807) 12 false (pCd 8163) 2 none 102 [(0, .ref v0)] [] h 0 0 (none, q, 0, 0) := by
  unfold fX12_readClass_102 at hf
  refine r_aload_n (dGet dX12_readClass (j := 55) rfl) nv0 rfl ?_
  refine r_bipush (dGet dX12_readClass (j := 56) rfl) kB_125 ?_
  obtain ⟨h1, eh1, hf⟩ := Option.bind_eq_some_iff.mp hf
  refine r_virtual (dGet dX12_readClass (j := 57) rfl) L12_352 M252 rfl rfl (Nat.le_of_ble_eq_true rfl) (oX12_closes eh1) (cX12_closes X N (d + 802) v0 (125 : Int32) h h1 eh1) ?_
  refine r_aload_n (dGet dX12_readClass (j := 58) rfl) nv0 rfl ?_
  obtain ⟨t2, et2, hf⟩ := Option.bind_eq_some_iff.mp hf
  refine r_getR (dGet dX12_readClass (j := 59) rfl) F12_94 et2 ?_
  refine r_aload_n (dGet dX12_readClass (j := 60) rfl) nv0 rfl ?_
  obtain ⟨t3, et3, hf⟩ := Option.bind_eq_some_iff.mp hf
  refine r_getI (dGet dX12_readClass (j := 61) rfl) F12_397 et3 ?_
  refine r_aload_n (dGet dX12_readClass (j := 62) rfl) nv0 rfl ?_
  obtain ⟨t4, et4, hf⟩ := Option.bind_eq_some_iff.mp hf
  refine r_getI (dGet dX12_readClass (j := 63) rfl) F12_403 et4 ?_
  obtain ⟨h5, eh5, hf⟩ := Option.bind_eq_some_iff.mp hf
  refine r_iast (dGet dX12_readClass (j := 64) rfl) eh5 ?_
  have hq := Option.some.inj hf
  subst hq
  exact r_vret (dGet dX12_readClass (j := 65) rfl) rfl
def fX12_readClass_79 (N : Nat) : Nat → Nat → pH → Option (pH)
  | 0, _, _ => none
  | n + 1, v0, h => (getI h v0 12 9).bind fun t6 =>
  if 0 ≤ t6 then (
  fX12_readClass_102 N v0 h) else (
  (fX12_isSign N v0 (125 : Int32) h).bind fun q8 =>
  if q8.1 = 0 then (
  (fX12_member N v0 q8.2).bind fun h10 =>
  fX12_readClass_79 N n v0 h10) else (
  fX12_readClass_102 N v0 q8.2))
theorem lX12_readClass_79 (X : pX) (N d : Nat)  : ∀ (n : Nat) (v0 : Nat) (h : pH) (q : pH), fX12_readClass_79 N n v0 h = some q → ¬ v0 = 4 → Run X (d + 807) 12 false (pCd 8163) 2 none 79 [(0, .ref v0)] [] h 0 0 (none, q, 0, 0) := by
  intro n
  induction n with
  | zero => intro v0 h q hf; cases hf
  | succ n ih =>
    intro v0 h q hf nv0
    unfold fX12_readClass_79 at hf
    refine r_aload_n (dGet dX12_readClass (j := 45) rfl) nv0 rfl ?_
    obtain ⟨t6, et6, hf⟩ := Option.bind_eq_some_iff.mp hf
    refine r_getI (dGet dX12_readClass (j := 46) rfl) F12_283 et6 ?_
    by_cases c7 : 0 ≤ t6
    · rw [if_pos c7] at hf
      refine r_if_ge_t (dGet dX12_readClass (j := 47) rfl) rfl c7 ?_
      exact lX12_readClass_102 X N d v0 h q hf nv0
    · rw [if_neg c7] at hf
      refine r_if_ge_f (dGet dX12_readClass (j := 47) rfl) rfl c7 ?_
      refine r_aload_n (dGet dX12_readClass (j := 48) rfl) nv0 rfl ?_
      refine r_bipush (dGet dX12_readClass (j := 49) rfl) kB_125 ?_
      obtain ⟨q8, eq8, hf⟩ := Option.bind_eq_some_iff.mp hf
      refine r_virtual (dGet dX12_readClass (j := 50) rfl) L12_295 M247 rfl rfl (Nat.le_of_ble_eq_true rfl) (oX12_isSign eq8) (cX12_isSign X N (d + 806) v0 (125 : Int32) h q8 eq8) ?_
      by_cases c9 : q8.1 = 0
      · rw [if_pos c9] at hf
        refine r_if_ne_f (dGet dX12_readClass (j := 51) rfl) rfl c9 ?_
        refine r_aload_n (dGet dX12_readClass (j := 52) rfl) nv0 rfl ?_
        obtain ⟨h10, eh10, hf⟩ := Option.bind_eq_some_iff.mp hf
        refine r_virtual (dGet dX12_readClass (j := 53) rfl) L12_400 M249 rfl rfl (Nat.le_of_ble_eq_true rfl) (oX12_member eh10) (cX12_member X N (d + 0) v0 q8.2 h10 eh10) ?_
        refine r_goto (dGet dX12_readClass (j := 54) rfl) rfl ?_
        exact ih v0 h10 q hf nv0
      · rw [if_neg c9] at hf
        refine r_if_ne_t (dGet dX12_readClass (j := 51) rfl) rfl c9 ?_
        exact lX12_readClass_102 X N d v0 q8.2 q hf nv0
def fX12_readClass_55 (N : Nat) (v0 : Nat) (h : pH) : Option (pH) :=
  (getI h v0 12 37).bind fun t11 =>
  (putI h v0 12 37 (t11 + (1 : Int32))).bind fun h12 =>
  (fX12_isSign N v0 (123 : Int32) h12).bind fun q13 =>
  (fX12_opens N v0 q13.1 q13.2).bind fun q14 =>
  if q14.1 = 0 then (
  some q14.2) else (
  fX12_readClass_79 N N v0 q14.2)
theorem lX12_readClass_55 (X : pX) (N d : Nat)  (v0 : Nat) (h : pH) (q : pH) (hf : fX12_readClass_55 N v0 h = some q) (nv0 : ¬ v0 = 4) : Run X (d + 807) 12 false (pCd 8163) 2 none 55 [(0, .ref v0)] [] h 0 0 (none, q, 0, 0) := by
  unfold fX12_readClass_55 at hf
  refine r_aload_n (dGet dX12_readClass (j := 32) rfl) nv0 rfl ?_
  refine r_dup (dGet dX12_readClass (j := 33) rfl) rfl ?_
  obtain ⟨t11, et11, hf⟩ := Option.bind_eq_some_iff.mp hf
  refine r_getI (dGet dX12_readClass (j := 34) rfl) F12_397 et11 ?_
  refine r_iconst (dGet dX12_readClass (j := 35) rfl) kI_1 ?_
  refine r_iadd (dGet dX12_readClass (j := 36) rfl) ?_
  obtain ⟨h12, eh12, hf⟩ := Option.bind_eq_some_iff.mp hf
  refine r_putI (dGet dX12_readClass (j := 37) rfl) F12_397 rfl rfl eh12 ?_
  refine r_aload_n (dGet dX12_readClass (j := 38) rfl) nv0 rfl ?_
  refine r_aload_n (dGet dX12_readClass (j := 39) rfl) nv0 rfl ?_
  refine r_bipush (dGet dX12_readClass (j := 40) rfl) kB_123 ?_
  obtain ⟨q13, eq13, hf⟩ := Option.bind_eq_some_iff.mp hf
  refine r_virtual (dGet dX12_readClass (j := 41) rfl) L12_295 M247 rfl rfl (Nat.le_of_ble_eq_true rfl) (oX12_isSign eq13) (cX12_isSign X N (d + 806) v0 (123 : Int32) h12 q13 eq13) ?_
  obtain ⟨q14, eq14, hf⟩ := Option.bind_eq_some_iff.mp hf
  refine r_virtual (dGet dX12_readClass (j := 42) rfl) L12_339 M248 rfl rfl (Nat.le_of_ble_eq_true rfl) (oX12_opens eq14) (cX12_opens X N (d + 803) v0 q13.1 q13.2 q14 eq14) ?_
  by_cases c15 : q14.1 = 0
  · rw [if_pos c15] at hf
    refine r_if_ne_f (dGet dX12_readClass (j := 43) rfl) rfl c15 ?_
    have hq := Option.some.inj hf
    subst hq
    exact r_vret (dGet dX12_readClass (j := 44) rfl) rfl
  · rw [if_neg c15] at hf
    refine r_if_ne_t (dGet dX12_readClass (j := 43) rfl) rfl c15 ?_
    exact lX12_readClass_79 X N d N v0 q14.2 q hf nv0
def fX12_readClass (N : Nat) (v0 : Nat) (h : pH) : Option (pH) := if isO h v0 12 = true then (
  (getI h v0 12 37).bind fun t16 =>
  (getR h v0 12 39).bind fun t17 =>
  (getI h v0 12 6).bind fun t18 =>
  (stI h t17 t16 t18).bind fun h19 =>
  (getR h19 v0 12 38).bind fun t20 =>
  (fX12_name N v0 h19).bind fun q21 =>
  (stI q21.2 t20 t16 q21.1).bind fun h22 =>
  (getR h22 v0 12 40).bind fun t23 =>
  (stI h22 t23 t16 (-1 : Int32)).bind fun h24 =>
  (fX12_isSign N v0 (58 : Int32) h24).bind fun q25 =>
  if q25.1 = 0 then (
  fX12_readClass_55 N v0 q25.2) else (
  (fX12_next N v0 q25.2).bind fun h27 =>
  (getR h27 v0 12 40).bind fun t28 =>
  (fX12_name N v0 h27).bind fun q29 =>
  (stI q29.2 t28 t16 q29.1).bind fun h30 =>
  fX12_readClass_55 N v0 h30)) else none
theorem oX12_readClass {N : Nat} {v0 : Nat} {h : pH} {q : pH} (hf : fX12_readClass N v0 h = some q) : isO h v0 12 = true := by
  unfold fX12_readClass at hf
  by_cases hc : isO h v0 12 = true
  · exact hc
  · rw [if_neg hc] at hf; cases hf
theorem cX12_readClass (X : pX) (N d : Nat) (v0 : Nat) (h : pH) (q : pH) (hf : fX12_readClass N v0 h = some q) : Calls X (d + 807) 245 [.ref v0] h (none, q, 0, 0) := by
  refine Calls.of M245 (Nat.le_of_ble_eq_true rfl) ?_
  show Run X (d + 807) 12 false (pCd 8163) 2 none 0 [(0, .ref v0)] [] h 0 0 (none, q, 0, 0)
  unfold fX12_readClass at hf
  by_cases hc : isO h v0 12 = true
  · rw [if_pos hc] at hf
    have nv0 : ¬ v0 = 4 := isO_ne hc
    refine r_aload_n (dGet dX12_readClass (j := 0) rfl) nv0 rfl ?_
    obtain ⟨t16, et16, hf⟩ := Option.bind_eq_some_iff.mp hf
    refine r_getI (dGet dX12_readClass (j := 1) rfl) F12_397 et16 ?_
    refine r_istore_n (lv' := [(1, .int t16), (0, .ref v0)]) (dGet dX12_readClass (j := 2) rfl) (by decide) rfl ?_
    refine r_aload_n (dGet dX12_readClass (j := 3) rfl) nv0 rfl ?_
    obtain ⟨t17, et17, hf⟩ := Option.bind_eq_some_iff.mp hf
    refine r_getR (dGet dX12_readClass (j := 4) rfl) F12_82 et17 ?_
    refine r_iload_n (dGet dX12_readClass (j := 5) rfl) rfl ?_
    refine r_aload_n (dGet dX12_readClass (j := 6) rfl) nv0 rfl ?_
    obtain ⟨t18, et18, hf⟩ := Option.bind_eq_some_iff.mp hf
    refine r_getI (dGet dX12_readClass (j := 7) rfl) F12_246 et18 ?_
    obtain ⟨h19, eh19, hf⟩ := Option.bind_eq_some_iff.mp hf
    refine r_iast (dGet dX12_readClass (j := 8) rfl) eh19 ?_
    refine r_aload_n (dGet dX12_readClass (j := 9) rfl) nv0 rfl ?_
    obtain ⟨t20, et20, hf⟩ := Option.bind_eq_some_iff.mp hf
    refine r_getR (dGet dX12_readClass (j := 10) rfl) F12_79 et20 ?_
    refine r_iload_n (dGet dX12_readClass (j := 11) rfl) rfl ?_
    refine r_aload_n (dGet dX12_readClass (j := 12) rfl) nv0 rfl ?_
    obtain ⟨q21, eq21, hf⟩ := Option.bind_eq_some_iff.mp hf
    refine r_virtual (dGet dX12_readClass (j := 13) rfl) L12_333 M246 rfl rfl (Nat.le_of_ble_eq_true rfl) (oX12_name eq21) (cX12_name X N (d + 802) v0 h19 q21 eq21) ?_
    obtain ⟨h22, eh22, hf⟩ := Option.bind_eq_some_iff.mp hf
    refine r_iast (dGet dX12_readClass (j := 14) rfl) eh22 ?_
    refine r_aload_n (dGet dX12_readClass (j := 15) rfl) nv0 rfl ?_
    obtain ⟨t23, et23, hf⟩ := Option.bind_eq_some_iff.mp hf
    refine r_getR (dGet dX12_readClass (j := 16) rfl) F12_85 et23 ?_
    refine r_iload_n (dGet dX12_readClass (j := 17) rfl) rfl ?_
    refine r_iconst (dGet dX12_readClass (j := 18) rfl) kI_m1 ?_
    obtain ⟨h24, eh24, hf⟩ := Option.bind_eq_some_iff.mp hf
    refine r_iast (dGet dX12_readClass (j := 19) rfl) eh24 ?_
    refine r_aload_n (dGet dX12_readClass (j := 20) rfl) nv0 rfl ?_
    refine r_bipush (dGet dX12_readClass (j := 21) rfl) kB_58 ?_
    obtain ⟨q25, eq25, hf⟩ := Option.bind_eq_some_iff.mp hf
    refine r_virtual (dGet dX12_readClass (j := 22) rfl) L12_295 M247 rfl rfl (Nat.le_of_ble_eq_true rfl) (oX12_isSign eq25) (cX12_isSign X N (d + 806) v0 (58 : Int32) h24 q25 eq25) ?_
    by_cases c26 : q25.1 = 0
    · rw [if_pos c26] at hf
      refine r_if_eq_t (dGet dX12_readClass (j := 23) rfl) rfl c26 ?_
      refine Run.weak [(0, .ref v0)] (by simp) (by simp [pNd]) ?_
      exact lX12_readClass_55 X N d v0 q25.2 q hf nv0
    · rw [if_neg c26] at hf
      refine r_if_eq_f (dGet dX12_readClass (j := 23) rfl) rfl c26 ?_
      refine r_aload_n (dGet dX12_readClass (j := 24) rfl) nv0 rfl ?_
      obtain ⟨h27, eh27, hf⟩ := Option.bind_eq_some_iff.mp hf
      refine r_virtual (dGet dX12_readClass (j := 25) rfl) L12_289 M233 rfl rfl (Nat.le_of_ble_eq_true rfl) (oX12_next eh27) (cX12_next X N (d + 804) v0 q25.2 h27 eh27) ?_
      refine r_aload_n (dGet dX12_readClass (j := 26) rfl) nv0 rfl ?_
      obtain ⟨t28, et28, hf⟩ := Option.bind_eq_some_iff.mp hf
      refine r_getR (dGet dX12_readClass (j := 27) rfl) F12_85 et28 ?_
      refine r_iload_n (dGet dX12_readClass (j := 28) rfl) rfl ?_
      refine r_aload_n (dGet dX12_readClass (j := 29) rfl) nv0 rfl ?_
      obtain ⟨q29, eq29, hf⟩ := Option.bind_eq_some_iff.mp hf
      refine r_virtual (dGet dX12_readClass (j := 30) rfl) L12_333 M246 rfl rfl (Nat.le_of_ble_eq_true rfl) (oX12_name eq29) (cX12_name X N (d + 802) v0 h27 q29 eq29) ?_
      obtain ⟨h30, eh30, hf⟩ := Option.bind_eq_some_iff.mp hf
      refine r_iast (dGet dX12_readClass (j := 31) rfl) eh30 ?_
      refine Run.weak [(0, .ref v0)] (by simp) (by simp [pNd]) ?_
      exact lX12_readClass_55 X N d v0 h30 q hf nv0
  · rw [if_neg hc] at hf; cases hf
def eX12_setSlots : List (Nat × Instr × Nat) := [(0, .aload_n 0, 1), (1, .getfield 91, 3), (4, .iload_n 1, 1), (5, .iaload, 1), (6, .ifCond .lt 10, 3), (9, .aload_n 0, 1), (10, .getfield 91, 3), (13, .iload_n 1, 1), (14, .iaload, 1), (15, .ireturn, 1), (16, .iload_n 1, 1), (17, .istore_n 2, 1), (18, .aload_n 0, 1), (19, .getfield 88, 3), (22, .iload_n 2, 1), (23, .iaload, 1), (24, .ifCond .lt 27, 3), (27, .aload_n 0, 1), (28, .getfield 91, 3), (31, .aload_n 0, 1), (32, .getfield 88, 3), (35, .iload_n 2, 1), (36, .iaload, 1), (37, .iaload, 1), (38, .ifCond .ge 13, 3), (41, .aload_n 0, 1), (42, .getfield 88, 3), (45, .iload_n 2, 1), (46, .iaload, 1), (47, .istore_n 2, 1), (48, .goto (-30), 3), (51, .aload_n 0, 1), (52, .getfield 91, 3), (55, .iload_n 1, 1), (56, .iaload, 1), (57, .ifCond .ge 124, 3), (60, .aload_n 0, 1), (61, .getfield 88, 3), (64, .iload_n 2, 1), (65, .iaload, 1), (66, .ifCond .ge 7, 3), (69, .iconst 0, 1), (70, .goto 14, 3), (73, .aload_n 0, 1), (74, .getfield 91, 3), (77, .aload_n 0, 1), (78, .getfield 88, 3), (81, .iload_n 2, 1), (82, .iaload, 1), (83, .iaload, 1), (84, .istore_n 3, 1), (85, .aload_n 0, 1), (86, .getfield 94, 3), (89, .iload_n 2, 1), (90, .iaload, 1), (91, .istore 4, 2), (93, .iload 4, 2), (95, .aload_n 0, 1), (96, .getfield 94, 3), (99, .iload_n 2, 1), (100, .iconst 1, 1), (101, .iadd, 1), (102, .iaload, 1), (103, .if_icmp .ge 33, 3), (106, .aload_n 0, 1), (107, .getfield 106, 3), (110, .iload 4, 2), (112, .baload, 1), (113, .ifCond .eq 6, 3), (116, .goto 14, 3), (119, .aload_n 0, 1), (120, .getfield 119, 3), (123, .iload 4, 2), (125, .iload_n 3, 1), (126, .iastore, 1), (127, .iinc 3 1, 3), (130, .iinc 4 1, 3), (133, .goto (-40), 3), (136, .aload_n 0, 1), (137, .getfield 91, 3), (140, .iload_n 2, 1), (141, .iload_n 3, 1), (142, .iastore, 1), (143, .iload_n 1, 1), (144, .istore_n 2, 1), (145, .aload_n 0, 1), (146, .getfield 88, 3), (149, .iload_n 2, 1), (150, .iaload, 1), (151, .ifCond .lt 27, 3), (154, .aload_n 0, 1), (155, .getfield 91, 3), (158, .aload_n 0, 1), (159, .getfield 88, 3), (162, .iload_n 2, 1), (163, .iaload, 1), (164, .iaload, 1), (165, .ifCond .ge 13, 3), (168, .aload_n 0, 1), (169, .getfield 88, 3), (172, .iload_n 2, 1), (173, .iaload, 1), (174, .istore_n 2, 1), (175, .goto (-30), 3), (178, .goto (-127), 3), (181, .aload_n 0, 1), (182, .getfield 91, 3), (185, .iload_n 1, 1), (186, .iaload, 1), (187, .ireturn, 1)]
theorem dX12_setSlots : dChk (pCd 9061) eX12_setSlots = true := by decide +kernel
def fX12_setSlots_178 (N : Nat) (k51 : Nat → Int32 → Int32 → pH → Option (Int32 × pH)) (v0 : Nat) (v1 : Int32) (v2 : Int32) (h : pH) : Option (Int32 × pH) :=
  k51 v0 v1 v2 h
theorem lX12_setSlots_178 (X : pX) (N d : Nat)  (k51 : Nat → Int32 → Int32 → pH → Option (Int32 × pH)) (K51 : ∀ (w0 : Nat) (w1 : Int32) (w2 : Int32) (h : pH) (q : Int32 × pH), k51 w0 w1 w2 h = some q → ¬ w0 = 4 → Run X (d + 0) 12 false (pCd 9061) 5 (some .int) 51 [(0, .ref w0), (1, .int w1), (2, .int w2)] [] h 0 0 (some (.int q.1), q.2, 0, 0)) (v0 : Nat) (v1 : Int32) (v2 : Int32) (h : pH) (q : Int32 × pH) (hf : fX12_setSlots_178 N k51 v0 v1 v2 h = some q) (nv0 : ¬ v0 = 4) : Run X (d + 0) 12 false (pCd 9061) 5 (some .int) 178 [(0, .ref v0), (1, .int v1), (2, .int v2)] [] h 0 0 (some (.int q.1), q.2, 0, 0) := by
  unfold fX12_setSlots_178 at hf
  refine r_goto (dGet dX12_setSlots (j := 104) rfl) rfl ?_
  exact K51 v0 v1 v2 h q hf nv0
def fX12_setSlots_145 (N : Nat) (k51 : Nat → Int32 → Int32 → pH → Option (Int32 × pH)) : Nat → Nat → Int32 → Int32 → pH → Option (Int32 × pH)
  | 0, _, _, _, _ => none
  | n + 1, v0, v1, v2, h => (getR h v0 12 41).bind fun t1 =>
  (ldI h t1 v2).bind fun t2 =>
  if t2 < 0 then (
  fX12_setSlots_178 N k51 v0 v1 v2 h) else (
  (getR h v0 12 42).bind fun t4 =>
  (getR h v0 12 41).bind fun t5 =>
  (ldI h t5 v2).bind fun t6 =>
  (ldI h t4 t6).bind fun t7 =>
  if 0 ≤ t7 then (
  fX12_setSlots_178 N k51 v0 v1 v2 h) else (
  (getR h v0 12 41).bind fun t9 =>
  (ldI h t9 v2).bind fun t10 =>
  fX12_setSlots_145 N k51 n v0 v1 t10 h))
theorem lX12_setSlots_145 (X : pX) (N d : Nat)  (k51 : Nat → Int32 → Int32 → pH → Option (Int32 × pH)) (K51 : ∀ (w0 : Nat) (w1 : Int32) (w2 : Int32) (h : pH) (q : Int32 × pH), k51 w0 w1 w2 h = some q → ¬ w0 = 4 → Run X (d + 0) 12 false (pCd 9061) 5 (some .int) 51 [(0, .ref w0), (1, .int w1), (2, .int w2)] [] h 0 0 (some (.int q.1), q.2, 0, 0)) : ∀ (n : Nat) (v0 : Nat) (v1 : Int32) (v2 : Int32) (h : pH) (q : Int32 × pH), fX12_setSlots_145 N k51 n v0 v1 v2 h = some q → ¬ v0 = 4 → Run X (d + 0) 12 false (pCd 9061) 5 (some .int) 145 [(0, .ref v0), (1, .int v1), (2, .int v2)] [] h 0 0 (some (.int q.1), q.2, 0, 0) := by
  intro n
  induction n with
  | zero => intro v0 v1 v2 h q hf; cases hf
  | succ n ih =>
    intro v0 v1 v2 h q hf nv0
    unfold fX12_setSlots_145 at hf
    refine r_aload_n (dGet dX12_setSlots (j := 85) rfl) nv0 rfl ?_
    obtain ⟨t1, et1, hf⟩ := Option.bind_eq_some_iff.mp hf
    refine r_getR (dGet dX12_setSlots (j := 86) rfl) F12_88 et1 ?_
    refine r_iload_n (dGet dX12_setSlots (j := 87) rfl) rfl ?_
    obtain ⟨t2, et2, hf⟩ := Option.bind_eq_some_iff.mp hf
    refine r_iald (dGet dX12_setSlots (j := 88) rfl) et2 ?_
    by_cases c3 : t2 < 0
    · rw [if_pos c3] at hf
      refine r_if_lt_t (dGet dX12_setSlots (j := 89) rfl) rfl c3 ?_
      exact lX12_setSlots_178 X N d k51 K51 v0 v1 v2 h q hf nv0
    · rw [if_neg c3] at hf
      refine r_if_lt_f (dGet dX12_setSlots (j := 89) rfl) rfl c3 ?_
      refine r_aload_n (dGet dX12_setSlots (j := 90) rfl) nv0 rfl ?_
      obtain ⟨t4, et4, hf⟩ := Option.bind_eq_some_iff.mp hf
      refine r_getR (dGet dX12_setSlots (j := 91) rfl) F12_91 et4 ?_
      refine r_aload_n (dGet dX12_setSlots (j := 92) rfl) nv0 rfl ?_
      obtain ⟨t5, et5, hf⟩ := Option.bind_eq_some_iff.mp hf
      refine r_getR (dGet dX12_setSlots (j := 93) rfl) F12_88 et5 ?_
      refine r_iload_n (dGet dX12_setSlots (j := 94) rfl) rfl ?_
      obtain ⟨t6, et6, hf⟩ := Option.bind_eq_some_iff.mp hf
      refine r_iald (dGet dX12_setSlots (j := 95) rfl) et6 ?_
      obtain ⟨t7, et7, hf⟩ := Option.bind_eq_some_iff.mp hf
      refine r_iald (dGet dX12_setSlots (j := 96) rfl) et7 ?_
      by_cases c8 : 0 ≤ t7
      · rw [if_pos c8] at hf
        refine r_if_ge_t (dGet dX12_setSlots (j := 97) rfl) rfl c8 ?_
        exact lX12_setSlots_178 X N d k51 K51 v0 v1 v2 h q hf nv0
      · rw [if_neg c8] at hf
        refine r_if_ge_f (dGet dX12_setSlots (j := 97) rfl) rfl c8 ?_
        refine r_aload_n (dGet dX12_setSlots (j := 98) rfl) nv0 rfl ?_
        obtain ⟨t9, et9, hf⟩ := Option.bind_eq_some_iff.mp hf
        refine r_getR (dGet dX12_setSlots (j := 99) rfl) F12_88 et9 ?_
        refine r_iload_n (dGet dX12_setSlots (j := 100) rfl) rfl ?_
        obtain ⟨t10, et10, hf⟩ := Option.bind_eq_some_iff.mp hf
        refine r_iald (dGet dX12_setSlots (j := 101) rfl) et10 ?_
        refine r_istore_n (lv' := [(2, .int t10), (0, .ref v0), (1, .int v1)]) (dGet dX12_setSlots (j := 102) rfl) (by decide) rfl ?_
        refine r_goto (dGet dX12_setSlots (j := 103) rfl) rfl ?_
        refine Run.weak [(0, .ref v0), (1, .int v1), (2, .int t10)] (by simp) (by simp [pNd]) ?_
        exact ih v0 v1 t10 h q hf nv0
def fX12_setSlots_130 (N : Nat) (k51 : Nat → Int32 → Int32 → pH → Option (Int32 × pH)) (k93 : Nat → Int32 → Int32 → Int32 → Int32 → pH → Option (Int32 × pH)) (v0 : Nat) (v1 : Int32) (v2 : Int32) (v3 : Int32) (v4 : Int32) (h : pH) : Option (Int32 × pH) :=
  k93 v0 v1 v2 v3 (v4 + (1 : Int32)) h
theorem lX12_setSlots_130 (X : pX) (N d : Nat)  (k51 : Nat → Int32 → Int32 → pH → Option (Int32 × pH)) (K51 : ∀ (w0 : Nat) (w1 : Int32) (w2 : Int32) (h : pH) (q : Int32 × pH), k51 w0 w1 w2 h = some q → ¬ w0 = 4 → Run X (d + 0) 12 false (pCd 9061) 5 (some .int) 51 [(0, .ref w0), (1, .int w1), (2, .int w2)] [] h 0 0 (some (.int q.1), q.2, 0, 0)) (k93 : Nat → Int32 → Int32 → Int32 → Int32 → pH → Option (Int32 × pH)) (K93 : ∀ (w0 : Nat) (w1 : Int32) (w2 : Int32) (w3 : Int32) (w4 : Int32) (h : pH) (q : Int32 × pH), k93 w0 w1 w2 w3 w4 h = some q → ¬ w0 = 4 → Run X (d + 0) 12 false (pCd 9061) 5 (some .int) 93 [(0, .ref w0), (1, .int w1), (2, .int w2), (3, .int w3), (4, .int w4)] [] h 0 0 (some (.int q.1), q.2, 0, 0)) (v0 : Nat) (v1 : Int32) (v2 : Int32) (v3 : Int32) (v4 : Int32) (h : pH) (q : Int32 × pH) (hf : fX12_setSlots_130 N k51 k93 v0 v1 v2 v3 v4 h = some q) (nv0 : ¬ v0 = 4) : Run X (d + 0) 12 false (pCd 9061) 5 (some .int) 130 [(0, .ref v0), (1, .int v1), (2, .int v2), (3, .int v3), (4, .int v4)] [] h 0 0 (some (.int q.1), q.2, 0, 0) := by
  unfold fX12_setSlots_130 at hf
  refine r_iinc (lv' := [(4, .int (v4 + (1 : Int32))), (0, .ref v0), (1, .int v1), (2, .int v2), (3, .int v3)]) (dGet dX12_setSlots (j := 76) rfl) rfl (by decide) kI_1 rfl ?_
  refine r_goto (dGet dX12_setSlots (j := 77) rfl) rfl ?_
  refine Run.weak [(0, .ref v0), (1, .int v1), (2, .int v2), (3, .int v3), (4, .int (v4 + (1 : Int32)))] (by simp) (by simp [pNd]) ?_
  exact K93 v0 v1 v2 v3 (v4 + (1 : Int32)) h q hf nv0
def fX12_setSlots_93 (N : Nat) (k51 : Nat → Int32 → Int32 → pH → Option (Int32 × pH)) : Nat → Nat → Int32 → Int32 → Int32 → Int32 → pH → Option (Int32 × pH)
  | 0, _, _, _, _, _, _ => none
  | n + 1, v0, v1, v2, v3, v4, h => (getR h v0 12 43).bind fun t11 =>
  (ldI h t11 (v2 + (1 : Int32))).bind fun t12 =>
  if t12 ≤ v4 then (
  (getR h v0 12 42).bind fun t14 =>
  (stI h t14 v2 v3).bind fun h15 =>
  fX12_setSlots_145 N k51 N v0 v1 v1 h15) else (
  (getR h v0 12 48).bind fun t16 =>
  (ldZ h t16 v4).bind fun t17 =>
  if t17 = 0 then (
  (getR h v0 12 52).bind fun t19 =>
  (stI h t19 v4 v3).bind fun h20 =>
  fX12_setSlots_130 N k51 (fX12_setSlots_93 N k51 n) v0 v1 v2 (v3 + (1 : Int32)) v4 h20) else (
  fX12_setSlots_130 N k51 (fX12_setSlots_93 N k51 n) v0 v1 v2 v3 v4 h))
theorem lX12_setSlots_93 (X : pX) (N d : Nat)  (k51 : Nat → Int32 → Int32 → pH → Option (Int32 × pH)) (K51 : ∀ (w0 : Nat) (w1 : Int32) (w2 : Int32) (h : pH) (q : Int32 × pH), k51 w0 w1 w2 h = some q → ¬ w0 = 4 → Run X (d + 0) 12 false (pCd 9061) 5 (some .int) 51 [(0, .ref w0), (1, .int w1), (2, .int w2)] [] h 0 0 (some (.int q.1), q.2, 0, 0)) : ∀ (n : Nat) (v0 : Nat) (v1 : Int32) (v2 : Int32) (v3 : Int32) (v4 : Int32) (h : pH) (q : Int32 × pH), fX12_setSlots_93 N k51 n v0 v1 v2 v3 v4 h = some q → ¬ v0 = 4 → Run X (d + 0) 12 false (pCd 9061) 5 (some .int) 93 [(0, .ref v0), (1, .int v1), (2, .int v2), (3, .int v3), (4, .int v4)] [] h 0 0 (some (.int q.1), q.2, 0, 0) := by
  intro n
  induction n with
  | zero => intro v0 v1 v2 v3 v4 h q hf; cases hf
  | succ n ih =>
    intro v0 v1 v2 v3 v4 h q hf nv0
    unfold fX12_setSlots_93 at hf
    refine r_iload (dGet dX12_setSlots (j := 56) rfl) rfl ?_
    refine r_aload_n (dGet dX12_setSlots (j := 57) rfl) nv0 rfl ?_
    obtain ⟨t11, et11, hf⟩ := Option.bind_eq_some_iff.mp hf
    refine r_getR (dGet dX12_setSlots (j := 58) rfl) F12_94 et11 ?_
    refine r_iload_n (dGet dX12_setSlots (j := 59) rfl) rfl ?_
    refine r_iconst (dGet dX12_setSlots (j := 60) rfl) kI_1 ?_
    refine r_iadd (dGet dX12_setSlots (j := 61) rfl) ?_
    obtain ⟨t12, et12, hf⟩ := Option.bind_eq_some_iff.mp hf
    refine r_iald (dGet dX12_setSlots (j := 62) rfl) et12 ?_
    by_cases c13 : t12 ≤ v4
    · rw [if_pos c13] at hf
      refine r_icmp_ge_t (dGet dX12_setSlots (j := 63) rfl) rfl c13 ?_
      refine r_aload_n (dGet dX12_setSlots (j := 78) rfl) nv0 rfl ?_
      obtain ⟨t14, et14, hf⟩ := Option.bind_eq_some_iff.mp hf
      refine r_getR (dGet dX12_setSlots (j := 79) rfl) F12_91 et14 ?_
      refine r_iload_n (dGet dX12_setSlots (j := 80) rfl) rfl ?_
      refine r_iload_n (dGet dX12_setSlots (j := 81) rfl) rfl ?_
      obtain ⟨h15, eh15, hf⟩ := Option.bind_eq_some_iff.mp hf
      refine r_iast (dGet dX12_setSlots (j := 82) rfl) eh15 ?_
      refine r_iload_n (dGet dX12_setSlots (j := 83) rfl) rfl ?_
      refine r_istore_n (lv' := [(2, .int v1), (0, .ref v0), (1, .int v1), (3, .int v3), (4, .int v4)]) (dGet dX12_setSlots (j := 84) rfl) (by decide) rfl ?_
      refine Run.weak [(0, .ref v0), (1, .int v1), (2, .int v1)] (by simp) (by simp [pNd]) ?_
      exact lX12_setSlots_145 X N d k51 K51 N v0 v1 v1 h15 q hf nv0
    · rw [if_neg c13] at hf
      refine r_icmp_ge_f (dGet dX12_setSlots (j := 63) rfl) rfl c13 ?_
      refine r_aload_n (dGet dX12_setSlots (j := 64) rfl) nv0 rfl ?_
      obtain ⟨t16, et16, hf⟩ := Option.bind_eq_some_iff.mp hf
      refine r_getR (dGet dX12_setSlots (j := 65) rfl) F12_106 et16 ?_
      refine r_iload (dGet dX12_setSlots (j := 66) rfl) rfl ?_
      obtain ⟨t17, et17, hf⟩ := Option.bind_eq_some_iff.mp hf
      refine r_zald (dGet dX12_setSlots (j := 67) rfl) et17 ?_
      by_cases c18 : t17 = 0
      · rw [if_pos c18] at hf
        refine r_if_eq_t (dGet dX12_setSlots (j := 68) rfl) rfl c18 ?_
        refine r_aload_n (dGet dX12_setSlots (j := 70) rfl) nv0 rfl ?_
        obtain ⟨t19, et19, hf⟩ := Option.bind_eq_some_iff.mp hf
        refine r_getR (dGet dX12_setSlots (j := 71) rfl) F12_119 et19 ?_
        refine r_iload (dGet dX12_setSlots (j := 72) rfl) rfl ?_
        refine r_iload_n (dGet dX12_setSlots (j := 73) rfl) rfl ?_
        obtain ⟨h20, eh20, hf⟩ := Option.bind_eq_some_iff.mp hf
        refine r_iast (dGet dX12_setSlots (j := 74) rfl) eh20 ?_
        refine r_iinc (lv' := [(3, .int (v3 + (1 : Int32))), (0, .ref v0), (1, .int v1), (2, .int v2), (4, .int v4)]) (dGet dX12_setSlots (j := 75) rfl) rfl (by decide) kI_1 rfl ?_
        refine Run.weak [(0, .ref v0), (1, .int v1), (2, .int v2), (3, .int (v3 + (1 : Int32))), (4, .int v4)] (by simp) (by simp [pNd]) ?_
        exact lX12_setSlots_130 X N d k51 K51 (fX12_setSlots_93 N k51 n) ih v0 v1 v2 (v3 + (1 : Int32)) v4 h20 q hf nv0
      · rw [if_neg c18] at hf
        refine r_if_eq_f (dGet dX12_setSlots (j := 68) rfl) rfl c18 ?_
        refine r_goto (dGet dX12_setSlots (j := 69) rfl) rfl ?_
        exact lX12_setSlots_130 X N d k51 K51 (fX12_setSlots_93 N k51 n) ih v0 v1 v2 v3 v4 h q hf nv0
def fX12_setSlots_84 (N : Nat) (k51 : Nat → Int32 → Int32 → pH → Option (Int32 × pH)) (v0 : Nat) (v1 : Int32) (v2 : Int32) (s0 : Int32) (h : pH) : Option (Int32 × pH) :=
  (getR h v0 12 43).bind fun t21 =>
  (ldI h t21 v2).bind fun t22 =>
  fX12_setSlots_93 N k51 N v0 v1 v2 s0 t22 h
theorem lX12_setSlots_84 (X : pX) (N d : Nat)  (k51 : Nat → Int32 → Int32 → pH → Option (Int32 × pH)) (K51 : ∀ (w0 : Nat) (w1 : Int32) (w2 : Int32) (h : pH) (q : Int32 × pH), k51 w0 w1 w2 h = some q → ¬ w0 = 4 → Run X (d + 0) 12 false (pCd 9061) 5 (some .int) 51 [(0, .ref w0), (1, .int w1), (2, .int w2)] [] h 0 0 (some (.int q.1), q.2, 0, 0)) (v0 : Nat) (v1 : Int32) (v2 : Int32) (s0 : Int32) (h : pH) (q : Int32 × pH) (hf : fX12_setSlots_84 N k51 v0 v1 v2 s0 h = some q) (nv0 : ¬ v0 = 4) : Run X (d + 0) 12 false (pCd 9061) 5 (some .int) 84 [(0, .ref v0), (1, .int v1), (2, .int v2)] [.int s0] h 0 0 (some (.int q.1), q.2, 0, 0) := by
  unfold fX12_setSlots_84 at hf
  refine r_istore_n (lv' := [(3, .int s0), (0, .ref v0), (1, .int v1), (2, .int v2)]) (dGet dX12_setSlots (j := 50) rfl) (by decide) rfl ?_
  refine r_aload_n (dGet dX12_setSlots (j := 51) rfl) nv0 rfl ?_
  obtain ⟨t21, et21, hf⟩ := Option.bind_eq_some_iff.mp hf
  refine r_getR (dGet dX12_setSlots (j := 52) rfl) F12_94 et21 ?_
  refine r_iload_n (dGet dX12_setSlots (j := 53) rfl) rfl ?_
  obtain ⟨t22, et22, hf⟩ := Option.bind_eq_some_iff.mp hf
  refine r_iald (dGet dX12_setSlots (j := 54) rfl) et22 ?_
  refine r_istore (lv' := [(4, .int t22), (3, .int s0), (0, .ref v0), (1, .int v1), (2, .int v2)]) (dGet dX12_setSlots (j := 55) rfl) (by decide) rfl ?_
  refine Run.weak [(0, .ref v0), (1, .int v1), (2, .int v2), (3, .int s0), (4, .int t22)] (by simp) (by simp [pNd]) ?_
  exact lX12_setSlots_93 X N d k51 K51 N v0 v1 v2 s0 t22 h q hf nv0
def fX12_setSlots_51 (N : Nat) : Nat → Nat → Int32 → Int32 → pH → Option (Int32 × pH)
  | 0, _, _, _, _ => none
  | n + 1, v0, v1, v2, h => (getR h v0 12 42).bind fun t23 =>
  (ldI h t23 v1).bind fun t24 =>
  if 0 ≤ t24 then (
  (getR h v0 12 42).bind fun t26 =>
  (ldI h t26 v1).bind fun t27 =>
  some (t27, h)) else (
  (getR h v0 12 41).bind fun t28 =>
  (ldI h t28 v2).bind fun t29 =>
  if 0 ≤ t29 then (
  (getR h v0 12 42).bind fun t31 =>
  (getR h v0 12 41).bind fun t32 =>
  (ldI h t32 v2).bind fun t33 =>
  (ldI h t31 t33).bind fun t34 =>
  fX12_setSlots_84 N (fX12_setSlots_51 N n) v0 v1 v2 t34 h) else (
  fX12_setSlots_84 N (fX12_setSlots_51 N n) v0 v1 v2 (0 : Int32) h))
theorem lX12_setSlots_51 (X : pX) (N d : Nat)  : ∀ (n : Nat) (v0 : Nat) (v1 : Int32) (v2 : Int32) (h : pH) (q : Int32 × pH), fX12_setSlots_51 N n v0 v1 v2 h = some q → ¬ v0 = 4 → Run X (d + 0) 12 false (pCd 9061) 5 (some .int) 51 [(0, .ref v0), (1, .int v1), (2, .int v2)] [] h 0 0 (some (.int q.1), q.2, 0, 0) := by
  intro n
  induction n with
  | zero => intro v0 v1 v2 h q hf; cases hf
  | succ n ih =>
    intro v0 v1 v2 h q hf nv0
    unfold fX12_setSlots_51 at hf
    refine r_aload_n (dGet dX12_setSlots (j := 31) rfl) nv0 rfl ?_
    obtain ⟨t23, et23, hf⟩ := Option.bind_eq_some_iff.mp hf
    refine r_getR (dGet dX12_setSlots (j := 32) rfl) F12_91 et23 ?_
    refine r_iload_n (dGet dX12_setSlots (j := 33) rfl) rfl ?_
    obtain ⟨t24, et24, hf⟩ := Option.bind_eq_some_iff.mp hf
    refine r_iald (dGet dX12_setSlots (j := 34) rfl) et24 ?_
    by_cases c25 : 0 ≤ t24
    · rw [if_pos c25] at hf
      refine r_if_ge_t (dGet dX12_setSlots (j := 35) rfl) rfl c25 ?_
      refine r_aload_n (dGet dX12_setSlots (j := 105) rfl) nv0 rfl ?_
      obtain ⟨t26, et26, hf⟩ := Option.bind_eq_some_iff.mp hf
      refine r_getR (dGet dX12_setSlots (j := 106) rfl) F12_91 et26 ?_
      refine r_iload_n (dGet dX12_setSlots (j := 107) rfl) rfl ?_
      obtain ⟨t27, et27, hf⟩ := Option.bind_eq_some_iff.mp hf
      refine r_iald (dGet dX12_setSlots (j := 108) rfl) et27 ?_
      have hq := Option.some.inj hf
      subst hq
      exact r_iret (dGet dX12_setSlots (j := 109) rfl) rfl rfl
    · rw [if_neg c25] at hf
      refine r_if_ge_f (dGet dX12_setSlots (j := 35) rfl) rfl c25 ?_
      refine r_aload_n (dGet dX12_setSlots (j := 36) rfl) nv0 rfl ?_
      obtain ⟨t28, et28, hf⟩ := Option.bind_eq_some_iff.mp hf
      refine r_getR (dGet dX12_setSlots (j := 37) rfl) F12_88 et28 ?_
      refine r_iload_n (dGet dX12_setSlots (j := 38) rfl) rfl ?_
      obtain ⟨t29, et29, hf⟩ := Option.bind_eq_some_iff.mp hf
      refine r_iald (dGet dX12_setSlots (j := 39) rfl) et29 ?_
      by_cases c30 : 0 ≤ t29
      · rw [if_pos c30] at hf
        refine r_if_ge_t (dGet dX12_setSlots (j := 40) rfl) rfl c30 ?_
        refine r_aload_n (dGet dX12_setSlots (j := 43) rfl) nv0 rfl ?_
        obtain ⟨t31, et31, hf⟩ := Option.bind_eq_some_iff.mp hf
        refine r_getR (dGet dX12_setSlots (j := 44) rfl) F12_91 et31 ?_
        refine r_aload_n (dGet dX12_setSlots (j := 45) rfl) nv0 rfl ?_
        obtain ⟨t32, et32, hf⟩ := Option.bind_eq_some_iff.mp hf
        refine r_getR (dGet dX12_setSlots (j := 46) rfl) F12_88 et32 ?_
        refine r_iload_n (dGet dX12_setSlots (j := 47) rfl) rfl ?_
        obtain ⟨t33, et33, hf⟩ := Option.bind_eq_some_iff.mp hf
        refine r_iald (dGet dX12_setSlots (j := 48) rfl) et33 ?_
        obtain ⟨t34, et34, hf⟩ := Option.bind_eq_some_iff.mp hf
        refine r_iald (dGet dX12_setSlots (j := 49) rfl) et34 ?_
        exact lX12_setSlots_84 X N d (fX12_setSlots_51 N n) ih v0 v1 v2 t34 h q hf nv0
      · rw [if_neg c30] at hf
        refine r_if_ge_f (dGet dX12_setSlots (j := 40) rfl) rfl c30 ?_
        refine r_iconst (dGet dX12_setSlots (j := 41) rfl) kI_0 ?_
        refine r_goto (dGet dX12_setSlots (j := 42) rfl) rfl ?_
        exact lX12_setSlots_84 X N d (fX12_setSlots_51 N n) ih v0 v1 v2 (0 : Int32) h q hf nv0
def fX12_setSlots_18 (N : Nat) : Nat → Nat → Int32 → Int32 → pH → Option (Int32 × pH)
  | 0, _, _, _, _ => none
  | n + 1, v0, v1, v2, h => (getR h v0 12 41).bind fun t35 =>
  (ldI h t35 v2).bind fun t36 =>
  if t36 < 0 then (
  fX12_setSlots_51 N N v0 v1 v2 h) else (
  (getR h v0 12 42).bind fun t38 =>
  (getR h v0 12 41).bind fun t39 =>
  (ldI h t39 v2).bind fun t40 =>
  (ldI h t38 t40).bind fun t41 =>
  if 0 ≤ t41 then (
  fX12_setSlots_51 N N v0 v1 v2 h) else (
  (getR h v0 12 41).bind fun t43 =>
  (ldI h t43 v2).bind fun t44 =>
  fX12_setSlots_18 N n v0 v1 t44 h))
theorem lX12_setSlots_18 (X : pX) (N d : Nat)  : ∀ (n : Nat) (v0 : Nat) (v1 : Int32) (v2 : Int32) (h : pH) (q : Int32 × pH), fX12_setSlots_18 N n v0 v1 v2 h = some q → ¬ v0 = 4 → Run X (d + 0) 12 false (pCd 9061) 5 (some .int) 18 [(0, .ref v0), (1, .int v1), (2, .int v2)] [] h 0 0 (some (.int q.1), q.2, 0, 0) := by
  intro n
  induction n with
  | zero => intro v0 v1 v2 h q hf; cases hf
  | succ n ih =>
    intro v0 v1 v2 h q hf nv0
    unfold fX12_setSlots_18 at hf
    refine r_aload_n (dGet dX12_setSlots (j := 12) rfl) nv0 rfl ?_
    obtain ⟨t35, et35, hf⟩ := Option.bind_eq_some_iff.mp hf
    refine r_getR (dGet dX12_setSlots (j := 13) rfl) F12_88 et35 ?_
    refine r_iload_n (dGet dX12_setSlots (j := 14) rfl) rfl ?_
    obtain ⟨t36, et36, hf⟩ := Option.bind_eq_some_iff.mp hf
    refine r_iald (dGet dX12_setSlots (j := 15) rfl) et36 ?_
    by_cases c37 : t36 < 0
    · rw [if_pos c37] at hf
      refine r_if_lt_t (dGet dX12_setSlots (j := 16) rfl) rfl c37 ?_
      exact lX12_setSlots_51 X N d N v0 v1 v2 h q hf nv0
    · rw [if_neg c37] at hf
      refine r_if_lt_f (dGet dX12_setSlots (j := 16) rfl) rfl c37 ?_
      refine r_aload_n (dGet dX12_setSlots (j := 17) rfl) nv0 rfl ?_
      obtain ⟨t38, et38, hf⟩ := Option.bind_eq_some_iff.mp hf
      refine r_getR (dGet dX12_setSlots (j := 18) rfl) F12_91 et38 ?_
      refine r_aload_n (dGet dX12_setSlots (j := 19) rfl) nv0 rfl ?_
      obtain ⟨t39, et39, hf⟩ := Option.bind_eq_some_iff.mp hf
      refine r_getR (dGet dX12_setSlots (j := 20) rfl) F12_88 et39 ?_
      refine r_iload_n (dGet dX12_setSlots (j := 21) rfl) rfl ?_
      obtain ⟨t40, et40, hf⟩ := Option.bind_eq_some_iff.mp hf
      refine r_iald (dGet dX12_setSlots (j := 22) rfl) et40 ?_
      obtain ⟨t41, et41, hf⟩ := Option.bind_eq_some_iff.mp hf
      refine r_iald (dGet dX12_setSlots (j := 23) rfl) et41 ?_
      by_cases c42 : 0 ≤ t41
      · rw [if_pos c42] at hf
        refine r_if_ge_t (dGet dX12_setSlots (j := 24) rfl) rfl c42 ?_
        exact lX12_setSlots_51 X N d N v0 v1 v2 h q hf nv0
      · rw [if_neg c42] at hf
        refine r_if_ge_f (dGet dX12_setSlots (j := 24) rfl) rfl c42 ?_
        refine r_aload_n (dGet dX12_setSlots (j := 25) rfl) nv0 rfl ?_
        obtain ⟨t43, et43, hf⟩ := Option.bind_eq_some_iff.mp hf
        refine r_getR (dGet dX12_setSlots (j := 26) rfl) F12_88 et43 ?_
        refine r_iload_n (dGet dX12_setSlots (j := 27) rfl) rfl ?_
        obtain ⟨t44, et44, hf⟩ := Option.bind_eq_some_iff.mp hf
        refine r_iald (dGet dX12_setSlots (j := 28) rfl) et44 ?_
        refine r_istore_n (lv' := [(2, .int t44), (0, .ref v0), (1, .int v1)]) (dGet dX12_setSlots (j := 29) rfl) (by decide) rfl ?_
        refine r_goto (dGet dX12_setSlots (j := 30) rfl) rfl ?_
        refine Run.weak [(0, .ref v0), (1, .int v1), (2, .int t44)] (by simp) (by simp [pNd]) ?_
        exact ih v0 v1 t44 h q hf nv0
def fX12_setSlots (N : Nat) (v0 : Nat) (v1 : Int32) (h : pH) : Option (Int32 × pH) := if isO h v0 12 = true then (
  (getR h v0 12 42).bind fun t45 =>
  (ldI h t45 v1).bind fun t46 =>
  if t46 < 0 then (
  fX12_setSlots_18 N N v0 v1 v1 h) else (
  (getR h v0 12 42).bind fun t48 =>
  (ldI h t48 v1).bind fun t49 =>
  some (t49, h))) else none
theorem oX12_setSlots {N : Nat} {v0 : Nat} {v1 : Int32} {h : pH} {q : Int32 × pH} (hf : fX12_setSlots N v0 v1 h = some q) : isO h v0 12 = true := by
  unfold fX12_setSlots at hf
  by_cases hc : isO h v0 12 = true
  · exact hc
  · rw [if_neg hc] at hf; cases hf
theorem cX12_setSlots (X : pX) (N d : Nat) (v0 : Nat) (v1 : Int32) (h : pH) (q : Int32 × pH) (hf : fX12_setSlots N v0 v1 h = some q) : Calls X (d + 0) 279 [.ref v0, .int v1] h (some (.int q.1), q.2, 0, 0) := by
  refine Calls.of M279 (Nat.le_of_ble_eq_true rfl) ?_
  show Run X (d + 0) 12 false (pCd 9061) 5 (some .int) 0 [(0, .ref v0), (1, .int v1)] [] h 0 0 (some (.int q.1), q.2, 0, 0)
  unfold fX12_setSlots at hf
  by_cases hc : isO h v0 12 = true
  · rw [if_pos hc] at hf
    have nv0 : ¬ v0 = 4 := isO_ne hc
    refine r_aload_n (dGet dX12_setSlots (j := 0) rfl) nv0 rfl ?_
    obtain ⟨t45, et45, hf⟩ := Option.bind_eq_some_iff.mp hf
    refine r_getR (dGet dX12_setSlots (j := 1) rfl) F12_91 et45 ?_
    refine r_iload_n (dGet dX12_setSlots (j := 2) rfl) rfl ?_
    obtain ⟨t46, et46, hf⟩ := Option.bind_eq_some_iff.mp hf
    refine r_iald (dGet dX12_setSlots (j := 3) rfl) et46 ?_
    by_cases c47 : t46 < 0
    · rw [if_pos c47] at hf
      refine r_if_lt_t (dGet dX12_setSlots (j := 4) rfl) rfl c47 ?_
      refine r_iload_n (dGet dX12_setSlots (j := 10) rfl) rfl ?_
      refine r_istore_n (lv' := [(2, .int v1), (0, .ref v0), (1, .int v1)]) (dGet dX12_setSlots (j := 11) rfl) (by decide) rfl ?_
      refine Run.weak [(0, .ref v0), (1, .int v1), (2, .int v1)] (by simp) (by simp [pNd]) ?_
      exact lX12_setSlots_18 X N d N v0 v1 v1 h q hf nv0
    · rw [if_neg c47] at hf
      refine r_if_lt_f (dGet dX12_setSlots (j := 4) rfl) rfl c47 ?_
      refine r_aload_n (dGet dX12_setSlots (j := 5) rfl) nv0 rfl ?_
      obtain ⟨t48, et48, hf⟩ := Option.bind_eq_some_iff.mp hf
      refine r_getR (dGet dX12_setSlots (j := 6) rfl) F12_91 et48 ?_
      refine r_iload_n (dGet dX12_setSlots (j := 7) rfl) rfl ?_
      obtain ⟨t49, et49, hf⟩ := Option.bind_eq_some_iff.mp hf
      refine r_iald (dGet dX12_setSlots (j := 8) rfl) et49 ?_
      have hq := Option.some.inj hf
      subst hq
      exact r_iret (dGet dX12_setSlots (j := 9) rfl) rfl rfl
  · rw [if_neg hc] at hf; cases hf
def eX12_program : List (Nat × Instr × Nat) := [(0, .aload_n 0, 1), (1, .aload_n 0, 1), (2, .getfield 435, 3), (5, .putfield 240, 3), (8, .iconst 0, 1), (9, .istore_n 1, 1), (10, .iload_n 1, 1), (11, .aload_n 0, 1), (12, .getfield 435, 3), (15, .if_icmp .ge 21, 3), (18, .aload_n 0, 1), (19, .getfield 13, 3), (22, .iload_n 1, 1), (23, .aload_n 0, 1), (24, .getfield 7, 3), (27, .iload_n 1, 1), (28, .iaload, 1), (29, .iastore, 1), (30, .iinc 1 1, 3), (33, .goto (-23), 3), (36, .aload_n 0, 1), (37, .iconst 0, 1), (38, .putfield 435, 3), (41, .aload_n 0, 1), (42, .iconst 0, 1), (43, .putfield 438, 3), (46, .aload_n 0, 1), (47, .iconst 0, 1), (48, .putfield 442, 3), (51, .aload_n 0, 1), (52, .iconst 0, 1), (53, .putfield 253, 3), (56, .aload_n 0, 1), (57, .iconst (-1), 1), (58, .putfield 283, 3), (61, .aload_n 0, 1), (62, .iconst (-1), 1), (63, .putfield 409, 3), (66, .aload_n 0, 1), (67, .iconst 0, 1), (68, .putfield 292, 3), (71, .aload_n 0, 1), (72, .iconst 0, 1), (73, .putfield 302, 3), (76, .aload_n 0, 1), (77, .iconst 0, 1), (78, .putfield 359, 3), (81, .aload_n 0, 1), (82, .iconst 0, 1), (83, .putfield 356, 3), (86, .aload_n 0, 1), (87, .iconst 0, 1), (88, .putfield 366, 3), (91, .aload_n 0, 1), (92, .iconst 0, 1), (93, .putfield 403, 3), (96, .aload_n 0, 1), (97, .iconst 0, 1), (98, .putfield 406, 3), (101, .aload_n 0, 1), (102, .invokevirtual 445, 3), (105, .iconst 0, 1), (106, .istore_n 1, 1), (107, .iload_n 1, 1), (108, .iconst 5, 1), (109, .if_icmp .ge 30, 3), (112, .aload_n 0, 1), (113, .getfield 79, 3), (116, .iload_n 1, 1), (117, .iload_n 1, 1), (118, .iastore, 1), (119, .aload_n 0, 1), (120, .getfield 88, 3), (123, .iload_n 1, 1), (124, .iconst (-1), 1), (125, .iastore, 1), (126, .aload_n 0, 1), (127, .getfield 94, 3), (130, .iload_n 1, 1), (131, .iconst 0, 1), (132, .iastore, 1), (133, .iinc 1 1, 3), (136, .goto (-29), 3), (139, .aload_n 0, 1), (140, .getfield 94, 3), (143, .iconst 5, 1), (144, .iconst 0, 1), (145, .iastore, 1), (146, .aload_n 0, 1), (147, .getfield 110, 3), (150, .iconst 0, 1), (151, .iconst 0, 1), (152, .iastore, 1), (153, .aload_n 0, 1), (154, .iconst 5, 1), (155, .putfield 397, 3), (158, .aload_n 0, 1), (159, .invokevirtual 289, 3), (162, .iconst 1, 1), (163, .istore_n 1, 1), (164, .iload_n 1, 1), (165, .ifCond .eq 42, 3), (168, .aload_n 0, 1), (169, .aload_n 0, 1), (170, .iconst 1, 1), (171, .invokevirtual 330, 3), (174, .invokevirtual 298, 3), (177, .ifCond .eq 7, 3), (180, .aload_n 0, 1), (181, .invokevirtual 448, 3), (184, .aload_n 0, 1), (185, .getfield 283, 3), (188, .ifCond .ge 14, 3), (191, .aload_n 0, 1), (192, .getfield 263, 3), (195, .ifCond .eq 7, 3), (198, .iconst 1, 1), (199, .goto 4, 3), (202, .iconst 0, 1), (203, .istore_n 1, 1), (204, .goto (-40), 3), (207, .aload_n 0, 1), (208, .getfield 283, 3), (211, .ifCond .lt 10, 3), (214, .iconst (-1), 1), (215, .aload_n 0, 1), (216, .getfield 283, 3), (219, .isub, 1), (220, .ireturn, 1), (221, .aload_n 0, 1), (222, .invokevirtual 451, 3), (225, .aload_n 0, 1), (226, .getfield 409, 3), (229, .ifCond .ge 7, 3), (232, .aload_n 0, 1), (233, .invokevirtual 454, 3), (236, .aload_n 0, 1), (237, .aload_n 0, 1), (238, .getfield 409, 3), (241, .ifCond .ge 11, 3), (244, .aload_n 0, 1), (245, .iconst 5, 1), (246, .invokevirtual 412, 3), (249, .goto 4, 3), (252, .iconst (-1), 1), (253, .putfield 457, 3), (256, .aload_n 0, 1), (257, .getfield 457, 3), (260, .ifCond .ge 7, 3), (263, .iconst (-1), 1), (264, .goto 14, 3), (267, .aload_n 0, 1), (268, .aload_n 0, 1), (269, .getfield 457, 3), (272, .bipush 6, 2), (274, .iconst 1, 1), (275, .invokevirtual 422, 3), (278, .istore_n 2, 1), (279, .aload_n 0, 1), (280, .getfield 409, 3), (283, .ifCond .ge 41, 3), (286, .iload_n 2, 1), (287, .ifCond .lt 29, 3), (290, .aload_n 0, 1), (291, .getfield 103, 3), (294, .iload_n 2, 1), (295, .iaload, 1), (296, .ifCond .ne 20, 3), (299, .aload_n 0, 1), (300, .getfield 110, 3), (303, .iload_n 2, 1), (304, .iconst 1, 1), (305, .iadd, 1), (306, .iaload, 1), (307, .aload_n 0, 1), (308, .getfield 110, 3), (311, .iload_n 2, 1), (312, .iaload, 1), (313, .if_icmp .le 11, 3), (316, .aload_n 0, 1), (317, .aload_n 0, 1), (318, .getfield 240, 3), (321, .invokevirtual 419, 3), (324, .iconst 0, 1), (325, .istore_n 3, 1), (326, .iload_n 3, 1), (327, .aload_n 0, 1), (328, .getfield 397, 3), (331, .if_icmp .ge 16, 3), (334, .aload_n 0, 1), (335, .getfield 91, 3), (338, .iload_n 3, 1), (339, .iconst (-1), 1), (340, .iastore, 1), (341, .iinc 3 1, 3), (344, .goto (-18), 3), (347, .iconst 0, 1), (348, .istore_n 3, 1), (349, .iload_n 3, 1), (350, .aload_n 0, 1), (351, .getfield 397, 3), (354, .if_icmp .ge 23, 3), (357, .aload_n 0, 1), (358, .getfield 409, 3), (361, .ifCond .ge 16, 3), (364, .aload_n 0, 1), (365, .iload_n 3, 1), (366, .invokevirtual 460, 3), (369, .istore 4, 2), (371, .iinc 3 1, 3), (374, .goto (-25), 3), (377, .iconst 5, 1), (378, .istore_n 3, 1), (379, .iload_n 3, 1), (380, .aload_n 0, 1), (381, .getfield 397, 3), (384, .if_icmp .ge 67, 3), (387, .aload_n 0, 1), (388, .getfield 409, 3), (391, .ifCond .ge 60, 3), (394, .aload_n 0, 1), (395, .getfield 94, 3), (398, .iload_n 3, 1), (399, .iaload, 1), (400, .istore 4, 2), (402, .iload 4, 2), (404, .aload_n 0, 1), (405, .getfield 94, 3), (408, .iload_n 3, 1), (409, .iconst 1, 1), (410, .iadd, 1), (411, .iaload, 1), (412, .if_icmp .ge 33, 3), (415, .aload_n 0, 1), (416, .getfield 409, 3), (419, .ifCond .ge 26, 3), (422, .aload_n 0, 1), (423, .getfield 106, 3), (426, .iload 4, 2), (428, .baload, 1), (429, .ifCond .eq 10, 3), (432, .aload_n 0, 1), (433, .iload_n 3, 1), (434, .iload 4, 2), (436, .invokevirtual 463, 3), (439, .iinc 4 1, 3), (442, .goto (-40), 3), (445, .iinc 3 1, 3), (448, .goto (-69), 3), (451, .aload_n 0, 1), (452, .getfield 409, 3), (455, .ifCond .lt 12, 3), (458, .sipush (-10000), 3), (461, .aload_n 0, 1), (462, .getfield 409, 3), (465, .isub, 1), (466, .ireturn, 1), (467, .aload_n 0, 1), (468, .iconst 1, 1), (469, .putfield 438, 3), (472, .aload_n 0, 1), (473, .getfield 397, 3), (476, .iconst 5, 1), (477, .isub, 1), (478, .ireturn, 1)]
theorem dX12_program : dChk (pCd 8105) eX12_program = true := by decide +kernel
def fX12_program_451 (N : Nat) (v0 : Nat) (h : pH) : Option (Int32 × pH) :=
  (getI h v0 12 58).bind fun t1 =>
  if t1 < 0 then (
  (putZ h v0 12 56 (1 : Int32)).bind fun h3 =>
  (getI h3 v0 12 37).bind fun t4 =>
  some ((t4 - (5 : Int32)), h3)) else (
  (getI h v0 12 58).bind fun t5 =>
  some (((-10000 : Int32) - t5), h))
theorem lX12_program_451 (X : pX) (N d : Nat)  (v0 : Nat) (h : pH) (q : Int32 × pH) (hf : fX12_program_451 N v0 h = some q) (nv0 : ¬ v0 = 4) : Run X (d + 808) 12 false (pCd 8105) 5 (some .int) 451 [(0, .ref v0)] [] h 0 0 (some (.int q.1), q.2, 0, 0) := by
  unfold fX12_program_451 at hf
  refine r_aload_n (dGet dX12_program (j := 249) rfl) nv0 rfl ?_
  obtain ⟨t1, et1, hf⟩ := Option.bind_eq_some_iff.mp hf
  refine r_getI (dGet dX12_program (j := 250) rfl) F12_409 et1 ?_
  by_cases c2 : t1 < 0
  · rw [if_pos c2] at hf
    refine r_if_lt_t (dGet dX12_program (j := 251) rfl) rfl c2 ?_
    refine r_aload_n (dGet dX12_program (j := 257) rfl) nv0 rfl ?_
    refine r_iconst (dGet dX12_program (j := 258) rfl) kI_1 ?_
    obtain ⟨h3, eh3, hf⟩ := Option.bind_eq_some_iff.mp hf
    refine r_putZ (dGet dX12_program (j := 259) rfl) F12_438 rfl rfl eh3 ?_
    refine r_aload_n (dGet dX12_program (j := 260) rfl) nv0 rfl ?_
    obtain ⟨t4, et4, hf⟩ := Option.bind_eq_some_iff.mp hf
    refine r_getI (dGet dX12_program (j := 261) rfl) F12_397 et4 ?_
    refine r_iconst (dGet dX12_program (j := 262) rfl) kI_5 ?_
    refine r_isub (dGet dX12_program (j := 263) rfl) ?_
    have hq := Option.some.inj hf
    subst hq
    exact r_iret (dGet dX12_program (j := 264) rfl) rfl rfl
  · rw [if_neg c2] at hf
    refine r_if_lt_f (dGet dX12_program (j := 251) rfl) rfl c2 ?_
    refine r_sipush (dGet dX12_program (j := 252) rfl) kS_m10000 ?_
    refine r_aload_n (dGet dX12_program (j := 253) rfl) nv0 rfl ?_
    obtain ⟨t5, et5, hf⟩ := Option.bind_eq_some_iff.mp hf
    refine r_getI (dGet dX12_program (j := 254) rfl) F12_409 et5 ?_
    refine r_isub (dGet dX12_program (j := 255) rfl) ?_
    have hq := Option.some.inj hf
    subst hq
    exact r_iret (dGet dX12_program (j := 256) rfl) rfl rfl
def fX12_program_445 (N : Nat) (k379 : Nat → Int32 → pH → Option (Int32 × pH)) (v0 : Nat) (v3 : Int32) (h : pH) : Option (Int32 × pH) :=
  k379 v0 (v3 + (1 : Int32)) h
theorem lX12_program_445 (X : pX) (N d : Nat)  (k379 : Nat → Int32 → pH → Option (Int32 × pH)) (K379 : ∀ (w0 : Nat) (w3 : Int32) (h : pH) (q : Int32 × pH), k379 w0 w3 h = some q → ¬ w0 = 4 → Run X (d + 808) 12 false (pCd 8105) 5 (some .int) 379 [(0, .ref w0), (3, .int w3)] [] h 0 0 (some (.int q.1), q.2, 0, 0)) (v0 : Nat) (v3 : Int32) (h : pH) (q : Int32 × pH) (hf : fX12_program_445 N k379 v0 v3 h = some q) (nv0 : ¬ v0 = 4) : Run X (d + 808) 12 false (pCd 8105) 5 (some .int) 445 [(0, .ref v0), (3, .int v3)] [] h 0 0 (some (.int q.1), q.2, 0, 0) := by
  unfold fX12_program_445 at hf
  refine r_iinc (lv' := [(3, .int (v3 + (1 : Int32))), (0, .ref v0)]) (dGet dX12_program (j := 247) rfl) rfl (by decide) kI_1 rfl ?_
  refine r_goto (dGet dX12_program (j := 248) rfl) rfl ?_
  refine Run.weak [(0, .ref v0), (3, .int (v3 + (1 : Int32)))] (by simp) (by simp [pNd]) ?_
  exact K379 v0 (v3 + (1 : Int32)) h q hf nv0
def fX12_program_439 (N : Nat) (k379 : Nat → Int32 → pH → Option (Int32 × pH)) (k402 : Nat → Int32 → Int32 → pH → Option (Int32 × pH)) (v0 : Nat) (v3 : Int32) (v4 : Int32) (h : pH) : Option (Int32 × pH) :=
  k402 v0 v3 (v4 + (1 : Int32)) h
theorem lX12_program_439 (X : pX) (N d : Nat)  (k379 : Nat → Int32 → pH → Option (Int32 × pH)) (K379 : ∀ (w0 : Nat) (w3 : Int32) (h : pH) (q : Int32 × pH), k379 w0 w3 h = some q → ¬ w0 = 4 → Run X (d + 808) 12 false (pCd 8105) 5 (some .int) 379 [(0, .ref w0), (3, .int w3)] [] h 0 0 (some (.int q.1), q.2, 0, 0)) (k402 : Nat → Int32 → Int32 → pH → Option (Int32 × pH)) (K402 : ∀ (w0 : Nat) (w3 : Int32) (w4 : Int32) (h : pH) (q : Int32 × pH), k402 w0 w3 w4 h = some q → ¬ w0 = 4 → Run X (d + 808) 12 false (pCd 8105) 5 (some .int) 402 [(0, .ref w0), (3, .int w3), (4, .int w4)] [] h 0 0 (some (.int q.1), q.2, 0, 0)) (v0 : Nat) (v3 : Int32) (v4 : Int32) (h : pH) (q : Int32 × pH) (hf : fX12_program_439 N k379 k402 v0 v3 v4 h = some q) (nv0 : ¬ v0 = 4) : Run X (d + 808) 12 false (pCd 8105) 5 (some .int) 439 [(0, .ref v0), (3, .int v3), (4, .int v4)] [] h 0 0 (some (.int q.1), q.2, 0, 0) := by
  unfold fX12_program_439 at hf
  refine r_iinc (lv' := [(4, .int (v4 + (1 : Int32))), (0, .ref v0), (3, .int v3)]) (dGet dX12_program (j := 245) rfl) rfl (by decide) kI_1 rfl ?_
  refine r_goto (dGet dX12_program (j := 246) rfl) rfl ?_
  refine Run.weak [(0, .ref v0), (3, .int v3), (4, .int (v4 + (1 : Int32)))] (by simp) (by simp [pNd]) ?_
  exact K402 v0 v3 (v4 + (1 : Int32)) h q hf nv0
def fX12_program_402 (N : Nat) (k379 : Nat → Int32 → pH → Option (Int32 × pH)) : Nat → Nat → Int32 → Int32 → pH → Option (Int32 × pH)
  | 0, _, _, _, _ => none
  | n + 1, v0, v3, v4, h => (getR h v0 12 43).bind fun t6 =>
  (ldI h t6 (v3 + (1 : Int32))).bind fun t7 =>
  if t7 ≤ v4 then (
  fX12_program_445 N k379 v0 v3 h) else (
  (getI h v0 12 58).bind fun t9 =>
  if 0 ≤ t9 then (
  fX12_program_445 N k379 v0 v3 h) else (
  (getR h v0 12 48).bind fun t11 =>
  (ldZ h t11 v4).bind fun t12 =>
  if t12 = 0 then (
  fX12_program_439 N k379 (fX12_program_402 N k379 n) v0 v3 v4 h) else (
  (fX12_checkMethod N v0 v3 v4 h).bind fun h14 =>
  fX12_program_439 N k379 (fX12_program_402 N k379 n) v0 v3 v4 h14)))
theorem lX12_program_402 (X : pX) (N d : Nat)  (k379 : Nat → Int32 → pH → Option (Int32 × pH)) (K379 : ∀ (w0 : Nat) (w3 : Int32) (h : pH) (q : Int32 × pH), k379 w0 w3 h = some q → ¬ w0 = 4 → Run X (d + 808) 12 false (pCd 8105) 5 (some .int) 379 [(0, .ref w0), (3, .int w3)] [] h 0 0 (some (.int q.1), q.2, 0, 0)) : ∀ (n : Nat) (v0 : Nat) (v3 : Int32) (v4 : Int32) (h : pH) (q : Int32 × pH), fX12_program_402 N k379 n v0 v3 v4 h = some q → ¬ v0 = 4 → Run X (d + 808) 12 false (pCd 8105) 5 (some .int) 402 [(0, .ref v0), (3, .int v3), (4, .int v4)] [] h 0 0 (some (.int q.1), q.2, 0, 0) := by
  intro n
  induction n with
  | zero => intro v0 v3 v4 h q hf; cases hf
  | succ n ih =>
    intro v0 v3 v4 h q hf nv0
    unfold fX12_program_402 at hf
    refine r_iload (dGet dX12_program (j := 225) rfl) rfl ?_
    refine r_aload_n (dGet dX12_program (j := 226) rfl) nv0 rfl ?_
    obtain ⟨t6, et6, hf⟩ := Option.bind_eq_some_iff.mp hf
    refine r_getR (dGet dX12_program (j := 227) rfl) F12_94 et6 ?_
    refine r_iload_n (dGet dX12_program (j := 228) rfl) rfl ?_
    refine r_iconst (dGet dX12_program (j := 229) rfl) kI_1 ?_
    refine r_iadd (dGet dX12_program (j := 230) rfl) ?_
    obtain ⟨t7, et7, hf⟩ := Option.bind_eq_some_iff.mp hf
    refine r_iald (dGet dX12_program (j := 231) rfl) et7 ?_
    by_cases c8 : t7 ≤ v4
    · rw [if_pos c8] at hf
      refine r_icmp_ge_t (dGet dX12_program (j := 232) rfl) rfl c8 ?_
      refine Run.weak [(0, .ref v0), (3, .int v3)] (by simp) (by simp [pNd]) ?_
      exact lX12_program_445 X N d k379 K379 v0 v3 h q hf nv0
    · rw [if_neg c8] at hf
      refine r_icmp_ge_f (dGet dX12_program (j := 232) rfl) rfl c8 ?_
      refine r_aload_n (dGet dX12_program (j := 233) rfl) nv0 rfl ?_
      obtain ⟨t9, et9, hf⟩ := Option.bind_eq_some_iff.mp hf
      refine r_getI (dGet dX12_program (j := 234) rfl) F12_409 et9 ?_
      by_cases c10 : 0 ≤ t9
      · rw [if_pos c10] at hf
        refine r_if_ge_t (dGet dX12_program (j := 235) rfl) rfl c10 ?_
        refine Run.weak [(0, .ref v0), (3, .int v3)] (by simp) (by simp [pNd]) ?_
        exact lX12_program_445 X N d k379 K379 v0 v3 h q hf nv0
      · rw [if_neg c10] at hf
        refine r_if_ge_f (dGet dX12_program (j := 235) rfl) rfl c10 ?_
        refine r_aload_n (dGet dX12_program (j := 236) rfl) nv0 rfl ?_
        obtain ⟨t11, et11, hf⟩ := Option.bind_eq_some_iff.mp hf
        refine r_getR (dGet dX12_program (j := 237) rfl) F12_106 et11 ?_
        refine r_iload (dGet dX12_program (j := 238) rfl) rfl ?_
        obtain ⟨t12, et12, hf⟩ := Option.bind_eq_some_iff.mp hf
        refine r_zald (dGet dX12_program (j := 239) rfl) et12 ?_
        by_cases c13 : t12 = 0
        · rw [if_pos c13] at hf
          refine r_if_eq_t (dGet dX12_program (j := 240) rfl) rfl c13 ?_
          exact lX12_program_439 X N d k379 K379 (fX12_program_402 N k379 n) ih v0 v3 v4 h q hf nv0
        · rw [if_neg c13] at hf
          refine r_if_eq_f (dGet dX12_program (j := 240) rfl) rfl c13 ?_
          refine r_aload_n (dGet dX12_program (j := 241) rfl) nv0 rfl ?_
          refine r_iload_n (dGet dX12_program (j := 242) rfl) rfl ?_
          refine r_iload (dGet dX12_program (j := 243) rfl) rfl ?_
          obtain ⟨h14, eh14, hf⟩ := Option.bind_eq_some_iff.mp hf
          refine r_virtual (dGet dX12_program (j := 244) rfl) L12_463 M280 rfl rfl (Nat.le_of_ble_eq_true rfl) (oX12_checkMethod eh14) (cX12_checkMethod X N (d + 202) v0 v3 v4 h h14 eh14) ?_
          exact lX12_program_439 X N d k379 K379 (fX12_program_402 N k379 n) ih v0 v3 v4 h14 q hf nv0
def fX12_program_379 (N : Nat) : Nat → Nat → Int32 → pH → Option (Int32 × pH)
  | 0, _, _, _ => none
  | n + 1, v0, v3, h => (getI h v0 12 37).bind fun t15 =>
  if t15 ≤ v3 then (
  fX12_program_451 N v0 h) else (
  (getI h v0 12 58).bind fun t17 =>
  if 0 ≤ t17 then (
  fX12_program_451 N v0 h) else (
  (getR h v0 12 43).bind fun t19 =>
  (ldI h t19 v3).bind fun t20 =>
  fX12_program_402 N (fX12_program_379 N n) N v0 v3 t20 h))
theorem lX12_program_379 (X : pX) (N d : Nat)  : ∀ (n : Nat) (v0 : Nat) (v3 : Int32) (h : pH) (q : Int32 × pH), fX12_program_379 N n v0 v3 h = some q → ¬ v0 = 4 → Run X (d + 808) 12 false (pCd 8105) 5 (some .int) 379 [(0, .ref v0), (3, .int v3)] [] h 0 0 (some (.int q.1), q.2, 0, 0) := by
  intro n
  induction n with
  | zero => intro v0 v3 h q hf; cases hf
  | succ n ih =>
    intro v0 v3 h q hf nv0
    unfold fX12_program_379 at hf
    refine r_iload_n (dGet dX12_program (j := 213) rfl) rfl ?_
    refine r_aload_n (dGet dX12_program (j := 214) rfl) nv0 rfl ?_
    obtain ⟨t15, et15, hf⟩ := Option.bind_eq_some_iff.mp hf
    refine r_getI (dGet dX12_program (j := 215) rfl) F12_397 et15 ?_
    by_cases c16 : t15 ≤ v3
    · rw [if_pos c16] at hf
      refine r_icmp_ge_t (dGet dX12_program (j := 216) rfl) rfl c16 ?_
      refine Run.weak [(0, .ref v0)] (by simp) (by simp [pNd]) ?_
      exact lX12_program_451 X N d v0 h q hf nv0
    · rw [if_neg c16] at hf
      refine r_icmp_ge_f (dGet dX12_program (j := 216) rfl) rfl c16 ?_
      refine r_aload_n (dGet dX12_program (j := 217) rfl) nv0 rfl ?_
      obtain ⟨t17, et17, hf⟩ := Option.bind_eq_some_iff.mp hf
      refine r_getI (dGet dX12_program (j := 218) rfl) F12_409 et17 ?_
      by_cases c18 : 0 ≤ t17
      · rw [if_pos c18] at hf
        refine r_if_ge_t (dGet dX12_program (j := 219) rfl) rfl c18 ?_
        refine Run.weak [(0, .ref v0)] (by simp) (by simp [pNd]) ?_
        exact lX12_program_451 X N d v0 h q hf nv0
      · rw [if_neg c18] at hf
        refine r_if_ge_f (dGet dX12_program (j := 219) rfl) rfl c18 ?_
        refine r_aload_n (dGet dX12_program (j := 220) rfl) nv0 rfl ?_
        obtain ⟨t19, et19, hf⟩ := Option.bind_eq_some_iff.mp hf
        refine r_getR (dGet dX12_program (j := 221) rfl) F12_94 et19 ?_
        refine r_iload_n (dGet dX12_program (j := 222) rfl) rfl ?_
        obtain ⟨t20, et20, hf⟩ := Option.bind_eq_some_iff.mp hf
        refine r_iald (dGet dX12_program (j := 223) rfl) et20 ?_
        refine r_istore (lv' := [(4, .int t20), (0, .ref v0), (3, .int v3)]) (dGet dX12_program (j := 224) rfl) (by decide) rfl ?_
        refine Run.weak [(0, .ref v0), (3, .int v3), (4, .int t20)] (by simp) (by simp [pNd]) ?_
        exact lX12_program_402 X N d (fX12_program_379 N n) ih N v0 v3 t20 h q hf nv0
def fX12_program_377 (N : Nat) (v0 : Nat) (h : pH) : Option (Int32 × pH) :=
  fX12_program_379 N N v0 (5 : Int32) h
theorem lX12_program_377 (X : pX) (N d : Nat)  (v0 : Nat) (h : pH) (q : Int32 × pH) (hf : fX12_program_377 N v0 h = some q) (nv0 : ¬ v0 = 4) : Run X (d + 808) 12 false (pCd 8105) 5 (some .int) 377 [(0, .ref v0)] [] h 0 0 (some (.int q.1), q.2, 0, 0) := by
  unfold fX12_program_377 at hf
  refine r_iconst (dGet dX12_program (j := 211) rfl) kI_5 ?_
  refine r_istore_n (lv' := [(3, .int (5 : Int32)), (0, .ref v0)]) (dGet dX12_program (j := 212) rfl) (by decide) rfl ?_
  refine Run.weak [(0, .ref v0), (3, .int (5 : Int32))] (by simp) (by simp [pNd]) ?_
  exact lX12_program_379 X N d N v0 (5 : Int32) h q hf nv0
def fX12_program_349 (N : Nat) : Nat → Nat → Int32 → pH → Option (Int32 × pH)
  | 0, _, _, _ => none
  | n + 1, v0, v3, h => (getI h v0 12 37).bind fun t21 =>
  if t21 ≤ v3 then (
  fX12_program_377 N v0 h) else (
  (getI h v0 12 58).bind fun t23 =>
  if 0 ≤ t23 then (
  fX12_program_377 N v0 h) else (
  (fX12_setSlots N v0 v3 h).bind fun q25 =>
  fX12_program_349 N n v0 (v3 + (1 : Int32)) q25.2))
theorem lX12_program_349 (X : pX) (N d : Nat)  : ∀ (n : Nat) (v0 : Nat) (v3 : Int32) (h : pH) (q : Int32 × pH), fX12_program_349 N n v0 v3 h = some q → ¬ v0 = 4 → Run X (d + 808) 12 false (pCd 8105) 5 (some .int) 349 [(0, .ref v0), (3, .int v3)] [] h 0 0 (some (.int q.1), q.2, 0, 0) := by
  intro n
  induction n with
  | zero => intro v0 v3 h q hf; cases hf
  | succ n ih =>
    intro v0 v3 h q hf nv0
    unfold fX12_program_349 at hf
    refine r_iload_n (dGet dX12_program (j := 198) rfl) rfl ?_
    refine r_aload_n (dGet dX12_program (j := 199) rfl) nv0 rfl ?_
    obtain ⟨t21, et21, hf⟩ := Option.bind_eq_some_iff.mp hf
    refine r_getI (dGet dX12_program (j := 200) rfl) F12_397 et21 ?_
    by_cases c22 : t21 ≤ v3
    · rw [if_pos c22] at hf
      refine r_icmp_ge_t (dGet dX12_program (j := 201) rfl) rfl c22 ?_
      refine Run.weak [(0, .ref v0)] (by simp) (by simp [pNd]) ?_
      exact lX12_program_377 X N d v0 h q hf nv0
    · rw [if_neg c22] at hf
      refine r_icmp_ge_f (dGet dX12_program (j := 201) rfl) rfl c22 ?_
      refine r_aload_n (dGet dX12_program (j := 202) rfl) nv0 rfl ?_
      obtain ⟨t23, et23, hf⟩ := Option.bind_eq_some_iff.mp hf
      refine r_getI (dGet dX12_program (j := 203) rfl) F12_409 et23 ?_
      by_cases c24 : 0 ≤ t23
      · rw [if_pos c24] at hf
        refine r_if_ge_t (dGet dX12_program (j := 204) rfl) rfl c24 ?_
        refine Run.weak [(0, .ref v0)] (by simp) (by simp [pNd]) ?_
        exact lX12_program_377 X N d v0 h q hf nv0
      · rw [if_neg c24] at hf
        refine r_if_ge_f (dGet dX12_program (j := 204) rfl) rfl c24 ?_
        refine r_aload_n (dGet dX12_program (j := 205) rfl) nv0 rfl ?_
        refine r_iload_n (dGet dX12_program (j := 206) rfl) rfl ?_
        obtain ⟨q25, eq25, hf⟩ := Option.bind_eq_some_iff.mp hf
        refine r_virtual (dGet dX12_program (j := 207) rfl) L12_460 M279 rfl rfl (Nat.le_of_ble_eq_true rfl) (oX12_setSlots eq25) (cX12_setSlots X N (d + 807) v0 v3 h q25 eq25) ?_
        refine r_istore (lv' := [(4, .int q25.1), (0, .ref v0), (3, .int v3)]) (dGet dX12_program (j := 208) rfl) (by decide) rfl ?_
        refine r_iinc (lv' := [(3, .int (v3 + (1 : Int32))), (4, .int q25.1), (0, .ref v0)]) (dGet dX12_program (j := 209) rfl) rfl (by decide) kI_1 rfl ?_
        refine r_goto (dGet dX12_program (j := 210) rfl) rfl ?_
        refine Run.weak [(0, .ref v0), (3, .int (v3 + (1 : Int32)))] (by simp) (by simp [pNd]) ?_
        exact ih v0 (v3 + (1 : Int32)) q25.2 q hf nv0
def fX12_program_326 (N : Nat) : Nat → Nat → Int32 → pH → Option (Int32 × pH)
  | 0, _, _, _ => none
  | n + 1, v0, v3, h => (getI h v0 12 37).bind fun t26 =>
  if t26 ≤ v3 then (
  fX12_program_349 N N v0 (0 : Int32) h) else (
  (getR h v0 12 42).bind fun t28 =>
  (stI h t28 v3 (-1 : Int32)).bind fun h29 =>
  fX12_program_326 N n v0 (v3 + (1 : Int32)) h29)
theorem lX12_program_326 (X : pX) (N d : Nat)  : ∀ (n : Nat) (v0 : Nat) (v3 : Int32) (h : pH) (q : Int32 × pH), fX12_program_326 N n v0 v3 h = some q → ¬ v0 = 4 → Run X (d + 808) 12 false (pCd 8105) 5 (some .int) 326 [(0, .ref v0), (3, .int v3)] [] h 0 0 (some (.int q.1), q.2, 0, 0) := by
  intro n
  induction n with
  | zero => intro v0 v3 h q hf; cases hf
  | succ n ih =>
    intro v0 v3 h q hf nv0
    unfold fX12_program_326 at hf
    refine r_iload_n (dGet dX12_program (j := 185) rfl) rfl ?_
    refine r_aload_n (dGet dX12_program (j := 186) rfl) nv0 rfl ?_
    obtain ⟨t26, et26, hf⟩ := Option.bind_eq_some_iff.mp hf
    refine r_getI (dGet dX12_program (j := 187) rfl) F12_397 et26 ?_
    by_cases c27 : t26 ≤ v3
    · rw [if_pos c27] at hf
      refine r_icmp_ge_t (dGet dX12_program (j := 188) rfl) rfl c27 ?_
      refine r_iconst (dGet dX12_program (j := 196) rfl) kI_0 ?_
      refine r_istore_n (lv' := [(3, .int (0 : Int32)), (0, .ref v0)]) (dGet dX12_program (j := 197) rfl) (by decide) rfl ?_
      refine Run.weak [(0, .ref v0), (3, .int (0 : Int32))] (by simp) (by simp [pNd]) ?_
      exact lX12_program_349 X N d N v0 (0 : Int32) h q hf nv0
    · rw [if_neg c27] at hf
      refine r_icmp_ge_f (dGet dX12_program (j := 188) rfl) rfl c27 ?_
      refine r_aload_n (dGet dX12_program (j := 189) rfl) nv0 rfl ?_
      obtain ⟨t28, et28, hf⟩ := Option.bind_eq_some_iff.mp hf
      refine r_getR (dGet dX12_program (j := 190) rfl) F12_91 et28 ?_
      refine r_iload_n (dGet dX12_program (j := 191) rfl) rfl ?_
      refine r_iconst (dGet dX12_program (j := 192) rfl) kI_m1 ?_
      obtain ⟨h29, eh29, hf⟩ := Option.bind_eq_some_iff.mp hf
      refine r_iast (dGet dX12_program (j := 193) rfl) eh29 ?_
      refine r_iinc (lv' := [(3, .int (v3 + (1 : Int32))), (0, .ref v0)]) (dGet dX12_program (j := 194) rfl) rfl (by decide) kI_1 rfl ?_
      refine r_goto (dGet dX12_program (j := 195) rfl) rfl ?_
      refine Run.weak [(0, .ref v0), (3, .int (v3 + (1 : Int32)))] (by simp) (by simp [pNd]) ?_
      exact ih v0 (v3 + (1 : Int32)) h29 q hf nv0
def fX12_program_324 (N : Nat) (v0 : Nat) (h : pH) : Option (Int32 × pH) :=
  fX12_program_326 N N v0 (0 : Int32) h
theorem lX12_program_324 (X : pX) (N d : Nat)  (v0 : Nat) (h : pH) (q : Int32 × pH) (hf : fX12_program_324 N v0 h = some q) (nv0 : ¬ v0 = 4) : Run X (d + 808) 12 false (pCd 8105) 5 (some .int) 324 [(0, .ref v0)] [] h 0 0 (some (.int q.1), q.2, 0, 0) := by
  unfold fX12_program_324 at hf
  refine r_iconst (dGet dX12_program (j := 183) rfl) kI_0 ?_
  refine r_istore_n (lv' := [(3, .int (0 : Int32)), (0, .ref v0)]) (dGet dX12_program (j := 184) rfl) (by decide) rfl ?_
  refine Run.weak [(0, .ref v0), (3, .int (0 : Int32))] (by simp) (by simp [pNd]) ?_
  exact lX12_program_326 X N d N v0 (0 : Int32) h q hf nv0
def fX12_program_316 (N : Nat) (v0 : Nat) (h : pH) : Option (Int32 × pH) :=
  (getI h v0 12 3).bind fun t30 =>
  (fX12_isBad N v0 t30 h).bind fun h31 =>
  fX12_program_324 N v0 h31
theorem lX12_program_316 (X : pX) (N d : Nat)  (v0 : Nat) (h : pH) (q : Int32 × pH) (hf : fX12_program_316 N v0 h = some q) (nv0 : ¬ v0 = 4) : Run X (d + 808) 12 false (pCd 8105) 5 (some .int) 316 [(0, .ref v0)] [] h 0 0 (some (.int q.1), q.2, 0, 0) := by
  unfold fX12_program_316 at hf
  refine r_aload_n (dGet dX12_program (j := 179) rfl) nv0 rfl ?_
  refine r_aload_n (dGet dX12_program (j := 180) rfl) nv0 rfl ?_
  obtain ⟨t30, et30, hf⟩ := Option.bind_eq_some_iff.mp hf
  refine r_getI (dGet dX12_program (j := 181) rfl) F12_240 et30 ?_
  obtain ⟨h31, eh31, hf⟩ := Option.bind_eq_some_iff.mp hf
  refine r_virtual (dGet dX12_program (j := 182) rfl) L12_419 M273 rfl rfl (Nat.le_of_ble_eq_true rfl) (oX12_isBad eh31) (cX12_isBad X N (d + 807) v0 t30 h h31 eh31) ?_
  exact lX12_program_324 X N d v0 h31 q hf nv0
def fX12_program_278 (N : Nat) (v0 : Nat) (s0 : Int32) (h : pH) : Option (Int32 × pH) :=
  (getI h v0 12 58).bind fun t32 =>
  if 0 ≤ t32 then (
  fX12_program_324 N v0 h) else (
  if s0 < 0 then (
  fX12_program_316 N v0 h) else (
  (getR h v0 12 47).bind fun t35 =>
  (ldI h t35 s0).bind fun t36 =>
  if t36 = 0 then (
  (getR h v0 12 49).bind fun t38 =>
  (ldI h t38 (s0 + (1 : Int32))).bind fun t39 =>
  (getR h v0 12 49).bind fun t40 =>
  (ldI h t40 s0).bind fun t41 =>
  if t39 ≤ t41 then (
  fX12_program_324 N v0 h) else (
  fX12_program_316 N v0 h)) else (
  fX12_program_316 N v0 h)))
theorem lX12_program_278 (X : pX) (N d : Nat)  (v0 : Nat) (s0 : Int32) (h : pH) (q : Int32 × pH) (hf : fX12_program_278 N v0 s0 h = some q) (nv0 : ¬ v0 = 4) : Run X (d + 808) 12 false (pCd 8105) 5 (some .int) 278 [(0, .ref v0)] [.int s0] h 0 0 (some (.int q.1), q.2, 0, 0) := by
  unfold fX12_program_278 at hf
  refine r_istore_n (lv' := [(2, .int s0), (0, .ref v0)]) (dGet dX12_program (j := 157) rfl) (by decide) rfl ?_
  refine r_aload_n (dGet dX12_program (j := 158) rfl) nv0 rfl ?_
  obtain ⟨t32, et32, hf⟩ := Option.bind_eq_some_iff.mp hf
  refine r_getI (dGet dX12_program (j := 159) rfl) F12_409 et32 ?_
  by_cases c33 : 0 ≤ t32
  · rw [if_pos c33] at hf
    refine r_if_ge_t (dGet dX12_program (j := 160) rfl) rfl c33 ?_
    refine Run.weak [(0, .ref v0)] (by simp) (by simp [pNd]) ?_
    exact lX12_program_324 X N d v0 h q hf nv0
  · rw [if_neg c33] at hf
    refine r_if_ge_f (dGet dX12_program (j := 160) rfl) rfl c33 ?_
    refine r_iload_n (dGet dX12_program (j := 161) rfl) rfl ?_
    by_cases c34 : s0 < 0
    · rw [if_pos c34] at hf
      refine r_if_lt_t (dGet dX12_program (j := 162) rfl) rfl c34 ?_
      refine Run.weak [(0, .ref v0)] (by simp) (by simp [pNd]) ?_
      exact lX12_program_316 X N d v0 h q hf nv0
    · rw [if_neg c34] at hf
      refine r_if_lt_f (dGet dX12_program (j := 162) rfl) rfl c34 ?_
      refine r_aload_n (dGet dX12_program (j := 163) rfl) nv0 rfl ?_
      obtain ⟨t35, et35, hf⟩ := Option.bind_eq_some_iff.mp hf
      refine r_getR (dGet dX12_program (j := 164) rfl) F12_103 et35 ?_
      refine r_iload_n (dGet dX12_program (j := 165) rfl) rfl ?_
      obtain ⟨t36, et36, hf⟩ := Option.bind_eq_some_iff.mp hf
      refine r_iald (dGet dX12_program (j := 166) rfl) et36 ?_
      by_cases c37 : t36 = 0
      · rw [if_pos c37] at hf
        refine r_if_ne_f (dGet dX12_program (j := 167) rfl) rfl c37 ?_
        refine r_aload_n (dGet dX12_program (j := 168) rfl) nv0 rfl ?_
        obtain ⟨t38, et38, hf⟩ := Option.bind_eq_some_iff.mp hf
        refine r_getR (dGet dX12_program (j := 169) rfl) F12_110 et38 ?_
        refine r_iload_n (dGet dX12_program (j := 170) rfl) rfl ?_
        refine r_iconst (dGet dX12_program (j := 171) rfl) kI_1 ?_
        refine r_iadd (dGet dX12_program (j := 172) rfl) ?_
        obtain ⟨t39, et39, hf⟩ := Option.bind_eq_some_iff.mp hf
        refine r_iald (dGet dX12_program (j := 173) rfl) et39 ?_
        refine r_aload_n (dGet dX12_program (j := 174) rfl) nv0 rfl ?_
        obtain ⟨t40, et40, hf⟩ := Option.bind_eq_some_iff.mp hf
        refine r_getR (dGet dX12_program (j := 175) rfl) F12_110 et40 ?_
        refine r_iload_n (dGet dX12_program (j := 176) rfl) rfl ?_
        obtain ⟨t41, et41, hf⟩ := Option.bind_eq_some_iff.mp hf
        refine r_iald (dGet dX12_program (j := 177) rfl) et41 ?_
        by_cases c42 : t39 ≤ t41
        · rw [if_pos c42] at hf
          refine r_icmp_le_t (dGet dX12_program (j := 178) rfl) rfl c42 ?_
          refine Run.weak [(0, .ref v0)] (by simp) (by simp [pNd]) ?_
          exact lX12_program_324 X N d v0 h q hf nv0
        · rw [if_neg c42] at hf
          refine r_icmp_le_f (dGet dX12_program (j := 178) rfl) rfl c42 ?_
          refine Run.weak [(0, .ref v0)] (by simp) (by simp [pNd]) ?_
          exact lX12_program_316 X N d v0 h q hf nv0
      · rw [if_neg c37] at hf
        refine r_if_ne_t (dGet dX12_program (j := 167) rfl) rfl c37 ?_
        refine Run.weak [(0, .ref v0)] (by simp) (by simp [pNd]) ?_
        exact lX12_program_316 X N d v0 h q hf nv0
def fX12_program_253 (N : Nat) (v0 : Nat) (s0 : Nat) (s1 : Int32) (h : pH) : Option (Int32 × pH) :=
  (putI h s0 12 59 s1).bind fun h43 =>
  (getI h43 v0 12 59).bind fun t44 =>
  if 0 ≤ t44 then (
  (getI h43 v0 12 59).bind fun t46 =>
  (fX12_memberOf N v0 t46 (6 : Int32) (1 : Int32) h43).bind fun q47 =>
  fX12_program_278 N v0 q47.1 q47.2) else (
  fX12_program_278 N v0 (-1 : Int32) h43)
theorem lX12_program_253 (X : pX) (N d : Nat)  (v0 : Nat) (s0 : Nat) (s1 : Int32) (h : pH) (q : Int32 × pH) (hf : fX12_program_253 N v0 s0 s1 h = some q) (nv0 : ¬ v0 = 4) (ns0 : ¬ s0 = 4) : Run X (d + 808) 12 false (pCd 8105) 5 (some .int) 253 [(0, .ref v0)] [.int s1, .ref s0] h 0 0 (some (.int q.1), q.2, 0, 0) := by
  unfold fX12_program_253 at hf
  obtain ⟨h43, eh43, hf⟩ := Option.bind_eq_some_iff.mp hf
  refine r_putI (dGet dX12_program (j := 145) rfl) F12_457 rfl rfl eh43 ?_
  refine r_aload_n (dGet dX12_program (j := 146) rfl) nv0 rfl ?_
  obtain ⟨t44, et44, hf⟩ := Option.bind_eq_some_iff.mp hf
  refine r_getI (dGet dX12_program (j := 147) rfl) F12_457 et44 ?_
  by_cases c45 : 0 ≤ t44
  · rw [if_pos c45] at hf
    refine r_if_ge_t (dGet dX12_program (j := 148) rfl) rfl c45 ?_
    refine r_aload_n (dGet dX12_program (j := 151) rfl) nv0 rfl ?_
    refine r_aload_n (dGet dX12_program (j := 152) rfl) nv0 rfl ?_
    obtain ⟨t46, et46, hf⟩ := Option.bind_eq_some_iff.mp hf
    refine r_getI (dGet dX12_program (j := 153) rfl) F12_457 et46 ?_
    refine r_bipush (dGet dX12_program (j := 154) rfl) kB_6 ?_
    refine r_iconst (dGet dX12_program (j := 155) rfl) kI_1 ?_
    obtain ⟨q47, eq47, hf⟩ := Option.bind_eq_some_iff.mp hf
    refine r_virtual (dGet dX12_program (j := 156) rfl) L12_422 M277 rfl rfl (Nat.le_of_ble_eq_true rfl) (oX12_memberOf eq47) (cX12_memberOf X N (d + 807) v0 t46 (6 : Int32) (1 : Int32) h43 q47 eq47) ?_
    exact lX12_program_278 X N d v0 q47.1 q47.2 q hf nv0
  · rw [if_neg c45] at hf
    refine r_if_ge_f (dGet dX12_program (j := 148) rfl) rfl c45 ?_
    refine r_iconst (dGet dX12_program (j := 149) rfl) kI_m1 ?_
    refine r_goto (dGet dX12_program (j := 150) rfl) rfl ?_
    exact lX12_program_278 X N d v0 (-1 : Int32) h43 q hf nv0
def fX12_program_236 (N : Nat) (v0 : Nat) (h : pH) : Option (Int32 × pH) :=
  (getI h v0 12 58).bind fun t48 =>
  if 0 ≤ t48 then (
  fX12_program_253 N v0 v0 (-1 : Int32) h) else (
  (fX12_classOf N v0 (5 : Int32) h).bind fun q50 =>
  fX12_program_253 N v0 v0 q50.1 q50.2)
theorem lX12_program_236 (X : pX) (N d : Nat)  (v0 : Nat) (h : pH) (q : Int32 × pH) (hf : fX12_program_236 N v0 h = some q) (nv0 : ¬ v0 = 4) : Run X (d + 808) 12 false (pCd 8105) 5 (some .int) 236 [(0, .ref v0)] [] h 0 0 (some (.int q.1), q.2, 0, 0) := by
  unfold fX12_program_236 at hf
  refine r_aload_n (dGet dX12_program (j := 136) rfl) nv0 rfl ?_
  refine r_aload_n (dGet dX12_program (j := 137) rfl) nv0 rfl ?_
  obtain ⟨t48, et48, hf⟩ := Option.bind_eq_some_iff.mp hf
  refine r_getI (dGet dX12_program (j := 138) rfl) F12_409 et48 ?_
  by_cases c49 : 0 ≤ t48
  · rw [if_pos c49] at hf
    refine r_if_ge_t (dGet dX12_program (j := 139) rfl) rfl c49 ?_
    refine r_iconst (dGet dX12_program (j := 144) rfl) kI_m1 ?_
    exact lX12_program_253 X N d v0 v0 (-1 : Int32) h q hf nv0 nv0
  · rw [if_neg c49] at hf
    refine r_if_ge_f (dGet dX12_program (j := 139) rfl) rfl c49 ?_
    refine r_aload_n (dGet dX12_program (j := 140) rfl) nv0 rfl ?_
    refine r_iconst (dGet dX12_program (j := 141) rfl) kI_5 ?_
    obtain ⟨q50, eq50, hf⟩ := Option.bind_eq_some_iff.mp hf
    refine r_virtual (dGet dX12_program (j := 142) rfl) L12_412 M272 rfl rfl (Nat.le_of_ble_eq_true rfl) (oX12_classOf eq50) (cX12_classOf X N (d + 807) v0 (5 : Int32) h q50 eq50) ?_
    refine r_goto (dGet dX12_program (j := 143) rfl) rfl ?_
    exact lX12_program_253 X N d v0 v0 q50.1 q50.2 q hf nv0 nv0
def fX12_program_203 (N : Nat) (k164 : Nat → Int32 → pH → Option (Int32 × pH)) (v0 : Nat) (s0 : Int32) (h : pH) : Option (Int32 × pH) :=
  k164 v0 s0 h
theorem lX12_program_203 (X : pX) (N d : Nat)  (k164 : Nat → Int32 → pH → Option (Int32 × pH)) (K164 : ∀ (w0 : Nat) (w1 : Int32) (h : pH) (q : Int32 × pH), k164 w0 w1 h = some q → ¬ w0 = 4 → Run X (d + 808) 12 false (pCd 8105) 5 (some .int) 164 [(0, .ref w0), (1, .int w1)] [] h 0 0 (some (.int q.1), q.2, 0, 0)) (v0 : Nat) (s0 : Int32) (h : pH) (q : Int32 × pH) (hf : fX12_program_203 N k164 v0 s0 h = some q) (nv0 : ¬ v0 = 4) : Run X (d + 808) 12 false (pCd 8105) 5 (some .int) 203 [(0, .ref v0)] [.int s0] h 0 0 (some (.int q.1), q.2, 0, 0) := by
  unfold fX12_program_203 at hf
  refine r_istore_n (lv' := [(1, .int s0), (0, .ref v0)]) (dGet dX12_program (j := 119) rfl) (by decide) rfl ?_
  refine r_goto (dGet dX12_program (j := 120) rfl) rfl ?_
  refine Run.weak [(0, .ref v0), (1, .int s0)] (by simp) (by simp [pNd]) ?_
  exact K164 v0 s0 h q hf nv0
def fX12_program_202 (N : Nat) (k164 : Nat → Int32 → pH → Option (Int32 × pH)) (v0 : Nat) (h : pH) : Option (Int32 × pH) :=
  fX12_program_203 N k164 v0 (0 : Int32) h
theorem lX12_program_202 (X : pX) (N d : Nat)  (k164 : Nat → Int32 → pH → Option (Int32 × pH)) (K164 : ∀ (w0 : Nat) (w1 : Int32) (h : pH) (q : Int32 × pH), k164 w0 w1 h = some q → ¬ w0 = 4 → Run X (d + 808) 12 false (pCd 8105) 5 (some .int) 164 [(0, .ref w0), (1, .int w1)] [] h 0 0 (some (.int q.1), q.2, 0, 0)) (v0 : Nat) (h : pH) (q : Int32 × pH) (hf : fX12_program_202 N k164 v0 h = some q) (nv0 : ¬ v0 = 4) : Run X (d + 808) 12 false (pCd 8105) 5 (some .int) 202 [(0, .ref v0)] [] h 0 0 (some (.int q.1), q.2, 0, 0) := by
  unfold fX12_program_202 at hf
  refine r_iconst (dGet dX12_program (j := 118) rfl) kI_0 ?_
  exact lX12_program_203 X N d k164 K164 v0 (0 : Int32) h q hf nv0
def fX12_program_184 (N : Nat) (k164 : Nat → Int32 → pH → Option (Int32 × pH)) (v0 : Nat) (h : pH) : Option (Int32 × pH) :=
  (getI h v0 12 9).bind fun t51 =>
  if 0 ≤ t51 then (
  fX12_program_202 N k164 v0 h) else (
  (getI h v0 12 5).bind fun t53 =>
  if t53 = 0 then (
  fX12_program_202 N k164 v0 h) else (
  fX12_program_203 N k164 v0 (1 : Int32) h))
theorem lX12_program_184 (X : pX) (N d : Nat)  (k164 : Nat → Int32 → pH → Option (Int32 × pH)) (K164 : ∀ (w0 : Nat) (w1 : Int32) (h : pH) (q : Int32 × pH), k164 w0 w1 h = some q → ¬ w0 = 4 → Run X (d + 808) 12 false (pCd 8105) 5 (some .int) 164 [(0, .ref w0), (1, .int w1)] [] h 0 0 (some (.int q.1), q.2, 0, 0)) (v0 : Nat) (h : pH) (q : Int32 × pH) (hf : fX12_program_184 N k164 v0 h = some q) (nv0 : ¬ v0 = 4) : Run X (d + 808) 12 false (pCd 8105) 5 (some .int) 184 [(0, .ref v0)] [] h 0 0 (some (.int q.1), q.2, 0, 0) := by
  unfold fX12_program_184 at hf
  refine r_aload_n (dGet dX12_program (j := 110) rfl) nv0 rfl ?_
  obtain ⟨t51, et51, hf⟩ := Option.bind_eq_some_iff.mp hf
  refine r_getI (dGet dX12_program (j := 111) rfl) F12_283 et51 ?_
  by_cases c52 : 0 ≤ t51
  · rw [if_pos c52] at hf
    refine r_if_ge_t (dGet dX12_program (j := 112) rfl) rfl c52 ?_
    exact lX12_program_202 X N d k164 K164 v0 h q hf nv0
  · rw [if_neg c52] at hf
    refine r_if_ge_f (dGet dX12_program (j := 112) rfl) rfl c52 ?_
    refine r_aload_n (dGet dX12_program (j := 113) rfl) nv0 rfl ?_
    obtain ⟨t53, et53, hf⟩ := Option.bind_eq_some_iff.mp hf
    refine r_getI (dGet dX12_program (j := 114) rfl) F12_263 et53 ?_
    by_cases c54 : t53 = 0
    · rw [if_pos c54] at hf
      refine r_if_eq_t (dGet dX12_program (j := 115) rfl) rfl c54 ?_
      exact lX12_program_202 X N d k164 K164 v0 h q hf nv0
    · rw [if_neg c54] at hf
      refine r_if_eq_f (dGet dX12_program (j := 115) rfl) rfl c54 ?_
      refine r_iconst (dGet dX12_program (j := 116) rfl) kI_1 ?_
      refine r_goto (dGet dX12_program (j := 117) rfl) rfl ?_
      exact lX12_program_203 X N d k164 K164 v0 (1 : Int32) h q hf nv0
def fX12_program_164 (N : Nat) : Nat → Nat → Int32 → pH → Option (Int32 × pH)
  | 0, _, _, _ => none
  | n + 1, v0, v1, h => if v1 = 0 then (
  (getI h v0 12 9).bind fun t56 =>
  if t56 < 0 then (
  (fX12_checkClasses N v0 h).bind fun h58 =>
  (getI h58 v0 12 58).bind fun t59 =>
  if 0 ≤ t59 then (
  fX12_program_236 N v0 h58) else (
  (fX12_checkMembers N v0 h58).bind fun h61 =>
  fX12_program_236 N v0 h61)) else (
  (getI h v0 12 9).bind fun t62 =>
  some (((-1 : Int32) - t62), h))) else (
  (fX12_isKey N v0 (1 : Int32) h).bind fun q63 =>
  (fX12_passes N v0 q63.1 q63.2).bind fun q64 =>
  if q64.1 = 0 then (
  fX12_program_184 N (fX12_program_164 N n) v0 q64.2) else (
  (fX12_readClass N v0 q64.2).bind fun h66 =>
  fX12_program_184 N (fX12_program_164 N n) v0 h66))
theorem lX12_program_164 (X : pX) (N d : Nat)  : ∀ (n : Nat) (v0 : Nat) (v1 : Int32) (h : pH) (q : Int32 × pH), fX12_program_164 N n v0 v1 h = some q → ¬ v0 = 4 → Run X (d + 808) 12 false (pCd 8105) 5 (some .int) 164 [(0, .ref v0), (1, .int v1)] [] h 0 0 (some (.int q.1), q.2, 0, 0) := by
  intro n
  induction n with
  | zero => intro v0 v1 h q hf; cases hf
  | succ n ih =>
    intro v0 v1 h q hf nv0
    unfold fX12_program_164 at hf
    refine r_iload_n (dGet dX12_program (j := 100) rfl) rfl ?_
    by_cases c55 : v1 = 0
    · rw [if_pos c55] at hf
      refine r_if_eq_t (dGet dX12_program (j := 101) rfl) rfl c55 ?_
      refine r_aload_n (dGet dX12_program (j := 121) rfl) nv0 rfl ?_
      obtain ⟨t56, et56, hf⟩ := Option.bind_eq_some_iff.mp hf
      refine r_getI (dGet dX12_program (j := 122) rfl) F12_283 et56 ?_
      by_cases c57 : t56 < 0
      · rw [if_pos c57] at hf
        refine r_if_lt_t (dGet dX12_program (j := 123) rfl) rfl c57 ?_
        refine r_aload_n (dGet dX12_program (j := 129) rfl) nv0 rfl ?_
        obtain ⟨h58, eh58, hf⟩ := Option.bind_eq_some_iff.mp hf
        refine r_virtual (dGet dX12_program (j := 130) rfl) L12_451 M271 rfl rfl (Nat.le_of_ble_eq_true rfl) (oX12_checkClasses eh58) (cX12_checkClasses X N (d + 806) v0 h h58 eh58) ?_
        refine r_aload_n (dGet dX12_program (j := 131) rfl) nv0 rfl ?_
        obtain ⟨t59, et59, hf⟩ := Option.bind_eq_some_iff.mp hf
        refine r_getI (dGet dX12_program (j := 132) rfl) F12_409 et59 ?_
        by_cases c60 : 0 ≤ t59
        · rw [if_pos c60] at hf
          refine r_if_ge_t (dGet dX12_program (j := 133) rfl) rfl c60 ?_
          refine Run.weak [(0, .ref v0)] (by simp) (by simp [pNd]) ?_
          exact lX12_program_236 X N d v0 h58 q hf nv0
        · rw [if_neg c60] at hf
          refine r_if_ge_f (dGet dX12_program (j := 133) rfl) rfl c60 ?_
          refine r_aload_n (dGet dX12_program (j := 134) rfl) nv0 rfl ?_
          obtain ⟨h61, eh61, hf⟩ := Option.bind_eq_some_iff.mp hf
          refine r_virtual (dGet dX12_program (j := 135) rfl) L12_454 M274 rfl rfl (Nat.le_of_ble_eq_true rfl) (oX12_checkMembers eh61) (cX12_checkMembers X N (d + 805) v0 h58 h61 eh61) ?_
          refine Run.weak [(0, .ref v0)] (by simp) (by simp [pNd]) ?_
          exact lX12_program_236 X N d v0 h61 q hf nv0
      · rw [if_neg c57] at hf
        refine r_if_lt_f (dGet dX12_program (j := 123) rfl) rfl c57 ?_
        refine r_iconst (dGet dX12_program (j := 124) rfl) kI_m1 ?_
        refine r_aload_n (dGet dX12_program (j := 125) rfl) nv0 rfl ?_
        obtain ⟨t62, et62, hf⟩ := Option.bind_eq_some_iff.mp hf
        refine r_getI (dGet dX12_program (j := 126) rfl) F12_283 et62 ?_
        refine r_isub (dGet dX12_program (j := 127) rfl) ?_
        have hq := Option.some.inj hf
        subst hq
        exact r_iret (dGet dX12_program (j := 128) rfl) rfl rfl
    · rw [if_neg c55] at hf
      refine r_if_eq_f (dGet dX12_program (j := 101) rfl) rfl c55 ?_
      refine r_aload_n (dGet dX12_program (j := 102) rfl) nv0 rfl ?_
      refine r_aload_n (dGet dX12_program (j := 103) rfl) nv0 rfl ?_
      refine r_iconst (dGet dX12_program (j := 104) rfl) kI_1 ?_
      obtain ⟨q63, eq63, hf⟩ := Option.bind_eq_some_iff.mp hf
      refine r_virtual (dGet dX12_program (j := 105) rfl) L12_330 M242 rfl rfl (Nat.le_of_ble_eq_true rfl) (oX12_isKey eq63) (cX12_isKey X N (d + 807) v0 (1 : Int32) h q63 eq63) ?_
      obtain ⟨q64, eq64, hf⟩ := Option.bind_eq_some_iff.mp hf
      refine r_virtual (dGet dX12_program (j := 106) rfl) L12_298 M243 rfl rfl (Nat.le_of_ble_eq_true rfl) (oX12_passes eq64) (cX12_passes X N (d + 804) v0 q63.1 q63.2 q64 eq64) ?_
      by_cases c65 : q64.1 = 0
      · rw [if_pos c65] at hf
        refine r_if_eq_t (dGet dX12_program (j := 107) rfl) rfl c65 ?_
        refine Run.weak [(0, .ref v0)] (by simp) (by simp [pNd]) ?_
        exact lX12_program_184 X N d (fX12_program_164 N n) ih v0 q64.2 q hf nv0
      · rw [if_neg c65] at hf
        refine r_if_eq_f (dGet dX12_program (j := 107) rfl) rfl c65 ?_
        refine r_aload_n (dGet dX12_program (j := 108) rfl) nv0 rfl ?_
        obtain ⟨h66, eh66, hf⟩ := Option.bind_eq_some_iff.mp hf
        refine r_virtual (dGet dX12_program (j := 109) rfl) L12_448 M245 rfl rfl (Nat.le_of_ble_eq_true rfl) (oX12_readClass eh66) (cX12_readClass X N (d + 0) v0 q64.2 h66 eh66) ?_
        refine Run.weak [(0, .ref v0)] (by simp) (by simp [pNd]) ?_
        exact lX12_program_184 X N d (fX12_program_164 N n) ih v0 h66 q hf nv0
def fX12_program_107 (N : Nat) : Nat → Nat → Int32 → pH → Option (Int32 × pH)
  | 0, _, _, _ => none
  | n + 1, v0, v1, h => if (5 : Int32) ≤ v1 then (
  (getR h v0 12 43).bind fun t68 =>
  (stI h t68 (5 : Int32) (0 : Int32)).bind fun h69 =>
  (getR h69 v0 12 49).bind fun t70 =>
  (stI h69 t70 (0 : Int32) (0 : Int32)).bind fun h71 =>
  (putI h71 v0 12 37 (5 : Int32)).bind fun h72 =>
  (fX12_next N v0 h72).bind fun h73 =>
  fX12_program_164 N N v0 (1 : Int32) h73) else (
  (getR h v0 12 38).bind fun t74 =>
  (stI h t74 v1 v1).bind fun h75 =>
  (getR h75 v0 12 41).bind fun t76 =>
  (stI h75 t76 v1 (-1 : Int32)).bind fun h77 =>
  (getR h77 v0 12 43).bind fun t78 =>
  (stI h77 t78 v1 (0 : Int32)).bind fun h79 =>
  fX12_program_107 N n v0 (v1 + (1 : Int32)) h79)
theorem lX12_program_107 (X : pX) (N d : Nat)  : ∀ (n : Nat) (v0 : Nat) (v1 : Int32) (h : pH) (q : Int32 × pH), fX12_program_107 N n v0 v1 h = some q → ¬ v0 = 4 → Run X (d + 808) 12 false (pCd 8105) 5 (some .int) 107 [(0, .ref v0), (1, .int v1)] [] h 0 0 (some (.int q.1), q.2, 0, 0) := by
  intro n
  induction n with
  | zero => intro v0 v1 h q hf; cases hf
  | succ n ih =>
    intro v0 v1 h q hf nv0
    unfold fX12_program_107 at hf
    refine r_iload_n (dGet dX12_program (j := 63) rfl) rfl ?_
    refine r_iconst (dGet dX12_program (j := 64) rfl) kI_5 ?_
    by_cases c67 : (5 : Int32) ≤ v1
    · rw [if_pos c67] at hf
      refine r_icmp_ge_t (dGet dX12_program (j := 65) rfl) rfl c67 ?_
      refine r_aload_n (dGet dX12_program (j := 83) rfl) nv0 rfl ?_
      obtain ⟨t68, et68, hf⟩ := Option.bind_eq_some_iff.mp hf
      refine r_getR (dGet dX12_program (j := 84) rfl) F12_94 et68 ?_
      refine r_iconst (dGet dX12_program (j := 85) rfl) kI_5 ?_
      refine r_iconst (dGet dX12_program (j := 86) rfl) kI_0 ?_
      obtain ⟨h69, eh69, hf⟩ := Option.bind_eq_some_iff.mp hf
      refine r_iast (dGet dX12_program (j := 87) rfl) eh69 ?_
      refine r_aload_n (dGet dX12_program (j := 88) rfl) nv0 rfl ?_
      obtain ⟨t70, et70, hf⟩ := Option.bind_eq_some_iff.mp hf
      refine r_getR (dGet dX12_program (j := 89) rfl) F12_110 et70 ?_
      refine r_iconst (dGet dX12_program (j := 90) rfl) kI_0 ?_
      refine r_iconst (dGet dX12_program (j := 91) rfl) kI_0 ?_
      obtain ⟨h71, eh71, hf⟩ := Option.bind_eq_some_iff.mp hf
      refine r_iast (dGet dX12_program (j := 92) rfl) eh71 ?_
      refine r_aload_n (dGet dX12_program (j := 93) rfl) nv0 rfl ?_
      refine r_iconst (dGet dX12_program (j := 94) rfl) kI_5 ?_
      obtain ⟨h72, eh72, hf⟩ := Option.bind_eq_some_iff.mp hf
      refine r_putI (dGet dX12_program (j := 95) rfl) F12_397 rfl rfl eh72 ?_
      refine r_aload_n (dGet dX12_program (j := 96) rfl) nv0 rfl ?_
      obtain ⟨h73, eh73, hf⟩ := Option.bind_eq_some_iff.mp hf
      refine r_virtual (dGet dX12_program (j := 97) rfl) L12_289 M233 rfl rfl (Nat.le_of_ble_eq_true rfl) (oX12_next eh73) (cX12_next X N (d + 805) v0 h72 h73 eh73) ?_
      refine r_iconst (dGet dX12_program (j := 98) rfl) kI_1 ?_
      refine r_istore_n (lv' := [(1, .int (1 : Int32)), (0, .ref v0)]) (dGet dX12_program (j := 99) rfl) (by decide) rfl ?_
      refine Run.weak [(0, .ref v0), (1, .int (1 : Int32))] (by simp) (by simp [pNd]) ?_
      exact lX12_program_164 X N d N v0 (1 : Int32) h73 q hf nv0
    · rw [if_neg c67] at hf
      refine r_icmp_ge_f (dGet dX12_program (j := 65) rfl) rfl c67 ?_
      refine r_aload_n (dGet dX12_program (j := 66) rfl) nv0 rfl ?_
      obtain ⟨t74, et74, hf⟩ := Option.bind_eq_some_iff.mp hf
      refine r_getR (dGet dX12_program (j := 67) rfl) F12_79 et74 ?_
      refine r_iload_n (dGet dX12_program (j := 68) rfl) rfl ?_
      refine r_iload_n (dGet dX12_program (j := 69) rfl) rfl ?_
      obtain ⟨h75, eh75, hf⟩ := Option.bind_eq_some_iff.mp hf
      refine r_iast (dGet dX12_program (j := 70) rfl) eh75 ?_
      refine r_aload_n (dGet dX12_program (j := 71) rfl) nv0 rfl ?_
      obtain ⟨t76, et76, hf⟩ := Option.bind_eq_some_iff.mp hf
      refine r_getR (dGet dX12_program (j := 72) rfl) F12_88 et76 ?_
      refine r_iload_n (dGet dX12_program (j := 73) rfl) rfl ?_
      refine r_iconst (dGet dX12_program (j := 74) rfl) kI_m1 ?_
      obtain ⟨h77, eh77, hf⟩ := Option.bind_eq_some_iff.mp hf
      refine r_iast (dGet dX12_program (j := 75) rfl) eh77 ?_
      refine r_aload_n (dGet dX12_program (j := 76) rfl) nv0 rfl ?_
      obtain ⟨t78, et78, hf⟩ := Option.bind_eq_some_iff.mp hf
      refine r_getR (dGet dX12_program (j := 77) rfl) F12_94 et78 ?_
      refine r_iload_n (dGet dX12_program (j := 78) rfl) rfl ?_
      refine r_iconst (dGet dX12_program (j := 79) rfl) kI_0 ?_
      obtain ⟨h79, eh79, hf⟩ := Option.bind_eq_some_iff.mp hf
      refine r_iast (dGet dX12_program (j := 80) rfl) eh79 ?_
      refine r_iinc (lv' := [(1, .int (v1 + (1 : Int32))), (0, .ref v0)]) (dGet dX12_program (j := 81) rfl) rfl (by decide) kI_1 rfl ?_
      refine r_goto (dGet dX12_program (j := 82) rfl) rfl ?_
      refine Run.weak [(0, .ref v0), (1, .int (v1 + (1 : Int32)))] (by simp) (by simp [pNd]) ?_
      exact ih v0 (v1 + (1 : Int32)) h79 q hf nv0
def fX12_program_10 (N : Nat) : Nat → Nat → Int32 → pH → Option (Int32 × pH)
  | 0, _, _, _ => none
  | n + 1, v0, v1, h => (getI h v0 12 1).bind fun t80 =>
  if t80 ≤ v1 then (
  (putI h v0 12 1 (0 : Int32)).bind fun h82 =>
  (putZ h82 v0 12 56 (0 : Int32)).bind fun h83 =>
  (putZ h83 v0 12 69 (0 : Int32)).bind fun h84 =>
  (putI h84 v0 12 4 (0 : Int32)).bind fun h85 =>
  (putI h85 v0 12 9 (-1 : Int32)).bind fun h86 =>
  (putI h86 v0 12 58 (-1 : Int32)).bind fun h87 =>
  (putI h87 v0 12 10 (0 : Int32)).bind fun h88 =>
  (putI h88 v0 12 15 (0 : Int32)).bind fun h89 =>
  (putI h89 v0 12 21 (0 : Int32)).bind fun h90 =>
  (putI h90 v0 12 23 (0 : Int32)).bind fun h91 =>
  (putI h91 v0 12 25 (0 : Int32)).bind fun h92 =>
  (putI h92 v0 12 44 (0 : Int32)).bind fun h93 =>
  (putI h93 v0 12 53 (0 : Int32)).bind fun h94 =>
  (fX12_knownNames N v0 h94).bind fun h95 =>
  fX12_program_107 N N v0 (0 : Int32) h95) else (
  (getR h v0 12 2).bind fun t96 =>
  (getR h v0 12 0).bind fun t97 =>
  (ldI h t97 v1).bind fun t98 =>
  (stI h t96 v1 t98).bind fun h99 =>
  fX12_program_10 N n v0 (v1 + (1 : Int32)) h99)
theorem lX12_program_10 (X : pX) (N d : Nat)  : ∀ (n : Nat) (v0 : Nat) (v1 : Int32) (h : pH) (q : Int32 × pH), fX12_program_10 N n v0 v1 h = some q → ¬ v0 = 4 → Run X (d + 808) 12 false (pCd 8105) 5 (some .int) 10 [(0, .ref v0), (1, .int v1)] [] h 0 0 (some (.int q.1), q.2, 0, 0) := by
  intro n
  induction n with
  | zero => intro v0 v1 h q hf; cases hf
  | succ n ih =>
    intro v0 v1 h q hf nv0
    unfold fX12_program_10 at hf
    refine r_iload_n (dGet dX12_program (j := 6) rfl) rfl ?_
    refine r_aload_n (dGet dX12_program (j := 7) rfl) nv0 rfl ?_
    obtain ⟨t80, et80, hf⟩ := Option.bind_eq_some_iff.mp hf
    refine r_getI (dGet dX12_program (j := 8) rfl) F12_435 et80 ?_
    by_cases c81 : t80 ≤ v1
    · rw [if_pos c81] at hf
      refine r_icmp_ge_t (dGet dX12_program (j := 9) rfl) rfl c81 ?_
      refine r_aload_n (dGet dX12_program (j := 20) rfl) nv0 rfl ?_
      refine r_iconst (dGet dX12_program (j := 21) rfl) kI_0 ?_
      obtain ⟨h82, eh82, hf⟩ := Option.bind_eq_some_iff.mp hf
      refine r_putI (dGet dX12_program (j := 22) rfl) F12_435 rfl rfl eh82 ?_
      refine r_aload_n (dGet dX12_program (j := 23) rfl) nv0 rfl ?_
      refine r_iconst (dGet dX12_program (j := 24) rfl) kI_0 ?_
      obtain ⟨h83, eh83, hf⟩ := Option.bind_eq_some_iff.mp hf
      refine r_putZ (dGet dX12_program (j := 25) rfl) F12_438 rfl rfl eh83 ?_
      refine r_aload_n (dGet dX12_program (j := 26) rfl) nv0 rfl ?_
      refine r_iconst (dGet dX12_program (j := 27) rfl) kI_0 ?_
      obtain ⟨h84, eh84, hf⟩ := Option.bind_eq_some_iff.mp hf
      refine r_putZ (dGet dX12_program (j := 28) rfl) F12_442 rfl rfl eh84 ?_
      refine r_aload_n (dGet dX12_program (j := 29) rfl) nv0 rfl ?_
      refine r_iconst (dGet dX12_program (j := 30) rfl) kI_0 ?_
      obtain ⟨h85, eh85, hf⟩ := Option.bind_eq_some_iff.mp hf
      refine r_putI (dGet dX12_program (j := 31) rfl) F12_253 rfl rfl eh85 ?_
      refine r_aload_n (dGet dX12_program (j := 32) rfl) nv0 rfl ?_
      refine r_iconst (dGet dX12_program (j := 33) rfl) kI_m1 ?_
      obtain ⟨h86, eh86, hf⟩ := Option.bind_eq_some_iff.mp hf
      refine r_putI (dGet dX12_program (j := 34) rfl) F12_283 rfl rfl eh86 ?_
      refine r_aload_n (dGet dX12_program (j := 35) rfl) nv0 rfl ?_
      refine r_iconst (dGet dX12_program (j := 36) rfl) kI_m1 ?_
      obtain ⟨h87, eh87, hf⟩ := Option.bind_eq_some_iff.mp hf
      refine r_putI (dGet dX12_program (j := 37) rfl) F12_409 rfl rfl eh87 ?_
      refine r_aload_n (dGet dX12_program (j := 38) rfl) nv0 rfl ?_
      refine r_iconst (dGet dX12_program (j := 39) rfl) kI_0 ?_
      obtain ⟨h88, eh88, hf⟩ := Option.bind_eq_some_iff.mp hf
      refine r_putI (dGet dX12_program (j := 40) rfl) F12_292 rfl rfl eh88 ?_
      refine r_aload_n (dGet dX12_program (j := 41) rfl) nv0 rfl ?_
      refine r_iconst (dGet dX12_program (j := 42) rfl) kI_0 ?_
      obtain ⟨h89, eh89, hf⟩ := Option.bind_eq_some_iff.mp hf
      refine r_putI (dGet dX12_program (j := 43) rfl) F12_302 rfl rfl eh89 ?_
      refine r_aload_n (dGet dX12_program (j := 44) rfl) nv0 rfl ?_
      refine r_iconst (dGet dX12_program (j := 45) rfl) kI_0 ?_
      obtain ⟨h90, eh90, hf⟩ := Option.bind_eq_some_iff.mp hf
      refine r_putI (dGet dX12_program (j := 46) rfl) F12_359 rfl rfl eh90 ?_
      refine r_aload_n (dGet dX12_program (j := 47) rfl) nv0 rfl ?_
      refine r_iconst (dGet dX12_program (j := 48) rfl) kI_0 ?_
      obtain ⟨h91, eh91, hf⟩ := Option.bind_eq_some_iff.mp hf
      refine r_putI (dGet dX12_program (j := 49) rfl) F12_356 rfl rfl eh91 ?_
      refine r_aload_n (dGet dX12_program (j := 50) rfl) nv0 rfl ?_
      refine r_iconst (dGet dX12_program (j := 51) rfl) kI_0 ?_
      obtain ⟨h92, eh92, hf⟩ := Option.bind_eq_some_iff.mp hf
      refine r_putI (dGet dX12_program (j := 52) rfl) F12_366 rfl rfl eh92 ?_
      refine r_aload_n (dGet dX12_program (j := 53) rfl) nv0 rfl ?_
      refine r_iconst (dGet dX12_program (j := 54) rfl) kI_0 ?_
      obtain ⟨h93, eh93, hf⟩ := Option.bind_eq_some_iff.mp hf
      refine r_putI (dGet dX12_program (j := 55) rfl) F12_403 rfl rfl eh93 ?_
      refine r_aload_n (dGet dX12_program (j := 56) rfl) nv0 rfl ?_
      refine r_iconst (dGet dX12_program (j := 57) rfl) kI_0 ?_
      obtain ⟨h94, eh94, hf⟩ := Option.bind_eq_some_iff.mp hf
      refine r_putI (dGet dX12_program (j := 58) rfl) F12_406 rfl rfl eh94 ?_
      refine r_aload_n (dGet dX12_program (j := 59) rfl) nv0 rfl ?_
      obtain ⟨h95, eh95, hf⟩ := Option.bind_eq_some_iff.mp hf
      refine r_virtual (dGet dX12_program (j := 60) rfl) L12_445 M232 rfl rfl (Nat.le_of_ble_eq_true rfl) (oX12_knownNames eh95) (cX12_knownNames X N (d + 807) v0 h94 h95 eh95) ?_
      refine r_iconst (dGet dX12_program (j := 61) rfl) kI_0 ?_
      refine r_istore_n (lv' := [(1, .int (0 : Int32)), (0, .ref v0)]) (dGet dX12_program (j := 62) rfl) (by decide) rfl ?_
      refine Run.weak [(0, .ref v0), (1, .int (0 : Int32))] (by simp) (by simp [pNd]) ?_
      exact lX12_program_107 X N d N v0 (0 : Int32) h95 q hf nv0
    · rw [if_neg c81] at hf
      refine r_icmp_ge_f (dGet dX12_program (j := 9) rfl) rfl c81 ?_
      refine r_aload_n (dGet dX12_program (j := 10) rfl) nv0 rfl ?_
      obtain ⟨t96, et96, hf⟩ := Option.bind_eq_some_iff.mp hf
      refine r_getR (dGet dX12_program (j := 11) rfl) F12_13 et96 ?_
      refine r_iload_n (dGet dX12_program (j := 12) rfl) rfl ?_
      refine r_aload_n (dGet dX12_program (j := 13) rfl) nv0 rfl ?_
      obtain ⟨t97, et97, hf⟩ := Option.bind_eq_some_iff.mp hf
      refine r_getR (dGet dX12_program (j := 14) rfl) F12_7 et97 ?_
      refine r_iload_n (dGet dX12_program (j := 15) rfl) rfl ?_
      obtain ⟨t98, et98, hf⟩ := Option.bind_eq_some_iff.mp hf
      refine r_iald (dGet dX12_program (j := 16) rfl) et98 ?_
      obtain ⟨h99, eh99, hf⟩ := Option.bind_eq_some_iff.mp hf
      refine r_iast (dGet dX12_program (j := 17) rfl) eh99 ?_
      refine r_iinc (lv' := [(1, .int (v1 + (1 : Int32))), (0, .ref v0)]) (dGet dX12_program (j := 18) rfl) rfl (by decide) kI_1 rfl ?_
      refine r_goto (dGet dX12_program (j := 19) rfl) rfl ?_
      refine Run.weak [(0, .ref v0), (1, .int (v1 + (1 : Int32)))] (by simp) (by simp [pNd]) ?_
      exact ih v0 (v1 + (1 : Int32)) h99 q hf nv0
def fX12_program (N : Nat) (v0 : Nat) (h : pH) : Option (Int32 × pH) := if isO h v0 12 = true then (
  (getI h v0 12 1).bind fun t100 =>
  (putI h v0 12 3 t100).bind fun h101 =>
  fX12_program_10 N N v0 (0 : Int32) h101) else none
theorem oX12_program {N : Nat} {v0 : Nat} {h : pH} {q : Int32 × pH} (hf : fX12_program N v0 h = some q) : isO h v0 12 = true := by
  unfold fX12_program at hf
  by_cases hc : isO h v0 12 = true
  · exact hc
  · rw [if_neg hc] at hf; cases hf
theorem cX12_program (X : pX) (N d : Nat) (v0 : Nat) (h : pH) (q : Int32 × pH) (hf : fX12_program N v0 h = some q) : Calls X (d + 808) 231 [.ref v0] h (some (.int q.1), q.2, 0, 0) := by
  refine Calls.of M231 (Nat.le_of_ble_eq_true rfl) ?_
  show Run X (d + 808) 12 false (pCd 8105) 5 (some .int) 0 [(0, .ref v0)] [] h 0 0 (some (.int q.1), q.2, 0, 0)
  unfold fX12_program at hf
  by_cases hc : isO h v0 12 = true
  · rw [if_pos hc] at hf
    have nv0 : ¬ v0 = 4 := isO_ne hc
    refine r_aload_n (dGet dX12_program (j := 0) rfl) nv0 rfl ?_
    refine r_aload_n (dGet dX12_program (j := 1) rfl) nv0 rfl ?_
    obtain ⟨t100, et100, hf⟩ := Option.bind_eq_some_iff.mp hf
    refine r_getI (dGet dX12_program (j := 2) rfl) F12_435 et100 ?_
    obtain ⟨h101, eh101, hf⟩ := Option.bind_eq_some_iff.mp hf
    refine r_putI (dGet dX12_program (j := 3) rfl) F12_240 rfl rfl eh101 ?_
    refine r_iconst (dGet dX12_program (j := 4) rfl) kI_0 ?_
    refine r_istore_n (lv' := [(1, .int (0 : Int32)), (0, .ref v0)]) (dGet dX12_program (j := 5) rfl) (by decide) rfl ?_
    refine Run.weak [(0, .ref v0), (1, .int (0 : Int32))] (by simp) (by simp [pNd]) ?_
    exact lX12_program_10 X N d N v0 (0 : Int32) h101 q hf nv0
  · rw [if_neg hc] at hf; cases hf
def eX12_result : List (Nat × Instr × Nat) := [(0, .aload_n 0, 1), (1, .getfield 442, 3), (4, .ifCond .eq 26, 3), (7, .aload_n 0, 1), (8, .getfield 587, 3), (11, .iconst 1, 1), (12, .if_icmp .eq 11, 3), (15, .aload_n 0, 1), (16, .getfield 587, 3), (19, .iconst 2, 1), (20, .if_icmp .ne 10, 3), (23, .aload_n 0, 1), (24, .getfield 602, 3), (27, .goto 4, 3), (30, .iconst 0, 1), (31, .ireturn, 1)]
theorem dX12_result : dChk (pCd 10063) eX12_result = true := by decide +kernel
def fX12_result (N : Nat) (v0 : Nat) (h : pH) : Option (Int32 × pH) := if isO h v0 12 = true then (
  (getI h v0 12 69).bind fun t1 =>
  if t1 = 0 then (
  some ((0 : Int32), h)) else (
  (getI h v0 12 70).bind fun t3 =>
  if t3 = (1 : Int32) then (
  (getI h v0 12 77).bind fun t5 =>
  some (t5, h)) else (
  (getI h v0 12 70).bind fun t6 =>
  if t6 = (2 : Int32) then (
  (getI h v0 12 77).bind fun t8 =>
  some (t8, h)) else (
  some ((0 : Int32), h))))) else none
theorem oX12_result {N : Nat} {v0 : Nat} {h : pH} {q : Int32 × pH} (hf : fX12_result N v0 h = some q) : isO h v0 12 = true := by
  unfold fX12_result at hf
  by_cases hc : isO h v0 12 = true
  · exact hc
  · rw [if_neg hc] at hf; cases hf
theorem cX12_result (X : pX) (N d : Nat) (v0 : Nat) (h : pH) (q : Int32 × pH) (hf : fX12_result N v0 h = some q) : Calls X (d + 0) 339 [.ref v0] h (some (.int q.1), q.2, 0, 0) := by
  refine Calls.of M339 (Nat.le_of_ble_eq_true rfl) ?_
  show Run X (d + 0) 12 false (pCd 10063) 1 (some .int) 0 [(0, .ref v0)] [] h 0 0 (some (.int q.1), q.2, 0, 0)
  unfold fX12_result at hf
  by_cases hc : isO h v0 12 = true
  · rw [if_pos hc] at hf
    have nv0 : ¬ v0 = 4 := isO_ne hc
    refine r_aload_n (dGet dX12_result (j := 0) rfl) nv0 rfl ?_
    obtain ⟨t1, et1, hf⟩ := Option.bind_eq_some_iff.mp hf
    refine r_getI (dGet dX12_result (j := 1) rfl) F12_442 et1 ?_
    by_cases c2 : t1 = 0
    · rw [if_pos c2] at hf
      refine r_if_eq_t (dGet dX12_result (j := 2) rfl) rfl c2 ?_
      refine r_iconst (dGet dX12_result (j := 14) rfl) kI_0 ?_
      have hq := Option.some.inj hf
      subst hq
      exact r_iret (dGet dX12_result (j := 15) rfl) rfl rfl
    · rw [if_neg c2] at hf
      refine r_if_eq_f (dGet dX12_result (j := 2) rfl) rfl c2 ?_
      refine r_aload_n (dGet dX12_result (j := 3) rfl) nv0 rfl ?_
      obtain ⟨t3, et3, hf⟩ := Option.bind_eq_some_iff.mp hf
      refine r_getI (dGet dX12_result (j := 4) rfl) F12_587 et3 ?_
      refine r_iconst (dGet dX12_result (j := 5) rfl) kI_1 ?_
      by_cases c4 : t3 = (1 : Int32)
      · rw [if_pos c4] at hf
        refine r_icmp_eq_t (dGet dX12_result (j := 6) rfl) rfl c4 ?_
        refine r_aload_n (dGet dX12_result (j := 11) rfl) nv0 rfl ?_
        obtain ⟨t5, et5, hf⟩ := Option.bind_eq_some_iff.mp hf
        refine r_getI (dGet dX12_result (j := 12) rfl) F12_602 et5 ?_
        refine r_goto (dGet dX12_result (j := 13) rfl) rfl ?_
        have hq := Option.some.inj hf
        subst hq
        exact r_iret (dGet dX12_result (j := 15) rfl) rfl rfl
      · rw [if_neg c4] at hf
        refine r_icmp_eq_f (dGet dX12_result (j := 6) rfl) rfl c4 ?_
        refine r_aload_n (dGet dX12_result (j := 7) rfl) nv0 rfl ?_
        obtain ⟨t6, et6, hf⟩ := Option.bind_eq_some_iff.mp hf
        refine r_getI (dGet dX12_result (j := 8) rfl) F12_587 et6 ?_
        refine r_iconst (dGet dX12_result (j := 9) rfl) kI_2 ?_
        by_cases c7 : t6 = (2 : Int32)
        · rw [if_pos c7] at hf
          refine r_icmp_ne_f (dGet dX12_result (j := 10) rfl) rfl c7 ?_
          refine r_aload_n (dGet dX12_result (j := 11) rfl) nv0 rfl ?_
          obtain ⟨t8, et8, hf⟩ := Option.bind_eq_some_iff.mp hf
          refine r_getI (dGet dX12_result (j := 12) rfl) F12_602 et8 ?_
          refine r_goto (dGet dX12_result (j := 13) rfl) rfl ?_
          have hq := Option.some.inj hf
          subst hq
          exact r_iret (dGet dX12_result (j := 15) rfl) rfl rfl
        · rw [if_neg c7] at hf
          refine r_icmp_ne_t (dGet dX12_result (j := 10) rfl) rfl c7 ?_
          refine r_iconst (dGet dX12_result (j := 14) rfl) kI_0 ?_
          have hq := Option.some.inj hf
          subst hq
          exact r_iret (dGet dX12_result (j := 15) rfl) rfl rfl
  · rw [if_neg hc] at hf; cases hf
def eX12_unfold : List (Nat × Instr × Nat) := [(0, .aload_n 0, 1), (1, .getfield 25, 3), (4, .iload_n 1, 1), (5, .iaload, 1), (6, .istore_n 2, 1), (7, .iload_n 2, 1), (8, .bipush 16, 2), (10, .if_icmp .eq 9, 3), (13, .iload_n 2, 1), (14, .bipush 17, 2), (16, .if_icmp .ne 21, 3), (19, .aload_n 0, 1), (20, .iconst 2, 1), (21, .iload_n 1, 1), (22, .invokevirtual 596, 3), (25, .aload_n 0, 1), (26, .iconst 0, 1), (27, .aload_n 0, 1), (28, .getfield 28, 3), (31, .iload_n 1, 1), (32, .iaload, 1), (33, .invokevirtual 596, 3), (36, .return_, 1), (37, .aload_n 0, 1), (38, .iconst 1, 1), (39, .iload_n 1, 1), (40, .invokevirtual 596, 3), (43, .iload_n 2, 1), (44, .bipush 8, 2), (46, .if_icmp .eq 9, 3), (49, .iload_n 2, 1), (50, .bipush 9, 2), (52, .if_icmp .ne 40, 3), (55, .aload_n 0, 1), (56, .getfield 141, 3), (59, .iload_n 1, 1), (60, .iaload, 1), (61, .iconst 1, 1), (62, .isub, 1), (63, .istore_n 3, 1), (64, .iload_n 3, 1), (65, .ifCond .lt 27, 3), (68, .aload_n 0, 1), (69, .iconst 0, 1), (70, .aload_n 0, 1), (71, .getfield 40, 3), (74, .aload_n 0, 1), (75, .getfield 31, 3), (78, .iload_n 1, 1), (79, .iaload, 1), (80, .iload_n 3, 1), (81, .iadd, 1), (82, .iaload, 1), (83, .invokevirtual 596, 3), (86, .iinc 3 (-1), 3), (89, .goto (-25), 3), (92, .iload_n 2, 1), (93, .bipush 15, 2), (95, .if_icmp .eq 9, 3), (98, .iload_n 2, 1), (99, .bipush 7, 2), (101, .if_icmp .ne 14, 3), (104, .aload_n 0, 1), (105, .iconst 0, 1), (106, .aload_n 0, 1), (107, .getfield 31, 3), (110, .iload_n 1, 1), (111, .iaload, 1), (112, .invokevirtual 596, 3), (115, .iload_n 2, 1), (116, .bipush 9, 2), (118, .if_icmp .eq 14, 3), (121, .aload_n 0, 1), (122, .iconst 0, 1), (123, .aload_n 0, 1), (124, .getfield 28, 3), (127, .iload_n 1, 1), (128, .iaload, 1), (129, .invokevirtual 596, 3), (132, .return_, 1)]
theorem dX12_unfold : dChk (pCd 9211) eX12_unfold = true := by decide +kernel
def fX12_unfold_115 (N : Nat) (v0 : Nat) (v1 : Int32) (v2 : Int32) (h : pH) : Option (pH) :=
  if v2 = (9 : Int32) then (
  some h) else (
  (getR h v0 12 17).bind fun t2 =>
  (ldI h t2 v1).bind fun t3 =>
  (fX12_todo N v0 (0 : Int32) t3 h).bind fun h4 =>
  some h4)
theorem lX12_unfold_115 (X : pX) (N d : Nat)  (v0 : Nat) (v1 : Int32) (v2 : Int32) (h : pH) (q : pH) (hf : fX12_unfold_115 N v0 v1 v2 h = some q) (nv0 : ¬ v0 = 4) : Run X (d + 1) 12 false (pCd 9211) 4 none 115 [(0, .ref v0), (1, .int v1), (2, .int v2)] [] h 0 0 (none, q, 0, 0) := by
  unfold fX12_unfold_115 at hf
  refine r_iload_n (dGet dX12_unfold (j := 69) rfl) rfl ?_
  refine r_bipush (dGet dX12_unfold (j := 70) rfl) kB_9 ?_
  by_cases c1 : v2 = (9 : Int32)
  · rw [if_pos c1] at hf
    refine r_icmp_eq_t (dGet dX12_unfold (j := 71) rfl) rfl c1 ?_
    have hq := Option.some.inj hf
    subst hq
    exact r_vret (dGet dX12_unfold (j := 79) rfl) rfl
  · rw [if_neg c1] at hf
    refine r_icmp_eq_f (dGet dX12_unfold (j := 71) rfl) rfl c1 ?_
    refine r_aload_n (dGet dX12_unfold (j := 72) rfl) nv0 rfl ?_
    refine r_iconst (dGet dX12_unfold (j := 73) rfl) kI_0 ?_
    refine r_aload_n (dGet dX12_unfold (j := 74) rfl) nv0 rfl ?_
    obtain ⟨t2, et2, hf⟩ := Option.bind_eq_some_iff.mp hf
    refine r_getR (dGet dX12_unfold (j := 75) rfl) F12_28 et2 ?_
    refine r_iload_n (dGet dX12_unfold (j := 76) rfl) rfl ?_
    obtain ⟨t3, et3, hf⟩ := Option.bind_eq_some_iff.mp hf
    refine r_iald (dGet dX12_unfold (j := 77) rfl) et3 ?_
    obtain ⟨h4, eh4, hf⟩ := Option.bind_eq_some_iff.mp hf
    refine r_virtual (dGet dX12_unfold (j := 78) rfl) L12_596 M312 rfl rfl (Nat.le_of_ble_eq_true rfl) (oX12_todo eh4) (cX12_todo X N (d + 0) v0 (0 : Int32) t3 h h4 eh4) ?_
    have hq := Option.some.inj hf
    subst hq
    exact r_vret (dGet dX12_unfold (j := 79) rfl) rfl
def fX12_unfold_104 (N : Nat) (v0 : Nat) (v1 : Int32) (v2 : Int32) (h : pH) : Option (pH) :=
  (getR h v0 12 18).bind fun t5 =>
  (ldI h t5 v1).bind fun t6 =>
  (fX12_todo N v0 (0 : Int32) t6 h).bind fun h7 =>
  fX12_unfold_115 N v0 v1 v2 h7
theorem lX12_unfold_104 (X : pX) (N d : Nat)  (v0 : Nat) (v1 : Int32) (v2 : Int32) (h : pH) (q : pH) (hf : fX12_unfold_104 N v0 v1 v2 h = some q) (nv0 : ¬ v0 = 4) : Run X (d + 1) 12 false (pCd 9211) 4 none 104 [(0, .ref v0), (1, .int v1), (2, .int v2)] [] h 0 0 (none, q, 0, 0) := by
  unfold fX12_unfold_104 at hf
  refine r_aload_n (dGet dX12_unfold (j := 62) rfl) nv0 rfl ?_
  refine r_iconst (dGet dX12_unfold (j := 63) rfl) kI_0 ?_
  refine r_aload_n (dGet dX12_unfold (j := 64) rfl) nv0 rfl ?_
  obtain ⟨t5, et5, hf⟩ := Option.bind_eq_some_iff.mp hf
  refine r_getR (dGet dX12_unfold (j := 65) rfl) F12_31 et5 ?_
  refine r_iload_n (dGet dX12_unfold (j := 66) rfl) rfl ?_
  obtain ⟨t6, et6, hf⟩ := Option.bind_eq_some_iff.mp hf
  refine r_iald (dGet dX12_unfold (j := 67) rfl) et6 ?_
  obtain ⟨h7, eh7, hf⟩ := Option.bind_eq_some_iff.mp hf
  refine r_virtual (dGet dX12_unfold (j := 68) rfl) L12_596 M312 rfl rfl (Nat.le_of_ble_eq_true rfl) (oX12_todo eh7) (cX12_todo X N (d + 0) v0 (0 : Int32) t6 h h7 eh7) ?_
  exact lX12_unfold_115 X N d v0 v1 v2 h7 q hf nv0
def fX12_unfold_92 (N : Nat) (v0 : Nat) (v1 : Int32) (v2 : Int32) (h : pH) : Option (pH) :=
  if v2 = (15 : Int32) then (
  fX12_unfold_104 N v0 v1 v2 h) else (
  if v2 = (7 : Int32) then (
  fX12_unfold_104 N v0 v1 v2 h) else (
  fX12_unfold_115 N v0 v1 v2 h))
theorem lX12_unfold_92 (X : pX) (N d : Nat)  (v0 : Nat) (v1 : Int32) (v2 : Int32) (h : pH) (q : pH) (hf : fX12_unfold_92 N v0 v1 v2 h = some q) (nv0 : ¬ v0 = 4) : Run X (d + 1) 12 false (pCd 9211) 4 none 92 [(0, .ref v0), (1, .int v1), (2, .int v2)] [] h 0 0 (none, q, 0, 0) := by
  unfold fX12_unfold_92 at hf
  refine r_iload_n (dGet dX12_unfold (j := 56) rfl) rfl ?_
  refine r_bipush (dGet dX12_unfold (j := 57) rfl) kB_15 ?_
  by_cases c8 : v2 = (15 : Int32)
  · rw [if_pos c8] at hf
    refine r_icmp_eq_t (dGet dX12_unfold (j := 58) rfl) rfl c8 ?_
    exact lX12_unfold_104 X N d v0 v1 v2 h q hf nv0
  · rw [if_neg c8] at hf
    refine r_icmp_eq_f (dGet dX12_unfold (j := 58) rfl) rfl c8 ?_
    refine r_iload_n (dGet dX12_unfold (j := 59) rfl) rfl ?_
    refine r_bipush (dGet dX12_unfold (j := 60) rfl) kB_7 ?_
    by_cases c9 : v2 = (7 : Int32)
    · rw [if_pos c9] at hf
      refine r_icmp_ne_f (dGet dX12_unfold (j := 61) rfl) rfl c9 ?_
      exact lX12_unfold_104 X N d v0 v1 v2 h q hf nv0
    · rw [if_neg c9] at hf
      refine r_icmp_ne_t (dGet dX12_unfold (j := 61) rfl) rfl c9 ?_
      exact lX12_unfold_115 X N d v0 v1 v2 h q hf nv0
def fX12_unfold_64 (N : Nat) : Nat → Nat → Int32 → Int32 → Int32 → pH → Option (pH)
  | 0, _, _, _, _, _ => none
  | n + 1, v0, v1, v2, v3, h => if v3 < 0 then (
  fX12_unfold_92 N v0 v1 v2 h) else (
  (getR h v0 12 22).bind fun t11 =>
  (getR h v0 12 18).bind fun t12 =>
  (ldI h t12 v1).bind fun t13 =>
  (ldI h t11 (t13 + v3)).bind fun t14 =>
  (fX12_todo N v0 (0 : Int32) t14 h).bind fun h15 =>
  fX12_unfold_64 N n v0 v1 v2 (v3 + (-1 : Int32)) h15)
theorem lX12_unfold_64 (X : pX) (N d : Nat)  : ∀ (n : Nat) (v0 : Nat) (v1 : Int32) (v2 : Int32) (v3 : Int32) (h : pH) (q : pH), fX12_unfold_64 N n v0 v1 v2 v3 h = some q → ¬ v0 = 4 → Run X (d + 1) 12 false (pCd 9211) 4 none 64 [(0, .ref v0), (1, .int v1), (2, .int v2), (3, .int v3)] [] h 0 0 (none, q, 0, 0) := by
  intro n
  induction n with
  | zero => intro v0 v1 v2 v3 h q hf; cases hf
  | succ n ih =>
    intro v0 v1 v2 v3 h q hf nv0
    unfold fX12_unfold_64 at hf
    refine r_iload_n (dGet dX12_unfold (j := 40) rfl) rfl ?_
    by_cases c10 : v3 < 0
    · rw [if_pos c10] at hf
      refine r_if_lt_t (dGet dX12_unfold (j := 41) rfl) rfl c10 ?_
      refine Run.weak [(0, .ref v0), (1, .int v1), (2, .int v2)] (by simp) (by simp [pNd]) ?_
      exact lX12_unfold_92 X N d v0 v1 v2 h q hf nv0
    · rw [if_neg c10] at hf
      refine r_if_lt_f (dGet dX12_unfold (j := 41) rfl) rfl c10 ?_
      refine r_aload_n (dGet dX12_unfold (j := 42) rfl) nv0 rfl ?_
      refine r_iconst (dGet dX12_unfold (j := 43) rfl) kI_0 ?_
      refine r_aload_n (dGet dX12_unfold (j := 44) rfl) nv0 rfl ?_
      obtain ⟨t11, et11, hf⟩ := Option.bind_eq_some_iff.mp hf
      refine r_getR (dGet dX12_unfold (j := 45) rfl) F12_40 et11 ?_
      refine r_aload_n (dGet dX12_unfold (j := 46) rfl) nv0 rfl ?_
      obtain ⟨t12, et12, hf⟩ := Option.bind_eq_some_iff.mp hf
      refine r_getR (dGet dX12_unfold (j := 47) rfl) F12_31 et12 ?_
      refine r_iload_n (dGet dX12_unfold (j := 48) rfl) rfl ?_
      obtain ⟨t13, et13, hf⟩ := Option.bind_eq_some_iff.mp hf
      refine r_iald (dGet dX12_unfold (j := 49) rfl) et13 ?_
      refine r_iload_n (dGet dX12_unfold (j := 50) rfl) rfl ?_
      refine r_iadd (dGet dX12_unfold (j := 51) rfl) ?_
      obtain ⟨t14, et14, hf⟩ := Option.bind_eq_some_iff.mp hf
      refine r_iald (dGet dX12_unfold (j := 52) rfl) et14 ?_
      obtain ⟨h15, eh15, hf⟩ := Option.bind_eq_some_iff.mp hf
      refine r_virtual (dGet dX12_unfold (j := 53) rfl) L12_596 M312 rfl rfl (Nat.le_of_ble_eq_true rfl) (oX12_todo eh15) (cX12_todo X N (d + 0) v0 (0 : Int32) t14 h h15 eh15) ?_
      refine r_iinc (lv' := [(3, .int (v3 + (-1 : Int32))), (0, .ref v0), (1, .int v1), (2, .int v2)]) (dGet dX12_unfold (j := 54) rfl) rfl (by decide) kI_m1 rfl ?_
      refine r_goto (dGet dX12_unfold (j := 55) rfl) rfl ?_
      refine Run.weak [(0, .ref v0), (1, .int v1), (2, .int v2), (3, .int (v3 + (-1 : Int32)))] (by simp) (by simp [pNd]) ?_
      exact ih v0 v1 v2 (v3 + (-1 : Int32)) h15 q hf nv0
def fX12_unfold_55 (N : Nat) (v0 : Nat) (v1 : Int32) (v2 : Int32) (h : pH) : Option (pH) :=
  (getR h v0 12 68).bind fun t16 =>
  (ldI h t16 v1).bind fun t17 =>
  fX12_unfold_64 N N v0 v1 v2 (t17 - (1 : Int32)) h
theorem lX12_unfold_55 (X : pX) (N d : Nat)  (v0 : Nat) (v1 : Int32) (v2 : Int32) (h : pH) (q : pH) (hf : fX12_unfold_55 N v0 v1 v2 h = some q) (nv0 : ¬ v0 = 4) : Run X (d + 1) 12 false (pCd 9211) 4 none 55 [(0, .ref v0), (1, .int v1), (2, .int v2)] [] h 0 0 (none, q, 0, 0) := by
  unfold fX12_unfold_55 at hf
  refine r_aload_n (dGet dX12_unfold (j := 33) rfl) nv0 rfl ?_
  obtain ⟨t16, et16, hf⟩ := Option.bind_eq_some_iff.mp hf
  refine r_getR (dGet dX12_unfold (j := 34) rfl) F12_141 et16 ?_
  refine r_iload_n (dGet dX12_unfold (j := 35) rfl) rfl ?_
  obtain ⟨t17, et17, hf⟩ := Option.bind_eq_some_iff.mp hf
  refine r_iald (dGet dX12_unfold (j := 36) rfl) et17 ?_
  refine r_iconst (dGet dX12_unfold (j := 37) rfl) kI_1 ?_
  refine r_isub (dGet dX12_unfold (j := 38) rfl) ?_
  refine r_istore_n (lv' := [(3, .int (t17 - (1 : Int32))), (0, .ref v0), (1, .int v1), (2, .int v2)]) (dGet dX12_unfold (j := 39) rfl) (by decide) rfl ?_
  refine Run.weak [(0, .ref v0), (1, .int v1), (2, .int v2), (3, .int (t17 - (1 : Int32)))] (by simp) (by simp [pNd]) ?_
  exact lX12_unfold_64 X N d N v0 v1 v2 (t17 - (1 : Int32)) h q hf nv0
def fX12_unfold_19 (N : Nat) (v0 : Nat) (v1 : Int32) (h : pH) : Option (pH) :=
  (fX12_todo N v0 (2 : Int32) v1 h).bind fun h18 =>
  (getR h18 v0 12 17).bind fun t19 =>
  (ldI h18 t19 v1).bind fun t20 =>
  (fX12_todo N v0 (0 : Int32) t20 h18).bind fun h21 =>
  some h21
theorem lX12_unfold_19 (X : pX) (N d : Nat)  (v0 : Nat) (v1 : Int32) (h : pH) (q : pH) (hf : fX12_unfold_19 N v0 v1 h = some q) (nv0 : ¬ v0 = 4) : Run X (d + 1) 12 false (pCd 9211) 4 none 19 [(0, .ref v0), (1, .int v1)] [] h 0 0 (none, q, 0, 0) := by
  unfold fX12_unfold_19 at hf
  refine r_aload_n (dGet dX12_unfold (j := 11) rfl) nv0 rfl ?_
  refine r_iconst (dGet dX12_unfold (j := 12) rfl) kI_2 ?_
  refine r_iload_n (dGet dX12_unfold (j := 13) rfl) rfl ?_
  obtain ⟨h18, eh18, hf⟩ := Option.bind_eq_some_iff.mp hf
  refine r_virtual (dGet dX12_unfold (j := 14) rfl) L12_596 M312 rfl rfl (Nat.le_of_ble_eq_true rfl) (oX12_todo eh18) (cX12_todo X N (d + 0) v0 (2 : Int32) v1 h h18 eh18) ?_
  refine r_aload_n (dGet dX12_unfold (j := 15) rfl) nv0 rfl ?_
  refine r_iconst (dGet dX12_unfold (j := 16) rfl) kI_0 ?_
  refine r_aload_n (dGet dX12_unfold (j := 17) rfl) nv0 rfl ?_
  obtain ⟨t19, et19, hf⟩ := Option.bind_eq_some_iff.mp hf
  refine r_getR (dGet dX12_unfold (j := 18) rfl) F12_28 et19 ?_
  refine r_iload_n (dGet dX12_unfold (j := 19) rfl) rfl ?_
  obtain ⟨t20, et20, hf⟩ := Option.bind_eq_some_iff.mp hf
  refine r_iald (dGet dX12_unfold (j := 20) rfl) et20 ?_
  obtain ⟨h21, eh21, hf⟩ := Option.bind_eq_some_iff.mp hf
  refine r_virtual (dGet dX12_unfold (j := 21) rfl) L12_596 M312 rfl rfl (Nat.le_of_ble_eq_true rfl) (oX12_todo eh21) (cX12_todo X N (d + 0) v0 (0 : Int32) t20 h18 h21 eh21) ?_
  have hq := Option.some.inj hf
  subst hq
  exact r_vret (dGet dX12_unfold (j := 22) rfl) rfl
def fX12_unfold (N : Nat) (v0 : Nat) (v1 : Int32) (h : pH) : Option (pH) := if isO h v0 12 = true then (
  (getR h v0 12 16).bind fun t22 =>
  (ldI h t22 v1).bind fun t23 =>
  if t23 = (16 : Int32) then (
  fX12_unfold_19 N v0 v1 h) else (
  if t23 = (17 : Int32) then (
  fX12_unfold_19 N v0 v1 h) else (
  (fX12_todo N v0 (1 : Int32) v1 h).bind fun h26 =>
  if t23 = (8 : Int32) then (
  fX12_unfold_55 N v0 v1 t23 h26) else (
  if t23 = (9 : Int32) then (
  fX12_unfold_55 N v0 v1 t23 h26) else (
  fX12_unfold_92 N v0 v1 t23 h26))))) else none
theorem oX12_unfold {N : Nat} {v0 : Nat} {v1 : Int32} {h : pH} {q : pH} (hf : fX12_unfold N v0 v1 h = some q) : isO h v0 12 = true := by
  unfold fX12_unfold at hf
  by_cases hc : isO h v0 12 = true
  · exact hc
  · rw [if_neg hc] at hf; cases hf
theorem cX12_unfold (X : pX) (N d : Nat) (v0 : Nat) (v1 : Int32) (h : pH) (q : pH) (hf : fX12_unfold N v0 v1 h = some q) : Calls X (d + 1) 316 [.ref v0, .int v1] h (none, q, 0, 0) := by
  refine Calls.of M316 (Nat.le_of_ble_eq_true rfl) ?_
  show Run X (d + 1) 12 false (pCd 9211) 4 none 0 [(0, .ref v0), (1, .int v1)] [] h 0 0 (none, q, 0, 0)
  unfold fX12_unfold at hf
  by_cases hc : isO h v0 12 = true
  · rw [if_pos hc] at hf
    have nv0 : ¬ v0 = 4 := isO_ne hc
    refine r_aload_n (dGet dX12_unfold (j := 0) rfl) nv0 rfl ?_
    obtain ⟨t22, et22, hf⟩ := Option.bind_eq_some_iff.mp hf
    refine r_getR (dGet dX12_unfold (j := 1) rfl) F12_25 et22 ?_
    refine r_iload_n (dGet dX12_unfold (j := 2) rfl) rfl ?_
    obtain ⟨t23, et23, hf⟩ := Option.bind_eq_some_iff.mp hf
    refine r_iald (dGet dX12_unfold (j := 3) rfl) et23 ?_
    refine r_istore_n (lv' := [(2, .int t23), (0, .ref v0), (1, .int v1)]) (dGet dX12_unfold (j := 4) rfl) (by decide) rfl ?_
    refine r_iload_n (dGet dX12_unfold (j := 5) rfl) rfl ?_
    refine r_bipush (dGet dX12_unfold (j := 6) rfl) kB_16 ?_
    by_cases c24 : t23 = (16 : Int32)
    · rw [if_pos c24] at hf
      refine r_icmp_eq_t (dGet dX12_unfold (j := 7) rfl) rfl c24 ?_
      refine Run.weak [(0, .ref v0), (1, .int v1)] (by simp) (by simp [pNd]) ?_
      exact lX12_unfold_19 X N d v0 v1 h q hf nv0
    · rw [if_neg c24] at hf
      refine r_icmp_eq_f (dGet dX12_unfold (j := 7) rfl) rfl c24 ?_
      refine r_iload_n (dGet dX12_unfold (j := 8) rfl) rfl ?_
      refine r_bipush (dGet dX12_unfold (j := 9) rfl) kB_17 ?_
      by_cases c25 : t23 = (17 : Int32)
      · rw [if_pos c25] at hf
        refine r_icmp_ne_f (dGet dX12_unfold (j := 10) rfl) rfl c25 ?_
        refine Run.weak [(0, .ref v0), (1, .int v1)] (by simp) (by simp [pNd]) ?_
        exact lX12_unfold_19 X N d v0 v1 h q hf nv0
      · rw [if_neg c25] at hf
        refine r_icmp_ne_t (dGet dX12_unfold (j := 10) rfl) rfl c25 ?_
        refine r_aload_n (dGet dX12_unfold (j := 23) rfl) nv0 rfl ?_
        refine r_iconst (dGet dX12_unfold (j := 24) rfl) kI_1 ?_
        refine r_iload_n (dGet dX12_unfold (j := 25) rfl) rfl ?_
        obtain ⟨h26, eh26, hf⟩ := Option.bind_eq_some_iff.mp hf
        refine r_virtual (dGet dX12_unfold (j := 26) rfl) L12_596 M312 rfl rfl (Nat.le_of_ble_eq_true rfl) (oX12_todo eh26) (cX12_todo X N (d + 0) v0 (1 : Int32) v1 h h26 eh26) ?_
        refine r_iload_n (dGet dX12_unfold (j := 27) rfl) rfl ?_
        refine r_bipush (dGet dX12_unfold (j := 28) rfl) kB_8 ?_
        by_cases c27 : t23 = (8 : Int32)
        · rw [if_pos c27] at hf
          refine r_icmp_eq_t (dGet dX12_unfold (j := 29) rfl) rfl c27 ?_
          refine Run.weak [(0, .ref v0), (1, .int v1), (2, .int t23)] (by simp) (by simp [pNd]) ?_
          exact lX12_unfold_55 X N d v0 v1 t23 h26 q hf nv0
        · rw [if_neg c27] at hf
          refine r_icmp_eq_f (dGet dX12_unfold (j := 29) rfl) rfl c27 ?_
          refine r_iload_n (dGet dX12_unfold (j := 30) rfl) rfl ?_
          refine r_bipush (dGet dX12_unfold (j := 31) rfl) kB_9 ?_
          by_cases c28 : t23 = (9 : Int32)
          · rw [if_pos c28] at hf
            refine r_icmp_ne_f (dGet dX12_unfold (j := 32) rfl) rfl c28 ?_
            refine Run.weak [(0, .ref v0), (1, .int v1), (2, .int t23)] (by simp) (by simp [pNd]) ?_
            exact lX12_unfold_55 X N d v0 v1 t23 h26 q hf nv0
          · rw [if_neg c28] at hf
            refine r_icmp_ne_t (dGet dX12_unfold (j := 32) rfl) rfl c28 ?_
            refine Run.weak [(0, .ref v0), (1, .int v1), (2, .int t23)] (by simp) (by simp [pNd]) ?_
            exact lX12_unfold_92 X N d v0 v1 t23 h26 q hf nv0
  · rw [if_neg hc] at hf; cases hf
def eX12_settle : List (Nat × Instr × Nat) := [(0, .aload_n 0, 1), (1, .getfield 587, 3), (4, .ifCond .ne 187, 3), (7, .aload_n 0, 1), (8, .getfield 584, 3), (11, .ifCond .le 180, 3), (14, .aload_n 0, 1), (15, .invokevirtual 611, 3), (18, .ifCond .ne 173, 3), (21, .aload_n 0, 1), (22, .dup, 1), (23, .getfield 584, 3), (26, .iconst 1, 1), (27, .isub, 1), (28, .putfield 584, 3), (31, .aload_n 0, 1), (32, .getfield 208, 3), (35, .aload_n 0, 1), (36, .getfield 584, 3), (39, .iaload, 1), (40, .istore_n 1, 1), (41, .aload_n 0, 1), (42, .getfield 205, 3), (45, .aload_n 0, 1), (46, .getfield 584, 3), (49, .iaload, 1), (50, .tableswitch 138 0 8 #[50, 138, 138, 58, 138, 84, 99, 112, 125], 50), (100, .aload_n 0, 1), (101, .iload_n 1, 1), (102, .invokevirtual 614, 3), (105, .goto 83, 3), (108, .iload_n 1, 1), (109, .ifCond .ge 6, 3), (112, .goto 76, 3), (115, .aload_n 0, 1), (116, .iconst 3, 1), (117, .aload_n 0, 1), (118, .getfield 76, 3), (121, .iload_n 1, 1), (122, .iaload, 1), (123, .invokevirtual 596, 3), (126, .aload_n 0, 1), (127, .iload_n 1, 1), (128, .invokevirtual 617, 3), (131, .goto 57, 3), (134, .aload_n 0, 1), (135, .getfield 184, 3), (138, .aload_n 0, 1), (139, .getfield 554, 3), (142, .iconst 1, 1), (143, .isub, 1), (144, .iload_n 1, 1), (145, .iastore, 1), (146, .goto 42, 3), (149, .aload_n 0, 1), (150, .dup, 1), (151, .getfield 560, 3), (154, .iconst 1, 1), (155, .isub, 1), (156, .putfield 560, 3), (159, .goto 29, 3), (162, .aload_n 0, 1), (163, .dup, 1), (164, .getfield 593, 3), (167, .iconst 1, 1), (168, .isub, 1), (169, .putfield 593, 3), (172, .goto 16, 3), (175, .aload_n 0, 1), (176, .dup, 1), (177, .getfield 554, 3), (180, .iconst 1, 1), (181, .isub, 1), (182, .putfield 554, 3), (185, .goto 3, 3), (188, .goto (-188), 3), (191, .return_, 1)]
theorem dX12_settle : dChk (pCd 9199) eX12_settle = true := by decide +kernel
def fX12_settle_188 (N : Nat) (k0 : Nat → pH → Option (pH)) (v0 : Nat) (h : pH) : Option (pH) :=
  k0 v0 h
theorem lX12_settle_188 (X : pX) (N d : Nat)  (k0 : Nat → pH → Option (pH)) (K0 : ∀ (w0 : Nat) (h : pH) (q : pH), k0 w0 h = some q → ¬ w0 = 4 → Run X (d + 2) 12 false (pCd 9199) 2 none 0 [(0, .ref w0)] [] h 0 0 (none, q, 0, 0)) (v0 : Nat) (h : pH) (q : pH) (hf : fX12_settle_188 N k0 v0 h = some q) (nv0 : ¬ v0 = 4) : Run X (d + 2) 12 false (pCd 9199) 2 none 188 [(0, .ref v0)] [] h 0 0 (none, q, 0, 0) := by
  unfold fX12_settle_188 at hf
  refine r_goto (dGet dX12_settle (j := 75) rfl) rfl ?_
  exact K0 v0 h q hf nv0
def fX12_settle_0 (N : Nat) : Nat → Nat → pH → Option (pH)
  | 0, _, _ => none
  | n + 1, v0, h => (getI h v0 12 70).bind fun t1 =>
  if t1 = 0 then (
  (getI h v0 12 103).bind fun t3 =>
  if t3 ≤ 0 then (
  some h) else (
  (fX12_isStep N v0 h).bind fun q5 =>
  if q5.1 = 0 then (
  (getI q5.2 v0 12 103).bind fun t7 =>
  (putI q5.2 v0 12 103 (t7 - (1 : Int32))).bind fun h8 =>
  (getR h8 v0 12 105).bind fun t9 =>
  (getI h8 v0 12 103).bind fun t10 =>
  (ldI h8 t9 t10).bind fun t11 =>
  (getR h8 v0 12 104).bind fun t12 =>
  (getI h8 v0 12 103).bind fun t13 =>
  (ldI h8 t12 t13).bind fun t14 =>
  if t14 = 0 then (
  (fX12_unfold N v0 t11 h8).bind fun h24 =>
  fX12_settle_188 N (fX12_settle_0 N n) v0 h24) else
  if t14 = 1 then (
  fX12_settle_188 N (fX12_settle_0 N n) v0 h8) else
  if t14 = 2 then (
  fX12_settle_188 N (fX12_settle_0 N n) v0 h8) else
  if t14 = 3 then (
  if 0 ≤ t11 then (
  (getR h8 v0 12 36).bind fun t26 =>
  (ldI h8 t26 t11).bind fun t27 =>
  (fX12_todo N v0 (3 : Int32) t27 h8).bind fun h28 =>
  (fX12_begins N v0 t11 h28).bind fun h29 =>
  fX12_settle_188 N (fX12_settle_0 N n) v0 h29) else (
  fX12_settle_188 N (fX12_settle_0 N n) v0 h8)) else
  if t14 = 4 then (
  fX12_settle_188 N (fX12_settle_0 N n) v0 h8) else
  if t14 = 5 then (
  (getR h8 v0 12 96).bind fun t30 =>
  (getI h8 v0 12 93).bind fun t31 =>
  (stI h8 t30 (t31 - (1 : Int32)) t11).bind fun h32 =>
  fX12_settle_188 N (fX12_settle_0 N n) v0 h32) else
  if t14 = 6 then (
  (getI h8 v0 12 100).bind fun t33 =>
  (putI h8 v0 12 100 (t33 - (1 : Int32))).bind fun h34 =>
  fX12_settle_188 N (fX12_settle_0 N n) v0 h34) else
  if t14 = 7 then (
  (getI h8 v0 12 106).bind fun t35 =>
  (putI h8 v0 12 106 (t35 - (1 : Int32))).bind fun h36 =>
  fX12_settle_188 N (fX12_settle_0 N n) v0 h36) else
  if t14 = 8 then (
  (getI h8 v0 12 93).bind fun t37 =>
  (putI h8 v0 12 93 (t37 - (1 : Int32))).bind fun h38 =>
  fX12_settle_188 N (fX12_settle_0 N n) v0 h38) else
  fX12_settle_188 N (fX12_settle_0 N n) v0 h8) else (
  some q5.2))) else (
  some h)
theorem lX12_settle_0 (X : pX) (N d : Nat)  : ∀ (n : Nat) (v0 : Nat) (h : pH) (q : pH), fX12_settle_0 N n v0 h = some q → ¬ v0 = 4 → Run X (d + 2) 12 false (pCd 9199) 2 none 0 [(0, .ref v0)] [] h 0 0 (none, q, 0, 0) := by
  intro n
  induction n with
  | zero => intro v0 h q hf; cases hf
  | succ n ih =>
    intro v0 h q hf nv0
    unfold fX12_settle_0 at hf
    refine r_aload_n (dGet dX12_settle (j := 0) rfl) nv0 rfl ?_
    obtain ⟨t1, et1, hf⟩ := Option.bind_eq_some_iff.mp hf
    refine r_getI (dGet dX12_settle (j := 1) rfl) F12_587 et1 ?_
    by_cases c2 : t1 = 0
    · rw [if_pos c2] at hf
      refine r_if_ne_f (dGet dX12_settle (j := 2) rfl) rfl c2 ?_
      refine r_aload_n (dGet dX12_settle (j := 3) rfl) nv0 rfl ?_
      obtain ⟨t3, et3, hf⟩ := Option.bind_eq_some_iff.mp hf
      refine r_getI (dGet dX12_settle (j := 4) rfl) F12_584 et3 ?_
      by_cases c4 : t3 ≤ 0
      · rw [if_pos c4] at hf
        refine r_if_le_t (dGet dX12_settle (j := 5) rfl) rfl c4 ?_
        have hq := Option.some.inj hf
        subst hq
        exact r_vret (dGet dX12_settle (j := 76) rfl) rfl
      · rw [if_neg c4] at hf
        refine r_if_le_f (dGet dX12_settle (j := 5) rfl) rfl c4 ?_
        refine r_aload_n (dGet dX12_settle (j := 6) rfl) nv0 rfl ?_
        obtain ⟨q5, eq5, hf⟩ := Option.bind_eq_some_iff.mp hf
        refine r_virtual (dGet dX12_settle (j := 7) rfl) L12_611 M314 rfl rfl (Nat.le_of_ble_eq_true rfl) (oX12_isStep eq5) (cX12_isStep X N (d + 0) v0 h q5 eq5) ?_
        by_cases c6 : q5.1 = 0
        · rw [if_pos c6] at hf
          refine r_if_ne_f (dGet dX12_settle (j := 8) rfl) rfl c6 ?_
          refine r_aload_n (dGet dX12_settle (j := 9) rfl) nv0 rfl ?_
          refine r_dup (dGet dX12_settle (j := 10) rfl) rfl ?_
          obtain ⟨t7, et7, hf⟩ := Option.bind_eq_some_iff.mp hf
          refine r_getI (dGet dX12_settle (j := 11) rfl) F12_584 et7 ?_
          refine r_iconst (dGet dX12_settle (j := 12) rfl) kI_1 ?_
          refine r_isub (dGet dX12_settle (j := 13) rfl) ?_
          obtain ⟨h8, eh8, hf⟩ := Option.bind_eq_some_iff.mp hf
          refine r_putI (dGet dX12_settle (j := 14) rfl) F12_584 rfl rfl eh8 ?_
          refine r_aload_n (dGet dX12_settle (j := 15) rfl) nv0 rfl ?_
          obtain ⟨t9, et9, hf⟩ := Option.bind_eq_some_iff.mp hf
          refine r_getR (dGet dX12_settle (j := 16) rfl) F12_208 et9 ?_
          refine r_aload_n (dGet dX12_settle (j := 17) rfl) nv0 rfl ?_
          obtain ⟨t10, et10, hf⟩ := Option.bind_eq_some_iff.mp hf
          refine r_getI (dGet dX12_settle (j := 18) rfl) F12_584 et10 ?_
          obtain ⟨t11, et11, hf⟩ := Option.bind_eq_some_iff.mp hf
          refine r_iald (dGet dX12_settle (j := 19) rfl) et11 ?_
          refine r_istore_n (lv' := [(1, .int t11), (0, .ref v0)]) (dGet dX12_settle (j := 20) rfl) (by decide) rfl ?_
          refine r_aload_n (dGet dX12_settle (j := 21) rfl) nv0 rfl ?_
          obtain ⟨t12, et12, hf⟩ := Option.bind_eq_some_iff.mp hf
          refine r_getR (dGet dX12_settle (j := 22) rfl) F12_205 et12 ?_
          refine r_aload_n (dGet dX12_settle (j := 23) rfl) nv0 rfl ?_
          obtain ⟨t13, et13, hf⟩ := Option.bind_eq_some_iff.mp hf
          refine r_getI (dGet dX12_settle (j := 24) rfl) F12_584 et13 ?_
          obtain ⟨t14, et14, hf⟩ := Option.bind_eq_some_iff.mp hf
          refine r_iald (dGet dX12_settle (j := 25) rfl) et14 ?_
          by_cases c15 : t14 = 0
          · rw [if_pos c15] at hf
            refine r_table (off := 50) (dGet dX12_settle (j := 26) rfl) (by rw [c15]; decide) rfl ?_
            refine r_aload_n (dGet dX12_settle (j := 27) rfl) nv0 rfl ?_
            refine r_iload_n (dGet dX12_settle (j := 28) rfl) rfl ?_
            obtain ⟨h24, eh24, hf⟩ := Option.bind_eq_some_iff.mp hf
            refine r_virtual (dGet dX12_settle (j := 29) rfl) L12_614 M316 rfl rfl (Nat.le_of_ble_eq_true rfl) (oX12_unfold eh24) (cX12_unfold X N (d + 0) v0 t11 h8 h24 eh24) ?_
            refine r_goto (dGet dX12_settle (j := 30) rfl) rfl ?_
            refine Run.weak [(0, .ref v0)] (by simp) (by simp [pNd]) ?_
            exact lX12_settle_188 X N d (fX12_settle_0 N n) ih v0 h24 q hf nv0
          rw [if_neg c15] at hf
          by_cases c16 : t14 = 1
          · rw [if_pos c16] at hf
            refine r_table (off := 138) (dGet dX12_settle (j := 26) rfl) (by rw [c16]; decide) rfl ?_
            refine Run.weak [(0, .ref v0)] (by simp) (by simp [pNd]) ?_
            exact lX12_settle_188 X N d (fX12_settle_0 N n) ih v0 h8 q hf nv0
          rw [if_neg c16] at hf
          by_cases c17 : t14 = 2
          · rw [if_pos c17] at hf
            refine r_table (off := 138) (dGet dX12_settle (j := 26) rfl) (by rw [c17]; decide) rfl ?_
            refine Run.weak [(0, .ref v0)] (by simp) (by simp [pNd]) ?_
            exact lX12_settle_188 X N d (fX12_settle_0 N n) ih v0 h8 q hf nv0
          rw [if_neg c17] at hf
          by_cases c18 : t14 = 3
          · rw [if_pos c18] at hf
            refine r_table (off := 58) (dGet dX12_settle (j := 26) rfl) (by rw [c18]; decide) rfl ?_
            refine r_iload_n (dGet dX12_settle (j := 31) rfl) rfl ?_
            by_cases c25 : 0 ≤ t11
            · rw [if_pos c25] at hf
              refine r_if_ge_t (dGet dX12_settle (j := 32) rfl) rfl c25 ?_
              refine r_aload_n (dGet dX12_settle (j := 34) rfl) nv0 rfl ?_
              refine r_iconst (dGet dX12_settle (j := 35) rfl) kI_3 ?_
              refine r_aload_n (dGet dX12_settle (j := 36) rfl) nv0 rfl ?_
              obtain ⟨t26, et26, hf⟩ := Option.bind_eq_some_iff.mp hf
              refine r_getR (dGet dX12_settle (j := 37) rfl) F12_76 et26 ?_
              refine r_iload_n (dGet dX12_settle (j := 38) rfl) rfl ?_
              obtain ⟨t27, et27, hf⟩ := Option.bind_eq_some_iff.mp hf
              refine r_iald (dGet dX12_settle (j := 39) rfl) et27 ?_
              obtain ⟨h28, eh28, hf⟩ := Option.bind_eq_some_iff.mp hf
              refine r_virtual (dGet dX12_settle (j := 40) rfl) L12_596 M312 rfl rfl (Nat.le_of_ble_eq_true rfl) (oX12_todo eh28) (cX12_todo X N (d + 1) v0 (3 : Int32) t27 h8 h28 eh28) ?_
              refine r_aload_n (dGet dX12_settle (j := 41) rfl) nv0 rfl ?_
              refine r_iload_n (dGet dX12_settle (j := 42) rfl) rfl ?_
              obtain ⟨h29, eh29, hf⟩ := Option.bind_eq_some_iff.mp hf
              refine r_virtual (dGet dX12_settle (j := 43) rfl) L12_617 M317 rfl rfl (Nat.le_of_ble_eq_true rfl) (oX12_begins eh29) (cX12_begins X N (d + 0) v0 t11 h28 h29 eh29) ?_
              refine r_goto (dGet dX12_settle (j := 44) rfl) rfl ?_
              refine Run.weak [(0, .ref v0)] (by simp) (by simp [pNd]) ?_
              exact lX12_settle_188 X N d (fX12_settle_0 N n) ih v0 h29 q hf nv0
            · rw [if_neg c25] at hf
              refine r_if_ge_f (dGet dX12_settle (j := 32) rfl) rfl c25 ?_
              refine r_goto (dGet dX12_settle (j := 33) rfl) rfl ?_
              refine Run.weak [(0, .ref v0)] (by simp) (by simp [pNd]) ?_
              exact lX12_settle_188 X N d (fX12_settle_0 N n) ih v0 h8 q hf nv0
          rw [if_neg c18] at hf
          by_cases c19 : t14 = 4
          · rw [if_pos c19] at hf
            refine r_table (off := 138) (dGet dX12_settle (j := 26) rfl) (by rw [c19]; decide) rfl ?_
            refine Run.weak [(0, .ref v0)] (by simp) (by simp [pNd]) ?_
            exact lX12_settle_188 X N d (fX12_settle_0 N n) ih v0 h8 q hf nv0
          rw [if_neg c19] at hf
          by_cases c20 : t14 = 5
          · rw [if_pos c20] at hf
            refine r_table (off := 84) (dGet dX12_settle (j := 26) rfl) (by rw [c20]; decide) rfl ?_
            refine r_aload_n (dGet dX12_settle (j := 45) rfl) nv0 rfl ?_
            obtain ⟨t30, et30, hf⟩ := Option.bind_eq_some_iff.mp hf
            refine r_getR (dGet dX12_settle (j := 46) rfl) F12_184 et30 ?_
            refine r_aload_n (dGet dX12_settle (j := 47) rfl) nv0 rfl ?_
            obtain ⟨t31, et31, hf⟩ := Option.bind_eq_some_iff.mp hf
            refine r_getI (dGet dX12_settle (j := 48) rfl) F12_554 et31 ?_
            refine r_iconst (dGet dX12_settle (j := 49) rfl) kI_1 ?_
            refine r_isub (dGet dX12_settle (j := 50) rfl) ?_
            refine r_iload_n (dGet dX12_settle (j := 51) rfl) rfl ?_
            obtain ⟨h32, eh32, hf⟩ := Option.bind_eq_some_iff.mp hf
            refine r_iast (dGet dX12_settle (j := 52) rfl) eh32 ?_
            refine r_goto (dGet dX12_settle (j := 53) rfl) rfl ?_
            refine Run.weak [(0, .ref v0)] (by simp) (by simp [pNd]) ?_
            exact lX12_settle_188 X N d (fX12_settle_0 N n) ih v0 h32 q hf nv0
          rw [if_neg c20] at hf
          by_cases c21 : t14 = 6
          · rw [if_pos c21] at hf
            refine r_table (off := 99) (dGet dX12_settle (j := 26) rfl) (by rw [c21]; decide) rfl ?_
            refine r_aload_n (dGet dX12_settle (j := 54) rfl) nv0 rfl ?_
            refine r_dup (dGet dX12_settle (j := 55) rfl) rfl ?_
            obtain ⟨t33, et33, hf⟩ := Option.bind_eq_some_iff.mp hf
            refine r_getI (dGet dX12_settle (j := 56) rfl) F12_560 et33 ?_
            refine r_iconst (dGet dX12_settle (j := 57) rfl) kI_1 ?_
            refine r_isub (dGet dX12_settle (j := 58) rfl) ?_
            obtain ⟨h34, eh34, hf⟩ := Option.bind_eq_some_iff.mp hf
            refine r_putI (dGet dX12_settle (j := 59) rfl) F12_560 rfl rfl eh34 ?_
            refine r_goto (dGet dX12_settle (j := 60) rfl) rfl ?_
            refine Run.weak [(0, .ref v0)] (by simp) (by simp [pNd]) ?_
            exact lX12_settle_188 X N d (fX12_settle_0 N n) ih v0 h34 q hf nv0
          rw [if_neg c21] at hf
          by_cases c22 : t14 = 7
          · rw [if_pos c22] at hf
            refine r_table (off := 112) (dGet dX12_settle (j := 26) rfl) (by rw [c22]; decide) rfl ?_
            refine r_aload_n (dGet dX12_settle (j := 61) rfl) nv0 rfl ?_
            refine r_dup (dGet dX12_settle (j := 62) rfl) rfl ?_
            obtain ⟨t35, et35, hf⟩ := Option.bind_eq_some_iff.mp hf
            refine r_getI (dGet dX12_settle (j := 63) rfl) F12_593 et35 ?_
            refine r_iconst (dGet dX12_settle (j := 64) rfl) kI_1 ?_
            refine r_isub (dGet dX12_settle (j := 65) rfl) ?_
            obtain ⟨h36, eh36, hf⟩ := Option.bind_eq_some_iff.mp hf
            refine r_putI (dGet dX12_settle (j := 66) rfl) F12_593 rfl rfl eh36 ?_
            refine r_goto (dGet dX12_settle (j := 67) rfl) rfl ?_
            refine Run.weak [(0, .ref v0)] (by simp) (by simp [pNd]) ?_
            exact lX12_settle_188 X N d (fX12_settle_0 N n) ih v0 h36 q hf nv0
          rw [if_neg c22] at hf
          by_cases c23 : t14 = 8
          · rw [if_pos c23] at hf
            refine r_table (off := 125) (dGet dX12_settle (j := 26) rfl) (by rw [c23]; decide) rfl ?_
            refine r_aload_n (dGet dX12_settle (j := 68) rfl) nv0 rfl ?_
            refine r_dup (dGet dX12_settle (j := 69) rfl) rfl ?_
            obtain ⟨t37, et37, hf⟩ := Option.bind_eq_some_iff.mp hf
            refine r_getI (dGet dX12_settle (j := 70) rfl) F12_554 et37 ?_
            refine r_iconst (dGet dX12_settle (j := 71) rfl) kI_1 ?_
            refine r_isub (dGet dX12_settle (j := 72) rfl) ?_
            obtain ⟨h38, eh38, hf⟩ := Option.bind_eq_some_iff.mp hf
            refine r_putI (dGet dX12_settle (j := 73) rfl) F12_554 rfl rfl eh38 ?_
            refine r_goto (dGet dX12_settle (j := 74) rfl) rfl ?_
            refine Run.weak [(0, .ref v0)] (by simp) (by simp [pNd]) ?_
            exact lX12_settle_188 X N d (fX12_settle_0 N n) ih v0 h38 q hf nv0
          rw [if_neg c23] at hf
          refine r_table (dGet dX12_settle (j := 26) rfl) (pTable_out (cs := [0, 1, 2, 3, 4, 5, 6, 7, 8]) (by decide) (by decide) (by decide) (List.forall_mem_cons.mpr ⟨c15, List.forall_mem_cons.mpr ⟨c16, List.forall_mem_cons.mpr ⟨c17, List.forall_mem_cons.mpr ⟨c18, List.forall_mem_cons.mpr ⟨c19, List.forall_mem_cons.mpr ⟨c20, List.forall_mem_cons.mpr ⟨c21, List.forall_mem_cons.mpr ⟨c22, List.forall_mem_cons.mpr ⟨c23, fun _ h => absurd h List.not_mem_nil⟩⟩⟩⟩⟩⟩⟩⟩⟩)) rfl ?_
          refine Run.weak [(0, .ref v0)] (by simp) (by simp [pNd]) ?_
          exact lX12_settle_188 X N d (fX12_settle_0 N n) ih v0 h8 q hf nv0
        · rw [if_neg c6] at hf
          refine r_if_ne_t (dGet dX12_settle (j := 8) rfl) rfl c6 ?_
          have hq := Option.some.inj hf
          subst hq
          exact r_vret (dGet dX12_settle (j := 76) rfl) rfl
    · rw [if_neg c2] at hf
      refine r_if_ne_t (dGet dX12_settle (j := 2) rfl) rfl c2 ?_
      have hq := Option.some.inj hf
      subst hq
      exact r_vret (dGet dX12_settle (j := 76) rfl) rfl
def fX12_settle (N : Nat) (v0 : Nat) (h : pH) : Option (pH) := if isO h v0 12 = true then (
  fX12_settle_0 N N v0 h) else none
theorem oX12_settle {N : Nat} {v0 : Nat} {h : pH} {q : pH} (hf : fX12_settle N v0 h = some q) : isO h v0 12 = true := by
  unfold fX12_settle at hf
  by_cases hc : isO h v0 12 = true
  · exact hc
  · rw [if_neg hc] at hf; cases hf
theorem cX12_settle (X : pX) (N d : Nat) (v0 : Nat) (h : pH) (q : pH) (hf : fX12_settle N v0 h = some q) : Calls X (d + 2) 313 [.ref v0] h (none, q, 0, 0) := by
  refine Calls.of M313 (Nat.le_of_ble_eq_true rfl) ?_
  show Run X (d + 2) 12 false (pCd 9199) 2 none 0 [(0, .ref v0)] [] h 0 0 (none, q, 0, 0)
  unfold fX12_settle at hf
  by_cases hc : isO h v0 12 = true
  · rw [if_pos hc] at hf
    have nv0 : ¬ v0 = 4 := isO_ne hc
    exact lX12_settle_0 X N d N v0 h q hf nv0
  · rw [if_neg hc] at hf; cases hf
def eX12_start : List (Nat × Instr × Nat) := [(0, .aload_n 0, 1), (1, .getfield 438, 3), (4, .ifCond .ne 5, 3), (7, .iconst 0, 1), (8, .ireturn, 1), (9, .aload_n 0, 1), (10, .iconst 1, 1), (11, .putfield 442, 3), (14, .aload_n 0, 1), (15, .iconst 0, 1), (16, .putfield 587, 3), (19, .aload_n 0, 1), (20, .aload_n 0, 1), (21, .getfield 144, 3), (24, .iconst 2, 1), (25, .aload_n 0, 1), (26, .getfield 91, 3), (29, .aload_n 0, 1), (30, .getfield 457, 3), (33, .iaload, 1), (34, .iadd, 1), (35, .invokestatic 684, 3), (38, .putfield 569, 3), (41, .aload_n 0, 1), (42, .iconst 0, 1), (43, .putfield 662, 3), (46, .aload_n 0, 1), (47, .iconst 0, 1), (48, .putfield 590, 3), (51, .aload_n 0, 1), (52, .iconst 0, 1), (53, .putfield 602, 3), (56, .aload_n 0, 1), (57, .iconst 0, 1), (58, .putfield 657, 3), (61, .aload_n 0, 1), (62, .iconst 0, 1), (63, .putfield 554, 3), (66, .aload_n 0, 1), (67, .iconst 0, 1), (68, .putfield 560, 3), (71, .aload_n 0, 1), (72, .iconst 0, 1), (73, .putfield 584, 3), (76, .aload_n 0, 1), (77, .iconst 0, 1), (78, .putfield 593, 3), (81, .aload_n 0, 1), (82, .iconst 0, 1), (83, .putfield 566, 3), (86, .aload_n 0, 1), (87, .iconst 0, 1), (88, .putfield 551, 3), (91, .iconst 0, 1), (92, .istore_n 1, 1), (93, .iload_n 1, 1), (94, .iconst 5, 1), (95, .if_icmp .ge 16, 3), (98, .aload_n 0, 1), (99, .iload_n 1, 1), (100, .iconst 0, 1), (101, .invokevirtual 632, 3), (104, .istore_n 2, 1), (105, .iinc 1 1, 3), (108, .goto (-15), 3), (111, .aload_n 0, 1), (112, .iconst 0, 1), (113, .putfield 572, 3), (116, .aload_n 0, 1), (117, .iconst 0, 1), (118, .putfield 581, 3), (121, .aload_n 0, 1), (122, .aload_n 0, 1), (123, .getfield 457, 3), (126, .aload_n 0, 1), (127, .getfield 91, 3), (130, .aload_n 0, 1), (131, .getfield 457, 3), (134, .iaload, 1), (135, .invokevirtual 632, 3), (138, .istore_n 1, 1), (139, .aload_n 0, 1), (140, .iload_n 1, 1), (141, .aload_n 0, 1), (142, .aload_n 0, 1), (143, .getfield 457, 3), (146, .bipush 6, 2), (148, .iconst 1, 1), (149, .invokevirtual 422, 3), (152, .iconst 0, 1), (153, .iconst 0, 1), (154, .invokevirtual 650, 3), (157, .aload_n 0, 1), (158, .getfield 187, 3), (161, .iconst 0, 1), (162, .iconst 0, 1), (163, .iastore, 1), (164, .aload_n 0, 1), (165, .invokevirtual 677, 3), (168, .iconst 1, 1), (169, .ireturn, 1)]
theorem dX12_start : dChk (pCd 9178) eX12_start = true := by decide +kernel
def fX12_start_93 (N : Nat) : Nat → Nat → Int32 → pH → Option (Int32 × pH)
  | 0, _, _, _ => none
  | n + 1, v0, v1, h => if (5 : Int32) ≤ v1 then (
  (putI h v0 12 73 (0 : Int32)).bind fun h2 =>
  (putI h2 v0 12 74 (0 : Int32)).bind fun h3 =>
  (getI h3 v0 12 59).bind fun t4 =>
  (getR h3 v0 12 42).bind fun t5 =>
  (getI h3 v0 12 59).bind fun t6 =>
  (ldI h3 t5 t6).bind fun t7 =>
  (fX12_object N v0 t4 t7 h3).bind fun q8 =>
  (getI q8.2 v0 12 59).bind fun t9 =>
  (fX12_memberOf N v0 t9 (6 : Int32) (1 : Int32) q8.2).bind fun q10 =>
  (fX12_begin N v0 q8.1 q10.1 (0 : Int32) (0 : Int32) q10.2).bind fun h11 =>
  (getR h11 v0 12 97).bind fun t12 =>
  (stI h11 t12 (0 : Int32) (0 : Int32)).bind fun h13 =>
  (fX12_settle N v0 h13).bind fun h14 =>
  some ((1 : Int32), h14)) else (
  (fX12_object N v0 v1 (0 : Int32) h).bind fun q15 =>
  fX12_start_93 N n v0 (v1 + (1 : Int32)) q15.2)
theorem lX12_start_93 (X : pX) (N d : Nat)  : ∀ (n : Nat) (v0 : Nat) (v1 : Int32) (h : pH) (q : Int32 × pH), fX12_start_93 N n v0 v1 h = some q → ¬ v0 = 4 → Run X (d + 3) 12 false (pCd 9178) 3 (some .int) 93 [(0, .ref v0), (1, .int v1)] [] h 0 0 (some (.int q.1), q.2, 0, 0) := by
  intro n
  induction n with
  | zero => intro v0 v1 h q hf; cases hf
  | succ n ih =>
    intro v0 v1 h q hf nv0
    unfold fX12_start_93 at hf
    refine r_iload_n (dGet dX12_start (j := 55) rfl) rfl ?_
    refine r_iconst (dGet dX12_start (j := 56) rfl) kI_5 ?_
    by_cases c1 : (5 : Int32) ≤ v1
    · rw [if_pos c1] at hf
      refine r_icmp_ge_t (dGet dX12_start (j := 57) rfl) rfl c1 ?_
      refine r_aload_n (dGet dX12_start (j := 65) rfl) nv0 rfl ?_
      refine r_iconst (dGet dX12_start (j := 66) rfl) kI_0 ?_
      obtain ⟨h2, eh2, hf⟩ := Option.bind_eq_some_iff.mp hf
      refine r_putI (dGet dX12_start (j := 67) rfl) F12_572 rfl rfl eh2 ?_
      refine r_aload_n (dGet dX12_start (j := 68) rfl) nv0 rfl ?_
      refine r_iconst (dGet dX12_start (j := 69) rfl) kI_0 ?_
      obtain ⟨h3, eh3, hf⟩ := Option.bind_eq_some_iff.mp hf
      refine r_putI (dGet dX12_start (j := 70) rfl) F12_581 rfl rfl eh3 ?_
      refine r_aload_n (dGet dX12_start (j := 71) rfl) nv0 rfl ?_
      refine r_aload_n (dGet dX12_start (j := 72) rfl) nv0 rfl ?_
      obtain ⟨t4, et4, hf⟩ := Option.bind_eq_some_iff.mp hf
      refine r_getI (dGet dX12_start (j := 73) rfl) F12_457 et4 ?_
      refine r_aload_n (dGet dX12_start (j := 74) rfl) nv0 rfl ?_
      obtain ⟨t5, et5, hf⟩ := Option.bind_eq_some_iff.mp hf
      refine r_getR (dGet dX12_start (j := 75) rfl) F12_91 et5 ?_
      refine r_aload_n (dGet dX12_start (j := 76) rfl) nv0 rfl ?_
      obtain ⟨t6, et6, hf⟩ := Option.bind_eq_some_iff.mp hf
      refine r_getI (dGet dX12_start (j := 77) rfl) F12_457 et6 ?_
      obtain ⟨t7, et7, hf⟩ := Option.bind_eq_some_iff.mp hf
      refine r_iald (dGet dX12_start (j := 78) rfl) et7 ?_
      obtain ⟨q8, eq8, hf⟩ := Option.bind_eq_some_iff.mp hf
      refine r_virtual (dGet dX12_start (j := 79) rfl) L12_632 M309 rfl rfl (Nat.le_of_ble_eq_true rfl) (oX12_object eq8) (cX12_object X N (d + 2) v0 t4 t7 h3 q8 eq8) ?_
      refine r_istore_n (lv' := [(1, .int q8.1), (0, .ref v0)]) (dGet dX12_start (j := 80) rfl) (by decide) rfl ?_
      refine r_aload_n (dGet dX12_start (j := 81) rfl) nv0 rfl ?_
      refine r_iload_n (dGet dX12_start (j := 82) rfl) rfl ?_
      refine r_aload_n (dGet dX12_start (j := 83) rfl) nv0 rfl ?_
      refine r_aload_n (dGet dX12_start (j := 84) rfl) nv0 rfl ?_
      obtain ⟨t9, et9, hf⟩ := Option.bind_eq_some_iff.mp hf
      refine r_getI (dGet dX12_start (j := 85) rfl) F12_457 et9 ?_
      refine r_bipush (dGet dX12_start (j := 86) rfl) kB_6 ?_
      refine r_iconst (dGet dX12_start (j := 87) rfl) kI_1 ?_
      obtain ⟨q10, eq10, hf⟩ := Option.bind_eq_some_iff.mp hf
      refine r_virtual (dGet dX12_start (j := 88) rfl) L12_422 M277 rfl rfl (Nat.le_of_ble_eq_true rfl) (oX12_memberOf eq10) (cX12_memberOf X N (d + 2) v0 t9 (6 : Int32) (1 : Int32) q8.2 q10 eq10) ?_
      refine r_iconst (dGet dX12_start (j := 89) rfl) kI_0 ?_
      refine r_iconst (dGet dX12_start (j := 90) rfl) kI_0 ?_
      obtain ⟨h11, eh11, hf⟩ := Option.bind_eq_some_iff.mp hf
      refine r_virtual (dGet dX12_start (j := 91) rfl) L12_650 M310 rfl rfl (Nat.le_of_ble_eq_true rfl) (oX12_begin eh11) (cX12_begin X N (d + 1) v0 q8.1 q10.1 (0 : Int32) (0 : Int32) q10.2 h11 eh11) ?_
      refine r_aload_n (dGet dX12_start (j := 92) rfl) nv0 rfl ?_
      obtain ⟨t12, et12, hf⟩ := Option.bind_eq_some_iff.mp hf
      refine r_getR (dGet dX12_start (j := 93) rfl) F12_187 et12 ?_
      refine r_iconst (dGet dX12_start (j := 94) rfl) kI_0 ?_
      refine r_iconst (dGet dX12_start (j := 95) rfl) kI_0 ?_
      obtain ⟨h13, eh13, hf⟩ := Option.bind_eq_some_iff.mp hf
      refine r_iast (dGet dX12_start (j := 96) rfl) eh13 ?_
      refine r_aload_n (dGet dX12_start (j := 97) rfl) nv0 rfl ?_
      obtain ⟨h14, eh14, hf⟩ := Option.bind_eq_some_iff.mp hf
      refine r_virtual (dGet dX12_start (j := 98) rfl) L12_677 M313 rfl rfl (Nat.le_of_ble_eq_true rfl) (oX12_settle eh14) (cX12_settle X N (d + 0) v0 h13 h14 eh14) ?_
      refine r_iconst (dGet dX12_start (j := 99) rfl) kI_1 ?_
      have hq := Option.some.inj hf
      subst hq
      exact r_iret (dGet dX12_start (j := 100) rfl) rfl rfl
    · rw [if_neg c1] at hf
      refine r_icmp_ge_f (dGet dX12_start (j := 57) rfl) rfl c1 ?_
      refine r_aload_n (dGet dX12_start (j := 58) rfl) nv0 rfl ?_
      refine r_iload_n (dGet dX12_start (j := 59) rfl) rfl ?_
      refine r_iconst (dGet dX12_start (j := 60) rfl) kI_0 ?_
      obtain ⟨q15, eq15, hf⟩ := Option.bind_eq_some_iff.mp hf
      refine r_virtual (dGet dX12_start (j := 61) rfl) L12_632 M309 rfl rfl (Nat.le_of_ble_eq_true rfl) (oX12_object eq15) (cX12_object X N (d + 2) v0 v1 (0 : Int32) h q15 eq15) ?_
      refine r_istore_n (lv' := [(2, .int q15.1), (0, .ref v0), (1, .int v1)]) (dGet dX12_start (j := 62) rfl) (by decide) rfl ?_
      refine r_iinc (lv' := [(1, .int (v1 + (1 : Int32))), (2, .int q15.1), (0, .ref v0)]) (dGet dX12_start (j := 63) rfl) rfl (by decide) kI_1 rfl ?_
      refine r_goto (dGet dX12_start (j := 64) rfl) rfl ?_
      refine Run.weak [(0, .ref v0), (1, .int (v1 + (1 : Int32)))] (by simp) (by simp [pNd]) ?_
      exact ih v0 (v1 + (1 : Int32)) q15.2 q hf nv0
def fX12_start (N : Nat) (v0 : Nat) (h : pH) : Option (Int32 × pH) := if isO h v0 12 = true then (
  (getI h v0 12 56).bind fun t16 =>
  if t16 = 0 then (
  some ((0 : Int32), h)) else (
  (putZ h v0 12 69 (1 : Int32)).bind fun h18 =>
  (putI h18 v0 12 70 (0 : Int32)).bind fun h19 =>
  (getI h19 v0 12 71).bind fun t20 =>
  (getR h19 v0 12 42).bind fun t21 =>
  (getI h19 v0 12 59).bind fun t22 =>
  (ldI h19 t21 t22).bind fun t23 =>
  (putI h19 v0 12 72 (if t20 < ((2 : Int32) + t23) then ((2 : Int32) + t23) else t20)).bind fun h24 =>
  (putI h24 v0 12 75 (0 : Int32)).bind fun h25 =>
  (putI h25 v0 12 76 (0 : Int32)).bind fun h26 =>
  (putI h26 v0 12 77 (0 : Int32)).bind fun h27 =>
  (putI h27 v0 12 78 (0 : Int32)).bind fun h28 =>
  (putI h28 v0 12 93 (0 : Int32)).bind fun h29 =>
  (putI h29 v0 12 100 (0 : Int32)).bind fun h30 =>
  (putI h30 v0 12 103 (0 : Int32)).bind fun h31 =>
  (putI h31 v0 12 106 (0 : Int32)).bind fun h32 =>
  (putI h32 v0 12 90 (0 : Int32)).bind fun h33 =>
  (putI h33 v0 12 82 (0 : Int32)).bind fun h34 =>
  fX12_start_93 N N v0 (0 : Int32) h34)) else none
theorem oX12_start {N : Nat} {v0 : Nat} {h : pH} {q : Int32 × pH} (hf : fX12_start N v0 h = some q) : isO h v0 12 = true := by
  unfold fX12_start at hf
  by_cases hc : isO h v0 12 = true
  · exact hc
  · rw [if_neg hc] at hf; cases hf
theorem cX12_start (X : pX) (N d : Nat) (v0 : Nat) (h : pH) (q : Int32 × pH) (hf : fX12_start N v0 h = some q) : Calls X (d + 3) 308 [.ref v0] h (some (.int q.1), q.2, 0, 0) := by
  refine Calls.of M308 (Nat.le_of_ble_eq_true rfl) ?_
  show Run X (d + 3) 12 false (pCd 9178) 3 (some .int) 0 [(0, .ref v0)] [] h 0 0 (some (.int q.1), q.2, 0, 0)
  unfold fX12_start at hf
  by_cases hc : isO h v0 12 = true
  · rw [if_pos hc] at hf
    have nv0 : ¬ v0 = 4 := isO_ne hc
    refine r_aload_n (dGet dX12_start (j := 0) rfl) nv0 rfl ?_
    obtain ⟨t16, et16, hf⟩ := Option.bind_eq_some_iff.mp hf
    refine r_getI (dGet dX12_start (j := 1) rfl) F12_438 et16 ?_
    by_cases c17 : t16 = 0
    · rw [if_pos c17] at hf
      refine r_if_ne_f (dGet dX12_start (j := 2) rfl) rfl c17 ?_
      refine r_iconst (dGet dX12_start (j := 3) rfl) kI_0 ?_
      have hq := Option.some.inj hf
      subst hq
      exact r_iret (dGet dX12_start (j := 4) rfl) rfl rfl
    · rw [if_neg c17] at hf
      refine r_if_ne_t (dGet dX12_start (j := 2) rfl) rfl c17 ?_
      refine r_aload_n (dGet dX12_start (j := 5) rfl) nv0 rfl ?_
      refine r_iconst (dGet dX12_start (j := 6) rfl) kI_1 ?_
      obtain ⟨h18, eh18, hf⟩ := Option.bind_eq_some_iff.mp hf
      refine r_putZ (dGet dX12_start (j := 7) rfl) F12_442 rfl rfl eh18 ?_
      refine r_aload_n (dGet dX12_start (j := 8) rfl) nv0 rfl ?_
      refine r_iconst (dGet dX12_start (j := 9) rfl) kI_0 ?_
      obtain ⟨h19, eh19, hf⟩ := Option.bind_eq_some_iff.mp hf
      refine r_putI (dGet dX12_start (j := 10) rfl) F12_587 rfl rfl eh19 ?_
      refine r_aload_n (dGet dX12_start (j := 11) rfl) nv0 rfl ?_
      refine r_aload_n (dGet dX12_start (j := 12) rfl) nv0 rfl ?_
      obtain ⟨t20, et20, hf⟩ := Option.bind_eq_some_iff.mp hf
      refine r_getI (dGet dX12_start (j := 13) rfl) F12_144 et20 ?_
      refine r_iconst (dGet dX12_start (j := 14) rfl) kI_2 ?_
      refine r_aload_n (dGet dX12_start (j := 15) rfl) nv0 rfl ?_
      obtain ⟨t21, et21, hf⟩ := Option.bind_eq_some_iff.mp hf
      refine r_getR (dGet dX12_start (j := 16) rfl) F12_91 et21 ?_
      refine r_aload_n (dGet dX12_start (j := 17) rfl) nv0 rfl ?_
      obtain ⟨t22, et22, hf⟩ := Option.bind_eq_some_iff.mp hf
      refine r_getI (dGet dX12_start (j := 18) rfl) F12_457 et22 ?_
      obtain ⟨t23, et23, hf⟩ := Option.bind_eq_some_iff.mp hf
      refine r_iald (dGet dX12_start (j := 19) rfl) et23 ?_
      refine r_iadd (dGet dX12_start (j := 20) rfl) ?_
      refine r_max (dGet dX12_start (j := 21) rfl) (by decide +kernel) (by decide +kernel : pFind pMx 12 684 = some (0, 9179)) (Nat.le_of_ble_eq_true rfl) ?_
      obtain ⟨h24, eh24, hf⟩ := Option.bind_eq_some_iff.mp hf
      refine r_putI (dGet dX12_start (j := 22) rfl) F12_569 rfl rfl eh24 ?_
      refine r_aload_n (dGet dX12_start (j := 23) rfl) nv0 rfl ?_
      refine r_iconst (dGet dX12_start (j := 24) rfl) kI_0 ?_
      obtain ⟨h25, eh25, hf⟩ := Option.bind_eq_some_iff.mp hf
      refine r_putI (dGet dX12_start (j := 25) rfl) F12_662 rfl rfl eh25 ?_
      refine r_aload_n (dGet dX12_start (j := 26) rfl) nv0 rfl ?_
      refine r_iconst (dGet dX12_start (j := 27) rfl) kI_0 ?_
      obtain ⟨h26, eh26, hf⟩ := Option.bind_eq_some_iff.mp hf
      refine r_putI (dGet dX12_start (j := 28) rfl) F12_590 rfl rfl eh26 ?_
      refine r_aload_n (dGet dX12_start (j := 29) rfl) nv0 rfl ?_
      refine r_iconst (dGet dX12_start (j := 30) rfl) kI_0 ?_
      obtain ⟨h27, eh27, hf⟩ := Option.bind_eq_some_iff.mp hf
      refine r_putI (dGet dX12_start (j := 31) rfl) F12_602 rfl rfl eh27 ?_
      refine r_aload_n (dGet dX12_start (j := 32) rfl) nv0 rfl ?_
      refine r_iconst (dGet dX12_start (j := 33) rfl) kI_0 ?_
      obtain ⟨h28, eh28, hf⟩ := Option.bind_eq_some_iff.mp hf
      refine r_putI (dGet dX12_start (j := 34) rfl) F12_657 rfl rfl eh28 ?_
      refine r_aload_n (dGet dX12_start (j := 35) rfl) nv0 rfl ?_
      refine r_iconst (dGet dX12_start (j := 36) rfl) kI_0 ?_
      obtain ⟨h29, eh29, hf⟩ := Option.bind_eq_some_iff.mp hf
      refine r_putI (dGet dX12_start (j := 37) rfl) F12_554 rfl rfl eh29 ?_
      refine r_aload_n (dGet dX12_start (j := 38) rfl) nv0 rfl ?_
      refine r_iconst (dGet dX12_start (j := 39) rfl) kI_0 ?_
      obtain ⟨h30, eh30, hf⟩ := Option.bind_eq_some_iff.mp hf
      refine r_putI (dGet dX12_start (j := 40) rfl) F12_560 rfl rfl eh30 ?_
      refine r_aload_n (dGet dX12_start (j := 41) rfl) nv0 rfl ?_
      refine r_iconst (dGet dX12_start (j := 42) rfl) kI_0 ?_
      obtain ⟨h31, eh31, hf⟩ := Option.bind_eq_some_iff.mp hf
      refine r_putI (dGet dX12_start (j := 43) rfl) F12_584 rfl rfl eh31 ?_
      refine r_aload_n (dGet dX12_start (j := 44) rfl) nv0 rfl ?_
      refine r_iconst (dGet dX12_start (j := 45) rfl) kI_0 ?_
      obtain ⟨h32, eh32, hf⟩ := Option.bind_eq_some_iff.mp hf
      refine r_putI (dGet dX12_start (j := 46) rfl) F12_593 rfl rfl eh32 ?_
      refine r_aload_n (dGet dX12_start (j := 47) rfl) nv0 rfl ?_
      refine r_iconst (dGet dX12_start (j := 48) rfl) kI_0 ?_
      obtain ⟨h33, eh33, hf⟩ := Option.bind_eq_some_iff.mp hf
      refine r_putI (dGet dX12_start (j := 49) rfl) F12_566 rfl rfl eh33 ?_
      refine r_aload_n (dGet dX12_start (j := 50) rfl) nv0 rfl ?_
      refine r_iconst (dGet dX12_start (j := 51) rfl) kI_0 ?_
      obtain ⟨h34, eh34, hf⟩ := Option.bind_eq_some_iff.mp hf
      refine r_putI (dGet dX12_start (j := 52) rfl) F12_551 rfl rfl eh34 ?_
      refine r_iconst (dGet dX12_start (j := 53) rfl) kI_0 ?_
      refine r_istore_n (lv' := [(1, .int (0 : Int32)), (0, .ref v0)]) (dGet dX12_start (j := 54) rfl) (by decide) rfl ?_
      refine Run.weak [(0, .ref v0), (1, .int (0 : Int32))] (by simp) (by simp [pNd]) ?_
      exact lX12_start_93 X N d N v0 (0 : Int32) h34 q hf nv0
  · rw [if_neg hc] at hf; cases hf
def eX12_worked : List (Nat × Instr × Nat) := [(0, .iload_n 0, 1), (1, .lookupswitch 128 #[(37, 91), (42, 83), (43, 75), (45, 79), (47, 87), (60, 95), (316, 106), (317, 117)], 75), (76, .iload_n 1, 1), (77, .iload_n 2, 1), (78, .iadd, 1), (79, .ireturn, 1), (80, .iload_n 1, 1), (81, .iload_n 2, 1), (82, .isub, 1), (83, .ireturn, 1), (84, .iload_n 1, 1), (85, .iload_n 2, 1), (86, .imul, 1), (87, .ireturn, 1), (88, .iload_n 1, 1), (89, .iload_n 2, 1), (90, .idiv, 1), (91, .ireturn, 1), (92, .iload_n 1, 1), (93, .iload_n 2, 1), (94, .irem, 1), (95, .ireturn, 1), (96, .iload_n 1, 1), (97, .iload_n 2, 1), (98, .if_icmp .ge 7, 3), (101, .iconst 1, 1), (102, .goto 4, 3), (105, .iconst 0, 1), (106, .ireturn, 1), (107, .iload_n 1, 1), (108, .iload_n 2, 1), (109, .if_icmp .gt 7, 3), (112, .iconst 1, 1), (113, .goto 4, 3), (116, .iconst 0, 1), (117, .ireturn, 1), (118, .iload_n 1, 1), (119, .iload_n 2, 1), (120, .if_icmp .ne 7, 3), (123, .iconst 1, 1), (124, .goto 4, 3), (127, .iconst 0, 1), (128, .ireturn, 1), (129, .iload_n 1, 1), (130, .iload_n 2, 1), (131, .if_icmp .eq 7, 3), (134, .iconst 1, 1), (135, .goto 4, 3), (138, .iconst 0, 1), (139, .ireturn, 1)]
theorem dX12_worked : dChk (pCd 10043) eX12_worked = true := by decide +kernel
def fX12_worked (N : Nat) (v0 : Int32) (v1 : Int32) (v2 : Int32) (h : pH) : Option (Int32 × pH) :=
  if v0 = 37 then (
  if v2 = 0 then none else
  some ((v1 - v1 / v2 * v2), h)) else
  if v0 = 42 then (
  some ((v1 * v2), h)) else
  if v0 = 43 then (
  some ((v1 + v2), h)) else
  if v0 = 45 then (
  some ((v1 - v2), h)) else
  if v0 = 47 then (
  if v2 = 0 then none else
  some ((v1 / v2), h)) else
  if v0 = 60 then (
  if v2 ≤ v1 then (
  some ((0 : Int32), h)) else (
  some ((1 : Int32), h))) else
  if v0 = 316 then (
  if v2 < v1 then (
  some ((0 : Int32), h)) else (
  some ((1 : Int32), h))) else
  if v0 = 317 then (
  if v1 = v2 then (
  some ((1 : Int32), h)) else (
  some ((0 : Int32), h))) else
  if v1 = v2 then (
  some ((0 : Int32), h)) else (
  some ((1 : Int32), h))
theorem cX12_worked (X : pX) (N d : Nat) (v0 : Int32) (v1 : Int32) (v2 : Int32) (h : pH) (q : Int32 × pH) (hf : fX12_worked N v0 v1 v2 h = some q) : Calls X (d + 0) 334 [.int v0, .int v1, .int v2] h (some (.int q.1), q.2, 0, 0) := by
  refine Calls.of M334 (Nat.le_of_ble_eq_true rfl) ?_
  show Run X (d + 0) 12 false (pCd 10043) 3 (some .int) 0 [(0, .int v0), (1, .int v1), (2, .int v2)] [] h 0 0 (some (.int q.1), q.2, 0, 0)
  unfold fX12_worked at hf
  refine r_iload_n (dGet dX12_worked (j := 0) rfl) rfl ?_
  by_cases c1 : v0 = 37
  · rw [if_pos c1] at hf
    refine r_lookup (off := 91) (dGet dX12_worked (j := 1) rfl) (by rw [c1]; decide) rfl ?_
    refine r_iload_n (dGet dX12_worked (j := 18) rfl) rfl ?_
    refine r_iload_n (dGet dX12_worked (j := 19) rfl) rfl ?_
    by_cases c9 : v2 = 0
    · rw [if_pos c9] at hf; cases hf
    rw [if_neg c9] at hf
    refine r_irem (dGet dX12_worked (j := 20) rfl) c9 ?_
    have hq := Option.some.inj hf
    subst hq
    exact r_iret (dGet dX12_worked (j := 21) rfl) rfl rfl
  rw [if_neg c1] at hf
  by_cases c2 : v0 = 42
  · rw [if_pos c2] at hf
    refine r_lookup (off := 83) (dGet dX12_worked (j := 1) rfl) (by rw [c2]; decide) rfl ?_
    refine r_iload_n (dGet dX12_worked (j := 10) rfl) rfl ?_
    refine r_iload_n (dGet dX12_worked (j := 11) rfl) rfl ?_
    refine r_imul (dGet dX12_worked (j := 12) rfl) ?_
    have hq := Option.some.inj hf
    subst hq
    exact r_iret (dGet dX12_worked (j := 13) rfl) rfl rfl
  rw [if_neg c2] at hf
  by_cases c3 : v0 = 43
  · rw [if_pos c3] at hf
    refine r_lookup (off := 75) (dGet dX12_worked (j := 1) rfl) (by rw [c3]; decide) rfl ?_
    refine r_iload_n (dGet dX12_worked (j := 2) rfl) rfl ?_
    refine r_iload_n (dGet dX12_worked (j := 3) rfl) rfl ?_
    refine r_iadd (dGet dX12_worked (j := 4) rfl) ?_
    have hq := Option.some.inj hf
    subst hq
    exact r_iret (dGet dX12_worked (j := 5) rfl) rfl rfl
  rw [if_neg c3] at hf
  by_cases c4 : v0 = 45
  · rw [if_pos c4] at hf
    refine r_lookup (off := 79) (dGet dX12_worked (j := 1) rfl) (by rw [c4]; decide) rfl ?_
    refine r_iload_n (dGet dX12_worked (j := 6) rfl) rfl ?_
    refine r_iload_n (dGet dX12_worked (j := 7) rfl) rfl ?_
    refine r_isub (dGet dX12_worked (j := 8) rfl) ?_
    have hq := Option.some.inj hf
    subst hq
    exact r_iret (dGet dX12_worked (j := 9) rfl) rfl rfl
  rw [if_neg c4] at hf
  by_cases c5 : v0 = 47
  · rw [if_pos c5] at hf
    refine r_lookup (off := 87) (dGet dX12_worked (j := 1) rfl) (by rw [c5]; decide) rfl ?_
    refine r_iload_n (dGet dX12_worked (j := 14) rfl) rfl ?_
    refine r_iload_n (dGet dX12_worked (j := 15) rfl) rfl ?_
    by_cases c10 : v2 = 0
    · rw [if_pos c10] at hf; cases hf
    rw [if_neg c10] at hf
    refine r_idiv (dGet dX12_worked (j := 16) rfl) c10 ?_
    have hq := Option.some.inj hf
    subst hq
    exact r_iret (dGet dX12_worked (j := 17) rfl) rfl rfl
  rw [if_neg c5] at hf
  by_cases c6 : v0 = 60
  · rw [if_pos c6] at hf
    refine r_lookup (off := 95) (dGet dX12_worked (j := 1) rfl) (by rw [c6]; decide) rfl ?_
    refine r_iload_n (dGet dX12_worked (j := 22) rfl) rfl ?_
    refine r_iload_n (dGet dX12_worked (j := 23) rfl) rfl ?_
    by_cases c11 : v2 ≤ v1
    · rw [if_pos c11] at hf
      refine r_icmp_ge_t (dGet dX12_worked (j := 24) rfl) rfl c11 ?_
      refine r_iconst (dGet dX12_worked (j := 27) rfl) kI_0 ?_
      have hq := Option.some.inj hf
      subst hq
      exact r_iret (dGet dX12_worked (j := 28) rfl) rfl rfl
    · rw [if_neg c11] at hf
      refine r_icmp_ge_f (dGet dX12_worked (j := 24) rfl) rfl c11 ?_
      refine r_iconst (dGet dX12_worked (j := 25) rfl) kI_1 ?_
      refine r_goto (dGet dX12_worked (j := 26) rfl) rfl ?_
      have hq := Option.some.inj hf
      subst hq
      exact r_iret (dGet dX12_worked (j := 28) rfl) rfl rfl
  rw [if_neg c6] at hf
  by_cases c7 : v0 = 316
  · rw [if_pos c7] at hf
    refine r_lookup (off := 106) (dGet dX12_worked (j := 1) rfl) (by rw [c7]; decide) rfl ?_
    refine r_iload_n (dGet dX12_worked (j := 29) rfl) rfl ?_
    refine r_iload_n (dGet dX12_worked (j := 30) rfl) rfl ?_
    by_cases c12 : v2 < v1
    · rw [if_pos c12] at hf
      refine r_icmp_gt_t (dGet dX12_worked (j := 31) rfl) rfl c12 ?_
      refine r_iconst (dGet dX12_worked (j := 34) rfl) kI_0 ?_
      have hq := Option.some.inj hf
      subst hq
      exact r_iret (dGet dX12_worked (j := 35) rfl) rfl rfl
    · rw [if_neg c12] at hf
      refine r_icmp_gt_f (dGet dX12_worked (j := 31) rfl) rfl c12 ?_
      refine r_iconst (dGet dX12_worked (j := 32) rfl) kI_1 ?_
      refine r_goto (dGet dX12_worked (j := 33) rfl) rfl ?_
      have hq := Option.some.inj hf
      subst hq
      exact r_iret (dGet dX12_worked (j := 35) rfl) rfl rfl
  rw [if_neg c7] at hf
  by_cases c8 : v0 = 317
  · rw [if_pos c8] at hf
    refine r_lookup (off := 117) (dGet dX12_worked (j := 1) rfl) (by rw [c8]; decide) rfl ?_
    refine r_iload_n (dGet dX12_worked (j := 36) rfl) rfl ?_
    refine r_iload_n (dGet dX12_worked (j := 37) rfl) rfl ?_
    by_cases c13 : v1 = v2
    · rw [if_pos c13] at hf
      refine r_icmp_ne_f (dGet dX12_worked (j := 38) rfl) rfl c13 ?_
      refine r_iconst (dGet dX12_worked (j := 39) rfl) kI_1 ?_
      refine r_goto (dGet dX12_worked (j := 40) rfl) rfl ?_
      have hq := Option.some.inj hf
      subst hq
      exact r_iret (dGet dX12_worked (j := 42) rfl) rfl rfl
    · rw [if_neg c13] at hf
      refine r_icmp_ne_t (dGet dX12_worked (j := 38) rfl) rfl c13 ?_
      refine r_iconst (dGet dX12_worked (j := 41) rfl) kI_0 ?_
      have hq := Option.some.inj hf
      subst hq
      exact r_iret (dGet dX12_worked (j := 42) rfl) rfl rfl
  rw [if_neg c8] at hf
  refine r_lookup (dGet dX12_worked (j := 1) rfl) (pLookup_out (cs := [37, 42, 43, 45, 47, 60, 316, 317]) (by decide) (by decide) (List.forall_mem_cons.mpr ⟨c1, List.forall_mem_cons.mpr ⟨c2, List.forall_mem_cons.mpr ⟨c3, List.forall_mem_cons.mpr ⟨c4, List.forall_mem_cons.mpr ⟨c5, List.forall_mem_cons.mpr ⟨c6, List.forall_mem_cons.mpr ⟨c7, List.forall_mem_cons.mpr ⟨c8, fun _ h => absurd h List.not_mem_nil⟩⟩⟩⟩⟩⟩⟩⟩)) rfl ?_
  refine r_iload_n (dGet dX12_worked (j := 43) rfl) rfl ?_
  refine r_iload_n (dGet dX12_worked (j := 44) rfl) rfl ?_
  by_cases c14 : v1 = v2
  · rw [if_pos c14] at hf
    refine r_icmp_eq_t (dGet dX12_worked (j := 45) rfl) rfl c14 ?_
    refine r_iconst (dGet dX12_worked (j := 48) rfl) kI_0 ?_
    have hq := Option.some.inj hf
    subst hq
    exact r_iret (dGet dX12_worked (j := 49) rfl) rfl rfl
  · rw [if_neg c14] at hf
    refine r_icmp_eq_f (dGet dX12_worked (j := 45) rfl) rfl c14 ?_
    refine r_iconst (dGet dX12_worked (j := 46) rfl) kI_1 ?_
    refine r_goto (dGet dX12_worked (j := 47) rfl) rfl ?_
    have hq := Option.some.inj hf
    subst hq
    exact r_iret (dGet dX12_worked (j := 49) rfl) rfl rfl
def eX12_work : List (Nat × Instr × Nat) := [(0, .aload_n 0, 1), (1, .getfield 560, 3), (4, .iconst 1, 1), (5, .isub, 1), (6, .istore_n 2, 1), (7, .aload_n 0, 1), (8, .getfield 25, 3), (11, .iload_n 1, 1), (12, .iaload, 1), (13, .tableswitch 421 6 18 #[67, 155, 215, 215, 223, 223, 323, 388, 404, 421, 421, 421, 67], 67), (80, .aload_n 0, 1), (81, .getfield 198, 3), (84, .iload_n 2, 1), (85, .iaload, 1), (86, .istore_n 3, 1), (87, .iload_n 3, 1), (88, .ifCond .ge 9, 3), (91, .aload_n 0, 1), (92, .iconst 0, 1), (93, .invokevirtual 638, 3), (96, .return_, 1), (97, .aload_n 0, 1), (98, .getfield 157, 3), (101, .iload_n 3, 1), (102, .iaload, 1), (103, .aload_n 0, 1), (104, .getfield 34, 3), (107, .iload_n 1, 1), (108, .iaload, 1), (109, .iadd, 1), (110, .istore 4, 2), (112, .aload_n 0, 1), (113, .dup, 1), (114, .getfield 560, 3), (117, .iconst 1, 1), (118, .isub, 1), (119, .putfield 560, 3), (122, .aload_n 0, 1), (123, .getfield 25, 3), (126, .iload_n 1, 1), (127, .iaload, 1), (128, .bipush 18, 2), (130, .if_icmp .ne 17, 3), (133, .aload_n 0, 1), (134, .aload_n 0, 1), (135, .getfield 160, 3), (138, .iload_n 3, 1), (139, .iaload, 1), (140, .iconst 0, 1), (141, .invokevirtual 623, 3), (144, .goto 366, 3), (147, .aload_n 0, 1), (148, .aload_n 0, 1), (149, .getfield 172, 3), (152, .iload 4, 2), (154, .iaload, 1), (155, .aload_n 0, 1), (156, .getfield 175, 3), (159, .iload 4, 2), (161, .baload, 1), (162, .invokevirtual 623, 3), (165, .goto 345, 3), (168, .aload_n 0, 1), (169, .getfield 198, 3), (172, .iload_n 2, 1), (173, .iconst 1, 1), (174, .isub, 1), (175, .iaload, 1), (176, .istore_n 3, 1), (177, .aload_n 0, 1), (178, .getfield 198, 3), (181, .iload_n 2, 1), (182, .iaload, 1), (183, .istore 4, 2), (185, .aload_n 0, 1), (186, .iload_n 3, 1), (187, .iload 4, 2), (189, .invokevirtual 641, 3), (192, .ifCond .ne 4, 3), (195, .return_, 1), (196, .aload_n 0, 1), (197, .dup, 1), (198, .getfield 560, 3), (201, .iconst 2, 1), (202, .isub, 1), (203, .putfield 560, 3), (206, .aload_n 0, 1), (207, .aload_n 0, 1), (208, .getfield 172, 3), (211, .aload_n 0, 1), (212, .getfield 157, 3), (215, .iload_n 3, 1), (216, .iaload, 1), (217, .iload 4, 2), (219, .iadd, 1), (220, .iaload, 1), (221, .iconst 0, 1), (222, .invokevirtual 623, 3), (225, .goto 285, 3), (228, .aload_n 0, 1), (229, .iload_n 1, 1), (230, .invokevirtual 644, 3), (233, .goto 277, 3), (236, .aload_n 0, 1), (237, .getfield 198, 3), (240, .iload_n 2, 1), (241, .iaload, 1), (242, .istore_n 3, 1), (243, .iload_n 3, 1), (244, .ifCond .lt 35, 3), (247, .aload_n 0, 1), (248, .getfield 154, 3), (251, .iload_n 3, 1), (252, .iaload, 1), (253, .ifCond .lt 26, 3), (256, .aload_n 0, 1), (257, .aload_n 0, 1), (258, .getfield 154, 3), (261, .iload_n 3, 1), (262, .iaload, 1), (263, .aload_n 0, 1), (264, .getfield 34, 3), (267, .iload_n 1, 1), (268, .iaload, 1), (269, .invokevirtual 415, 3), (272, .ifCond .eq 7, 3), (275, .iconst 1, 1), (276, .goto 4, 3), (279, .iconst 0, 1), (280, .istore 4, 2), (282, .aload_n 0, 1), (283, .getfield 25, 3), (286, .iload_n 1, 1), (287, .iaload, 1), (288, .bipush 10, 2), (290, .if_icmp .ne 18, 3), (293, .iload_n 3, 1), (294, .ifCond .lt 13, 3), (297, .iload 4, 2), (299, .ifCond .ne 8, 3), (302, .aload_n 0, 1), (303, .iconst 3, 1), (304, .invokevirtual 638, 3), (307, .return_, 1), (308, .aload_n 0, 1), (309, .dup, 1), (310, .getfield 560, 3), (313, .iconst 1, 1), (314, .isub, 1), (315, .putfield 560, 3), (318, .aload_n 0, 1), (319, .iload 4, 2), (321, .ifCond .eq 7, 3), (324, .iconst 1, 1), (325, .goto 4, 3), (328, .iconst 0, 1), (329, .iconst 0, 1), (330, .invokevirtual 623, 3), (333, .goto 177, 3), (336, .aload_n 0, 1), (337, .getfield 198, 3), (340, .iload_n 2, 1), (341, .iaload, 1), (342, .istore_n 3, 1), (343, .iload_n 3, 1), (344, .ifCond .ge 9, 3), (347, .aload_n 0, 1), (348, .iconst 4, 1), (349, .invokevirtual 638, 3), (352, .return_, 1), (353, .iload_n 3, 1), (354, .aload_n 0, 1), (355, .getfield 569, 3), (358, .if_icmp .gt 13, 3), (361, .aload_n 0, 1), (362, .iconst 2, 1), (363, .iload_n 3, 1), (364, .iadd, 1), (365, .invokevirtual 629, 3), (368, .ifCond .ne 9, 3), (371, .aload_n 0, 1), (372, .iconst 3, 1), (373, .invokevirtual 605, 3), (376, .return_, 1), (377, .aload_n 0, 1), (378, .dup, 1), (379, .getfield 560, 3), (382, .iconst 1, 1), (383, .isub, 1), (384, .putfield 560, 3), (387, .aload_n 0, 1), (388, .aload_n 0, 1), (389, .iconst (-1), 1), (390, .iload_n 3, 1), (391, .invokevirtual 632, 3), (394, .iconst 1, 1), (395, .invokevirtual 623, 3), (398, .goto 112, 3), (401, .aload_n 0, 1), (402, .getfield 198, 3), (405, .iload_n 2, 1), (406, .aload_n 0, 1), (407, .getfield 198, 3), (410, .iload_n 2, 1), (411, .iaload, 1), (412, .ineg, 1), (413, .iastore, 1), (414, .goto 96, 3), (417, .aload_n 0, 1), (418, .getfield 198, 3), (421, .iload_n 2, 1), (422, .iconst 1, 1), (423, .aload_n 0, 1), (424, .getfield 198, 3), (427, .iload_n 2, 1), (428, .iaload, 1), (429, .isub, 1), (430, .iastore, 1), (431, .goto 79, 3), (434, .aload_n 0, 1), (435, .getfield 198, 3), (438, .iload_n 2, 1), (439, .iaload, 1), (440, .istore_n 3, 1), (441, .aload_n 0, 1), (442, .getfield 198, 3), (445, .iload_n 2, 1), (446, .iconst 1, 1), (447, .isub, 1), (448, .iaload, 1), (449, .istore 4, 2), (451, .iload_n 3, 1), (452, .ifCond .ne 31, 3), (455, .aload_n 0, 1), (456, .getfield 34, 3), (459, .iload_n 1, 1), (460, .iaload, 1), (461, .bipush 47, 2), (463, .if_icmp .eq 14, 3), (466, .aload_n 0, 1), (467, .getfield 34, 3), (470, .iload_n 1, 1), (471, .iaload, 1), (472, .bipush 37, 2), (474, .if_icmp .ne 9, 3), (477, .aload_n 0, 1), (478, .iconst 2, 1), (479, .invokevirtual 638, 3), (482, .return_, 1), (483, .aload_n 0, 1), (484, .dup, 1), (485, .getfield 560, 3), (488, .iconst 2, 1), (489, .isub, 1), (490, .putfield 560, 3), (493, .aload_n 0, 1), (494, .aload_n 0, 1), (495, .getfield 34, 3), (498, .iload_n 1, 1), (499, .iaload, 1), (500, .iload 4, 2), (502, .iload_n 3, 1), (503, .invokestatic 647, 3), (506, .iconst 0, 1), (507, .invokevirtual 623, 3), (510, .return_, 1)]
theorem dX12_work : dChk (pCd 10024) eX12_work = true := by decide +kernel
def fX12_work_483 (N : Nat) (v0 : Nat) (v1 : Int32) (v3 : Int32) (v4 : Int32) (h : pH) : Option (pH) :=
  (getI h v0 12 100).bind fun t1 =>
  (putI h v0 12 100 (t1 - (2 : Int32))).bind fun h2 =>
  (getR h2 v0 12 19).bind fun t3 =>
  (ldI h2 t3 v1).bind fun t4 =>
  (fX12_worked N t4 v4 v3 h2).bind fun q5 =>
  (fX12_push N v0 q5.1 (0 : Int32) q5.2).bind fun h6 =>
  some h6
theorem lX12_work_483 (X : pX) (N d : Nat)  (v0 : Nat) (v1 : Int32) (v3 : Int32) (v4 : Int32) (h : pH) (q : pH) (hf : fX12_work_483 N v0 v1 v3 v4 h = some q) (nv0 : ¬ v0 = 4) : Run X (d + 4) 12 false (pCd 10024) 5 none 483 [(0, .ref v0), (1, .int v1), (3, .int v3), (4, .int v4)] [] h 0 0 (none, q, 0, 0) := by
  unfold fX12_work_483 at hf
  refine r_aload_n (dGet dX12_work (j := 249) rfl) nv0 rfl ?_
  refine r_dup (dGet dX12_work (j := 250) rfl) rfl ?_
  obtain ⟨t1, et1, hf⟩ := Option.bind_eq_some_iff.mp hf
  refine r_getI (dGet dX12_work (j := 251) rfl) F12_560 et1 ?_
  refine r_iconst (dGet dX12_work (j := 252) rfl) kI_2 ?_
  refine r_isub (dGet dX12_work (j := 253) rfl) ?_
  obtain ⟨h2, eh2, hf⟩ := Option.bind_eq_some_iff.mp hf
  refine r_putI (dGet dX12_work (j := 254) rfl) F12_560 rfl rfl eh2 ?_
  refine r_aload_n (dGet dX12_work (j := 255) rfl) nv0 rfl ?_
  refine r_aload_n (dGet dX12_work (j := 256) rfl) nv0 rfl ?_
  obtain ⟨t3, et3, hf⟩ := Option.bind_eq_some_iff.mp hf
  refine r_getR (dGet dX12_work (j := 257) rfl) F12_34 et3 ?_
  refine r_iload_n (dGet dX12_work (j := 258) rfl) rfl ?_
  obtain ⟨t4, et4, hf⟩ := Option.bind_eq_some_iff.mp hf
  refine r_iald (dGet dX12_work (j := 259) rfl) et4 ?_
  refine r_iload (dGet dX12_work (j := 260) rfl) rfl ?_
  refine r_iload_n (dGet dX12_work (j := 261) rfl) rfl ?_
  obtain ⟨q5, eq5, hf⟩ := Option.bind_eq_some_iff.mp hf
  refine r_static (dGet dX12_work (j := 262) rfl) (by decide +kernel) (by decide +kernel) L12_647 M334 rfl rfl (Nat.le_of_ble_eq_true rfl) (cX12_worked X N (d + 3) t4 v4 v3 h2 q5 eq5) ?_
  refine r_iconst (dGet dX12_work (j := 263) rfl) kI_0 ?_
  obtain ⟨h6, eh6, hf⟩ := Option.bind_eq_some_iff.mp hf
  refine r_virtual (dGet dX12_work (j := 264) rfl) L12_623 M321 rfl rfl (Nat.le_of_ble_eq_true rfl) (oX12_push eh6) (cX12_push X N (d + 3) v0 q5.1 (0 : Int32) q5.2 h6 eh6) ?_
  have hq := Option.some.inj hf
  subst hq
  exact r_vret (dGet dX12_work (j := 265) rfl) rfl
def fX12_work_477 (N : Nat) (v0 : Nat) (h : pH) : Option (pH) :=
  (fX12_faults N v0 (2 : Int32) h).bind fun h7 =>
  some h7
theorem lX12_work_477 (X : pX) (N d : Nat)  (v0 : Nat) (h : pH) (q : pH) (hf : fX12_work_477 N v0 h = some q) (nv0 : ¬ v0 = 4) : Run X (d + 4) 12 false (pCd 10024) 5 none 477 [(0, .ref v0)] [] h 0 0 (none, q, 0, 0) := by
  unfold fX12_work_477 at hf
  refine r_aload_n (dGet dX12_work (j := 245) rfl) nv0 rfl ?_
  refine r_iconst (dGet dX12_work (j := 246) rfl) kI_2 ?_
  obtain ⟨h7, eh7, hf⟩ := Option.bind_eq_some_iff.mp hf
  refine r_virtual (dGet dX12_work (j := 247) rfl) L12_638 M330 rfl rfl (Nat.le_of_ble_eq_true rfl) (oX12_faults eh7) (cX12_faults X N (d + 1) v0 (2 : Int32) h h7 eh7) ?_
  have hq := Option.some.inj hf
  subst hq
  exact r_vret (dGet dX12_work (j := 248) rfl) rfl
def fX12_work_434 (N : Nat) (v0 : Nat) (v1 : Int32) (v2 : Int32) (h : pH) : Option (pH) :=
  (getR h v0 12 101).bind fun t8 =>
  (ldI h t8 v2).bind fun t9 =>
  (getR h v0 12 101).bind fun t10 =>
  (ldI h t10 (v2 - (1 : Int32))).bind fun t11 =>
  if t9 = 0 then (
  (getR h v0 12 19).bind fun t13 =>
  (ldI h t13 v1).bind fun t14 =>
  if t14 = (47 : Int32) then (
  fX12_work_477 N v0 h) else (
  (getR h v0 12 19).bind fun t16 =>
  (ldI h t16 v1).bind fun t17 =>
  if t17 = (37 : Int32) then (
  fX12_work_477 N v0 h) else (
  fX12_work_483 N v0 v1 t9 t11 h))) else (
  fX12_work_483 N v0 v1 t9 t11 h)
theorem lX12_work_434 (X : pX) (N d : Nat)  (v0 : Nat) (v1 : Int32) (v2 : Int32) (h : pH) (q : pH) (hf : fX12_work_434 N v0 v1 v2 h = some q) (nv0 : ¬ v0 = 4) : Run X (d + 4) 12 false (pCd 10024) 5 none 434 [(0, .ref v0), (1, .int v1), (2, .int v2)] [] h 0 0 (none, q, 0, 0) := by
  unfold fX12_work_434 at hf
  refine r_aload_n (dGet dX12_work (j := 219) rfl) nv0 rfl ?_
  obtain ⟨t8, et8, hf⟩ := Option.bind_eq_some_iff.mp hf
  refine r_getR (dGet dX12_work (j := 220) rfl) F12_198 et8 ?_
  refine r_iload_n (dGet dX12_work (j := 221) rfl) rfl ?_
  obtain ⟨t9, et9, hf⟩ := Option.bind_eq_some_iff.mp hf
  refine r_iald (dGet dX12_work (j := 222) rfl) et9 ?_
  refine r_istore_n (lv' := [(3, .int t9), (0, .ref v0), (1, .int v1), (2, .int v2)]) (dGet dX12_work (j := 223) rfl) (by decide) rfl ?_
  refine r_aload_n (dGet dX12_work (j := 224) rfl) nv0 rfl ?_
  obtain ⟨t10, et10, hf⟩ := Option.bind_eq_some_iff.mp hf
  refine r_getR (dGet dX12_work (j := 225) rfl) F12_198 et10 ?_
  refine r_iload_n (dGet dX12_work (j := 226) rfl) rfl ?_
  refine r_iconst (dGet dX12_work (j := 227) rfl) kI_1 ?_
  refine r_isub (dGet dX12_work (j := 228) rfl) ?_
  obtain ⟨t11, et11, hf⟩ := Option.bind_eq_some_iff.mp hf
  refine r_iald (dGet dX12_work (j := 229) rfl) et11 ?_
  refine r_istore (lv' := [(4, .int t11), (3, .int t9), (0, .ref v0), (1, .int v1), (2, .int v2)]) (dGet dX12_work (j := 230) rfl) (by decide) rfl ?_
  refine r_iload_n (dGet dX12_work (j := 231) rfl) rfl ?_
  by_cases c12 : t9 = 0
  · rw [if_pos c12] at hf
    refine r_if_ne_f (dGet dX12_work (j := 232) rfl) rfl c12 ?_
    refine r_aload_n (dGet dX12_work (j := 233) rfl) nv0 rfl ?_
    obtain ⟨t13, et13, hf⟩ := Option.bind_eq_some_iff.mp hf
    refine r_getR (dGet dX12_work (j := 234) rfl) F12_34 et13 ?_
    refine r_iload_n (dGet dX12_work (j := 235) rfl) rfl ?_
    obtain ⟨t14, et14, hf⟩ := Option.bind_eq_some_iff.mp hf
    refine r_iald (dGet dX12_work (j := 236) rfl) et14 ?_
    refine r_bipush (dGet dX12_work (j := 237) rfl) kB_47 ?_
    by_cases c15 : t14 = (47 : Int32)
    · rw [if_pos c15] at hf
      refine r_icmp_eq_t (dGet dX12_work (j := 238) rfl) rfl c15 ?_
      refine Run.weak [(0, .ref v0)] (by simp) (by simp [pNd]) ?_
      exact lX12_work_477 X N d v0 h q hf nv0
    · rw [if_neg c15] at hf
      refine r_icmp_eq_f (dGet dX12_work (j := 238) rfl) rfl c15 ?_
      refine r_aload_n (dGet dX12_work (j := 239) rfl) nv0 rfl ?_
      obtain ⟨t16, et16, hf⟩ := Option.bind_eq_some_iff.mp hf
      refine r_getR (dGet dX12_work (j := 240) rfl) F12_34 et16 ?_
      refine r_iload_n (dGet dX12_work (j := 241) rfl) rfl ?_
      obtain ⟨t17, et17, hf⟩ := Option.bind_eq_some_iff.mp hf
      refine r_iald (dGet dX12_work (j := 242) rfl) et17 ?_
      refine r_bipush (dGet dX12_work (j := 243) rfl) kB_37 ?_
      by_cases c18 : t17 = (37 : Int32)
      · rw [if_pos c18] at hf
        refine r_icmp_ne_f (dGet dX12_work (j := 244) rfl) rfl c18 ?_
        refine Run.weak [(0, .ref v0)] (by simp) (by simp [pNd]) ?_
        exact lX12_work_477 X N d v0 h q hf nv0
      · rw [if_neg c18] at hf
        refine r_icmp_ne_t (dGet dX12_work (j := 244) rfl) rfl c18 ?_
        refine Run.weak [(0, .ref v0), (1, .int v1), (3, .int t9), (4, .int t11)] (by simp) (by simp [pNd]) ?_
        exact lX12_work_483 X N d v0 v1 t9 t11 h q hf nv0
  · rw [if_neg c12] at hf
    refine r_if_ne_t (dGet dX12_work (j := 232) rfl) rfl c12 ?_
    refine Run.weak [(0, .ref v0), (1, .int v1), (3, .int t9), (4, .int t11)] (by simp) (by simp [pNd]) ?_
    exact lX12_work_483 X N d v0 v1 t9 t11 h q hf nv0
def fX12_work_371 (N : Nat) (v0 : Nat) (h : pH) : Option (pH) :=
  (fX12_ends N v0 (3 : Int32) h).bind fun h19 =>
  some h19
theorem lX12_work_371 (X : pX) (N d : Nat)  (v0 : Nat) (h : pH) (q : pH) (hf : fX12_work_371 N v0 h = some q) (nv0 : ¬ v0 = 4) : Run X (d + 4) 12 false (pCd 10024) 5 none 371 [(0, .ref v0)] [] h 0 0 (none, q, 0, 0) := by
  unfold fX12_work_371 at hf
  refine r_aload_n (dGet dX12_work (j := 180) rfl) nv0 rfl ?_
  refine r_iconst (dGet dX12_work (j := 181) rfl) kI_3 ?_
  obtain ⟨h19, eh19, hf⟩ := Option.bind_eq_some_iff.mp hf
  refine r_virtual (dGet dX12_work (j := 182) rfl) L12_605 M328 rfl rfl (Nat.le_of_ble_eq_true rfl) (oX12_ends eh19) (cX12_ends X N (d + 3) v0 (3 : Int32) h h19 eh19) ?_
  have hq := Option.some.inj hf
  subst hq
  exact r_vret (dGet dX12_work (j := 183) rfl) rfl
def fX12_work_329 (N : Nat) (s0 : Nat) (s1 : Int32) (h : pH) : Option (pH) :=
  (fX12_push N s0 s1 (0 : Int32) h).bind fun h20 =>
  some h20
theorem lX12_work_329 (X : pX) (N d : Nat)  (s0 : Nat) (s1 : Int32) (h : pH) (q : pH) (hf : fX12_work_329 N s0 s1 h = some q) (ns0 : ¬ s0 = 4) : Run X (d + 4) 12 false (pCd 10024) 5 none 329 [] [.int s1, .ref s0] h 0 0 (none, q, 0, 0) := by
  unfold fX12_work_329 at hf
  refine r_iconst (dGet dX12_work (j := 156) rfl) kI_0 ?_
  obtain ⟨h20, eh20, hf⟩ := Option.bind_eq_some_iff.mp hf
  refine r_virtual (dGet dX12_work (j := 157) rfl) L12_623 M321 rfl rfl (Nat.le_of_ble_eq_true rfl) (oX12_push eh20) (cX12_push X N (d + 3) s0 s1 (0 : Int32) h h20 eh20) ?_
  refine r_goto (dGet dX12_work (j := 158) rfl) rfl ?_
  have hq := Option.some.inj hf
  subst hq
  exact r_vret (dGet dX12_work (j := 265) rfl) rfl
def fX12_work_280 (N : Nat) (v0 : Nat) (v1 : Int32) (v3 : Int32) (s0 : Int32) (h : pH) : Option (pH) :=
  (getR h v0 12 16).bind fun t21 =>
  (ldI h t21 v1).bind fun t22 =>
  if t22 = (10 : Int32) then (
  if v3 < 0 then (
  some h) else (
  if s0 = 0 then (
  (fX12_faults N v0 (3 : Int32) h).bind fun h29 =>
  some h29) else (
  some h))) else (
  (getI h v0 12 100).bind fun t24 =>
  (putI h v0 12 100 (t24 - (1 : Int32))).bind fun h25 =>
  if s0 = 0 then (
  fX12_work_329 N v0 (0 : Int32) h25) else (
  fX12_work_329 N v0 (1 : Int32) h25))
theorem lX12_work_280 (X : pX) (N d : Nat)  (v0 : Nat) (v1 : Int32) (v3 : Int32) (s0 : Int32) (h : pH) (q : pH) (hf : fX12_work_280 N v0 v1 v3 s0 h = some q) (nv0 : ¬ v0 = 4) : Run X (d + 4) 12 false (pCd 10024) 5 none 280 [(0, .ref v0), (1, .int v1), (3, .int v3)] [.int s0] h 0 0 (none, q, 0, 0) := by
  unfold fX12_work_280 at hf
  refine r_istore (lv' := [(4, .int s0), (0, .ref v0), (1, .int v1), (3, .int v3)]) (dGet dX12_work (j := 129) rfl) (by decide) rfl ?_
  refine r_aload_n (dGet dX12_work (j := 130) rfl) nv0 rfl ?_
  obtain ⟨t21, et21, hf⟩ := Option.bind_eq_some_iff.mp hf
  refine r_getR (dGet dX12_work (j := 131) rfl) F12_25 et21 ?_
  refine r_iload_n (dGet dX12_work (j := 132) rfl) rfl ?_
  obtain ⟨t22, et22, hf⟩ := Option.bind_eq_some_iff.mp hf
  refine r_iald (dGet dX12_work (j := 133) rfl) et22 ?_
  refine r_bipush (dGet dX12_work (j := 134) rfl) kB_10 ?_
  by_cases c23 : t22 = (10 : Int32)
  · rw [if_pos c23] at hf
    refine r_icmp_ne_f (dGet dX12_work (j := 135) rfl) rfl c23 ?_
    refine r_iload_n (dGet dX12_work (j := 136) rfl) rfl ?_
    by_cases c27 : v3 < 0
    · rw [if_pos c27] at hf
      refine r_if_lt_t (dGet dX12_work (j := 137) rfl) rfl c27 ?_
      have hq := Option.some.inj hf
      subst hq
      exact r_vret (dGet dX12_work (j := 143) rfl) rfl
    · rw [if_neg c27] at hf
      refine r_if_lt_f (dGet dX12_work (j := 137) rfl) rfl c27 ?_
      refine r_iload (dGet dX12_work (j := 138) rfl) rfl ?_
      by_cases c28 : s0 = 0
      · rw [if_pos c28] at hf
        refine r_if_ne_f (dGet dX12_work (j := 139) rfl) rfl c28 ?_
        refine r_aload_n (dGet dX12_work (j := 140) rfl) nv0 rfl ?_
        refine r_iconst (dGet dX12_work (j := 141) rfl) kI_3 ?_
        obtain ⟨h29, eh29, hf⟩ := Option.bind_eq_some_iff.mp hf
        refine r_virtual (dGet dX12_work (j := 142) rfl) L12_638 M330 rfl rfl (Nat.le_of_ble_eq_true rfl) (oX12_faults eh29) (cX12_faults X N (d + 1) v0 (3 : Int32) h h29 eh29) ?_
        have hq := Option.some.inj hf
        subst hq
        exact r_vret (dGet dX12_work (j := 143) rfl) rfl
      · rw [if_neg c28] at hf
        refine r_if_ne_t (dGet dX12_work (j := 139) rfl) rfl c28 ?_
        have hq := Option.some.inj hf
        subst hq
        exact r_vret (dGet dX12_work (j := 143) rfl) rfl
  · rw [if_neg c23] at hf
    refine r_icmp_ne_t (dGet dX12_work (j := 135) rfl) rfl c23 ?_
    refine r_aload_n (dGet dX12_work (j := 144) rfl) nv0 rfl ?_
    refine r_dup (dGet dX12_work (j := 145) rfl) rfl ?_
    obtain ⟨t24, et24, hf⟩ := Option.bind_eq_some_iff.mp hf
    refine r_getI (dGet dX12_work (j := 146) rfl) F12_560 et24 ?_
    refine r_iconst (dGet dX12_work (j := 147) rfl) kI_1 ?_
    refine r_isub (dGet dX12_work (j := 148) rfl) ?_
    obtain ⟨h25, eh25, hf⟩ := Option.bind_eq_some_iff.mp hf
    refine r_putI (dGet dX12_work (j := 149) rfl) F12_560 rfl rfl eh25 ?_
    refine r_aload_n (dGet dX12_work (j := 150) rfl) nv0 rfl ?_
    refine r_iload (dGet dX12_work (j := 151) rfl) rfl ?_
    by_cases c26 : s0 = 0
    · rw [if_pos c26] at hf
      refine r_if_eq_t (dGet dX12_work (j := 152) rfl) rfl c26 ?_
      refine r_iconst (dGet dX12_work (j := 155) rfl) kI_0 ?_
      refine Run.weak [] (by simp) (by simp [pNd]) ?_
      exact lX12_work_329 X N d v0 (0 : Int32) h25 q hf nv0
    · rw [if_neg c26] at hf
      refine r_if_eq_f (dGet dX12_work (j := 152) rfl) rfl c26 ?_
      refine r_iconst (dGet dX12_work (j := 153) rfl) kI_1 ?_
      refine r_goto (dGet dX12_work (j := 154) rfl) rfl ?_
      refine Run.weak [] (by simp) (by simp [pNd]) ?_
      exact lX12_work_329 X N d v0 (1 : Int32) h25 q hf nv0
def fX12_work_279 (N : Nat) (v0 : Nat) (v1 : Int32) (v3 : Int32) (h : pH) : Option (pH) :=
  fX12_work_280 N v0 v1 v3 (0 : Int32) h
theorem lX12_work_279 (X : pX) (N d : Nat)  (v0 : Nat) (v1 : Int32) (v3 : Int32) (h : pH) (q : pH) (hf : fX12_work_279 N v0 v1 v3 h = some q) (nv0 : ¬ v0 = 4) : Run X (d + 4) 12 false (pCd 10024) 5 none 279 [(0, .ref v0), (1, .int v1), (3, .int v3)] [] h 0 0 (none, q, 0, 0) := by
  unfold fX12_work_279 at hf
  refine r_iconst (dGet dX12_work (j := 128) rfl) kI_0 ?_
  exact lX12_work_280 X N d v0 v1 v3 (0 : Int32) h q hf nv0
def fX12_work_236 (N : Nat) (v0 : Nat) (v1 : Int32) (v2 : Int32) (h : pH) : Option (pH) :=
  (getR h v0 12 101).bind fun t30 =>
  (ldI h t30 v2).bind fun t31 =>
  if t31 < 0 then (
  fX12_work_279 N v0 v1 t31 h) else (
  (getR h v0 12 83).bind fun t33 =>
  (ldI h t33 t31).bind fun t34 =>
  if t34 < 0 then (
  fX12_work_279 N v0 v1 t31 h) else (
  (getR h v0 12 83).bind fun t36 =>
  (ldI h t36 t31).bind fun t37 =>
  (getR h v0 12 19).bind fun t38 =>
  (ldI h t38 v1).bind fun t39 =>
  (fX12_isUnder N v0 t37 t39 h).bind fun q40 =>
  if q40.1 = 0 then (
  fX12_work_279 N v0 v1 t31 q40.2) else (
  fX12_work_280 N v0 v1 t31 (1 : Int32) q40.2)))
theorem lX12_work_236 (X : pX) (N d : Nat)  (v0 : Nat) (v1 : Int32) (v2 : Int32) (h : pH) (q : pH) (hf : fX12_work_236 N v0 v1 v2 h = some q) (nv0 : ¬ v0 = 4) : Run X (d + 4) 12 false (pCd 10024) 5 none 236 [(0, .ref v0), (1, .int v1), (2, .int v2)] [] h 0 0 (none, q, 0, 0) := by
  unfold fX12_work_236 at hf
  refine r_aload_n (dGet dX12_work (j := 103) rfl) nv0 rfl ?_
  obtain ⟨t30, et30, hf⟩ := Option.bind_eq_some_iff.mp hf
  refine r_getR (dGet dX12_work (j := 104) rfl) F12_198 et30 ?_
  refine r_iload_n (dGet dX12_work (j := 105) rfl) rfl ?_
  obtain ⟨t31, et31, hf⟩ := Option.bind_eq_some_iff.mp hf
  refine r_iald (dGet dX12_work (j := 106) rfl) et31 ?_
  refine r_istore_n (lv' := [(3, .int t31), (0, .ref v0), (1, .int v1), (2, .int v2)]) (dGet dX12_work (j := 107) rfl) (by decide) rfl ?_
  refine r_iload_n (dGet dX12_work (j := 108) rfl) rfl ?_
  by_cases c32 : t31 < 0
  · rw [if_pos c32] at hf
    refine r_if_lt_t (dGet dX12_work (j := 109) rfl) rfl c32 ?_
    refine Run.weak [(0, .ref v0), (1, .int v1), (3, .int t31)] (by simp) (by simp [pNd]) ?_
    exact lX12_work_279 X N d v0 v1 t31 h q hf nv0
  · rw [if_neg c32] at hf
    refine r_if_lt_f (dGet dX12_work (j := 109) rfl) rfl c32 ?_
    refine r_aload_n (dGet dX12_work (j := 110) rfl) nv0 rfl ?_
    obtain ⟨t33, et33, hf⟩ := Option.bind_eq_some_iff.mp hf
    refine r_getR (dGet dX12_work (j := 111) rfl) F12_154 et33 ?_
    refine r_iload_n (dGet dX12_work (j := 112) rfl) rfl ?_
    obtain ⟨t34, et34, hf⟩ := Option.bind_eq_some_iff.mp hf
    refine r_iald (dGet dX12_work (j := 113) rfl) et34 ?_
    by_cases c35 : t34 < 0
    · rw [if_pos c35] at hf
      refine r_if_lt_t (dGet dX12_work (j := 114) rfl) rfl c35 ?_
      refine Run.weak [(0, .ref v0), (1, .int v1), (3, .int t31)] (by simp) (by simp [pNd]) ?_
      exact lX12_work_279 X N d v0 v1 t31 h q hf nv0
    · rw [if_neg c35] at hf
      refine r_if_lt_f (dGet dX12_work (j := 114) rfl) rfl c35 ?_
      refine r_aload_n (dGet dX12_work (j := 115) rfl) nv0 rfl ?_
      refine r_aload_n (dGet dX12_work (j := 116) rfl) nv0 rfl ?_
      obtain ⟨t36, et36, hf⟩ := Option.bind_eq_some_iff.mp hf
      refine r_getR (dGet dX12_work (j := 117) rfl) F12_154 et36 ?_
      refine r_iload_n (dGet dX12_work (j := 118) rfl) rfl ?_
      obtain ⟨t37, et37, hf⟩ := Option.bind_eq_some_iff.mp hf
      refine r_iald (dGet dX12_work (j := 119) rfl) et37 ?_
      refine r_aload_n (dGet dX12_work (j := 120) rfl) nv0 rfl ?_
      obtain ⟨t38, et38, hf⟩ := Option.bind_eq_some_iff.mp hf
      refine r_getR (dGet dX12_work (j := 121) rfl) F12_34 et38 ?_
      refine r_iload_n (dGet dX12_work (j := 122) rfl) rfl ?_
      obtain ⟨t39, et39, hf⟩ := Option.bind_eq_some_iff.mp hf
      refine r_iald (dGet dX12_work (j := 123) rfl) et39 ?_
      obtain ⟨q40, eq40, hf⟩ := Option.bind_eq_some_iff.mp hf
      refine r_virtual (dGet dX12_work (j := 124) rfl) L12_415 M292 rfl rfl (Nat.le_of_ble_eq_true rfl) (oX12_isUnder eq40) (cX12_isUnder X N (d + 3) v0 t37 t39 h q40 eq40) ?_
      by_cases c41 : q40.1 = 0
      · rw [if_pos c41] at hf
        refine r_if_eq_t (dGet dX12_work (j := 125) rfl) rfl c41 ?_
        refine Run.weak [(0, .ref v0), (1, .int v1), (3, .int t31)] (by simp) (by simp [pNd]) ?_
        exact lX12_work_279 X N d v0 v1 t31 q40.2 q hf nv0
      · rw [if_neg c41] at hf
        refine r_if_eq_f (dGet dX12_work (j := 125) rfl) rfl c41 ?_
        refine r_iconst (dGet dX12_work (j := 126) rfl) kI_1 ?_
        refine r_goto (dGet dX12_work (j := 127) rfl) rfl ?_
        refine Run.weak [(0, .ref v0), (1, .int v1), (3, .int t31)] (by simp) (by simp [pNd]) ?_
        exact lX12_work_280 X N d v0 v1 t31 (1 : Int32) q40.2 q hf nv0
def fX12_work_228 (N : Nat) (v0 : Nat) (v1 : Int32) (h : pH) : Option (pH) :=
  (fX12_calls N v0 v1 h).bind fun h42 =>
  some h42
theorem lX12_work_228 (X : pX) (N d : Nat)  (v0 : Nat) (v1 : Int32) (h : pH) (q : pH) (hf : fX12_work_228 N v0 v1 h = some q) (nv0 : ¬ v0 = 4) : Run X (d + 4) 12 false (pCd 10024) 5 none 228 [(0, .ref v0), (1, .int v1)] [] h 0 0 (none, q, 0, 0) := by
  unfold fX12_work_228 at hf
  refine r_aload_n (dGet dX12_work (j := 99) rfl) nv0 rfl ?_
  refine r_iload_n (dGet dX12_work (j := 100) rfl) rfl ?_
  obtain ⟨h42, eh42, hf⟩ := Option.bind_eq_some_iff.mp hf
  refine r_virtual (dGet dX12_work (j := 101) rfl) L12_644 M333 rfl rfl (Nat.le_of_ble_eq_true rfl) (oX12_calls eh42) (cX12_calls X N (d + 0) v0 v1 h h42 eh42) ?_
  refine r_goto (dGet dX12_work (j := 102) rfl) rfl ?_
  have hq := Option.some.inj hf
  subst hq
  exact r_vret (dGet dX12_work (j := 265) rfl) rfl
def fX12_work_80 (N : Nat) (v0 : Nat) (v1 : Int32) (v2 : Int32) (h : pH) : Option (pH) :=
  (getR h v0 12 101).bind fun t43 =>
  (ldI h t43 v2).bind fun t44 =>
  if 0 ≤ t44 then (
  (getR h v0 12 84).bind fun t46 =>
  (ldI h t46 t44).bind fun t47 =>
  (getR h v0 12 19).bind fun t48 =>
  (ldI h t48 v1).bind fun t49 =>
  (getI h v0 12 100).bind fun t50 =>
  (putI h v0 12 100 (t50 - (1 : Int32))).bind fun h51 =>
  (getR h51 v0 12 16).bind fun t52 =>
  (ldI h51 t52 v1).bind fun t53 =>
  if t53 = (18 : Int32) then (
  (getR h51 v0 12 85).bind fun t60 =>
  (ldI h51 t60 t44).bind fun t61 =>
  (fX12_push N v0 t61 (0 : Int32) h51).bind fun h62 =>
  some h62) else (
  (getR h51 v0 12 91).bind fun t55 =>
  (ldI h51 t55 (t47 + t49)).bind fun t56 =>
  (getR h51 v0 12 92).bind fun t57 =>
  (ldZ h51 t57 (t47 + t49)).bind fun t58 =>
  (fX12_push N v0 t56 t58 h51).bind fun h59 =>
  some h59)) else (
  (fX12_faults N v0 (0 : Int32) h).bind fun h63 =>
  some h63)
theorem lX12_work_80 (X : pX) (N d : Nat)  (v0 : Nat) (v1 : Int32) (v2 : Int32) (h : pH) (q : pH) (hf : fX12_work_80 N v0 v1 v2 h = some q) (nv0 : ¬ v0 = 4) : Run X (d + 4) 12 false (pCd 10024) 5 none 80 [(0, .ref v0), (1, .int v1), (2, .int v2)] [] h 0 0 (none, q, 0, 0) := by
  unfold fX12_work_80 at hf
  refine r_aload_n (dGet dX12_work (j := 10) rfl) nv0 rfl ?_
  obtain ⟨t43, et43, hf⟩ := Option.bind_eq_some_iff.mp hf
  refine r_getR (dGet dX12_work (j := 11) rfl) F12_198 et43 ?_
  refine r_iload_n (dGet dX12_work (j := 12) rfl) rfl ?_
  obtain ⟨t44, et44, hf⟩ := Option.bind_eq_some_iff.mp hf
  refine r_iald (dGet dX12_work (j := 13) rfl) et44 ?_
  refine r_istore_n (lv' := [(3, .int t44), (0, .ref v0), (1, .int v1), (2, .int v2)]) (dGet dX12_work (j := 14) rfl) (by decide) rfl ?_
  refine r_iload_n (dGet dX12_work (j := 15) rfl) rfl ?_
  by_cases c45 : 0 ≤ t44
  · rw [if_pos c45] at hf
    refine r_if_ge_t (dGet dX12_work (j := 16) rfl) rfl c45 ?_
    refine r_aload_n (dGet dX12_work (j := 21) rfl) nv0 rfl ?_
    obtain ⟨t46, et46, hf⟩ := Option.bind_eq_some_iff.mp hf
    refine r_getR (dGet dX12_work (j := 22) rfl) F12_157 et46 ?_
    refine r_iload_n (dGet dX12_work (j := 23) rfl) rfl ?_
    obtain ⟨t47, et47, hf⟩ := Option.bind_eq_some_iff.mp hf
    refine r_iald (dGet dX12_work (j := 24) rfl) et47 ?_
    refine r_aload_n (dGet dX12_work (j := 25) rfl) nv0 rfl ?_
    obtain ⟨t48, et48, hf⟩ := Option.bind_eq_some_iff.mp hf
    refine r_getR (dGet dX12_work (j := 26) rfl) F12_34 et48 ?_
    refine r_iload_n (dGet dX12_work (j := 27) rfl) rfl ?_
    obtain ⟨t49, et49, hf⟩ := Option.bind_eq_some_iff.mp hf
    refine r_iald (dGet dX12_work (j := 28) rfl) et49 ?_
    refine r_iadd (dGet dX12_work (j := 29) rfl) ?_
    refine r_istore (lv' := [(4, .int (t47 + t49)), (3, .int t44), (0, .ref v0), (1, .int v1), (2, .int v2)]) (dGet dX12_work (j := 30) rfl) (by decide) rfl ?_
    refine r_aload_n (dGet dX12_work (j := 31) rfl) nv0 rfl ?_
    refine r_dup (dGet dX12_work (j := 32) rfl) rfl ?_
    obtain ⟨t50, et50, hf⟩ := Option.bind_eq_some_iff.mp hf
    refine r_getI (dGet dX12_work (j := 33) rfl) F12_560 et50 ?_
    refine r_iconst (dGet dX12_work (j := 34) rfl) kI_1 ?_
    refine r_isub (dGet dX12_work (j := 35) rfl) ?_
    obtain ⟨h51, eh51, hf⟩ := Option.bind_eq_some_iff.mp hf
    refine r_putI (dGet dX12_work (j := 36) rfl) F12_560 rfl rfl eh51 ?_
    refine r_aload_n (dGet dX12_work (j := 37) rfl) nv0 rfl ?_
    obtain ⟨t52, et52, hf⟩ := Option.bind_eq_some_iff.mp hf
    refine r_getR (dGet dX12_work (j := 38) rfl) F12_25 et52 ?_
    refine r_iload_n (dGet dX12_work (j := 39) rfl) rfl ?_
    obtain ⟨t53, et53, hf⟩ := Option.bind_eq_some_iff.mp hf
    refine r_iald (dGet dX12_work (j := 40) rfl) et53 ?_
    refine r_bipush (dGet dX12_work (j := 41) rfl) kB_18 ?_
    by_cases c54 : t53 = (18 : Int32)
    · rw [if_pos c54] at hf
      refine r_icmp_ne_f (dGet dX12_work (j := 42) rfl) rfl c54 ?_
      refine r_aload_n (dGet dX12_work (j := 43) rfl) nv0 rfl ?_
      refine r_aload_n (dGet dX12_work (j := 44) rfl) nv0 rfl ?_
      obtain ⟨t60, et60, hf⟩ := Option.bind_eq_some_iff.mp hf
      refine r_getR (dGet dX12_work (j := 45) rfl) F12_160 et60 ?_
      refine r_iload_n (dGet dX12_work (j := 46) rfl) rfl ?_
      obtain ⟨t61, et61, hf⟩ := Option.bind_eq_some_iff.mp hf
      refine r_iald (dGet dX12_work (j := 47) rfl) et61 ?_
      refine r_iconst (dGet dX12_work (j := 48) rfl) kI_0 ?_
      obtain ⟨h62, eh62, hf⟩ := Option.bind_eq_some_iff.mp hf
      refine r_virtual (dGet dX12_work (j := 49) rfl) L12_623 M321 rfl rfl (Nat.le_of_ble_eq_true rfl) (oX12_push eh62) (cX12_push X N (d + 3) v0 t61 (0 : Int32) h51 h62 eh62) ?_
      refine r_goto (dGet dX12_work (j := 50) rfl) rfl ?_
      have hq := Option.some.inj hf
      subst hq
      exact r_vret (dGet dX12_work (j := 265) rfl) rfl
    · rw [if_neg c54] at hf
      refine r_icmp_ne_t (dGet dX12_work (j := 42) rfl) rfl c54 ?_
      refine r_aload_n (dGet dX12_work (j := 51) rfl) nv0 rfl ?_
      refine r_aload_n (dGet dX12_work (j := 52) rfl) nv0 rfl ?_
      obtain ⟨t55, et55, hf⟩ := Option.bind_eq_some_iff.mp hf
      refine r_getR (dGet dX12_work (j := 53) rfl) F12_172 et55 ?_
      refine r_iload (dGet dX12_work (j := 54) rfl) rfl ?_
      obtain ⟨t56, et56, hf⟩ := Option.bind_eq_some_iff.mp hf
      refine r_iald (dGet dX12_work (j := 55) rfl) et56 ?_
      refine r_aload_n (dGet dX12_work (j := 56) rfl) nv0 rfl ?_
      obtain ⟨t57, et57, hf⟩ := Option.bind_eq_some_iff.mp hf
      refine r_getR (dGet dX12_work (j := 57) rfl) F12_175 et57 ?_
      refine r_iload (dGet dX12_work (j := 58) rfl) rfl ?_
      obtain ⟨t58, et58, hf⟩ := Option.bind_eq_some_iff.mp hf
      refine r_zald (dGet dX12_work (j := 59) rfl) et58 ?_
      obtain ⟨h59, eh59, hf⟩ := Option.bind_eq_some_iff.mp hf
      refine r_virtual (dGet dX12_work (j := 60) rfl) L12_623 M321 rfl rfl (Nat.le_of_ble_eq_true rfl) (oX12_push eh59) (cX12_push X N (d + 3) v0 t56 t58 h51 h59 eh59) ?_
      refine r_goto (dGet dX12_work (j := 61) rfl) rfl ?_
      have hq := Option.some.inj hf
      subst hq
      exact r_vret (dGet dX12_work (j := 265) rfl) rfl
  · rw [if_neg c45] at hf
    refine r_if_ge_f (dGet dX12_work (j := 16) rfl) rfl c45 ?_
    refine r_aload_n (dGet dX12_work (j := 17) rfl) nv0 rfl ?_
    refine r_iconst (dGet dX12_work (j := 18) rfl) kI_0 ?_
    obtain ⟨h63, eh63, hf⟩ := Option.bind_eq_some_iff.mp hf
    refine r_virtual (dGet dX12_work (j := 19) rfl) L12_638 M330 rfl rfl (Nat.le_of_ble_eq_true rfl) (oX12_faults eh63) (cX12_faults X N (d + 1) v0 (0 : Int32) h h63 eh63) ?_
    have hq := Option.some.inj hf
    subst hq
    exact r_vret (dGet dX12_work (j := 20) rfl) rfl
def fX12_work (N : Nat) (v0 : Nat) (v1 : Int32) (h : pH) : Option (pH) := if isO h v0 12 = true then (
  (getI h v0 12 100).bind fun t64 =>
  (getR h v0 12 16).bind fun t65 =>
  (ldI h t65 v1).bind fun t66 =>
  if t66 = 6 then (
  fX12_work_80 N v0 v1 (t64 - (1 : Int32)) h) else
  if t66 = 7 then (
  (getR h v0 12 101).bind fun t80 =>
  (ldI h t80 ((t64 - (1 : Int32)) - (1 : Int32))).bind fun t81 =>
  (getR h v0 12 101).bind fun t82 =>
  (ldI h t82 (t64 - (1 : Int32))).bind fun t83 =>
  (fX12_isPlace N v0 t81 t83 h).bind fun q84 =>
  if q84.1 = 0 then (
  some q84.2) else (
  (getI q84.2 v0 12 100).bind fun t86 =>
  (putI q84.2 v0 12 100 (t86 - (2 : Int32))).bind fun h87 =>
  (getR h87 v0 12 91).bind fun t88 =>
  (getR h87 v0 12 84).bind fun t89 =>
  (ldI h87 t89 t81).bind fun t90 =>
  (ldI h87 t88 (t90 + t83)).bind fun t91 =>
  (fX12_push N v0 t91 (0 : Int32) h87).bind fun h92 =>
  some h92)) else
  if t66 = 8 then (
  fX12_work_228 N v0 v1 h) else
  if t66 = 9 then (
  fX12_work_228 N v0 v1 h) else
  if t66 = 10 then (
  fX12_work_236 N v0 v1 (t64 - (1 : Int32)) h) else
  if t66 = 11 then (
  fX12_work_236 N v0 v1 (t64 - (1 : Int32)) h) else
  if t66 = 12 then (
  (getR h v0 12 101).bind fun t93 =>
  (ldI h t93 (t64 - (1 : Int32))).bind fun t94 =>
  if 0 ≤ t94 then (
  (getI h v0 12 72).bind fun t96 =>
  if t96 < t94 then (
  fX12_work_371 N v0 h) else (
  (fX12_hasRoom N v0 ((2 : Int32) + t94) h).bind fun q98 =>
  if q98.1 = 0 then (
  fX12_work_371 N v0 q98.2) else (
  (getI q98.2 v0 12 100).bind fun t100 =>
  (putI q98.2 v0 12 100 (t100 - (1 : Int32))).bind fun h101 =>
  (fX12_object N v0 (-1 : Int32) t94 h101).bind fun q102 =>
  (fX12_push N v0 q102.1 (1 : Int32) q102.2).bind fun h103 =>
  some h103))) else (
  (fX12_faults N v0 (4 : Int32) h).bind fun h104 =>
  some h104)) else
  if t66 = 13 then (
  (getR h v0 12 101).bind fun t105 =>
  (getR h v0 12 101).bind fun t106 =>
  (ldI h t106 (t64 - (1 : Int32))).bind fun t107 =>
  (stI h t105 (t64 - (1 : Int32)) (-t107)).bind fun h108 =>
  some h108) else
  if t66 = 14 then (
  (getR h v0 12 101).bind fun t109 =>
  (getR h v0 12 101).bind fun t110 =>
  (ldI h t110 (t64 - (1 : Int32))).bind fun t111 =>
  (stI h t109 (t64 - (1 : Int32)) ((1 : Int32) - t111)).bind fun h112 =>
  some h112) else
  if t66 = 15 then (
  fX12_work_434 N v0 v1 (t64 - (1 : Int32)) h) else
  if t66 = 16 then (
  fX12_work_434 N v0 v1 (t64 - (1 : Int32)) h) else
  if t66 = 17 then (
  fX12_work_434 N v0 v1 (t64 - (1 : Int32)) h) else
  if t66 = 18 then (
  fX12_work_80 N v0 v1 (t64 - (1 : Int32)) h) else
  fX12_work_434 N v0 v1 (t64 - (1 : Int32)) h) else none
theorem oX12_work {N : Nat} {v0 : Nat} {v1 : Int32} {h : pH} {q : pH} (hf : fX12_work N v0 v1 h = some q) : isO h v0 12 = true := by
  unfold fX12_work at hf
  by_cases hc : isO h v0 12 = true
  · exact hc
  · rw [if_neg hc] at hf; cases hf
theorem cX12_work (X : pX) (N d : Nat) (v0 : Nat) (v1 : Int32) (h : pH) (q : pH) (hf : fX12_work N v0 v1 h = some q) : Calls X (d + 4) 329 [.ref v0, .int v1] h (none, q, 0, 0) := by
  refine Calls.of M329 (Nat.le_of_ble_eq_true rfl) ?_
  show Run X (d + 4) 12 false (pCd 10024) 5 none 0 [(0, .ref v0), (1, .int v1)] [] h 0 0 (none, q, 0, 0)
  unfold fX12_work at hf
  by_cases hc : isO h v0 12 = true
  · rw [if_pos hc] at hf
    have nv0 : ¬ v0 = 4 := isO_ne hc
    refine r_aload_n (dGet dX12_work (j := 0) rfl) nv0 rfl ?_
    obtain ⟨t64, et64, hf⟩ := Option.bind_eq_some_iff.mp hf
    refine r_getI (dGet dX12_work (j := 1) rfl) F12_560 et64 ?_
    refine r_iconst (dGet dX12_work (j := 2) rfl) kI_1 ?_
    refine r_isub (dGet dX12_work (j := 3) rfl) ?_
    refine r_istore_n (lv' := [(2, .int (t64 - (1 : Int32))), (0, .ref v0), (1, .int v1)]) (dGet dX12_work (j := 4) rfl) (by decide) rfl ?_
    refine r_aload_n (dGet dX12_work (j := 5) rfl) nv0 rfl ?_
    obtain ⟨t65, et65, hf⟩ := Option.bind_eq_some_iff.mp hf
    refine r_getR (dGet dX12_work (j := 6) rfl) F12_25 et65 ?_
    refine r_iload_n (dGet dX12_work (j := 7) rfl) rfl ?_
    obtain ⟨t66, et66, hf⟩ := Option.bind_eq_some_iff.mp hf
    refine r_iald (dGet dX12_work (j := 8) rfl) et66 ?_
    by_cases c67 : t66 = 6
    · rw [if_pos c67] at hf
      refine r_table (off := 67) (dGet dX12_work (j := 9) rfl) (by rw [c67]; decide) rfl ?_
      refine Run.weak [(0, .ref v0), (1, .int v1), (2, .int (t64 - (1 : Int32)))] (by simp) (by simp [pNd]) ?_
      exact lX12_work_80 X N d v0 v1 (t64 - (1 : Int32)) h q hf nv0
    rw [if_neg c67] at hf
    by_cases c68 : t66 = 7
    · rw [if_pos c68] at hf
      refine r_table (off := 155) (dGet dX12_work (j := 9) rfl) (by rw [c68]; decide) rfl ?_
      refine r_aload_n (dGet dX12_work (j := 62) rfl) nv0 rfl ?_
      obtain ⟨t80, et80, hf⟩ := Option.bind_eq_some_iff.mp hf
      refine r_getR (dGet dX12_work (j := 63) rfl) F12_198 et80 ?_
      refine r_iload_n (dGet dX12_work (j := 64) rfl) rfl ?_
      refine r_iconst (dGet dX12_work (j := 65) rfl) kI_1 ?_
      refine r_isub (dGet dX12_work (j := 66) rfl) ?_
      obtain ⟨t81, et81, hf⟩ := Option.bind_eq_some_iff.mp hf
      refine r_iald (dGet dX12_work (j := 67) rfl) et81 ?_
      refine r_istore_n (lv' := [(3, .int t81), (2, .int (t64 - (1 : Int32))), (0, .ref v0), (1, .int v1)]) (dGet dX12_work (j := 68) rfl) (by decide) rfl ?_
      refine r_aload_n (dGet dX12_work (j := 69) rfl) nv0 rfl ?_
      obtain ⟨t82, et82, hf⟩ := Option.bind_eq_some_iff.mp hf
      refine r_getR (dGet dX12_work (j := 70) rfl) F12_198 et82 ?_
      refine r_iload_n (dGet dX12_work (j := 71) rfl) rfl ?_
      obtain ⟨t83, et83, hf⟩ := Option.bind_eq_some_iff.mp hf
      refine r_iald (dGet dX12_work (j := 72) rfl) et83 ?_
      refine r_istore (lv' := [(4, .int t83), (3, .int t81), (2, .int (t64 - (1 : Int32))), (0, .ref v0), (1, .int v1)]) (dGet dX12_work (j := 73) rfl) (by decide) rfl ?_
      refine r_aload_n (dGet dX12_work (j := 74) rfl) nv0 rfl ?_
      refine r_iload_n (dGet dX12_work (j := 75) rfl) rfl ?_
      refine r_iload (dGet dX12_work (j := 76) rfl) rfl ?_
      obtain ⟨q84, eq84, hf⟩ := Option.bind_eq_some_iff.mp hf
      refine r_virtual (dGet dX12_work (j := 77) rfl) L12_641 M332 rfl rfl (Nat.le_of_ble_eq_true rfl) (oX12_isPlace eq84) (cX12_isPlace X N (d + 0) v0 t81 t83 h q84 eq84) ?_
      by_cases c85 : q84.1 = 0
      · rw [if_pos c85] at hf
        refine r_if_ne_f (dGet dX12_work (j := 78) rfl) rfl c85 ?_
        have hq := Option.some.inj hf
        subst hq
        exact r_vret (dGet dX12_work (j := 79) rfl) rfl
      · rw [if_neg c85] at hf
        refine r_if_ne_t (dGet dX12_work (j := 78) rfl) rfl c85 ?_
        refine r_aload_n (dGet dX12_work (j := 80) rfl) nv0 rfl ?_
        refine r_dup (dGet dX12_work (j := 81) rfl) rfl ?_
        obtain ⟨t86, et86, hf⟩ := Option.bind_eq_some_iff.mp hf
        refine r_getI (dGet dX12_work (j := 82) rfl) F12_560 et86 ?_
        refine r_iconst (dGet dX12_work (j := 83) rfl) kI_2 ?_
        refine r_isub (dGet dX12_work (j := 84) rfl) ?_
        obtain ⟨h87, eh87, hf⟩ := Option.bind_eq_some_iff.mp hf
        refine r_putI (dGet dX12_work (j := 85) rfl) F12_560 rfl rfl eh87 ?_
        refine r_aload_n (dGet dX12_work (j := 86) rfl) nv0 rfl ?_
        refine r_aload_n (dGet dX12_work (j := 87) rfl) nv0 rfl ?_
        obtain ⟨t88, et88, hf⟩ := Option.bind_eq_some_iff.mp hf
        refine r_getR (dGet dX12_work (j := 88) rfl) F12_172 et88 ?_
        refine r_aload_n (dGet dX12_work (j := 89) rfl) nv0 rfl ?_
        obtain ⟨t89, et89, hf⟩ := Option.bind_eq_some_iff.mp hf
        refine r_getR (dGet dX12_work (j := 90) rfl) F12_157 et89 ?_
        refine r_iload_n (dGet dX12_work (j := 91) rfl) rfl ?_
        obtain ⟨t90, et90, hf⟩ := Option.bind_eq_some_iff.mp hf
        refine r_iald (dGet dX12_work (j := 92) rfl) et90 ?_
        refine r_iload (dGet dX12_work (j := 93) rfl) rfl ?_
        refine r_iadd (dGet dX12_work (j := 94) rfl) ?_
        obtain ⟨t91, et91, hf⟩ := Option.bind_eq_some_iff.mp hf
        refine r_iald (dGet dX12_work (j := 95) rfl) et91 ?_
        refine r_iconst (dGet dX12_work (j := 96) rfl) kI_0 ?_
        obtain ⟨h92, eh92, hf⟩ := Option.bind_eq_some_iff.mp hf
        refine r_virtual (dGet dX12_work (j := 97) rfl) L12_623 M321 rfl rfl (Nat.le_of_ble_eq_true rfl) (oX12_push eh92) (cX12_push X N (d + 3) v0 t91 (0 : Int32) h87 h92 eh92) ?_
        refine r_goto (dGet dX12_work (j := 98) rfl) rfl ?_
        have hq := Option.some.inj hf
        subst hq
        exact r_vret (dGet dX12_work (j := 265) rfl) rfl
    rw [if_neg c68] at hf
    by_cases c69 : t66 = 8
    · rw [if_pos c69] at hf
      refine r_table (off := 215) (dGet dX12_work (j := 9) rfl) (by rw [c69]; decide) rfl ?_
      refine Run.weak [(0, .ref v0), (1, .int v1)] (by simp) (by simp [pNd]) ?_
      exact lX12_work_228 X N d v0 v1 h q hf nv0
    rw [if_neg c69] at hf
    by_cases c70 : t66 = 9
    · rw [if_pos c70] at hf
      refine r_table (off := 215) (dGet dX12_work (j := 9) rfl) (by rw [c70]; decide) rfl ?_
      refine Run.weak [(0, .ref v0), (1, .int v1)] (by simp) (by simp [pNd]) ?_
      exact lX12_work_228 X N d v0 v1 h q hf nv0
    rw [if_neg c70] at hf
    by_cases c71 : t66 = 10
    · rw [if_pos c71] at hf
      refine r_table (off := 223) (dGet dX12_work (j := 9) rfl) (by rw [c71]; decide) rfl ?_
      refine Run.weak [(0, .ref v0), (1, .int v1), (2, .int (t64 - (1 : Int32)))] (by simp) (by simp [pNd]) ?_
      exact lX12_work_236 X N d v0 v1 (t64 - (1 : Int32)) h q hf nv0
    rw [if_neg c71] at hf
    by_cases c72 : t66 = 11
    · rw [if_pos c72] at hf
      refine r_table (off := 223) (dGet dX12_work (j := 9) rfl) (by rw [c72]; decide) rfl ?_
      refine Run.weak [(0, .ref v0), (1, .int v1), (2, .int (t64 - (1 : Int32)))] (by simp) (by simp [pNd]) ?_
      exact lX12_work_236 X N d v0 v1 (t64 - (1 : Int32)) h q hf nv0
    rw [if_neg c72] at hf
    by_cases c73 : t66 = 12
    · rw [if_pos c73] at hf
      refine r_table (off := 323) (dGet dX12_work (j := 9) rfl) (by rw [c73]; decide) rfl ?_
      refine r_aload_n (dGet dX12_work (j := 159) rfl) nv0 rfl ?_
      obtain ⟨t93, et93, hf⟩ := Option.bind_eq_some_iff.mp hf
      refine r_getR (dGet dX12_work (j := 160) rfl) F12_198 et93 ?_
      refine r_iload_n (dGet dX12_work (j := 161) rfl) rfl ?_
      obtain ⟨t94, et94, hf⟩ := Option.bind_eq_some_iff.mp hf
      refine r_iald (dGet dX12_work (j := 162) rfl) et94 ?_
      refine r_istore_n (lv' := [(3, .int t94), (2, .int (t64 - (1 : Int32))), (0, .ref v0), (1, .int v1)]) (dGet dX12_work (j := 163) rfl) (by decide) rfl ?_
      refine r_iload_n (dGet dX12_work (j := 164) rfl) rfl ?_
      by_cases c95 : 0 ≤ t94
      · rw [if_pos c95] at hf
        refine r_if_ge_t (dGet dX12_work (j := 165) rfl) rfl c95 ?_
        refine r_iload_n (dGet dX12_work (j := 170) rfl) rfl ?_
        refine r_aload_n (dGet dX12_work (j := 171) rfl) nv0 rfl ?_
        obtain ⟨t96, et96, hf⟩ := Option.bind_eq_some_iff.mp hf
        refine r_getI (dGet dX12_work (j := 172) rfl) F12_569 et96 ?_
        by_cases c97 : t96 < t94
        · rw [if_pos c97] at hf
          refine r_icmp_gt_t (dGet dX12_work (j := 173) rfl) rfl c97 ?_
          refine Run.weak [(0, .ref v0)] (by simp) (by simp [pNd]) ?_
          exact lX12_work_371 X N d v0 h q hf nv0
        · rw [if_neg c97] at hf
          refine r_icmp_gt_f (dGet dX12_work (j := 173) rfl) rfl c97 ?_
          refine r_aload_n (dGet dX12_work (j := 174) rfl) nv0 rfl ?_
          refine r_iconst (dGet dX12_work (j := 175) rfl) kI_2 ?_
          refine r_iload_n (dGet dX12_work (j := 176) rfl) rfl ?_
          refine r_iadd (dGet dX12_work (j := 177) rfl) ?_
          obtain ⟨q98, eq98, hf⟩ := Option.bind_eq_some_iff.mp hf
          refine r_virtual (dGet dX12_work (j := 178) rfl) L12_629 M323 rfl rfl (Nat.le_of_ble_eq_true rfl) (oX12_hasRoom eq98) (cX12_hasRoom X N (d + 1) v0 ((2 : Int32) + t94) h q98 eq98) ?_
          by_cases c99 : q98.1 = 0
          · rw [if_pos c99] at hf
            refine r_if_ne_f (dGet dX12_work (j := 179) rfl) rfl c99 ?_
            refine Run.weak [(0, .ref v0)] (by simp) (by simp [pNd]) ?_
            exact lX12_work_371 X N d v0 q98.2 q hf nv0
          · rw [if_neg c99] at hf
            refine r_if_ne_t (dGet dX12_work (j := 179) rfl) rfl c99 ?_
            refine r_aload_n (dGet dX12_work (j := 184) rfl) nv0 rfl ?_
            refine r_dup (dGet dX12_work (j := 185) rfl) rfl ?_
            obtain ⟨t100, et100, hf⟩ := Option.bind_eq_some_iff.mp hf
            refine r_getI (dGet dX12_work (j := 186) rfl) F12_560 et100 ?_
            refine r_iconst (dGet dX12_work (j := 187) rfl) kI_1 ?_
            refine r_isub (dGet dX12_work (j := 188) rfl) ?_
            obtain ⟨h101, eh101, hf⟩ := Option.bind_eq_some_iff.mp hf
            refine r_putI (dGet dX12_work (j := 189) rfl) F12_560 rfl rfl eh101 ?_
            refine r_aload_n (dGet dX12_work (j := 190) rfl) nv0 rfl ?_
            refine r_aload_n (dGet dX12_work (j := 191) rfl) nv0 rfl ?_
            refine r_iconst (dGet dX12_work (j := 192) rfl) kI_m1 ?_
            refine r_iload_n (dGet dX12_work (j := 193) rfl) rfl ?_
            obtain ⟨q102, eq102, hf⟩ := Option.bind_eq_some_iff.mp hf
            refine r_virtual (dGet dX12_work (j := 194) rfl) L12_632 M309 rfl rfl (Nat.le_of_ble_eq_true rfl) (oX12_object eq102) (cX12_object X N (d + 3) v0 (-1 : Int32) t94 h101 q102 eq102) ?_
            refine r_iconst (dGet dX12_work (j := 195) rfl) kI_1 ?_
            obtain ⟨h103, eh103, hf⟩ := Option.bind_eq_some_iff.mp hf
            refine r_virtual (dGet dX12_work (j := 196) rfl) L12_623 M321 rfl rfl (Nat.le_of_ble_eq_true rfl) (oX12_push eh103) (cX12_push X N (d + 3) v0 q102.1 (1 : Int32) q102.2 h103 eh103) ?_
            refine r_goto (dGet dX12_work (j := 197) rfl) rfl ?_
            have hq := Option.some.inj hf
            subst hq
            exact r_vret (dGet dX12_work (j := 265) rfl) rfl
      · rw [if_neg c95] at hf
        refine r_if_ge_f (dGet dX12_work (j := 165) rfl) rfl c95 ?_
        refine r_aload_n (dGet dX12_work (j := 166) rfl) nv0 rfl ?_
        refine r_iconst (dGet dX12_work (j := 167) rfl) kI_4 ?_
        obtain ⟨h104, eh104, hf⟩ := Option.bind_eq_some_iff.mp hf
        refine r_virtual (dGet dX12_work (j := 168) rfl) L12_638 M330 rfl rfl (Nat.le_of_ble_eq_true rfl) (oX12_faults eh104) (cX12_faults X N (d + 1) v0 (4 : Int32) h h104 eh104) ?_
        have hq := Option.some.inj hf
        subst hq
        exact r_vret (dGet dX12_work (j := 169) rfl) rfl
    rw [if_neg c73] at hf
    by_cases c74 : t66 = 13
    · rw [if_pos c74] at hf
      refine r_table (off := 388) (dGet dX12_work (j := 9) rfl) (by rw [c74]; decide) rfl ?_
      refine r_aload_n (dGet dX12_work (j := 198) rfl) nv0 rfl ?_
      obtain ⟨t105, et105, hf⟩ := Option.bind_eq_some_iff.mp hf
      refine r_getR (dGet dX12_work (j := 199) rfl) F12_198 et105 ?_
      refine r_iload_n (dGet dX12_work (j := 200) rfl) rfl ?_
      refine r_aload_n (dGet dX12_work (j := 201) rfl) nv0 rfl ?_
      obtain ⟨t106, et106, hf⟩ := Option.bind_eq_some_iff.mp hf
      refine r_getR (dGet dX12_work (j := 202) rfl) F12_198 et106 ?_
      refine r_iload_n (dGet dX12_work (j := 203) rfl) rfl ?_
      obtain ⟨t107, et107, hf⟩ := Option.bind_eq_some_iff.mp hf
      refine r_iald (dGet dX12_work (j := 204) rfl) et107 ?_
      refine r_ineg (dGet dX12_work (j := 205) rfl) ?_
      obtain ⟨h108, eh108, hf⟩ := Option.bind_eq_some_iff.mp hf
      refine r_iast (dGet dX12_work (j := 206) rfl) eh108 ?_
      refine r_goto (dGet dX12_work (j := 207) rfl) rfl ?_
      have hq := Option.some.inj hf
      subst hq
      exact r_vret (dGet dX12_work (j := 265) rfl) rfl
    rw [if_neg c74] at hf
    by_cases c75 : t66 = 14
    · rw [if_pos c75] at hf
      refine r_table (off := 404) (dGet dX12_work (j := 9) rfl) (by rw [c75]; decide) rfl ?_
      refine r_aload_n (dGet dX12_work (j := 208) rfl) nv0 rfl ?_
      obtain ⟨t109, et109, hf⟩ := Option.bind_eq_some_iff.mp hf
      refine r_getR (dGet dX12_work (j := 209) rfl) F12_198 et109 ?_
      refine r_iload_n (dGet dX12_work (j := 210) rfl) rfl ?_
      refine r_iconst (dGet dX12_work (j := 211) rfl) kI_1 ?_
      refine r_aload_n (dGet dX12_work (j := 212) rfl) nv0 rfl ?_
      obtain ⟨t110, et110, hf⟩ := Option.bind_eq_some_iff.mp hf
      refine r_getR (dGet dX12_work (j := 213) rfl) F12_198 et110 ?_
      refine r_iload_n (dGet dX12_work (j := 214) rfl) rfl ?_
      obtain ⟨t111, et111, hf⟩ := Option.bind_eq_some_iff.mp hf
      refine r_iald (dGet dX12_work (j := 215) rfl) et111 ?_
      refine r_isub (dGet dX12_work (j := 216) rfl) ?_
      obtain ⟨h112, eh112, hf⟩ := Option.bind_eq_some_iff.mp hf
      refine r_iast (dGet dX12_work (j := 217) rfl) eh112 ?_
      refine r_goto (dGet dX12_work (j := 218) rfl) rfl ?_
      have hq := Option.some.inj hf
      subst hq
      exact r_vret (dGet dX12_work (j := 265) rfl) rfl
    rw [if_neg c75] at hf
    by_cases c76 : t66 = 15
    · rw [if_pos c76] at hf
      refine r_table (off := 421) (dGet dX12_work (j := 9) rfl) (by rw [c76]; decide) rfl ?_
      refine Run.weak [(0, .ref v0), (1, .int v1), (2, .int (t64 - (1 : Int32)))] (by simp) (by simp [pNd]) ?_
      exact lX12_work_434 X N d v0 v1 (t64 - (1 : Int32)) h q hf nv0
    rw [if_neg c76] at hf
    by_cases c77 : t66 = 16
    · rw [if_pos c77] at hf
      refine r_table (off := 421) (dGet dX12_work (j := 9) rfl) (by rw [c77]; decide) rfl ?_
      refine Run.weak [(0, .ref v0), (1, .int v1), (2, .int (t64 - (1 : Int32)))] (by simp) (by simp [pNd]) ?_
      exact lX12_work_434 X N d v0 v1 (t64 - (1 : Int32)) h q hf nv0
    rw [if_neg c77] at hf
    by_cases c78 : t66 = 17
    · rw [if_pos c78] at hf
      refine r_table (off := 421) (dGet dX12_work (j := 9) rfl) (by rw [c78]; decide) rfl ?_
      refine Run.weak [(0, .ref v0), (1, .int v1), (2, .int (t64 - (1 : Int32)))] (by simp) (by simp [pNd]) ?_
      exact lX12_work_434 X N d v0 v1 (t64 - (1 : Int32)) h q hf nv0
    rw [if_neg c78] at hf
    by_cases c79 : t66 = 18
    · rw [if_pos c79] at hf
      refine r_table (off := 67) (dGet dX12_work (j := 9) rfl) (by rw [c79]; decide) rfl ?_
      refine Run.weak [(0, .ref v0), (1, .int v1), (2, .int (t64 - (1 : Int32)))] (by simp) (by simp [pNd]) ?_
      exact lX12_work_80 X N d v0 v1 (t64 - (1 : Int32)) h q hf nv0
    rw [if_neg c79] at hf
    refine r_table (dGet dX12_work (j := 9) rfl) (pTable_out (cs := [6, 7, 8, 9, 10, 11, 12, 13, 14, 15, 16, 17, 18]) (by decide) (by decide) (by decide) (List.forall_mem_cons.mpr ⟨c67, List.forall_mem_cons.mpr ⟨c68, List.forall_mem_cons.mpr ⟨c69, List.forall_mem_cons.mpr ⟨c70, List.forall_mem_cons.mpr ⟨c71, List.forall_mem_cons.mpr ⟨c72, List.forall_mem_cons.mpr ⟨c73, List.forall_mem_cons.mpr ⟨c74, List.forall_mem_cons.mpr ⟨c75, List.forall_mem_cons.mpr ⟨c76, List.forall_mem_cons.mpr ⟨c77, List.forall_mem_cons.mpr ⟨c78, List.forall_mem_cons.mpr ⟨c79, fun _ h => absurd h List.not_mem_nil⟩⟩⟩⟩⟩⟩⟩⟩⟩⟩⟩⟩⟩)) rfl ?_
    refine Run.weak [(0, .ref v0), (1, .int v1), (2, .int (t64 - (1 : Int32)))] (by simp) (by simp [pNd]) ?_
    exact lX12_work_434 X N d v0 v1 (t64 - (1 : Int32)) h q hf nv0
  · rw [if_neg hc] at hf; cases hf
def eX12_stepOnce : List (Nat × Instr × Nat) := [(0, .aload_n 0, 1), (1, .dup, 1), (2, .getfield 662, 3), (5, .iconst 1, 1), (6, .iadd, 1), (7, .putfield 662, 3), (10, .aload_n 0, 1), (11, .dup, 1), (12, .getfield 584, 3), (15, .iconst 1, 1), (16, .isub, 1), (17, .putfield 584, 3), (20, .aload_n 0, 1), (21, .getfield 208, 3), (24, .aload_n 0, 1), (25, .getfield 584, 3), (28, .iaload, 1), (29, .istore_n 1, 1), (30, .aload_n 0, 1), (31, .getfield 205, 3), (34, .aload_n 0, 1), (35, .getfield 584, 3), (38, .iaload, 1), (39, .tableswitch 49 0 2 #[25, 33, 41], 25), (64, .aload_n 0, 1), (65, .iload_n 1, 1), (66, .invokevirtual 665, 3), (69, .goto 24, 3), (72, .aload_n 0, 1), (73, .iload_n 1, 1), (74, .invokevirtual 668, 3), (77, .goto 16, 3), (80, .aload_n 0, 1), (81, .iload_n 1, 1), (82, .invokevirtual 671, 3), (85, .goto 8, 3), (88, .aload_n 0, 1), (89, .iload_n 1, 1), (90, .invokevirtual 674, 3), (93, .aload_n 0, 1), (94, .getfield 587, 3), (97, .ifCond .ne 7, 3), (100, .aload_n 0, 1), (101, .invokevirtual 677, 3), (104, .return_, 1)]
theorem dX12_stepOnce : dChk (pCd 9224) eX12_stepOnce = true := by decide +kernel
def fX12_stepOnce_93 (N : Nat) (v0 : Nat) (h : pH) : Option (pH) :=
  (getI h v0 12 70).bind fun t1 =>
  if t1 = 0 then (
  (fX12_settle N v0 h).bind fun h3 =>
  some h3) else (
  some h)
theorem lX12_stepOnce_93 (X : pX) (N d : Nat)  (v0 : Nat) (h : pH) (q : pH) (hf : fX12_stepOnce_93 N v0 h = some q) (nv0 : ¬ v0 = 4) : Run X (d + 6) 12 false (pCd 9224) 2 none 93 [(0, .ref v0)] [] h 0 0 (none, q, 0, 0) := by
  unfold fX12_stepOnce_93 at hf
  refine r_aload_n (dGet dX12_stepOnce (j := 39) rfl) nv0 rfl ?_
  obtain ⟨t1, et1, hf⟩ := Option.bind_eq_some_iff.mp hf
  refine r_getI (dGet dX12_stepOnce (j := 40) rfl) F12_587 et1 ?_
  by_cases c2 : t1 = 0
  · rw [if_pos c2] at hf
    refine r_if_ne_f (dGet dX12_stepOnce (j := 41) rfl) rfl c2 ?_
    refine r_aload_n (dGet dX12_stepOnce (j := 42) rfl) nv0 rfl ?_
    obtain ⟨h3, eh3, hf⟩ := Option.bind_eq_some_iff.mp hf
    refine r_virtual (dGet dX12_stepOnce (j := 43) rfl) L12_677 M313 rfl rfl (Nat.le_of_ble_eq_true rfl) (oX12_settle eh3) (cX12_settle X N (d + 3) v0 h h3 eh3) ?_
    have hq := Option.some.inj hf
    subst hq
    exact r_vret (dGet dX12_stepOnce (j := 44) rfl) rfl
  · rw [if_neg c2] at hf
    refine r_if_ne_t (dGet dX12_stepOnce (j := 41) rfl) rfl c2 ?_
    have hq := Option.some.inj hf
    subst hq
    exact r_vret (dGet dX12_stepOnce (j := 44) rfl) rfl
def fX12_stepOnce (N : Nat) (v0 : Nat) (h : pH) : Option (pH) := if isO h v0 12 = true then (
  (getI h v0 12 75).bind fun t4 =>
  (putI h v0 12 75 (t4 + (1 : Int32))).bind fun h5 =>
  (getI h5 v0 12 103).bind fun t6 =>
  (putI h5 v0 12 103 (t6 - (1 : Int32))).bind fun h7 =>
  (getR h7 v0 12 105).bind fun t8 =>
  (getI h7 v0 12 103).bind fun t9 =>
  (ldI h7 t8 t9).bind fun t10 =>
  (getR h7 v0 12 104).bind fun t11 =>
  (getI h7 v0 12 103).bind fun t12 =>
  (ldI h7 t11 t12).bind fun t13 =>
  if t13 = 0 then (
  (fX12_leaf N v0 t10 h7).bind fun h17 =>
  fX12_stepOnce_93 N v0 h17) else
  if t13 = 1 then (
  (fX12_work N v0 t10 h7).bind fun h18 =>
  fX12_stepOnce_93 N v0 h18) else
  if t13 = 2 then (
  (fX12_half N v0 t10 h7).bind fun h19 =>
  fX12_stepOnce_93 N v0 h19) else
  (fX12_done N v0 t10 h7).bind fun h20 =>
  fX12_stepOnce_93 N v0 h20) else none
theorem oX12_stepOnce {N : Nat} {v0 : Nat} {h : pH} {q : pH} (hf : fX12_stepOnce N v0 h = some q) : isO h v0 12 = true := by
  unfold fX12_stepOnce at hf
  by_cases hc : isO h v0 12 = true
  · exact hc
  · rw [if_neg hc] at hf; cases hf
theorem cX12_stepOnce (X : pX) (N d : Nat) (v0 : Nat) (h : pH) (q : pH) (hf : fX12_stepOnce N v0 h = some q) : Calls X (d + 6) 319 [.ref v0] h (none, q, 0, 0) := by
  refine Calls.of M319 (Nat.le_of_ble_eq_true rfl) ?_
  show Run X (d + 6) 12 false (pCd 9224) 2 none 0 [(0, .ref v0)] [] h 0 0 (none, q, 0, 0)
  unfold fX12_stepOnce at hf
  by_cases hc : isO h v0 12 = true
  · rw [if_pos hc] at hf
    have nv0 : ¬ v0 = 4 := isO_ne hc
    refine r_aload_n (dGet dX12_stepOnce (j := 0) rfl) nv0 rfl ?_
    refine r_dup (dGet dX12_stepOnce (j := 1) rfl) rfl ?_
    obtain ⟨t4, et4, hf⟩ := Option.bind_eq_some_iff.mp hf
    refine r_getI (dGet dX12_stepOnce (j := 2) rfl) F12_662 et4 ?_
    refine r_iconst (dGet dX12_stepOnce (j := 3) rfl) kI_1 ?_
    refine r_iadd (dGet dX12_stepOnce (j := 4) rfl) ?_
    obtain ⟨h5, eh5, hf⟩ := Option.bind_eq_some_iff.mp hf
    refine r_putI (dGet dX12_stepOnce (j := 5) rfl) F12_662 rfl rfl eh5 ?_
    refine r_aload_n (dGet dX12_stepOnce (j := 6) rfl) nv0 rfl ?_
    refine r_dup (dGet dX12_stepOnce (j := 7) rfl) rfl ?_
    obtain ⟨t6, et6, hf⟩ := Option.bind_eq_some_iff.mp hf
    refine r_getI (dGet dX12_stepOnce (j := 8) rfl) F12_584 et6 ?_
    refine r_iconst (dGet dX12_stepOnce (j := 9) rfl) kI_1 ?_
    refine r_isub (dGet dX12_stepOnce (j := 10) rfl) ?_
    obtain ⟨h7, eh7, hf⟩ := Option.bind_eq_some_iff.mp hf
    refine r_putI (dGet dX12_stepOnce (j := 11) rfl) F12_584 rfl rfl eh7 ?_
    refine r_aload_n (dGet dX12_stepOnce (j := 12) rfl) nv0 rfl ?_
    obtain ⟨t8, et8, hf⟩ := Option.bind_eq_some_iff.mp hf
    refine r_getR (dGet dX12_stepOnce (j := 13) rfl) F12_208 et8 ?_
    refine r_aload_n (dGet dX12_stepOnce (j := 14) rfl) nv0 rfl ?_
    obtain ⟨t9, et9, hf⟩ := Option.bind_eq_some_iff.mp hf
    refine r_getI (dGet dX12_stepOnce (j := 15) rfl) F12_584 et9 ?_
    obtain ⟨t10, et10, hf⟩ := Option.bind_eq_some_iff.mp hf
    refine r_iald (dGet dX12_stepOnce (j := 16) rfl) et10 ?_
    refine r_istore_n (lv' := [(1, .int t10), (0, .ref v0)]) (dGet dX12_stepOnce (j := 17) rfl) (by decide) rfl ?_
    refine r_aload_n (dGet dX12_stepOnce (j := 18) rfl) nv0 rfl ?_
    obtain ⟨t11, et11, hf⟩ := Option.bind_eq_some_iff.mp hf
    refine r_getR (dGet dX12_stepOnce (j := 19) rfl) F12_205 et11 ?_
    refine r_aload_n (dGet dX12_stepOnce (j := 20) rfl) nv0 rfl ?_
    obtain ⟨t12, et12, hf⟩ := Option.bind_eq_some_iff.mp hf
    refine r_getI (dGet dX12_stepOnce (j := 21) rfl) F12_584 et12 ?_
    obtain ⟨t13, et13, hf⟩ := Option.bind_eq_some_iff.mp hf
    refine r_iald (dGet dX12_stepOnce (j := 22) rfl) et13 ?_
    by_cases c14 : t13 = 0
    · rw [if_pos c14] at hf
      refine r_table (off := 25) (dGet dX12_stepOnce (j := 23) rfl) (by rw [c14]; decide) rfl ?_
      refine r_aload_n (dGet dX12_stepOnce (j := 24) rfl) nv0 rfl ?_
      refine r_iload_n (dGet dX12_stepOnce (j := 25) rfl) rfl ?_
      obtain ⟨h17, eh17, hf⟩ := Option.bind_eq_some_iff.mp hf
      refine r_virtual (dGet dX12_stepOnce (j := 26) rfl) L12_665 M320 rfl rfl (Nat.le_of_ble_eq_true rfl) (oX12_leaf eh17) (cX12_leaf X N (d + 2) v0 t10 h7 h17 eh17) ?_
      refine r_goto (dGet dX12_stepOnce (j := 27) rfl) rfl ?_
      refine Run.weak [(0, .ref v0)] (by simp) (by simp [pNd]) ?_
      exact lX12_stepOnce_93 X N d v0 h17 q hf nv0
    rw [if_neg c14] at hf
    by_cases c15 : t13 = 1
    · rw [if_pos c15] at hf
      refine r_table (off := 33) (dGet dX12_stepOnce (j := 23) rfl) (by rw [c15]; decide) rfl ?_
      refine r_aload_n (dGet dX12_stepOnce (j := 28) rfl) nv0 rfl ?_
      refine r_iload_n (dGet dX12_stepOnce (j := 29) rfl) rfl ?_
      obtain ⟨h18, eh18, hf⟩ := Option.bind_eq_some_iff.mp hf
      refine r_virtual (dGet dX12_stepOnce (j := 30) rfl) L12_668 M329 rfl rfl (Nat.le_of_ble_eq_true rfl) (oX12_work eh18) (cX12_work X N (d + 1) v0 t10 h7 h18 eh18) ?_
      refine r_goto (dGet dX12_stepOnce (j := 31) rfl) rfl ?_
      refine Run.weak [(0, .ref v0)] (by simp) (by simp [pNd]) ?_
      exact lX12_stepOnce_93 X N d v0 h18 q hf nv0
    rw [if_neg c15] at hf
    by_cases c16 : t13 = 2
    · rw [if_pos c16] at hf
      refine r_table (off := 41) (dGet dX12_stepOnce (j := 23) rfl) (by rw [c16]; decide) rfl ?_
      refine r_aload_n (dGet dX12_stepOnce (j := 32) rfl) nv0 rfl ?_
      refine r_iload_n (dGet dX12_stepOnce (j := 33) rfl) rfl ?_
      obtain ⟨h19, eh19, hf⟩ := Option.bind_eq_some_iff.mp hf
      refine r_virtual (dGet dX12_stepOnce (j := 34) rfl) L12_671 M335 rfl rfl (Nat.le_of_ble_eq_true rfl) (oX12_half eh19) (cX12_half X N (d + 4) v0 t10 h7 h19 eh19) ?_
      refine r_goto (dGet dX12_stepOnce (j := 35) rfl) rfl ?_
      refine Run.weak [(0, .ref v0)] (by simp) (by simp [pNd]) ?_
      exact lX12_stepOnce_93 X N d v0 h19 q hf nv0
    rw [if_neg c16] at hf
    refine r_table (dGet dX12_stepOnce (j := 23) rfl) (pTable_out (cs := [0, 1, 2]) (by decide) (by decide) (by decide) (List.forall_mem_cons.mpr ⟨c14, List.forall_mem_cons.mpr ⟨c15, List.forall_mem_cons.mpr ⟨c16, fun _ h => absurd h List.not_mem_nil⟩⟩⟩)) rfl ?_
    refine r_aload_n (dGet dX12_stepOnce (j := 36) rfl) nv0 rfl ?_
    refine r_iload_n (dGet dX12_stepOnce (j := 37) rfl) rfl ?_
    obtain ⟨h20, eh20, hf⟩ := Option.bind_eq_some_iff.mp hf
    refine r_virtual (dGet dX12_stepOnce (j := 38) rfl) L12_674 M336 rfl rfl (Nat.le_of_ble_eq_true rfl) (oX12_done eh20) (cX12_done X N (d + 0) v0 t10 h7 h20 eh20) ?_
    refine Run.weak [(0, .ref v0)] (by simp) (by simp [pNd]) ?_
    exact lX12_stepOnce_93 X N d v0 h20 q hf nv0
  · rw [if_neg hc] at hf; cases hf
def eX12_step : List (Nat × Instr × Nat) := [(0, .aload_n 0, 1), (1, .getfield 442, 3), (4, .ifCond .eq 15, 3), (7, .iload_n 1, 1), (8, .i2l, 1), (9, .lconst 0, 1), (10, .ldc2_w 689, 3), (13, .invokestatic 228, 3), (16, .ifCond .ne 5, 3), (19, .iconst (-1), 1), (20, .ireturn, 1), (21, .iconst 0, 1), (22, .istore_n 2, 1), (23, .iload_n 2, 1), (24, .iload_n 1, 1), (25, .if_icmp .ge 20, 3), (28, .aload_n 0, 1), (29, .getfield 587, 3), (32, .ifCond .ne 13, 3), (35, .aload_n 0, 1), (36, .invokevirtual 691, 3), (39, .iinc 2 1, 3), (42, .goto (-19), 3), (45, .aload_n 0, 1), (46, .getfield 587, 3), (49, .ireturn, 1)]
theorem dX12_step : dChk (pCd 9219) eX12_step = true := by decide +kernel
def fX12_step_23 (N : Nat) : Nat → Nat → Int32 → Int32 → pH → Option (Int32 × pH)
  | 0, _, _, _, _ => none
  | n + 1, v0, v1, v2, h => if v1 ≤ v2 then (
  (getI h v0 12 70).bind fun t2 =>
  some (t2, h)) else (
  (getI h v0 12 70).bind fun t3 =>
  if t3 = 0 then (
  (fX12_stepOnce N v0 h).bind fun h6 =>
  fX12_step_23 N n v0 v1 (v2 + (1 : Int32)) h6) else (
  (getI h v0 12 70).bind fun t5 =>
  some (t5, h)))
theorem lX12_step_23 (X : pX) (N d : Nat)  : ∀ (n : Nat) (v0 : Nat) (v1 : Int32) (v2 : Int32) (h : pH) (q : Int32 × pH), fX12_step_23 N n v0 v1 v2 h = some q → ¬ v0 = 4 → Run X (d + 7) 12 false (pCd 9219) 3 (some .int) 23 [(0, .ref v0), (1, .int v1), (2, .int v2)] [] h 0 0 (some (.int q.1), q.2, 0, 0) := by
  intro n
  induction n with
  | zero => intro v0 v1 v2 h q hf; cases hf
  | succ n ih =>
    intro v0 v1 v2 h q hf nv0
    unfold fX12_step_23 at hf
    refine r_iload_n (dGet dX12_step (j := 13) rfl) rfl ?_
    refine r_iload_n (dGet dX12_step (j := 14) rfl) rfl ?_
    by_cases c1 : v1 ≤ v2
    · rw [if_pos c1] at hf
      refine r_icmp_ge_t (dGet dX12_step (j := 15) rfl) rfl c1 ?_
      refine r_aload_n (dGet dX12_step (j := 23) rfl) nv0 rfl ?_
      obtain ⟨t2, et2, hf⟩ := Option.bind_eq_some_iff.mp hf
      refine r_getI (dGet dX12_step (j := 24) rfl) F12_587 et2 ?_
      have hq := Option.some.inj hf
      subst hq
      exact r_iret (dGet dX12_step (j := 25) rfl) rfl rfl
    · rw [if_neg c1] at hf
      refine r_icmp_ge_f (dGet dX12_step (j := 15) rfl) rfl c1 ?_
      refine r_aload_n (dGet dX12_step (j := 16) rfl) nv0 rfl ?_
      obtain ⟨t3, et3, hf⟩ := Option.bind_eq_some_iff.mp hf
      refine r_getI (dGet dX12_step (j := 17) rfl) F12_587 et3 ?_
      by_cases c4 : t3 = 0
      · rw [if_pos c4] at hf
        refine r_if_ne_f (dGet dX12_step (j := 18) rfl) rfl c4 ?_
        refine r_aload_n (dGet dX12_step (j := 19) rfl) nv0 rfl ?_
        obtain ⟨h6, eh6, hf⟩ := Option.bind_eq_some_iff.mp hf
        refine r_virtual (dGet dX12_step (j := 20) rfl) L12_691 M319 rfl rfl (Nat.le_of_ble_eq_true rfl) (oX12_stepOnce eh6) (cX12_stepOnce X N (d + 0) v0 h h6 eh6) ?_
        refine r_iinc (lv' := [(2, .int (v2 + (1 : Int32))), (0, .ref v0), (1, .int v1)]) (dGet dX12_step (j := 21) rfl) rfl (by decide) kI_1 rfl ?_
        refine r_goto (dGet dX12_step (j := 22) rfl) rfl ?_
        refine Run.weak [(0, .ref v0), (1, .int v1), (2, .int (v2 + (1 : Int32)))] (by simp) (by simp [pNd]) ?_
        exact ih v0 v1 (v2 + (1 : Int32)) h6 q hf nv0
      · rw [if_neg c4] at hf
        refine r_if_ne_t (dGet dX12_step (j := 18) rfl) rfl c4 ?_
        refine r_aload_n (dGet dX12_step (j := 23) rfl) nv0 rfl ?_
        obtain ⟨t5, et5, hf⟩ := Option.bind_eq_some_iff.mp hf
        refine r_getI (dGet dX12_step (j := 24) rfl) F12_587 et5 ?_
        have hq := Option.some.inj hf
        subst hq
        exact r_iret (dGet dX12_step (j := 25) rfl) rfl rfl
def fX12_step (N : Nat) (v0 : Nat) (v1 : Int32) (h : pH) : Option (Int32 × pH) := if isO h v0 12 = true then (
  (getI h v0 12 69).bind fun t7 =>
  if t7 = 0 then (
  some ((-1 : Int32), h)) else (
  (fX12_isIn N (v1.toInt64) (0 : Int64) (20000 : Int64) h).bind fun q9 =>
  if q9.1 = 0 then (
  some ((-1 : Int32), q9.2)) else (
  fX12_step_23 N N v0 v1 (0 : Int32) q9.2))) else none
theorem oX12_step {N : Nat} {v0 : Nat} {v1 : Int32} {h : pH} {q : Int32 × pH} (hf : fX12_step N v0 v1 h = some q) : isO h v0 12 = true := by
  unfold fX12_step at hf
  by_cases hc : isO h v0 12 = true
  · exact hc
  · rw [if_neg hc] at hf; cases hf
theorem cX12_step (X : pX) (N d : Nat) (v0 : Nat) (v1 : Int32) (h : pH) (q : Int32 × pH) (hf : fX12_step N v0 v1 h = some q) : Calls X (d + 7) 318 [.ref v0, .int v1] h (some (.int q.1), q.2, 0, 0) := by
  refine Calls.of M318 (Nat.le_of_ble_eq_true rfl) ?_
  show Run X (d + 7) 12 false (pCd 9219) 3 (some .int) 0 [(0, .ref v0), (1, .int v1)] [] h 0 0 (some (.int q.1), q.2, 0, 0)
  unfold fX12_step at hf
  by_cases hc : isO h v0 12 = true
  · rw [if_pos hc] at hf
    have nv0 : ¬ v0 = 4 := isO_ne hc
    refine r_aload_n (dGet dX12_step (j := 0) rfl) nv0 rfl ?_
    obtain ⟨t7, et7, hf⟩ := Option.bind_eq_some_iff.mp hf
    refine r_getI (dGet dX12_step (j := 1) rfl) F12_442 et7 ?_
    by_cases c8 : t7 = 0
    · rw [if_pos c8] at hf
      refine r_if_eq_t (dGet dX12_step (j := 2) rfl) rfl c8 ?_
      refine r_iconst (dGet dX12_step (j := 9) rfl) kI_m1 ?_
      have hq := Option.some.inj hf
      subst hq
      exact r_iret (dGet dX12_step (j := 10) rfl) rfl rfl
    · rw [if_neg c8] at hf
      refine r_if_eq_f (dGet dX12_step (j := 2) rfl) rfl c8 ?_
      refine r_iload_n (dGet dX12_step (j := 3) rfl) rfl ?_
      refine r_i2l (dGet dX12_step (j := 4) rfl) ?_
      refine r_lconst (v := 0) (dGet dX12_step (j := 5) rfl) rfl ?_
      refine r_ldc2 (v := 20000) (dGet dX12_step (j := 6) rfl) (by decide +kernel : pFind pKl 12 689 = some (20000, 9220)) ?_
      obtain ⟨q9, eq9, hf⟩ := Option.bind_eq_some_iff.mp hf
      refine r_static (dGet dX12_step (j := 7) rfl) (by decide +kernel) (by decide +kernel) L12_228 M236 rfl rfl (Nat.le_of_ble_eq_true rfl) (cX12_isIn X N (d + 6) (v1.toInt64) (0 : Int64) (20000 : Int64) h q9 eq9) ?_
      by_cases c10 : q9.1 = 0
      · rw [if_pos c10] at hf
        refine r_if_ne_f (dGet dX12_step (j := 8) rfl) rfl c10 ?_
        refine r_iconst (dGet dX12_step (j := 9) rfl) kI_m1 ?_
        have hq := Option.some.inj hf
        subst hq
        exact r_iret (dGet dX12_step (j := 10) rfl) rfl rfl
      · rw [if_neg c10] at hf
        refine r_if_ne_t (dGet dX12_step (j := 8) rfl) rfl c10 ?_
        refine r_iconst (dGet dX12_step (j := 11) rfl) kI_0 ?_
        refine r_istore_n (lv' := [(2, .int (0 : Int32)), (0, .ref v0), (1, .int v1)]) (dGet dX12_step (j := 12) rfl) (by decide) rfl ?_
        refine Run.weak [(0, .ref v0), (1, .int v1), (2, .int (0 : Int32))] (by simp) (by simp [pNd]) ?_
        exact lX12_step_23 X N d N v0 v1 (0 : Int32) q9.2 q hf nv0
  · rw [if_neg hc] at hf; cases hf
def eX12_text : List (Nat × Instr × Nat) := [(0, .aload_n 0, 1), (1, .getfield 22, 3), (4, .iload_n 1, 1), (5, .iload_n 2, 1), (6, .iastore, 1), (7, .aload_n 0, 1), (8, .getfield 22, 3), (11, .iload_n 1, 1), (12, .iconst 1, 1), (13, .iadd, 1), (14, .iload_n 3, 1), (15, .iastore, 1), (16, .aload_n 0, 1), (17, .getfield 22, 3), (20, .iload_n 1, 1), (21, .iconst 2, 1), (22, .iadd, 1), (23, .iload 4, 2), (25, .iastore, 1), (26, .aload_n 0, 1), (27, .getfield 22, 3), (30, .iload_n 1, 1), (31, .iconst 3, 1), (32, .iadd, 1), (33, .iload 5, 2), (35, .iastore, 1), (36, .aload_n 0, 1), (37, .getfield 22, 3), (40, .iload_n 1, 1), (41, .iconst 4, 1), (42, .iadd, 1), (43, .iload 6, 2), (45, .iastore, 1), (46, .aload_n 0, 1), (47, .getfield 22, 3), (50, .iload_n 1, 1), (51, .iconst 5, 1), (52, .iadd, 1), (53, .iload 7, 2), (55, .iastore, 1), (56, .return_, 1)]
theorem dX12_text : dChk (pCd 7013) eX12_text = true := by decide +kernel
def fX12_text (N : Nat) (v0 : Nat) (v1 : Int32) (v2 : Int32) (v3 : Int32) (v4 : Int32) (v5 : Int32) (v6 : Int32) (v7 : Int32) (h : pH) : Option (pH) := if isO h v0 12 = true then (
  (getR h v0 12 14).bind fun t1 =>
  (stI h t1 v1 v2).bind fun h2 =>
  (getR h2 v0 12 14).bind fun t3 =>
  (stI h2 t3 (v1 + (1 : Int32)) v3).bind fun h4 =>
  (getR h4 v0 12 14).bind fun t5 =>
  (stI h4 t5 (v1 + (2 : Int32)) v4).bind fun h6 =>
  (getR h6 v0 12 14).bind fun t7 =>
  (stI h6 t7 (v1 + (3 : Int32)) v5).bind fun h8 =>
  (getR h8 v0 12 14).bind fun t9 =>
  (stI h8 t9 (v1 + (4 : Int32)) v6).bind fun h10 =>
  (getR h10 v0 12 14).bind fun t11 =>
  (stI h10 t11 (v1 + (5 : Int32)) v7).bind fun h12 =>
  some h12) else none
theorem oX12_text {N : Nat} {v0 : Nat} {v1 : Int32} {v2 : Int32} {v3 : Int32} {v4 : Int32} {v5 : Int32} {v6 : Int32} {v7 : Int32} {h : pH} {q : pH} (hf : fX12_text N v0 v1 v2 v3 v4 v5 v6 v7 h = some q) : isO h v0 12 = true := by
  unfold fX12_text at hf
  by_cases hc : isO h v0 12 = true
  · exact hc
  · rw [if_neg hc] at hf; cases hf
theorem cX12_text (X : pX) (N d : Nat) (v0 : Nat) (v1 : Int32) (v2 : Int32) (v3 : Int32) (v4 : Int32) (v5 : Int32) (v6 : Int32) (v7 : Int32) (h : pH) (q : pH) (hf : fX12_text N v0 v1 v2 v3 v4 v5 v6 v7 h = some q) : Calls X (d + 0) 230 [.ref v0, .int v1, .int v2, .int v3, .int v4, .int v5, .int v6, .int v7] h (none, q, 0, 0) := by
  refine Calls.of M230 (Nat.le_of_ble_eq_true rfl) ?_
  show Run X (d + 0) 12 false (pCd 7013) 8 none 0 [(0, .ref v0), (1, .int v1), (2, .int v2), (3, .int v3), (4, .int v4), (5, .int v5), (6, .int v6), (7, .int v7)] [] h 0 0 (none, q, 0, 0)
  unfold fX12_text at hf
  by_cases hc : isO h v0 12 = true
  · rw [if_pos hc] at hf
    have nv0 : ¬ v0 = 4 := isO_ne hc
    refine r_aload_n (dGet dX12_text (j := 0) rfl) nv0 rfl ?_
    obtain ⟨t1, et1, hf⟩ := Option.bind_eq_some_iff.mp hf
    refine r_getR (dGet dX12_text (j := 1) rfl) F12_22 et1 ?_
    refine r_iload_n (dGet dX12_text (j := 2) rfl) rfl ?_
    refine r_iload_n (dGet dX12_text (j := 3) rfl) rfl ?_
    obtain ⟨h2, eh2, hf⟩ := Option.bind_eq_some_iff.mp hf
    refine r_iast (dGet dX12_text (j := 4) rfl) eh2 ?_
    refine r_aload_n (dGet dX12_text (j := 5) rfl) nv0 rfl ?_
    obtain ⟨t3, et3, hf⟩ := Option.bind_eq_some_iff.mp hf
    refine r_getR (dGet dX12_text (j := 6) rfl) F12_22 et3 ?_
    refine r_iload_n (dGet dX12_text (j := 7) rfl) rfl ?_
    refine r_iconst (dGet dX12_text (j := 8) rfl) kI_1 ?_
    refine r_iadd (dGet dX12_text (j := 9) rfl) ?_
    refine r_iload_n (dGet dX12_text (j := 10) rfl) rfl ?_
    obtain ⟨h4, eh4, hf⟩ := Option.bind_eq_some_iff.mp hf
    refine r_iast (dGet dX12_text (j := 11) rfl) eh4 ?_
    refine r_aload_n (dGet dX12_text (j := 12) rfl) nv0 rfl ?_
    obtain ⟨t5, et5, hf⟩ := Option.bind_eq_some_iff.mp hf
    refine r_getR (dGet dX12_text (j := 13) rfl) F12_22 et5 ?_
    refine r_iload_n (dGet dX12_text (j := 14) rfl) rfl ?_
    refine r_iconst (dGet dX12_text (j := 15) rfl) kI_2 ?_
    refine r_iadd (dGet dX12_text (j := 16) rfl) ?_
    refine r_iload (dGet dX12_text (j := 17) rfl) rfl ?_
    obtain ⟨h6, eh6, hf⟩ := Option.bind_eq_some_iff.mp hf
    refine r_iast (dGet dX12_text (j := 18) rfl) eh6 ?_
    refine r_aload_n (dGet dX12_text (j := 19) rfl) nv0 rfl ?_
    obtain ⟨t7, et7, hf⟩ := Option.bind_eq_some_iff.mp hf
    refine r_getR (dGet dX12_text (j := 20) rfl) F12_22 et7 ?_
    refine r_iload_n (dGet dX12_text (j := 21) rfl) rfl ?_
    refine r_iconst (dGet dX12_text (j := 22) rfl) kI_3 ?_
    refine r_iadd (dGet dX12_text (j := 23) rfl) ?_
    refine r_iload (dGet dX12_text (j := 24) rfl) rfl ?_
    obtain ⟨h8, eh8, hf⟩ := Option.bind_eq_some_iff.mp hf
    refine r_iast (dGet dX12_text (j := 25) rfl) eh8 ?_
    refine r_aload_n (dGet dX12_text (j := 26) rfl) nv0 rfl ?_
    obtain ⟨t9, et9, hf⟩ := Option.bind_eq_some_iff.mp hf
    refine r_getR (dGet dX12_text (j := 27) rfl) F12_22 et9 ?_
    refine r_iload_n (dGet dX12_text (j := 28) rfl) rfl ?_
    refine r_iconst (dGet dX12_text (j := 29) rfl) kI_4 ?_
    refine r_iadd (dGet dX12_text (j := 30) rfl) ?_
    refine r_iload (dGet dX12_text (j := 31) rfl) rfl ?_
    obtain ⟨h10, eh10, hf⟩ := Option.bind_eq_some_iff.mp hf
    refine r_iast (dGet dX12_text (j := 32) rfl) eh10 ?_
    refine r_aload_n (dGet dX12_text (j := 33) rfl) nv0 rfl ?_
    obtain ⟨t11, et11, hf⟩ := Option.bind_eq_some_iff.mp hf
    refine r_getR (dGet dX12_text (j := 34) rfl) F12_22 et11 ?_
    refine r_iload_n (dGet dX12_text (j := 35) rfl) rfl ?_
    refine r_iconst (dGet dX12_text (j := 36) rfl) kI_5 ?_
    refine r_iadd (dGet dX12_text (j := 37) rfl) ?_
    refine r_iload (dGet dX12_text (j := 38) rfl) rfl ?_
    obtain ⟨h12, eh12, hf⟩ := Option.bind_eq_some_iff.mp hf
    refine r_iast (dGet dX12_text (j := 39) rfl) eh12 ?_
    have hq := Option.some.inj hf
    subst hq
    exact r_vret (dGet dX12_text (j := 40) rfl) rfl
  · rw [if_neg hc] at hf; cases hf
