def eL_law : List (Nat × Instr × Nat) := [(0, .new 7, 3), (3, .dup, 1), (4, .invokespecial 9, 3), (7, .astore_n 1, 1), (8, .new 10, 3), (11, .dup, 1), (12, .invokespecial 12, 3), (15, .astore_n 2, 1), (16, .iconst 0, 1), (17, .istore_n 3, 1), (18, .iload_n 3, 1), (19, .aload_n 0, 1), (20, .arraylength, 1), (21, .bipush 6, 2), (23, .isub, 1), (24, .if_icmp .gt 330, 3), (27, .aload_n 0, 1), (28, .iload_n 3, 1), (29, .iaload, 1), (30, .bipush 15, 2), (32, .iand, 1), (33, .tableswitch 315 0 9 #[55, 118, 141, 154, 177, 220, 233, 256, 269, 292], 55), (88, .aload_n 1, 1), (89, .aload_n 0, 1), (90, .iload_n 3, 1), (91, .iconst 1, 1), (92, .iadd, 1), (93, .iaload, 1), (94, .aload_n 0, 1), (95, .iload_n 3, 1), (96, .iconst 2, 1), (97, .iadd, 1), (98, .iaload, 1), (99, .aload_n 0, 1), (100, .iload_n 3, 1), (101, .iconst 3, 1), (102, .iadd, 1), (103, .iaload, 1), (104, .aload_n 0, 1), (105, .iload_n 3, 1), (106, .iconst 4, 1), (107, .iadd, 1), (108, .iaload, 1), (109, .aload_n 0, 1), (110, .iload_n 3, 1), (111, .iconst 5, 1), (112, .iadd, 1), (113, .iaload, 1), (114, .invokevirtual 13, 3), (117, .aload_n 2, 1), (118, .aload_n 0, 1), (119, .iload_n 3, 1), (120, .iconst 1, 1), (121, .iadd, 1), (122, .iaload, 1), (123, .aload_n 0, 1), (124, .iload_n 3, 1), (125, .iconst 2, 1), (126, .iadd, 1), (127, .iaload, 1), (128, .aload_n 0, 1), (129, .iload_n 3, 1), (130, .iconst 3, 1), (131, .iadd, 1), (132, .iaload, 1), (133, .aload_n 0, 1), (134, .iload_n 3, 1), (135, .iconst 4, 1), (136, .iadd, 1), (137, .iaload, 1), (138, .aload_n 0, 1), (139, .iload_n 3, 1), (140, .iconst 5, 1), (141, .iadd, 1), (142, .iaload, 1), (143, .invokevirtual 17, 3), (146, .if_icmp .eq 202, 3), (149, .iconst 0, 1), (150, .ireturn, 1), (151, .aload_n 1, 1), (152, .aload_n 0, 1), (153, .iload_n 3, 1), (154, .iconst 1, 1), (155, .iadd, 1), (156, .iaload, 1), (157, .invokevirtual 18, 3), (160, .aload_n 2, 1), (161, .aload_n 0, 1), (162, .iload_n 3, 1), (163, .iconst 1, 1), (164, .iadd, 1), (165, .iaload, 1), (166, .invokevirtual 22, 3), (169, .if_icmp .eq 179, 3), (172, .iconst 0, 1), (173, .ireturn, 1), (174, .aload_n 1, 1), (175, .invokevirtual 23, 3), (178, .aload_n 2, 1), (179, .invokevirtual 27, 3), (182, .if_icmp .eq 166, 3), (185, .iconst 0, 1), (186, .ireturn, 1), (187, .aload_n 1, 1), (188, .aload_n 0, 1), (189, .iload_n 3, 1), (190, .iconst 1, 1), (191, .iadd, 1), (192, .iaload, 1), (193, .invokevirtual 28, 3), (196, .aload_n 2, 1), (197, .aload_n 0, 1), (198, .iload_n 3, 1), (199, .iconst 1, 1), (200, .iadd, 1), (201, .iaload, 1), (202, .invokevirtual 31, 3), (205, .if_icmp .eq 143, 3), (208, .iconst 0, 1), (209, .ireturn, 1), (210, .aload_n 1, 1), (211, .aload_n 0, 1), (212, .iload_n 3, 1), (213, .iconst 1, 1), (214, .iadd, 1), (215, .iaload, 1), (216, .aload_n 0, 1), (217, .iload_n 3, 1), (218, .iconst 2, 1), (219, .iadd, 1), (220, .iaload, 1), (221, .aload_n 0, 1), (222, .iload_n 3, 1), (223, .iconst 3, 1), (224, .iadd, 1), (225, .iaload, 1), (226, .invokevirtual 32, 3), (229, .aload_n 2, 1), (230, .aload_n 0, 1), (231, .iload_n 3, 1), (232, .iconst 1, 1), (233, .iadd, 1), (234, .iaload, 1), (235, .aload_n 0, 1), (236, .iload_n 3, 1), (237, .iconst 2, 1), (238, .iadd, 1), (239, .iaload, 1), (240, .aload_n 0, 1), (241, .iload_n 3, 1), (242, .iconst 3, 1), (243, .iadd, 1), (244, .iaload, 1), (245, .invokevirtual 36, 3), (248, .if_icmp .eq 100, 3), (251, .iconst 0, 1), (252, .ireturn, 1), (253, .aload_n 1, 1), (254, .invokevirtual 37, 3), (257, .aload_n 2, 1), (258, .invokevirtual 40, 3), (261, .if_icmp .eq 87, 3), (264, .iconst 0, 1), (265, .ireturn, 1), (266, .aload_n 1, 1), (267, .aload_n 0, 1), (268, .iload_n 3, 1), (269, .iconst 1, 1), (270, .iadd, 1), (271, .iaload, 1), (272, .invokevirtual 41, 3), (275, .aload_n 2, 1), (276, .aload_n 0, 1), (277, .iload_n 3, 1), (278, .iconst 1, 1), (279, .iadd, 1), (280, .iaload, 1), (281, .invokevirtual 44, 3), (284, .if_icmp .eq 64, 3), (287, .iconst 0, 1), (288, .ireturn, 1), (289, .aload_n 1, 1), (290, .invokevirtual 45, 3), (293, .aload_n 2, 1), (294, .invokevirtual 48, 3), (297, .if_icmp .eq 51, 3), (300, .iconst 0, 1), (301, .ireturn, 1), (302, .aload_n 1, 1), (303, .aload_n 0, 1), (304, .iload_n 3, 1), (305, .iconst 1, 1), (306, .iadd, 1), (307, .iaload, 1), (308, .invokevirtual 49, 3), (311, .aload_n 2, 1), (312, .aload_n 0, 1), (313, .iload_n 3, 1), (314, .iconst 1, 1), (315, .iadd, 1), (316, .iaload, 1), (317, .invokevirtual 52, 3), (320, .if_icmp .eq 28, 3), (323, .iconst 0, 1), (324, .ireturn, 1), (325, .aload_n 1, 1), (326, .aload_n 0, 1), (327, .iload_n 3, 1), (328, .iconst 1, 1), (329, .iadd, 1), (330, .iaload, 1), (331, .invokevirtual 53, 3), (334, .aload_n 2, 1), (335, .aload_n 0, 1), (336, .iload_n 3, 1), (337, .iconst 1, 1), (338, .iadd, 1), (339, .iaload, 1), (340, .invokevirtual 56, 3), (343, .if_icmp .eq 5, 3), (346, .iconst 0, 1), (347, .ireturn, 1), (348, .iinc 3 6, 3), (351, .goto (-333), 3), (354, .iconst 1, 1), (355, .ireturn, 1)]
theorem dL_law : dChk code eL_law = true := by decide +kernel
def fL_law_348 (X : pX) (N : Nat) (k18 : Nat → Nat → Int32 → Nat → Nat → pH → Option (Int32 × pH × Nat × Nat)) (v1 : Nat) (v2 : Nat) (v3 : Int32) (nc : Nat) (ns : Nat) (h : pH) : Option (Int32 × pH × Nat × Nat) :=
  k18 v1 v2 (v3 + (6 : Int32)) nc ns h
theorem lL_law_348 (X : pX) (N d : Nat)  (k18 : Nat → Nat → Int32 → Nat → Nat → pH → Option (Int32 × pH × Nat × Nat)) (K18 : ∀ (w1 : Nat) (w2 : Nat) (w3 : Int32) (nc : Nat) (ns : Nat) (h : pH) (q : Int32 × pH × Nat × Nat), k18 w1 w2 w3 nc ns h = some q → ¬ w1 = 4 → ¬ w2 = 4 → Run X (d + 809) 21 false code 4 (some .boolean) 18 [(0, .ref 5), (1, .ref w1), (2, .ref w2), (3, .int w3)] [] h nc ns (some (.int q.1), q.2.1, q.2.2.1, q.2.2.2)) (v1 : Nat) (v2 : Nat) (v3 : Int32) (nc : Nat) (ns : Nat) (h : pH) (q : Int32 × pH × Nat × Nat) (hf : fL_law_348 X N k18 v1 v2 v3 nc ns h = some q) (nv1 : ¬ v1 = 4) (nv2 : ¬ v2 = 4) : Run X (d + 809) 21 false code 4 (some .boolean) 348 [(0, .ref 5), (1, .ref v1), (2, .ref v2), (3, .int v3)] [] h nc ns (some (.int q.1), q.2.1, q.2.2.1, q.2.2.2) := by
  have n5 : ¬ (5 : Nat) = 4 := by decide
  unfold fL_law_348 at hf
  refine r_iinc (lv' := [(3, .int (v3 + (6 : Int32))), (0, .ref 5), (1, .ref v1), (2, .ref v2)]) (dGet dL_law (j := 222) rfl) rfl (by decide) kI_6 rfl ?_
  refine r_goto (dGet dL_law (j := 223) rfl) rfl ?_
  refine Run.weak [(0, .ref 5), (1, .ref v1), (2, .ref v2), (3, .int (v3 + (6 : Int32)))] (by simp) (by simp [pNd]) ?_
  exact K18 v1 v2 (v3 + (6 : Int32)) nc ns h q hf nv1 nv2
def fL_law_18 (X : pX) (N : Nat) : Nat → Nat → Nat → Int32 → Nat → Nat → pH → Option (Int32 × pH × Nat × Nat)
  | 0, _, _, _, _, _, _ => none
  | n + 1, v1, v2, v3, nc, ns, h => if ((Int32.ofNat X.1) - (6 : Int32)) < v3 then (
  some ((1 : Int32), h, nc, ns)) else (
  (ldS X v3).bind fun t2 =>
  if (t2 &&& (15 : Int32)) = 0 then (
  (ldS X (v3 + (1 : Int32))).bind fun t13 =>
  (ldS X (v3 + (2 : Int32))).bind fun t14 =>
  (ldS X (v3 + (3 : Int32))).bind fun t15 =>
  (ldS X (v3 + (4 : Int32))).bind fun t16 =>
  (ldS X (v3 + (5 : Int32))).bind fun t17 =>
  (fX11_feed N v1 t13 t14 t15 t16 t17 h).bind fun q18 =>
  (ldS X (v3 + (1 : Int32))).bind fun t19 =>
  (ldS X (v3 + (2 : Int32))).bind fun t20 =>
  (ldS X (v3 + (3 : Int32))).bind fun t21 =>
  (ldS X (v3 + (4 : Int32))).bind fun t22 =>
  (ldS X (v3 + (5 : Int32))).bind fun t23 =>
  (fX12_feed N v2 t19 t20 t21 t22 t23 q18.2).bind fun q24 =>
  if q18.1 = q24.1 then (
  fL_law_348 X N (fL_law_18 X N n) v1 v2 v3 nc ns q24.2) else (
  some ((0 : Int32), q24.2, nc, ns))) else
  if (t2 &&& (15 : Int32)) = 1 then (
  (ldS X (v3 + (1 : Int32))).bind fun t26 =>
  (fX11_end N v1 t26 h).bind fun q27 =>
  (ldS X (v3 + (1 : Int32))).bind fun t28 =>
  (fX12_end N v2 t28 q27.2).bind fun q29 =>
  if q27.1 = q29.1 then (
  fL_law_348 X N (fL_law_18 X N n) v1 v2 v3 nc ns q29.2) else (
  some ((0 : Int32), q29.2, nc, ns))) else
  if (t2 &&& (15 : Int32)) = 2 then (
  (fX11_program N v1 h).bind fun q31 =>
  (fX12_program N v2 q31.2).bind fun q32 =>
  if q31.1 = q32.1 then (
  fL_law_348 X N (fL_law_18 X N n) v1 v2 v3 nc ns q32.2) else (
  some ((0 : Int32), q32.2, nc, ns))) else
  if (t2 &&& (15 : Int32)) = 3 then (
  (ldS X (v3 + (1 : Int32))).bind fun t34 =>
  (fX11_heap N v1 t34 h).bind fun q35 =>
  (ldS X (v3 + (1 : Int32))).bind fun t36 =>
  (fX12_heap N v2 t36 q35.2).bind fun q37 =>
  if q35.1 = q37.1 then (
  fL_law_348 X N (fL_law_18 X N n) v1 v2 v3 nc ns q37.2) else (
  some ((0 : Int32), q37.2, nc, ns))) else
  if (t2 &&& (15 : Int32)) = 4 then (
  (ldS X (v3 + (1 : Int32))).bind fun t39 =>
  (ldS X (v3 + (2 : Int32))).bind fun t40 =>
  (ldS X (v3 + (3 : Int32))).bind fun t41 =>
  (fX11_input N v1 t39 t40 t41 h).bind fun q42 =>
  (ldS X (v3 + (1 : Int32))).bind fun t43 =>
  (ldS X (v3 + (2 : Int32))).bind fun t44 =>
  (ldS X (v3 + (3 : Int32))).bind fun t45 =>
  (fX12_input N v2 t43 t44 t45 q42.2).bind fun q46 =>
  if q42.1 = q46.1 then (
  fL_law_348 X N (fL_law_18 X N n) v1 v2 v3 nc ns q46.2) else (
  some ((0 : Int32), q46.2, nc, ns))) else
  if (t2 &&& (15 : Int32)) = 5 then (
  (fX11_start N v1 h).bind fun q48 =>
  (fX12_start N v2 q48.2.1).bind fun q49 =>
  if q48.1 = q49.1 then (
  fL_law_348 X N (fL_law_18 X N n) v1 v2 v3 (nc + q48.2.2.1) (ns + q48.2.2.2) q49.2) else (
  some ((0 : Int32), q49.2, (nc + q48.2.2.1), (ns + q48.2.2.2)))) else
  if (t2 &&& (15 : Int32)) = 6 then (
  (ldS X (v3 + (1 : Int32))).bind fun t51 =>
  (fX11_step N v1 t51 h).bind fun q52 =>
  (ldS X (v3 + (1 : Int32))).bind fun t53 =>
  (fX12_step N v2 t53 q52.2.1).bind fun q54 =>
  if q52.1 = q54.1 then (
  fL_law_348 X N (fL_law_18 X N n) v1 v2 v3 (nc + q52.2.2.1) (ns + q52.2.2.2) q54.2) else (
  some ((0 : Int32), q54.2, (nc + q52.2.2.1), (ns + q52.2.2.2)))) else
  if (t2 &&& (15 : Int32)) = 7 then (
  (fX11_result N v1 h).bind fun q56 =>
  (fX12_result N v2 q56.2).bind fun q57 =>
  if q56.1 = q57.1 then (
  fL_law_348 X N (fL_law_18 X N n) v1 v2 v3 nc ns q57.2) else (
  some ((0 : Int32), q57.2, nc, ns))) else
  if (t2 &&& (15 : Int32)) = 8 then (
  (ldS X (v3 + (1 : Int32))).bind fun t59 =>
  (fX11_output N v1 t59 h).bind fun q60 =>
  (ldS X (v3 + (1 : Int32))).bind fun t61 =>
  (fX12_output N v2 t61 q60.2).bind fun q62 =>
  if q60.1 = q62.1 then (
  fL_law_348 X N (fL_law_18 X N n) v1 v2 v3 nc ns q62.2) else (
  some ((0 : Int32), q62.2, nc, ns))) else
  if (t2 &&& (15 : Int32)) = 9 then (
  (ldS X (v3 + (1 : Int32))).bind fun t64 =>
  (fX11_count N v1 t64 h).bind fun q65 =>
  (ldS X (v3 + (1 : Int32))).bind fun t66 =>
  (fX12_count N v2 t66 q65.2).bind fun q67 =>
  if q65.1 = q67.1 then (
  fL_law_348 X N (fL_law_18 X N n) v1 v2 v3 nc ns q67.2) else (
  some ((0 : Int32), q67.2, nc, ns))) else
  fL_law_348 X N (fL_law_18 X N n) v1 v2 v3 nc ns h)
theorem lL_law_18 (X : pX) (N d : Nat)  : ∀ (n : Nat) (v1 : Nat) (v2 : Nat) (v3 : Int32) (nc : Nat) (ns : Nat) (h : pH) (q : Int32 × pH × Nat × Nat), fL_law_18 X N n v1 v2 v3 nc ns h = some q → ¬ v1 = 4 → ¬ v2 = 4 → Run X (d + 809) 21 false code 4 (some .boolean) 18 [(0, .ref 5), (1, .ref v1), (2, .ref v2), (3, .int v3)] [] h nc ns (some (.int q.1), q.2.1, q.2.2.1, q.2.2.2) := by
  intro n
  induction n with
  | zero => intro v1 v2 v3 nc ns h q hf; cases hf
  | succ n ih =>
    intro v1 v2 v3 nc ns h q hf nv1 nv2
    have n5 : ¬ (5 : Nat) = 4 := by decide
    unfold fL_law_18 at hf
    refine r_iload_n (dGet dL_law (j := 10) rfl) rfl ?_
    refine r_aload_n (dGet dL_law (j := 11) rfl) n5 rfl ?_
    refine r_slen (dGet dL_law (j := 12) rfl) ?_
    refine r_bipush (dGet dL_law (j := 13) rfl) kB_6 ?_
    refine r_isub (dGet dL_law (j := 14) rfl) ?_
    by_cases c1 : ((Int32.ofNat X.1) - (6 : Int32)) < v3
    · rw [if_pos c1] at hf
      refine r_icmp_gt_t (dGet dL_law (j := 15) rfl) rfl c1 ?_
      refine r_iconst (dGet dL_law (j := 224) rfl) kI_1 ?_
      have hq := Option.some.inj hf
      subst hq
      exact r_iret (dGet dL_law (j := 225) rfl) rfl (by decide)
    · rw [if_neg c1] at hf
      refine r_icmp_gt_f (dGet dL_law (j := 15) rfl) rfl c1 ?_
      refine r_aload_n (dGet dL_law (j := 16) rfl) n5 rfl ?_
      refine r_iload_n (dGet dL_law (j := 17) rfl) rfl ?_
      obtain ⟨t2, et2, hf⟩ := Option.bind_eq_some_iff.mp hf
      refine r_sld (dGet dL_law (j := 18) rfl) et2 ?_
      refine r_bipush (dGet dL_law (j := 19) rfl) kB_15 ?_
      refine r_iand (dGet dL_law (j := 20) rfl) ?_
      by_cases c3 : (t2 &&& (15 : Int32)) = 0
      · rw [if_pos c3] at hf
        refine r_table (off := 55) (dGet dL_law (j := 21) rfl) (by rw [c3]; decide) rfl ?_
        refine r_aload_n (dGet dL_law (j := 22) rfl) nv1 rfl ?_
        refine r_aload_n (dGet dL_law (j := 23) rfl) n5 rfl ?_
        refine r_iload_n (dGet dL_law (j := 24) rfl) rfl ?_
        refine r_iconst (dGet dL_law (j := 25) rfl) kI_1 ?_
        refine r_iadd (dGet dL_law (j := 26) rfl) ?_
        obtain ⟨t13, et13, hf⟩ := Option.bind_eq_some_iff.mp hf
        refine r_sld (dGet dL_law (j := 27) rfl) et13 ?_
        refine r_aload_n (dGet dL_law (j := 28) rfl) n5 rfl ?_
        refine r_iload_n (dGet dL_law (j := 29) rfl) rfl ?_
        refine r_iconst (dGet dL_law (j := 30) rfl) kI_2 ?_
        refine r_iadd (dGet dL_law (j := 31) rfl) ?_
        obtain ⟨t14, et14, hf⟩ := Option.bind_eq_some_iff.mp hf
        refine r_sld (dGet dL_law (j := 32) rfl) et14 ?_
        refine r_aload_n (dGet dL_law (j := 33) rfl) n5 rfl ?_
        refine r_iload_n (dGet dL_law (j := 34) rfl) rfl ?_
        refine r_iconst (dGet dL_law (j := 35) rfl) kI_3 ?_
        refine r_iadd (dGet dL_law (j := 36) rfl) ?_
        obtain ⟨t15, et15, hf⟩ := Option.bind_eq_some_iff.mp hf
        refine r_sld (dGet dL_law (j := 37) rfl) et15 ?_
        refine r_aload_n (dGet dL_law (j := 38) rfl) n5 rfl ?_
        refine r_iload_n (dGet dL_law (j := 39) rfl) rfl ?_
        refine r_iconst (dGet dL_law (j := 40) rfl) kI_4 ?_
        refine r_iadd (dGet dL_law (j := 41) rfl) ?_
        obtain ⟨t16, et16, hf⟩ := Option.bind_eq_some_iff.mp hf
        refine r_sld (dGet dL_law (j := 42) rfl) et16 ?_
        refine r_aload_n (dGet dL_law (j := 43) rfl) n5 rfl ?_
        refine r_iload_n (dGet dL_law (j := 44) rfl) rfl ?_
        refine r_iconst (dGet dL_law (j := 45) rfl) kI_5 ?_
        refine r_iadd (dGet dL_law (j := 46) rfl) ?_
        obtain ⟨t17, et17, hf⟩ := Option.bind_eq_some_iff.mp hf
        refine r_sld (dGet dL_law (j := 47) rfl) et17 ?_
        obtain ⟨q18, eq18, hf⟩ := Option.bind_eq_some_iff.mp hf
        refine r_virtual (dGet dL_law (j := 48) rfl) L21_13 M14 rfl rfl (Nat.le_of_ble_eq_true rfl) (oX11_feed eq18) (cX11_feed X N (d + 807) v1 t13 t14 t15 t16 t17 h q18 eq18) ?_
        refine r_aload_n (dGet dL_law (j := 49) rfl) nv2 rfl ?_
        refine r_aload_n (dGet dL_law (j := 50) rfl) n5 rfl ?_
        refine r_iload_n (dGet dL_law (j := 51) rfl) rfl ?_
        refine r_iconst (dGet dL_law (j := 52) rfl) kI_1 ?_
        refine r_iadd (dGet dL_law (j := 53) rfl) ?_
        obtain ⟨t19, et19, hf⟩ := Option.bind_eq_some_iff.mp hf
        refine r_sld (dGet dL_law (j := 54) rfl) et19 ?_
        refine r_aload_n (dGet dL_law (j := 55) rfl) n5 rfl ?_
        refine r_iload_n (dGet dL_law (j := 56) rfl) rfl ?_
        refine r_iconst (dGet dL_law (j := 57) rfl) kI_2 ?_
        refine r_iadd (dGet dL_law (j := 58) rfl) ?_
        obtain ⟨t20, et20, hf⟩ := Option.bind_eq_some_iff.mp hf
        refine r_sld (dGet dL_law (j := 59) rfl) et20 ?_
        refine r_aload_n (dGet dL_law (j := 60) rfl) n5 rfl ?_
        refine r_iload_n (dGet dL_law (j := 61) rfl) rfl ?_
        refine r_iconst (dGet dL_law (j := 62) rfl) kI_3 ?_
        refine r_iadd (dGet dL_law (j := 63) rfl) ?_
        obtain ⟨t21, et21, hf⟩ := Option.bind_eq_some_iff.mp hf
        refine r_sld (dGet dL_law (j := 64) rfl) et21 ?_
        refine r_aload_n (dGet dL_law (j := 65) rfl) n5 rfl ?_
        refine r_iload_n (dGet dL_law (j := 66) rfl) rfl ?_
        refine r_iconst (dGet dL_law (j := 67) rfl) kI_4 ?_
        refine r_iadd (dGet dL_law (j := 68) rfl) ?_
        obtain ⟨t22, et22, hf⟩ := Option.bind_eq_some_iff.mp hf
        refine r_sld (dGet dL_law (j := 69) rfl) et22 ?_
        refine r_aload_n (dGet dL_law (j := 70) rfl) n5 rfl ?_
        refine r_iload_n (dGet dL_law (j := 71) rfl) rfl ?_
        refine r_iconst (dGet dL_law (j := 72) rfl) kI_5 ?_
        refine r_iadd (dGet dL_law (j := 73) rfl) ?_
        obtain ⟨t23, et23, hf⟩ := Option.bind_eq_some_iff.mp hf
        refine r_sld (dGet dL_law (j := 74) rfl) et23 ?_
        obtain ⟨q24, eq24, hf⟩ := Option.bind_eq_some_iff.mp hf
        refine r_virtual (dGet dL_law (j := 75) rfl) L21_17 M304 rfl rfl (Nat.le_of_ble_eq_true rfl) (oX12_feed eq24) (cX12_feed X N (d + 808) v2 t19 t20 t21 t22 t23 q18.2 q24 eq24) ?_
        by_cases c25 : q18.1 = q24.1
        · rw [if_pos c25] at hf
          refine r_icmp_eq_t (dGet dL_law (j := 76) rfl) rfl c25 ?_
          exact lL_law_348 X N d (fL_law_18 X N n) ih v1 v2 v3 nc ns q24.2 q hf nv1 nv2
        · rw [if_neg c25] at hf
          refine r_icmp_eq_f (dGet dL_law (j := 76) rfl) rfl c25 ?_
          refine r_iconst (dGet dL_law (j := 77) rfl) kI_0 ?_
          have hq := Option.some.inj hf
          subst hq
          exact r_iret (dGet dL_law (j := 78) rfl) rfl (by decide)
      rw [if_neg c3] at hf
      by_cases c4 : (t2 &&& (15 : Int32)) = 1
      · rw [if_pos c4] at hf
        refine r_table (off := 118) (dGet dL_law (j := 21) rfl) (by rw [c4]; decide) rfl ?_
        refine r_aload_n (dGet dL_law (j := 79) rfl) nv1 rfl ?_
        refine r_aload_n (dGet dL_law (j := 80) rfl) n5 rfl ?_
        refine r_iload_n (dGet dL_law (j := 81) rfl) rfl ?_
        refine r_iconst (dGet dL_law (j := 82) rfl) kI_1 ?_
        refine r_iadd (dGet dL_law (j := 83) rfl) ?_
        obtain ⟨t26, et26, hf⟩ := Option.bind_eq_some_iff.mp hf
        refine r_sld (dGet dL_law (j := 84) rfl) et26 ?_
        obtain ⟨q27, eq27, hf⟩ := Option.bind_eq_some_iff.mp hf
        refine r_virtual (dGet dL_law (j := 85) rfl) L21_18 M16 rfl rfl (Nat.le_of_ble_eq_true rfl) (oX11_end eq27) (cX11_end X N (d + 808) v1 t26 h q27 eq27) ?_
        refine r_aload_n (dGet dL_law (j := 86) rfl) nv2 rfl ?_
        refine r_aload_n (dGet dL_law (j := 87) rfl) n5 rfl ?_
        refine r_iload_n (dGet dL_law (j := 88) rfl) rfl ?_
        refine r_iconst (dGet dL_law (j := 89) rfl) kI_1 ?_
        refine r_iadd (dGet dL_law (j := 90) rfl) ?_
        obtain ⟨t28, et28, hf⟩ := Option.bind_eq_some_iff.mp hf
        refine r_sld (dGet dL_law (j := 91) rfl) et28 ?_
        obtain ⟨q29, eq29, hf⟩ := Option.bind_eq_some_iff.mp hf
        refine r_virtual (dGet dL_law (j := 92) rfl) L21_22 M305 rfl rfl (Nat.le_of_ble_eq_true rfl) (oX12_end eq29) (cX12_end X N (d + 807) v2 t28 q27.2 q29 eq29) ?_
        by_cases c30 : q27.1 = q29.1
        · rw [if_pos c30] at hf
          refine r_icmp_eq_t (dGet dL_law (j := 93) rfl) rfl c30 ?_
          exact lL_law_348 X N d (fL_law_18 X N n) ih v1 v2 v3 nc ns q29.2 q hf nv1 nv2
        · rw [if_neg c30] at hf
          refine r_icmp_eq_f (dGet dL_law (j := 93) rfl) rfl c30 ?_
          refine r_iconst (dGet dL_law (j := 94) rfl) kI_0 ?_
          have hq := Option.some.inj hf
          subst hq
          exact r_iret (dGet dL_law (j := 95) rfl) rfl (by decide)
      rw [if_neg c4] at hf
      by_cases c5 : (t2 &&& (15 : Int32)) = 2
      · rw [if_pos c5] at hf
        refine r_table (off := 141) (dGet dL_law (j := 21) rfl) (by rw [c5]; decide) rfl ?_
        refine r_aload_n (dGet dL_law (j := 96) rfl) nv1 rfl ?_
        obtain ⟨q31, eq31, hf⟩ := Option.bind_eq_some_iff.mp hf
        refine r_virtual (dGet dL_law (j := 97) rfl) L21_23 M17 rfl rfl (Nat.le_of_ble_eq_true rfl) (oX11_program eq31) (cX11_program X N (d + 3) v1 h q31 eq31) ?_
        refine r_aload_n (dGet dL_law (j := 98) rfl) nv2 rfl ?_
        obtain ⟨q32, eq32, hf⟩ := Option.bind_eq_some_iff.mp hf
        refine r_virtual (dGet dL_law (j := 99) rfl) L21_27 M231 rfl rfl (Nat.le_of_ble_eq_true rfl) (oX12_program eq32) (cX12_program X N (d + 0) v2 q31.2 q32 eq32) ?_
        by_cases c33 : q31.1 = q32.1
        · rw [if_pos c33] at hf
          refine r_icmp_eq_t (dGet dL_law (j := 100) rfl) rfl c33 ?_
          exact lL_law_348 X N d (fL_law_18 X N n) ih v1 v2 v3 nc ns q32.2 q hf nv1 nv2
        · rw [if_neg c33] at hf
          refine r_icmp_eq_f (dGet dL_law (j := 100) rfl) rfl c33 ?_
          refine r_iconst (dGet dL_law (j := 101) rfl) kI_0 ?_
          have hq := Option.some.inj hf
          subst hq
          exact r_iret (dGet dL_law (j := 102) rfl) rfl (by decide)
      rw [if_neg c5] at hf
      by_cases c6 : (t2 &&& (15 : Int32)) = 3
      · rw [if_pos c6] at hf
        refine r_table (off := 154) (dGet dL_law (j := 21) rfl) (by rw [c6]; decide) rfl ?_
        refine r_aload_n (dGet dL_law (j := 103) rfl) nv1 rfl ?_
        refine r_aload_n (dGet dL_law (j := 104) rfl) n5 rfl ?_
        refine r_iload_n (dGet dL_law (j := 105) rfl) rfl ?_
        refine r_iconst (dGet dL_law (j := 106) rfl) kI_1 ?_
        refine r_iadd (dGet dL_law (j := 107) rfl) ?_
        obtain ⟨t34, et34, hf⟩ := Option.bind_eq_some_iff.mp hf
        refine r_sld (dGet dL_law (j := 108) rfl) et34 ?_
        obtain ⟨q35, eq35, hf⟩ := Option.bind_eq_some_iff.mp hf
        refine r_virtual (dGet dL_law (j := 109) rfl) L21_28 M164 rfl rfl (Nat.le_of_ble_eq_true rfl) (oX11_heap eq35) (cX11_heap X N (d + 808) v1 t34 h q35 eq35) ?_
        refine r_aload_n (dGet dL_law (j := 110) rfl) nv2 rfl ?_
        refine r_aload_n (dGet dL_law (j := 111) rfl) n5 rfl ?_
        refine r_iload_n (dGet dL_law (j := 112) rfl) rfl ?_
        refine r_iconst (dGet dL_law (j := 113) rfl) kI_1 ?_
        refine r_iadd (dGet dL_law (j := 114) rfl) ?_
        obtain ⟨t36, et36, hf⟩ := Option.bind_eq_some_iff.mp hf
        refine r_sld (dGet dL_law (j := 115) rfl) et36 ?_
        obtain ⟨q37, eq37, hf⟩ := Option.bind_eq_some_iff.mp hf
        refine r_virtual (dGet dL_law (j := 116) rfl) L21_31 M306 rfl rfl (Nat.le_of_ble_eq_true rfl) (oX12_heap eq37) (cX12_heap X N (d + 807) v2 t36 q35.2 q37 eq37) ?_
        by_cases c38 : q35.1 = q37.1
        · rw [if_pos c38] at hf
          refine r_icmp_eq_t (dGet dL_law (j := 117) rfl) rfl c38 ?_
          exact lL_law_348 X N d (fL_law_18 X N n) ih v1 v2 v3 nc ns q37.2 q hf nv1 nv2
        · rw [if_neg c38] at hf
          refine r_icmp_eq_f (dGet dL_law (j := 117) rfl) rfl c38 ?_
          refine r_iconst (dGet dL_law (j := 118) rfl) kI_0 ?_
          have hq := Option.some.inj hf
          subst hq
          exact r_iret (dGet dL_law (j := 119) rfl) rfl (by decide)
      rw [if_neg c6] at hf
      by_cases c7 : (t2 &&& (15 : Int32)) = 4
      · rw [if_pos c7] at hf
        refine r_table (off := 177) (dGet dL_law (j := 21) rfl) (by rw [c7]; decide) rfl ?_
        refine r_aload_n (dGet dL_law (j := 120) rfl) nv1 rfl ?_
        refine r_aload_n (dGet dL_law (j := 121) rfl) n5 rfl ?_
        refine r_iload_n (dGet dL_law (j := 122) rfl) rfl ?_
        refine r_iconst (dGet dL_law (j := 123) rfl) kI_1 ?_
        refine r_iadd (dGet dL_law (j := 124) rfl) ?_
        obtain ⟨t39, et39, hf⟩ := Option.bind_eq_some_iff.mp hf
        refine r_sld (dGet dL_law (j := 125) rfl) et39 ?_
        refine r_aload_n (dGet dL_law (j := 126) rfl) n5 rfl ?_
        refine r_iload_n (dGet dL_law (j := 127) rfl) rfl ?_
        refine r_iconst (dGet dL_law (j := 128) rfl) kI_2 ?_
        refine r_iadd (dGet dL_law (j := 129) rfl) ?_
        obtain ⟨t40, et40, hf⟩ := Option.bind_eq_some_iff.mp hf
        refine r_sld (dGet dL_law (j := 130) rfl) et40 ?_
        refine r_aload_n (dGet dL_law (j := 131) rfl) n5 rfl ?_
        refine r_iload_n (dGet dL_law (j := 132) rfl) rfl ?_
        refine r_iconst (dGet dL_law (j := 133) rfl) kI_3 ?_
        refine r_iadd (dGet dL_law (j := 134) rfl) ?_
        obtain ⟨t41, et41, hf⟩ := Option.bind_eq_some_iff.mp hf
        refine r_sld (dGet dL_law (j := 135) rfl) et41 ?_
        obtain ⟨q42, eq42, hf⟩ := Option.bind_eq_some_iff.mp hf
        refine r_virtual (dGet dL_law (j := 136) rfl) L21_32 M165 rfl rfl (Nat.le_of_ble_eq_true rfl) (oX11_input eq42) (cX11_input X N (d + 806) v1 t39 t40 t41 h q42 eq42) ?_
        refine r_aload_n (dGet dL_law (j := 137) rfl) nv2 rfl ?_
        refine r_aload_n (dGet dL_law (j := 138) rfl) n5 rfl ?_
        refine r_iload_n (dGet dL_law (j := 139) rfl) rfl ?_
        refine r_iconst (dGet dL_law (j := 140) rfl) kI_1 ?_
        refine r_iadd (dGet dL_law (j := 141) rfl) ?_
        obtain ⟨t43, et43, hf⟩ := Option.bind_eq_some_iff.mp hf
        refine r_sld (dGet dL_law (j := 142) rfl) et43 ?_
        refine r_aload_n (dGet dL_law (j := 143) rfl) n5 rfl ?_
        refine r_iload_n (dGet dL_law (j := 144) rfl) rfl ?_
        refine r_iconst (dGet dL_law (j := 145) rfl) kI_2 ?_
        refine r_iadd (dGet dL_law (j := 146) rfl) ?_
        obtain ⟨t44, et44, hf⟩ := Option.bind_eq_some_iff.mp hf
        refine r_sld (dGet dL_law (j := 147) rfl) et44 ?_
        refine r_aload_n (dGet dL_law (j := 148) rfl) n5 rfl ?_
        refine r_iload_n (dGet dL_law (j := 149) rfl) rfl ?_
        refine r_iconst (dGet dL_law (j := 150) rfl) kI_3 ?_
        refine r_iadd (dGet dL_law (j := 151) rfl) ?_
        obtain ⟨t45, et45, hf⟩ := Option.bind_eq_some_iff.mp hf
        refine r_sld (dGet dL_law (j := 152) rfl) et45 ?_
        obtain ⟨q46, eq46, hf⟩ := Option.bind_eq_some_iff.mp hf
        refine r_virtual (dGet dL_law (j := 153) rfl) L21_36 M307 rfl rfl (Nat.le_of_ble_eq_true rfl) (oX12_input eq46) (cX12_input X N (d + 808) v2 t43 t44 t45 q42.2 q46 eq46) ?_
        by_cases c47 : q42.1 = q46.1
        · rw [if_pos c47] at hf
          refine r_icmp_eq_t (dGet dL_law (j := 154) rfl) rfl c47 ?_
          exact lL_law_348 X N d (fL_law_18 X N n) ih v1 v2 v3 nc ns q46.2 q hf nv1 nv2
        · rw [if_neg c47] at hf
          refine r_icmp_eq_f (dGet dL_law (j := 154) rfl) rfl c47 ?_
          refine r_iconst (dGet dL_law (j := 155) rfl) kI_0 ?_
          have hq := Option.some.inj hf
          subst hq
          exact r_iret (dGet dL_law (j := 156) rfl) rfl (by decide)
      rw [if_neg c7] at hf
      by_cases c8 : (t2 &&& (15 : Int32)) = 5
      · rw [if_pos c8] at hf
        refine r_table (off := 220) (dGet dL_law (j := 21) rfl) (by rw [c8]; decide) rfl ?_
        refine r_aload_n (dGet dL_law (j := 157) rfl) nv1 rfl ?_
        obtain ⟨q48, eq48, hf⟩ := Option.bind_eq_some_iff.mp hf
        refine r_virtual (dGet dL_law (j := 158) rfl) L21_37 M168 rfl rfl (Nat.le_of_ble_eq_true rfl) (oX11_start eq48) (cX11_start X N (d + 803) v1 h q48 eq48) ?_
        refine r_aload_n (dGet dL_law (j := 159) rfl) nv2 rfl ?_
        obtain ⟨q49, eq49, hf⟩ := Option.bind_eq_some_iff.mp hf
        refine r_virtual (dGet dL_law (j := 160) rfl) L21_40 M308 rfl rfl (Nat.le_of_ble_eq_true rfl) (oX12_start eq49) (cX12_start X N (d + 805) v2 q48.2.1 q49 eq49) ?_
        by_cases c50 : q48.1 = q49.1
        · rw [if_pos c50] at hf
          refine r_icmp_eq_t (dGet dL_law (j := 161) rfl) rfl c50 ?_
          exact lL_law_348 X N d (fL_law_18 X N n) ih v1 v2 v3 (nc + q48.2.2.1) (ns + q48.2.2.2) q49.2 q hf nv1 nv2
        · rw [if_neg c50] at hf
          refine r_icmp_eq_f (dGet dL_law (j := 161) rfl) rfl c50 ?_
          refine r_iconst (dGet dL_law (j := 162) rfl) kI_0 ?_
          have hq := Option.some.inj hf
          subst hq
          exact r_iret (dGet dL_law (j := 163) rfl) rfl (by decide)
      rw [if_neg c8] at hf
      by_cases c9 : (t2 &&& (15 : Int32)) = 6
      · rw [if_pos c9] at hf
        refine r_table (off := 233) (dGet dL_law (j := 21) rfl) (by rw [c9]; decide) rfl ?_
        refine r_aload_n (dGet dL_law (j := 164) rfl) nv1 rfl ?_
        refine r_aload_n (dGet dL_law (j := 165) rfl) n5 rfl ?_
        refine r_iload_n (dGet dL_law (j := 166) rfl) rfl ?_
        refine r_iconst (dGet dL_law (j := 167) rfl) kI_1 ?_
        refine r_iadd (dGet dL_law (j := 168) rfl) ?_
        obtain ⟨t51, et51, hf⟩ := Option.bind_eq_some_iff.mp hf
        refine r_sld (dGet dL_law (j := 169) rfl) et51 ?_
        obtain ⟨q52, eq52, hf⟩ := Option.bind_eq_some_iff.mp hf
        refine r_virtual (dGet dL_law (j := 170) rfl) L21_41 M185 rfl rfl (Nat.le_of_ble_eq_true rfl) (oX11_step eq52) (cX11_step X N (d + 801) v1 t51 h q52 eq52) ?_
        refine r_aload_n (dGet dL_law (j := 171) rfl) nv2 rfl ?_
        refine r_aload_n (dGet dL_law (j := 172) rfl) n5 rfl ?_
        refine r_iload_n (dGet dL_law (j := 173) rfl) rfl ?_
        refine r_iconst (dGet dL_law (j := 174) rfl) kI_1 ?_
        refine r_iadd (dGet dL_law (j := 175) rfl) ?_
        obtain ⟨t53, et53, hf⟩ := Option.bind_eq_some_iff.mp hf
        refine r_sld (dGet dL_law (j := 176) rfl) et53 ?_
        obtain ⟨q54, eq54, hf⟩ := Option.bind_eq_some_iff.mp hf
        refine r_virtual (dGet dL_law (j := 177) rfl) L21_44 M318 rfl rfl (Nat.le_of_ble_eq_true rfl) (oX12_step eq54) (cX12_step X N (d + 801) v2 t53 q52.2.1 q54 eq54) ?_
        by_cases c55 : q52.1 = q54.1
        · rw [if_pos c55] at hf
          refine r_icmp_eq_t (dGet dL_law (j := 178) rfl) rfl c55 ?_
          exact lL_law_348 X N d (fL_law_18 X N n) ih v1 v2 v3 (nc + q52.2.2.1) (ns + q52.2.2.2) q54.2 q hf nv1 nv2
        · rw [if_neg c55] at hf
          refine r_icmp_eq_f (dGet dL_law (j := 178) rfl) rfl c55 ?_
          refine r_iconst (dGet dL_law (j := 179) rfl) kI_0 ?_
          have hq := Option.some.inj hf
          subst hq
          exact r_iret (dGet dL_law (j := 180) rfl) rfl (by decide)
      rw [if_neg c9] at hf
      by_cases c10 : (t2 &&& (15 : Int32)) = 7
      · rw [if_pos c10] at hf
        refine r_table (off := 256) (dGet dL_law (j := 21) rfl) (by rw [c10]; decide) rfl ?_
        refine r_aload_n (dGet dL_law (j := 181) rfl) nv1 rfl ?_
        obtain ⟨q56, eq56, hf⟩ := Option.bind_eq_some_iff.mp hf
        refine r_virtual (dGet dL_law (j := 182) rfl) L21_45 M223 rfl rfl (Nat.le_of_ble_eq_true rfl) (oX11_result eq56) (cX11_result X N (d + 808) v1 h q56 eq56) ?_
        refine r_aload_n (dGet dL_law (j := 183) rfl) nv2 rfl ?_
        obtain ⟨q57, eq57, hf⟩ := Option.bind_eq_some_iff.mp hf
        refine r_virtual (dGet dL_law (j := 184) rfl) L21_48 M339 rfl rfl (Nat.le_of_ble_eq_true rfl) (oX12_result eq57) (cX12_result X N (d + 808) v2 q56.2 q57 eq57) ?_
        by_cases c58 : q56.1 = q57.1
        · rw [if_pos c58] at hf
          refine r_icmp_eq_t (dGet dL_law (j := 185) rfl) rfl c58 ?_
          exact lL_law_348 X N d (fL_law_18 X N n) ih v1 v2 v3 nc ns q57.2 q hf nv1 nv2
        · rw [if_neg c58] at hf
          refine r_icmp_eq_f (dGet dL_law (j := 185) rfl) rfl c58 ?_
          refine r_iconst (dGet dL_law (j := 186) rfl) kI_0 ?_
          have hq := Option.some.inj hf
          subst hq
          exact r_iret (dGet dL_law (j := 187) rfl) rfl (by decide)
      rw [if_neg c10] at hf
      by_cases c11 : (t2 &&& (15 : Int32)) = 8
      · rw [if_pos c11] at hf
        refine r_table (off := 269) (dGet dL_law (j := 21) rfl) (by rw [c11]; decide) rfl ?_
        refine r_aload_n (dGet dL_law (j := 188) rfl) nv1 rfl ?_
        refine r_aload_n (dGet dL_law (j := 189) rfl) n5 rfl ?_
        refine r_iload_n (dGet dL_law (j := 190) rfl) rfl ?_
        refine r_iconst (dGet dL_law (j := 191) rfl) kI_1 ?_
        refine r_iadd (dGet dL_law (j := 192) rfl) ?_
        obtain ⟨t59, et59, hf⟩ := Option.bind_eq_some_iff.mp hf
        refine r_sld (dGet dL_law (j := 193) rfl) et59 ?_
        obtain ⟨q60, eq60, hf⟩ := Option.bind_eq_some_iff.mp hf
        refine r_virtual (dGet dL_law (j := 194) rfl) L21_49 M224 rfl rfl (Nat.le_of_ble_eq_true rfl) (oX11_output eq60) (cX11_output X N (d + 807) v1 t59 h q60 eq60) ?_
        refine r_aload_n (dGet dL_law (j := 195) rfl) nv2 rfl ?_
        refine r_aload_n (dGet dL_law (j := 196) rfl) n5 rfl ?_
        refine r_iload_n (dGet dL_law (j := 197) rfl) rfl ?_
        refine r_iconst (dGet dL_law (j := 198) rfl) kI_1 ?_
        refine r_iadd (dGet dL_law (j := 199) rfl) ?_
        obtain ⟨t61, et61, hf⟩ := Option.bind_eq_some_iff.mp hf
        refine r_sld (dGet dL_law (j := 200) rfl) et61 ?_
        obtain ⟨q62, eq62, hf⟩ := Option.bind_eq_some_iff.mp hf
        refine r_virtual (dGet dL_law (j := 201) rfl) L21_52 M340 rfl rfl (Nat.le_of_ble_eq_true rfl) (oX12_output eq62) (cX12_output X N (d + 807) v2 t61 q60.2 q62 eq62) ?_
        by_cases c63 : q60.1 = q62.1
        · rw [if_pos c63] at hf
          refine r_icmp_eq_t (dGet dL_law (j := 202) rfl) rfl c63 ?_
          exact lL_law_348 X N d (fL_law_18 X N n) ih v1 v2 v3 nc ns q62.2 q hf nv1 nv2
        · rw [if_neg c63] at hf
          refine r_icmp_eq_f (dGet dL_law (j := 202) rfl) rfl c63 ?_
          refine r_iconst (dGet dL_law (j := 203) rfl) kI_0 ?_
          have hq := Option.some.inj hf
          subst hq
          exact r_iret (dGet dL_law (j := 204) rfl) rfl (by decide)
      rw [if_neg c11] at hf
      by_cases c12 : (t2 &&& (15 : Int32)) = 9
      · rw [if_pos c12] at hf
        refine r_table (off := 292) (dGet dL_law (j := 21) rfl) (by rw [c12]; decide) rfl ?_
        refine r_aload_n (dGet dL_law (j := 205) rfl) nv1 rfl ?_
        refine r_aload_n (dGet dL_law (j := 206) rfl) n5 rfl ?_
        refine r_iload_n (dGet dL_law (j := 207) rfl) rfl ?_
        refine r_iconst (dGet dL_law (j := 208) rfl) kI_1 ?_
        refine r_iadd (dGet dL_law (j := 209) rfl) ?_
        obtain ⟨t64, et64, hf⟩ := Option.bind_eq_some_iff.mp hf
        refine r_sld (dGet dL_law (j := 210) rfl) et64 ?_
        obtain ⟨q65, eq65, hf⟩ := Option.bind_eq_some_iff.mp hf
        refine r_virtual (dGet dL_law (j := 211) rfl) L21_53 M226 rfl rfl (Nat.le_of_ble_eq_true rfl) (oX11_count eq65) (cX11_count X N (d + 803) v1 t64 h q65 eq65) ?_
        refine r_aload_n (dGet dL_law (j := 212) rfl) nv2 rfl ?_
        refine r_aload_n (dGet dL_law (j := 213) rfl) n5 rfl ?_
        refine r_iload_n (dGet dL_law (j := 214) rfl) rfl ?_
        refine r_iconst (dGet dL_law (j := 215) rfl) kI_1 ?_
        refine r_iadd (dGet dL_law (j := 216) rfl) ?_
        obtain ⟨t66, et66, hf⟩ := Option.bind_eq_some_iff.mp hf
        refine r_sld (dGet dL_law (j := 217) rfl) et66 ?_
        obtain ⟨q67, eq67, hf⟩ := Option.bind_eq_some_iff.mp hf
        refine r_virtual (dGet dL_law (j := 218) rfl) L21_56 M341 rfl rfl (Nat.le_of_ble_eq_true rfl) (oX12_count eq67) (cX12_count X N (d + 806) v2 t66 q65.2 q67 eq67) ?_
        by_cases c68 : q65.1 = q67.1
        · rw [if_pos c68] at hf
          refine r_icmp_eq_t (dGet dL_law (j := 219) rfl) rfl c68 ?_
          exact lL_law_348 X N d (fL_law_18 X N n) ih v1 v2 v3 nc ns q67.2 q hf nv1 nv2
        · rw [if_neg c68] at hf
          refine r_icmp_eq_f (dGet dL_law (j := 219) rfl) rfl c68 ?_
          refine r_iconst (dGet dL_law (j := 220) rfl) kI_0 ?_
          have hq := Option.some.inj hf
          subst hq
          exact r_iret (dGet dL_law (j := 221) rfl) rfl (by decide)
      rw [if_neg c12] at hf
      refine r_table (dGet dL_law (j := 21) rfl) (pTable_out (cs := [0, 1, 2, 3, 4, 5, 6, 7, 8, 9]) (by decide) (by decide) (by decide) (List.forall_mem_cons.mpr ⟨c3, List.forall_mem_cons.mpr ⟨c4, List.forall_mem_cons.mpr ⟨c5, List.forall_mem_cons.mpr ⟨c6, List.forall_mem_cons.mpr ⟨c7, List.forall_mem_cons.mpr ⟨c8, List.forall_mem_cons.mpr ⟨c9, List.forall_mem_cons.mpr ⟨c10, List.forall_mem_cons.mpr ⟨c11, List.forall_mem_cons.mpr ⟨c12, fun _ h => absurd h List.not_mem_nil⟩⟩⟩⟩⟩⟩⟩⟩⟩⟩)) rfl ?_
      exact lL_law_348 X N d (fL_law_18 X N n) ih v1 v2 v3 nc ns h q hf nv1 nv2
def fL_law (X : pX) (N : Nat) (h : pH) : Option (Int32 × pH × Nat × Nat) :=
  (fX11_init N (newOa h) (newOh 11 h)).bind fun q69 =>
  if (newOa h) = 4 then none else
  (fX12_init N (newOa q69.1) (newOh 12 q69.1)).bind fun q70 =>
  if (newOa q69.1) = 4 then none else
  fL_law_18 X N N (newOa h) (newOa q69.1) (0 : Int32) ((((0 + 1) + q69.2.1) + 1) + q70.2.1) ((((0 + 11) + q69.2.2) + 109) + q70.2.2) q70.1
theorem rL_law (X : pX) (N d : Nat) (h : pH) (q : Int32 × pH × Nat × Nat) (hf : fL_law X N h = some q) : Run X (d + 809) 21 false code 4 (some .boolean) 0 [(0, .ref 5)] [] h 0 0 (some (.int q.1), q.2.1, q.2.2.1, q.2.2.2) := by
  have n5 : ¬ (5 : Nat) = 4 := by decide
  unfold fL_law at hf
  refine r_newO (dGet dL_law (j := 0) rfl) (by decide +kernel : pFind pNw 21 7 = some (11, 1022, 1023, 1001)) ?_
  refine r_dup (dGet dL_law (j := 1) rfl) rfl ?_
  obtain ⟨q69, eq69, hf⟩ := Option.bind_eq_some_iff.mp hf
  refine r_special (dGet dL_law (j := 2) rfl) (by decide +kernel) L21_9 M0 rfl rfl (Nat.le_of_ble_eq_true rfl) (oX11_init eq69) (cX11_init X N (d + 805) (newOa h) (newOh 11 h) q69 eq69) ?_
  by_cases n_newOa_h_ : (newOa h) = 4
  · rw [if_pos n_newOa_h_] at hf; cases hf
  rw [if_neg n_newOa_h_] at hf
  refine r_astore_n (lv' := [(1, .ref (newOa h)), (0, .ref 5)]) (dGet dL_law (j := 3) rfl) n_newOa_h_ (by decide) rfl ?_
  refine r_newO (dGet dL_law (j := 4) rfl) (by decide +kernel : pFind pNw 21 10 = some (12, 7000, 7001, 1014)) ?_
  refine r_dup (dGet dL_law (j := 5) rfl) rfl ?_
  obtain ⟨q70, eq70, hf⟩ := Option.bind_eq_some_iff.mp hf
  refine r_special (dGet dL_law (j := 6) rfl) (by decide +kernel) L21_12 M229 rfl rfl (Nat.le_of_ble_eq_true rfl) (oX12_init eq70) (cX12_init X N (d + 807) (newOa q69.1) (newOh 12 q69.1) q70 eq70) ?_
  by_cases n_newOa_q69_1_ : (newOa q69.1) = 4
  · rw [if_pos n_newOa_q69_1_] at hf; cases hf
  rw [if_neg n_newOa_q69_1_] at hf
  refine r_astore_n (lv' := [(2, .ref (newOa q69.1)), (1, .ref (newOa h)), (0, .ref 5)]) (dGet dL_law (j := 7) rfl) n_newOa_q69_1_ (by decide) rfl ?_
  refine r_iconst (dGet dL_law (j := 8) rfl) kI_0 ?_
  refine r_istore_n (lv' := [(3, .int (0 : Int32)), (2, .ref (newOa q69.1)), (1, .ref (newOa h)), (0, .ref 5)]) (dGet dL_law (j := 9) rfl) (by decide) rfl ?_
  refine Run.weak [(0, .ref 5), (1, .ref (newOa h)), (2, .ref (newOa q69.1)), (3, .int (0 : Int32))] (by simp) (by simp [pNd]) ?_
  exact lL_law_18 X N d N (newOa h) (newOa q69.1) (0 : Int32) ((((0 + 1) + q69.2.1) + 1) + q70.2.1) ((((0 + 11) + q69.2.2) + 109) + q70.2.2) q70.1 q hf n_newOa_h_ n_newOa_q69_1_
