def eX0_init : List (Nat × Instr × Nat) := [(0, .aload_n 0, 1), (1, .invokespecial 1, 3), (4, .aload_n 0, 1), (5, .aload_n 1, 1), (6, .putfield 7, 3), (9, .aload_n 0, 1), (10, .aload_n 2, 1), (11, .putfield 13, 3), (14, .return_, 1)]
theorem dX0_init : dChk (pCd 2064) eX0_init = true := by decide +kernel
def fX0_init (N : Nat) (v0 : Nat) (v1 : Nat) (v2 : Nat) (h : pH) : Option (pH) := if isO h v0 0 = true then (
  (if 6 ≤ v0 then some () else none).bind fun _ =>
  if v1 = 4 then none else
  (putR h v0 0 0 v1).bind fun h2 =>
  if v2 = 4 then none else
  (putR h2 v0 0 1 v2).bind fun h3 =>
  some h3) else none
theorem oX0_init {N : Nat} {v0 : Nat} {v1 : Nat} {v2 : Nat} {h : pH} {q : pH} (hf : fX0_init N v0 v1 v2 h = some q) : isO h v0 0 = true := by
  unfold fX0_init at hf
  by_cases hc : isO h v0 0 = true
  · exact hc
  · rw [if_neg hc] at hf; cases hf
theorem cX0_init (X : pX) (N d : Nat) (v0 : Nat) (v1 : Nat) (v2 : Nat) (h : pH) (q : pH) (hf : fX0_init N v0 v1 v2 h = some q) : Calls X (d + 1) 8 [.ref v0, .ref v1, .ref v2] h (none, q, 0, 0) := by
  refine Calls.of M8 (Nat.le_of_ble_eq_true rfl) ?_
  show Run X (d + 1) 0 true (pCd 2064) 3 none 0 [(0, .ref v0), (1, .ref v1), (2, .ref v2)] [] h 0 0 (none, q, 0, 0)
  unfold fX0_init at hf
  by_cases hc : isO h v0 0 = true
  · rw [if_pos hc] at hf
    have nv0 : ¬ v0 = 4 := isO_ne hc
    refine r_aload_n (dGet dX0_init (j := 0) rfl) nv0 rfl ?_
    obtain ⟨_, ec1, hf⟩ := Option.bind_eq_some_iff.mp hf
    refine r_oinit (dGet dX0_init (j := 1) rfl) (by decide +kernel : pFind pOb 0 1 = some 2065) (guard_of ec1) (Nat.le_of_ble_eq_true rfl) ?_
    refine r_aload_n (dGet dX0_init (j := 2) rfl) nv0 rfl ?_
    by_cases nv1 : v1 = 4
    · rw [if_pos nv1] at hf; cases hf
    rw [if_neg nv1] at hf
    refine r_aload_n (dGet dX0_init (j := 3) rfl) nv1 rfl ?_
    obtain ⟨h2, eh2, hf⟩ := Option.bind_eq_some_iff.mp hf
    refine r_putRF (dGet dX0_init (j := 4) rfl) F0_7 (by decide) eh2 ?_
    refine r_aload_n (dGet dX0_init (j := 5) rfl) nv0 rfl ?_
    by_cases nv2 : v2 = 4
    · rw [if_pos nv2] at hf; cases hf
    rw [if_neg nv2] at hf
    refine r_aload_n (dGet dX0_init (j := 6) rfl) nv2 rfl ?_
    obtain ⟨h3, eh3, hf⟩ := Option.bind_eq_some_iff.mp hf
    refine r_putRF (dGet dX0_init (j := 7) rfl) F0_13 (by decide) eh3 ?_
    have hq := Option.some.inj hf
    subst hq
    exact r_vret (dGet dX0_init (j := 8) rfl) rfl
  · rw [if_neg hc] at hf; cases hf
def eX10_init : List (Nat × Instr × Nat) := [(0, .aload_n 0, 1), (1, .invokespecial 1, 3), (4, .aload_n 0, 1), (5, .sipush 3100, 3), (8, .newarray .int, 2), (10, .putfield 9, 3), (13, .aload_n 0, 1), (14, .sipush 3100, 3), (17, .newarray .int, 2), (19, .putfield 13, 3), (22, .aload_n 0, 1), (23, .sipush 3100, 3), (26, .newarray .int, 2), (28, .putfield 16, 3), (31, .aload_n 0, 1), (32, .sipush 3100, 3), (35, .ldc 19, 2), (37, .invokevirtual 21, 3), (40, .iadd, 1), (41, .newarray .int, 2), (43, .putfield 27, 3), (46, .aload_n 0, 1), (47, .sipush 3100, 3), (50, .newarray .int, 2), (52, .putfield 30, 3), (55, .aload_n 0, 1), (56, .sipush 3100, 3), (59, .newarray .int, 2), (61, .putfield 33, 3), (64, .aload_n 0, 1), (65, .sipush 3100, 3), (68, .newarray .int, 2), (70, .putfield 36, 3), (73, .aload_n 0, 1), (74, .sipush 256, 3), (77, .newarray .int, 2), (79, .putfield 39, 3), (82, .return_, 1)]
theorem dX10_init : dChk (pCd 1034) eX10_init = true := by decide +kernel
def fX10_init (N : Nat) (v0 : Nat) (h : pH) : Option (pH × Nat × Nat) := if isO h v0 10 = true then (
  (if 6 ≤ v0 then some () else none).bind fun _ =>
  (newI (3100 : Int32) h).bind fun q2 =>
  (putR q2.2.1 v0 10 0 q2.1).bind fun h3 =>
  (newI (3100 : Int32) h3).bind fun q4 =>
  (putR q4.2.1 v0 10 1 q4.1).bind fun h5 =>
  (newI (3100 : Int32) h5).bind fun q6 =>
  (putR q6.2.1 v0 10 2 q6.1).bind fun h7 =>
  (fJ0_length_8abf5 N 0 h7).bind fun q8 =>
  (newI ((3100 : Int32) + q8.1) q8.2).bind fun q9 =>
  (putR q9.2.1 v0 10 4 q9.1).bind fun h10 =>
  (newI (3100 : Int32) h10).bind fun q11 =>
  (putR q11.2.1 v0 10 6 q11.1).bind fun h12 =>
  (newI (3100 : Int32) h12).bind fun q13 =>
  (putR q13.2.1 v0 10 7 q13.1).bind fun h14 =>
  (newI (3100 : Int32) h14).bind fun q15 =>
  (putR q15.2.1 v0 10 8 q15.1).bind fun h16 =>
  (newI (256 : Int32) h16).bind fun q17 =>
  (putR q17.2.1 v0 10 9 q17.1).bind fun h18 =>
  some (h18, ((((((((0 + 1) + 1) + 1) + 1) + 1) + 1) + 1) + 1), ((((((((0 + q2.2.2) + q4.2.2) + q6.2.2) + q9.2.2) + q11.2.2) + q13.2.2) + q15.2.2) + q17.2.2))) else none
theorem oX10_init {N : Nat} {v0 : Nat} {h : pH} {q : pH × Nat × Nat} (hf : fX10_init N v0 h = some q) : isO h v0 10 = true := by
  unfold fX10_init at hf
  by_cases hc : isO h v0 10 = true
  · exact hc
  · rw [if_neg hc] at hf; cases hf
theorem cX10_init (X : pX) (N d : Nat) (v0 : Nat) (h : pH) (q : pH × Nat × Nat) (hf : fX10_init N v0 h = some q) : Calls X (d + 2) 1 [.ref v0] h (none, q.1, q.2.1, q.2.2) := by
  refine Calls.of M1 (Nat.le_of_ble_eq_true rfl) ?_
  show Run X (d + 2) 10 true (pCd 1034) 1 none 0 [(0, .ref v0)] [] h 0 0 (none, q.1, q.2.1, q.2.2)
  unfold fX10_init at hf
  by_cases hc : isO h v0 10 = true
  · rw [if_pos hc] at hf
    have nv0 : ¬ v0 = 4 := isO_ne hc
    refine r_aload_n (dGet dX10_init (j := 0) rfl) nv0 rfl ?_
    obtain ⟨_, ec1, hf⟩ := Option.bind_eq_some_iff.mp hf
    refine r_oinit (dGet dX10_init (j := 1) rfl) (by decide +kernel : pFind pOb 10 1 = some 1035) (guard_of ec1) (Nat.le_of_ble_eq_true rfl) ?_
    refine r_aload_n (dGet dX10_init (j := 2) rfl) nv0 rfl ?_
    refine r_sipush (dGet dX10_init (j := 3) rfl) kS_3100 ?_
    obtain ⟨q2, eq2, hf⟩ := Option.bind_eq_some_iff.mp hf
    refine r_newI (dGet dX10_init (j := 4) rfl) eq2 ?_
    obtain ⟨h3, eh3, hf⟩ := Option.bind_eq_some_iff.mp hf
    refine r_putRF (dGet dX10_init (j := 5) rfl) F10_9 (by decide) eh3 ?_
    refine r_aload_n (dGet dX10_init (j := 6) rfl) nv0 rfl ?_
    refine r_sipush (dGet dX10_init (j := 7) rfl) kS_3100 ?_
    obtain ⟨q4, eq4, hf⟩ := Option.bind_eq_some_iff.mp hf
    refine r_newI (dGet dX10_init (j := 8) rfl) eq4 ?_
    obtain ⟨h5, eh5, hf⟩ := Option.bind_eq_some_iff.mp hf
    refine r_putRF (dGet dX10_init (j := 9) rfl) F10_13 (by decide) eh5 ?_
    refine r_aload_n (dGet dX10_init (j := 10) rfl) nv0 rfl ?_
    refine r_sipush (dGet dX10_init (j := 11) rfl) kS_3100 ?_
    obtain ⟨q6, eq6, hf⟩ := Option.bind_eq_some_iff.mp hf
    refine r_newI (dGet dX10_init (j := 12) rfl) eq6 ?_
    obtain ⟨h7, eh7, hf⟩ := Option.bind_eq_some_iff.mp hf
    refine r_putRF (dGet dX10_init (j := 13) rfl) F10_16 (by decide) eh7 ?_
    refine r_aload_n (dGet dX10_init (j := 14) rfl) nv0 rfl ?_
    refine r_sipush (dGet dX10_init (j := 15) rfl) kS_3100 ?_
    refine r_ldcs (dGet dX10_init (j := 16) rfl) (by decide +kernel : pFind pSt 10 19 = some (0, 1036)) ?_
    obtain ⟨q8, eq8, hf⟩ := Option.bind_eq_some_iff.mp hf
    refine r_virtual (dGet dX10_init (j := 17) rfl) L10_21 M2 rfl rfl (Nat.le_of_ble_eq_true rfl) (oJ0_length_8abf5 eq8) (cJ0_length_8abf5 X N (d + 0) 0 h7 q8 eq8) ?_
    refine r_iadd (dGet dX10_init (j := 18) rfl) ?_
    obtain ⟨q9, eq9, hf⟩ := Option.bind_eq_some_iff.mp hf
    refine r_newI (dGet dX10_init (j := 19) rfl) eq9 ?_
    obtain ⟨h10, eh10, hf⟩ := Option.bind_eq_some_iff.mp hf
    refine r_putRF (dGet dX10_init (j := 20) rfl) F10_27 (by decide) eh10 ?_
    refine r_aload_n (dGet dX10_init (j := 21) rfl) nv0 rfl ?_
    refine r_sipush (dGet dX10_init (j := 22) rfl) kS_3100 ?_
    obtain ⟨q11, eq11, hf⟩ := Option.bind_eq_some_iff.mp hf
    refine r_newI (dGet dX10_init (j := 23) rfl) eq11 ?_
    obtain ⟨h12, eh12, hf⟩ := Option.bind_eq_some_iff.mp hf
    refine r_putRF (dGet dX10_init (j := 24) rfl) F10_30 (by decide) eh12 ?_
    refine r_aload_n (dGet dX10_init (j := 25) rfl) nv0 rfl ?_
    refine r_sipush (dGet dX10_init (j := 26) rfl) kS_3100 ?_
    obtain ⟨q13, eq13, hf⟩ := Option.bind_eq_some_iff.mp hf
    refine r_newI (dGet dX10_init (j := 27) rfl) eq13 ?_
    obtain ⟨h14, eh14, hf⟩ := Option.bind_eq_some_iff.mp hf
    refine r_putRF (dGet dX10_init (j := 28) rfl) F10_33 (by decide) eh14 ?_
    refine r_aload_n (dGet dX10_init (j := 29) rfl) nv0 rfl ?_
    refine r_sipush (dGet dX10_init (j := 30) rfl) kS_3100 ?_
    obtain ⟨q15, eq15, hf⟩ := Option.bind_eq_some_iff.mp hf
    refine r_newI (dGet dX10_init (j := 31) rfl) eq15 ?_
    obtain ⟨h16, eh16, hf⟩ := Option.bind_eq_some_iff.mp hf
    refine r_putRF (dGet dX10_init (j := 32) rfl) F10_36 (by decide) eh16 ?_
    refine r_aload_n (dGet dX10_init (j := 33) rfl) nv0 rfl ?_
    refine r_sipush (dGet dX10_init (j := 34) rfl) kS_256 ?_
    obtain ⟨q17, eq17, hf⟩ := Option.bind_eq_some_iff.mp hf
    refine r_newI (dGet dX10_init (j := 35) rfl) eq17 ?_
    obtain ⟨h18, eh18, hf⟩ := Option.bind_eq_some_iff.mp hf
    refine r_putRF (dGet dX10_init (j := 36) rfl) F10_39 (by decide) eh18 ?_
    have hq := Option.some.inj hf
    subst hq
    exact r_vret (dGet dX10_init (j := 37) rfl) rfl
  · rw [if_neg hc] at hf; cases hf
def eX1_init : List (Nat × Instr × Nat) := [(0, .aload_n 0, 1), (1, .invokespecial 1, 3), (4, .aload_n 0, 1), (5, .sipush 400, 3), (8, .newarray .int, 2), (10, .putfield 9, 3), (13, .aload_n 0, 1), (14, .sipush 400, 3), (17, .newarray .int, 2), (19, .putfield 13, 3), (22, .aload_n 0, 1), (23, .sipush 400, 3), (26, .newarray .int, 2), (28, .putfield 16, 3), (31, .aload_n 0, 1), (32, .sipush 400, 3), (35, .newarray .int, 2), (37, .putfield 19, 3), (40, .aload_n 0, 1), (41, .sipush 400, 3), (44, .newarray .int, 2), (46, .putfield 22, 3), (49, .aload_n 0, 1), (50, .sipush 400, 3), (53, .newarray .int, 2), (55, .putfield 25, 3), (58, .aload_n 0, 1), (59, .sipush 400, 3), (62, .newarray .int, 2), (64, .putfield 28, 3), (67, .aload_n 0, 1), (68, .iconst 0, 1), (69, .putfield 31, 3), (72, .return_, 1)]
theorem dX1_init : dChk (pCd 1091) eX1_init = true := by decide +kernel
def fX1_init (N : Nat) (v0 : Nat) (h : pH) : Option (pH × Nat × Nat) := if isO h v0 1 = true then (
  (if 6 ≤ v0 then some () else none).bind fun _ =>
  (newI (400 : Int32) h).bind fun q2 =>
  (putR q2.2.1 v0 1 0 q2.1).bind fun h3 =>
  (newI (400 : Int32) h3).bind fun q4 =>
  (putR q4.2.1 v0 1 1 q4.1).bind fun h5 =>
  (newI (400 : Int32) h5).bind fun q6 =>
  (putR q6.2.1 v0 1 2 q6.1).bind fun h7 =>
  (newI (400 : Int32) h7).bind fun q8 =>
  (putR q8.2.1 v0 1 3 q8.1).bind fun h9 =>
  (newI (400 : Int32) h9).bind fun q10 =>
  (putR q10.2.1 v0 1 4 q10.1).bind fun h11 =>
  (newI (400 : Int32) h11).bind fun q12 =>
  (putR q12.2.1 v0 1 5 q12.1).bind fun h13 =>
  (newI (400 : Int32) h13).bind fun q14 =>
  (putR q14.2.1 v0 1 6 q14.1).bind fun h15 =>
  (putI h15 v0 1 7 (0 : Int32)).bind fun h16 =>
  some (h16, (((((((0 + 1) + 1) + 1) + 1) + 1) + 1) + 1), (((((((0 + q2.2.2) + q4.2.2) + q6.2.2) + q8.2.2) + q10.2.2) + q12.2.2) + q14.2.2))) else none
theorem oX1_init {N : Nat} {v0 : Nat} {h : pH} {q : pH × Nat × Nat} (hf : fX1_init N v0 h = some q) : isO h v0 1 = true := by
  unfold fX1_init at hf
  by_cases hc : isO h v0 1 = true
  · exact hc
  · rw [if_neg hc] at hf; cases hf
theorem cX1_init (X : pX) (N d : Nat) (v0 : Nat) (h : pH) (q : pH × Nat × Nat) (hf : fX1_init N v0 h = some q) : Calls X (d + 1) 4 [.ref v0] h (none, q.1, q.2.1, q.2.2) := by
  refine Calls.of M4 (Nat.le_of_ble_eq_true rfl) ?_
  show Run X (d + 1) 1 true (pCd 1091) 1 none 0 [(0, .ref v0)] [] h 0 0 (none, q.1, q.2.1, q.2.2)
  unfold fX1_init at hf
  by_cases hc : isO h v0 1 = true
  · rw [if_pos hc] at hf
    have nv0 : ¬ v0 = 4 := isO_ne hc
    refine r_aload_n (dGet dX1_init (j := 0) rfl) nv0 rfl ?_
    obtain ⟨_, ec1, hf⟩ := Option.bind_eq_some_iff.mp hf
    refine r_oinit (dGet dX1_init (j := 1) rfl) (by decide +kernel : pFind pOb 1 1 = some 1092) (guard_of ec1) (Nat.le_of_ble_eq_true rfl) ?_
    refine r_aload_n (dGet dX1_init (j := 2) rfl) nv0 rfl ?_
    refine r_sipush (dGet dX1_init (j := 3) rfl) kS_400 ?_
    obtain ⟨q2, eq2, hf⟩ := Option.bind_eq_some_iff.mp hf
    refine r_newI (dGet dX1_init (j := 4) rfl) eq2 ?_
    obtain ⟨h3, eh3, hf⟩ := Option.bind_eq_some_iff.mp hf
    refine r_putRF (dGet dX1_init (j := 5) rfl) F1_9 (by decide) eh3 ?_
    refine r_aload_n (dGet dX1_init (j := 6) rfl) nv0 rfl ?_
    refine r_sipush (dGet dX1_init (j := 7) rfl) kS_400 ?_
    obtain ⟨q4, eq4, hf⟩ := Option.bind_eq_some_iff.mp hf
    refine r_newI (dGet dX1_init (j := 8) rfl) eq4 ?_
    obtain ⟨h5, eh5, hf⟩ := Option.bind_eq_some_iff.mp hf
    refine r_putRF (dGet dX1_init (j := 9) rfl) F1_13 (by decide) eh5 ?_
    refine r_aload_n (dGet dX1_init (j := 10) rfl) nv0 rfl ?_
    refine r_sipush (dGet dX1_init (j := 11) rfl) kS_400 ?_
    obtain ⟨q6, eq6, hf⟩ := Option.bind_eq_some_iff.mp hf
    refine r_newI (dGet dX1_init (j := 12) rfl) eq6 ?_
    obtain ⟨h7, eh7, hf⟩ := Option.bind_eq_some_iff.mp hf
    refine r_putRF (dGet dX1_init (j := 13) rfl) F1_16 (by decide) eh7 ?_
    refine r_aload_n (dGet dX1_init (j := 14) rfl) nv0 rfl ?_
    refine r_sipush (dGet dX1_init (j := 15) rfl) kS_400 ?_
    obtain ⟨q8, eq8, hf⟩ := Option.bind_eq_some_iff.mp hf
    refine r_newI (dGet dX1_init (j := 16) rfl) eq8 ?_
    obtain ⟨h9, eh9, hf⟩ := Option.bind_eq_some_iff.mp hf
    refine r_putRF (dGet dX1_init (j := 17) rfl) F1_19 (by decide) eh9 ?_
    refine r_aload_n (dGet dX1_init (j := 18) rfl) nv0 rfl ?_
    refine r_sipush (dGet dX1_init (j := 19) rfl) kS_400 ?_
    obtain ⟨q10, eq10, hf⟩ := Option.bind_eq_some_iff.mp hf
    refine r_newI (dGet dX1_init (j := 20) rfl) eq10 ?_
    obtain ⟨h11, eh11, hf⟩ := Option.bind_eq_some_iff.mp hf
    refine r_putRF (dGet dX1_init (j := 21) rfl) F1_22 (by decide) eh11 ?_
    refine r_aload_n (dGet dX1_init (j := 22) rfl) nv0 rfl ?_
    refine r_sipush (dGet dX1_init (j := 23) rfl) kS_400 ?_
    obtain ⟨q12, eq12, hf⟩ := Option.bind_eq_some_iff.mp hf
    refine r_newI (dGet dX1_init (j := 24) rfl) eq12 ?_
    obtain ⟨h13, eh13, hf⟩ := Option.bind_eq_some_iff.mp hf
    refine r_putRF (dGet dX1_init (j := 25) rfl) F1_25 (by decide) eh13 ?_
    refine r_aload_n (dGet dX1_init (j := 26) rfl) nv0 rfl ?_
    refine r_sipush (dGet dX1_init (j := 27) rfl) kS_400 ?_
    obtain ⟨q14, eq14, hf⟩ := Option.bind_eq_some_iff.mp hf
    refine r_newI (dGet dX1_init (j := 28) rfl) eq14 ?_
    obtain ⟨h15, eh15, hf⟩ := Option.bind_eq_some_iff.mp hf
    refine r_putRF (dGet dX1_init (j := 29) rfl) F1_28 (by decide) eh15 ?_
    refine r_aload_n (dGet dX1_init (j := 30) rfl) nv0 rfl ?_
    refine r_iconst (dGet dX1_init (j := 31) rfl) kI_0 ?_
    obtain ⟨h16, eh16, hf⟩ := Option.bind_eq_some_iff.mp hf
    refine r_putI (dGet dX1_init (j := 32) rfl) F1_31 rfl rfl eh16 ?_
    have hq := Option.some.inj hf
    subst hq
    exact r_vret (dGet dX1_init (j := 33) rfl) rfl
  · rw [if_neg hc] at hf; cases hf
def eX2_init : List (Nat × Instr × Nat) := [(0, .aload_n 0, 1), (1, .invokespecial 1, 3), (4, .aload_n 0, 1), (5, .sipush 3100, 3), (8, .newarray .int, 2), (10, .putfield 9, 3), (13, .aload_n 0, 1), (14, .sipush 3100, 3), (17, .newarray .int, 2), (19, .putfield 13, 3), (22, .aload_n 0, 1), (23, .sipush 3100, 3), (26, .newarray .int, 2), (28, .putfield 16, 3), (31, .aload_n 0, 1), (32, .sipush 3100, 3), (35, .newarray .int, 2), (37, .putfield 19, 3), (40, .aload_n 0, 1), (41, .sipush 3100, 3), (44, .newarray .int, 2), (46, .putfield 22, 3), (49, .aload_n 0, 1), (50, .sipush 3100, 3), (53, .newarray .int, 2), (55, .putfield 25, 3), (58, .aload_n 0, 1), (59, .sipush 3100, 3), (62, .newarray .int, 2), (64, .putfield 28, 3), (67, .return_, 1)]
theorem dX2_init : dChk (pCd 1207) eX2_init = true := by decide +kernel
def fX2_init (N : Nat) (v0 : Nat) (h : pH) : Option (pH × Nat × Nat) := if isO h v0 2 = true then (
  (if 6 ≤ v0 then some () else none).bind fun _ =>
  (newI (3100 : Int32) h).bind fun q2 =>
  (putR q2.2.1 v0 2 0 q2.1).bind fun h3 =>
  (newI (3100 : Int32) h3).bind fun q4 =>
  (putR q4.2.1 v0 2 1 q4.1).bind fun h5 =>
  (newI (3100 : Int32) h5).bind fun q6 =>
  (putR q6.2.1 v0 2 2 q6.1).bind fun h7 =>
  (newI (3100 : Int32) h7).bind fun q8 =>
  (putR q8.2.1 v0 2 3 q8.1).bind fun h9 =>
  (newI (3100 : Int32) h9).bind fun q10 =>
  (putR q10.2.1 v0 2 4 q10.1).bind fun h11 =>
  (newI (3100 : Int32) h11).bind fun q12 =>
  (putR q12.2.1 v0 2 5 q12.1).bind fun h13 =>
  (newI (3100 : Int32) h13).bind fun q14 =>
  (putR q14.2.1 v0 2 6 q14.1).bind fun h15 =>
  some (h15, (((((((0 + 1) + 1) + 1) + 1) + 1) + 1) + 1), (((((((0 + q2.2.2) + q4.2.2) + q6.2.2) + q8.2.2) + q10.2.2) + q12.2.2) + q14.2.2))) else none
theorem oX2_init {N : Nat} {v0 : Nat} {h : pH} {q : pH × Nat × Nat} (hf : fX2_init N v0 h = some q) : isO h v0 2 = true := by
  unfold fX2_init at hf
  by_cases hc : isO h v0 2 = true
  · exact hc
  · rw [if_neg hc] at hf; cases hf
theorem cX2_init (X : pX) (N d : Nat) (v0 : Nat) (h : pH) (q : pH × Nat × Nat) (hf : fX2_init N v0 h = some q) : Calls X (d + 1) 6 [.ref v0] h (none, q.1, q.2.1, q.2.2) := by
  refine Calls.of M6 (Nat.le_of_ble_eq_true rfl) ?_
  show Run X (d + 1) 2 true (pCd 1207) 1 none 0 [(0, .ref v0)] [] h 0 0 (none, q.1, q.2.1, q.2.2)
  unfold fX2_init at hf
  by_cases hc : isO h v0 2 = true
  · rw [if_pos hc] at hf
    have nv0 : ¬ v0 = 4 := isO_ne hc
    refine r_aload_n (dGet dX2_init (j := 0) rfl) nv0 rfl ?_
    obtain ⟨_, ec1, hf⟩ := Option.bind_eq_some_iff.mp hf
    refine r_oinit (dGet dX2_init (j := 1) rfl) (by decide +kernel : pFind pOb 2 1 = some 1208) (guard_of ec1) (Nat.le_of_ble_eq_true rfl) ?_
    refine r_aload_n (dGet dX2_init (j := 2) rfl) nv0 rfl ?_
    refine r_sipush (dGet dX2_init (j := 3) rfl) kS_3100 ?_
    obtain ⟨q2, eq2, hf⟩ := Option.bind_eq_some_iff.mp hf
    refine r_newI (dGet dX2_init (j := 4) rfl) eq2 ?_
    obtain ⟨h3, eh3, hf⟩ := Option.bind_eq_some_iff.mp hf
    refine r_putRF (dGet dX2_init (j := 5) rfl) F2_9 (by decide) eh3 ?_
    refine r_aload_n (dGet dX2_init (j := 6) rfl) nv0 rfl ?_
    refine r_sipush (dGet dX2_init (j := 7) rfl) kS_3100 ?_
    obtain ⟨q4, eq4, hf⟩ := Option.bind_eq_some_iff.mp hf
    refine r_newI (dGet dX2_init (j := 8) rfl) eq4 ?_
    obtain ⟨h5, eh5, hf⟩ := Option.bind_eq_some_iff.mp hf
    refine r_putRF (dGet dX2_init (j := 9) rfl) F2_13 (by decide) eh5 ?_
    refine r_aload_n (dGet dX2_init (j := 10) rfl) nv0 rfl ?_
    refine r_sipush (dGet dX2_init (j := 11) rfl) kS_3100 ?_
    obtain ⟨q6, eq6, hf⟩ := Option.bind_eq_some_iff.mp hf
    refine r_newI (dGet dX2_init (j := 12) rfl) eq6 ?_
    obtain ⟨h7, eh7, hf⟩ := Option.bind_eq_some_iff.mp hf
    refine r_putRF (dGet dX2_init (j := 13) rfl) F2_16 (by decide) eh7 ?_
    refine r_aload_n (dGet dX2_init (j := 14) rfl) nv0 rfl ?_
    refine r_sipush (dGet dX2_init (j := 15) rfl) kS_3100 ?_
    obtain ⟨q8, eq8, hf⟩ := Option.bind_eq_some_iff.mp hf
    refine r_newI (dGet dX2_init (j := 16) rfl) eq8 ?_
    obtain ⟨h9, eh9, hf⟩ := Option.bind_eq_some_iff.mp hf
    refine r_putRF (dGet dX2_init (j := 17) rfl) F2_19 (by decide) eh9 ?_
    refine r_aload_n (dGet dX2_init (j := 18) rfl) nv0 rfl ?_
    refine r_sipush (dGet dX2_init (j := 19) rfl) kS_3100 ?_
    obtain ⟨q10, eq10, hf⟩ := Option.bind_eq_some_iff.mp hf
    refine r_newI (dGet dX2_init (j := 20) rfl) eq10 ?_
    obtain ⟨h11, eh11, hf⟩ := Option.bind_eq_some_iff.mp hf
    refine r_putRF (dGet dX2_init (j := 21) rfl) F2_22 (by decide) eh11 ?_
    refine r_aload_n (dGet dX2_init (j := 22) rfl) nv0 rfl ?_
    refine r_sipush (dGet dX2_init (j := 23) rfl) kS_3100 ?_
    obtain ⟨q12, eq12, hf⟩ := Option.bind_eq_some_iff.mp hf
    refine r_newI (dGet dX2_init (j := 24) rfl) eq12 ?_
    obtain ⟨h13, eh13, hf⟩ := Option.bind_eq_some_iff.mp hf
    refine r_putRF (dGet dX2_init (j := 25) rfl) F2_25 (by decide) eh13 ?_
    refine r_aload_n (dGet dX2_init (j := 26) rfl) nv0 rfl ?_
    refine r_sipush (dGet dX2_init (j := 27) rfl) kS_3100 ?_
    obtain ⟨q14, eq14, hf⟩ := Option.bind_eq_some_iff.mp hf
    refine r_newI (dGet dX2_init (j := 28) rfl) eq14 ?_
    obtain ⟨h15, eh15, hf⟩ := Option.bind_eq_some_iff.mp hf
    refine r_putRF (dGet dX2_init (j := 29) rfl) F2_28 (by decide) eh15 ?_
    have hq := Option.some.inj hf
    subst hq
    exact r_vret (dGet dX2_init (j := 30) rfl) rfl
  · rw [if_neg hc] at hf; cases hf
def eX4_init : List (Nat × Instr × Nat) := [(0, .aload_n 0, 1), (1, .invokespecial 1, 3), (4, .aload_n 0, 1), (5, .sipush 300, 3), (8, .newarray .int, 2), (10, .putfield 9, 3), (13, .aload_n 0, 1), (14, .iconst 0, 1), (15, .putfield 13, 3), (18, .aload_n 0, 1), (19, .iconst 0, 1), (20, .putfield 17, 3), (23, .return_, 1)]
theorem dX4_init : dChk (pCd 2160) eX4_init = true := by decide +kernel
def fX4_init (N : Nat) (v0 : Nat) (h : pH) : Option (pH × Nat × Nat) := if isO h v0 4 = true then (
  (if 6 ≤ v0 then some () else none).bind fun _ =>
  (newI (300 : Int32) h).bind fun q2 =>
  (putR q2.2.1 v0 4 0 q2.1).bind fun h3 =>
  (putI h3 v0 4 1 (0 : Int32)).bind fun h4 =>
  (putI h4 v0 4 2 (0 : Int32)).bind fun h5 =>
  some (h5, (0 + 1), (0 + q2.2.2))) else none
theorem oX4_init {N : Nat} {v0 : Nat} {h : pH} {q : pH × Nat × Nat} (hf : fX4_init N v0 h = some q) : isO h v0 4 = true := by
  unfold fX4_init at hf
  by_cases hc : isO h v0 4 = true
  · exact hc
  · rw [if_neg hc] at hf; cases hf
theorem cX4_init (X : pX) (N d : Nat) (v0 : Nat) (h : pH) (q : pH × Nat × Nat) (hf : fX4_init N v0 h = some q) : Calls X (d + 1) 11 [.ref v0] h (none, q.1, q.2.1, q.2.2) := by
  refine Calls.of M11 (Nat.le_of_ble_eq_true rfl) ?_
  show Run X (d + 1) 4 true (pCd 2160) 1 none 0 [(0, .ref v0)] [] h 0 0 (none, q.1, q.2.1, q.2.2)
  unfold fX4_init at hf
  by_cases hc : isO h v0 4 = true
  · rw [if_pos hc] at hf
    have nv0 : ¬ v0 = 4 := isO_ne hc
    refine r_aload_n (dGet dX4_init (j := 0) rfl) nv0 rfl ?_
    obtain ⟨_, ec1, hf⟩ := Option.bind_eq_some_iff.mp hf
    refine r_oinit (dGet dX4_init (j := 1) rfl) (by decide +kernel : pFind pOb 4 1 = some 2161) (guard_of ec1) (Nat.le_of_ble_eq_true rfl) ?_
    refine r_aload_n (dGet dX4_init (j := 2) rfl) nv0 rfl ?_
    refine r_sipush (dGet dX4_init (j := 3) rfl) kS_300 ?_
    obtain ⟨q2, eq2, hf⟩ := Option.bind_eq_some_iff.mp hf
    refine r_newI (dGet dX4_init (j := 4) rfl) eq2 ?_
    obtain ⟨h3, eh3, hf⟩ := Option.bind_eq_some_iff.mp hf
    refine r_putRF (dGet dX4_init (j := 5) rfl) F4_9 (by decide) eh3 ?_
    refine r_aload_n (dGet dX4_init (j := 6) rfl) nv0 rfl ?_
    refine r_iconst (dGet dX4_init (j := 7) rfl) kI_0 ?_
    obtain ⟨h4, eh4, hf⟩ := Option.bind_eq_some_iff.mp hf
    refine r_putI (dGet dX4_init (j := 8) rfl) F4_13 rfl rfl eh4 ?_
    refine r_aload_n (dGet dX4_init (j := 9) rfl) nv0 rfl ?_
    refine r_iconst (dGet dX4_init (j := 10) rfl) kI_0 ?_
    obtain ⟨h5, eh5, hf⟩ := Option.bind_eq_some_iff.mp hf
    refine r_putI (dGet dX4_init (j := 11) rfl) F4_17 rfl rfl eh5 ?_
    have hq := Option.some.inj hf
    subst hq
    exact r_vret (dGet dX4_init (j := 12) rfl) rfl
  · rw [if_neg hc] at hf; cases hf
def eX3_init : List (Nat × Instr × Nat) := [(0, .aload_n 0, 1), (1, .invokespecial 7, 3), (4, .aload_n 0, 1), (5, .sipush 10006, 3), (8, .newarray .long, 2), (10, .putfield 13, 3), (13, .aload_n 0, 1), (14, .sipush 10006, 3), (17, .newarray .long, 2), (19, .putfield 17, 3), (22, .iconst 0, 1), (23, .istore_n 1, 1), (24, .iload_n 1, 1), (25, .iconst 5, 1), (26, .if_icmp .ge 29, 3), (29, .aload_n 0, 1), (30, .getfield 13, 3), (33, .iload_n 1, 1), (34, .iconst 1, 1), (35, .iadd, 1), (36, .iload_n 1, 1), (37, .i2l, 1), (38, .lastore, 1), (39, .aload_n 0, 1), (40, .getfield 17, 3), (43, .iload_n 1, 1), (44, .iconst 1, 1), (45, .iadd, 1), (46, .iload_n 1, 1), (47, .i2l, 1), (48, .lastore, 1), (49, .iinc 1 1, 3), (52, .goto (-28), 3), (55, .aload_n 0, 1), (56, .bipush 6, 2), (58, .putfield 20, 3), (61, .aload_n 0, 1), (62, .iconst 0, 1), (63, .putfield 24, 3), (66, .return_, 1)]
theorem dX3_init : dChk (pCd 2183) eX3_init = true := by decide +kernel
def fX3_init_24 (N : Nat) : Nat → Nat → Int32 → Nat → Nat → pH → Option (pH × Nat × Nat)
  | 0, _, _, _, _, _ => none
  | n + 1, v0, v1, nc, ns, h => if (5 : Int32) ≤ v1 then (
  (putI h v0 3 2 (6 : Int32)).bind fun h2 =>
  (putI h2 v0 3 3 (0 : Int32)).bind fun h3 =>
  some (h3, nc, ns)) else (
  (getR h v0 3 0).bind fun t4 =>
  (stJ h t4 (v1 + (1 : Int32)) (v1.toInt64)).bind fun h5 =>
  (getR h5 v0 3 1).bind fun t6 =>
  (stJ h5 t6 (v1 + (1 : Int32)) (v1.toInt64)).bind fun h7 =>
  fX3_init_24 N n v0 (v1 + (1 : Int32)) nc ns h7)
theorem lX3_init_24 (X : pX) (N d : Nat)  : ∀ (n : Nat) (v0 : Nat) (v1 : Int32) (nc : Nat) (ns : Nat) (h : pH) (q : pH × Nat × Nat), fX3_init_24 N n v0 v1 nc ns h = some q → ¬ v0 = 4 → Run X (d + 1) 3 true (pCd 2183) 2 none 24 [(0, .ref v0), (1, .int v1)] [] h nc ns (none, q.1, q.2.1, q.2.2) := by
  intro n
  induction n with
  | zero => intro v0 v1 nc ns h q hf; cases hf
  | succ n ih =>
    intro v0 v1 nc ns h q hf nv0
    unfold fX3_init_24 at hf
    refine r_iload_n (dGet dX3_init (j := 12) rfl) rfl ?_
    refine r_iconst (dGet dX3_init (j := 13) rfl) kI_5 ?_
    by_cases c1 : (5 : Int32) ≤ v1
    · rw [if_pos c1] at hf
      refine r_icmp_ge_t (dGet dX3_init (j := 14) rfl) rfl c1 ?_
      refine r_aload_n (dGet dX3_init (j := 33) rfl) nv0 rfl ?_
      refine r_bipush (dGet dX3_init (j := 34) rfl) kB_6 ?_
      obtain ⟨h2, eh2, hf⟩ := Option.bind_eq_some_iff.mp hf
      refine r_putI (dGet dX3_init (j := 35) rfl) F3_20 rfl rfl eh2 ?_
      refine r_aload_n (dGet dX3_init (j := 36) rfl) nv0 rfl ?_
      refine r_iconst (dGet dX3_init (j := 37) rfl) kI_0 ?_
      obtain ⟨h3, eh3, hf⟩ := Option.bind_eq_some_iff.mp hf
      refine r_putI (dGet dX3_init (j := 38) rfl) F3_24 rfl rfl eh3 ?_
      have hq := Option.some.inj hf
      subst hq
      exact r_vret (dGet dX3_init (j := 39) rfl) rfl
    · rw [if_neg c1] at hf
      refine r_icmp_ge_f (dGet dX3_init (j := 14) rfl) rfl c1 ?_
      refine r_aload_n (dGet dX3_init (j := 15) rfl) nv0 rfl ?_
      obtain ⟨t4, et4, hf⟩ := Option.bind_eq_some_iff.mp hf
      refine r_getR (dGet dX3_init (j := 16) rfl) F3_13 et4 ?_
      refine r_iload_n (dGet dX3_init (j := 17) rfl) rfl ?_
      refine r_iconst (dGet dX3_init (j := 18) rfl) kI_1 ?_
      refine r_iadd (dGet dX3_init (j := 19) rfl) ?_
      refine r_iload_n (dGet dX3_init (j := 20) rfl) rfl ?_
      refine r_i2l (dGet dX3_init (j := 21) rfl) ?_
      obtain ⟨h5, eh5, hf⟩ := Option.bind_eq_some_iff.mp hf
      refine r_last (dGet dX3_init (j := 22) rfl) eh5 ?_
      refine r_aload_n (dGet dX3_init (j := 23) rfl) nv0 rfl ?_
      obtain ⟨t6, et6, hf⟩ := Option.bind_eq_some_iff.mp hf
      refine r_getR (dGet dX3_init (j := 24) rfl) F3_17 et6 ?_
      refine r_iload_n (dGet dX3_init (j := 25) rfl) rfl ?_
      refine r_iconst (dGet dX3_init (j := 26) rfl) kI_1 ?_
      refine r_iadd (dGet dX3_init (j := 27) rfl) ?_
      refine r_iload_n (dGet dX3_init (j := 28) rfl) rfl ?_
      refine r_i2l (dGet dX3_init (j := 29) rfl) ?_
      obtain ⟨h7, eh7, hf⟩ := Option.bind_eq_some_iff.mp hf
      refine r_last (dGet dX3_init (j := 30) rfl) eh7 ?_
      refine r_iinc (lv' := [(1, .int (v1 + (1 : Int32))), (0, .ref v0)]) (dGet dX3_init (j := 31) rfl) rfl (by decide) kI_1 rfl ?_
      refine r_goto (dGet dX3_init (j := 32) rfl) rfl ?_
      refine Run.weak [(0, .ref v0), (1, .int (v1 + (1 : Int32)))] (by simp) (by simp [pNd]) ?_
      exact ih v0 (v1 + (1 : Int32)) nc ns h7 q hf nv0
def fX3_init (N : Nat) (v0 : Nat) (h : pH) : Option (pH × Nat × Nat) := if isO h v0 3 = true then (
  (if 6 ≤ v0 then some () else none).bind fun _ =>
  (newJ (10006 : Int32) h).bind fun q9 =>
  (putR q9.2.1 v0 3 0 q9.1).bind fun h10 =>
  (newJ (10006 : Int32) h10).bind fun q11 =>
  (putR q11.2.1 v0 3 1 q11.1).bind fun h12 =>
  fX3_init_24 N N v0 (0 : Int32) ((0 + 1) + 1) ((0 + q9.2.2) + q11.2.2) h12) else none
theorem oX3_init {N : Nat} {v0 : Nat} {h : pH} {q : pH × Nat × Nat} (hf : fX3_init N v0 h = some q) : isO h v0 3 = true := by
  unfold fX3_init at hf
  by_cases hc : isO h v0 3 = true
  · exact hc
  · rw [if_neg hc] at hf; cases hf
theorem cX3_init (X : pX) (N d : Nat) (v0 : Nat) (h : pH) (q : pH × Nat × Nat) (hf : fX3_init N v0 h = some q) : Calls X (d + 1) 13 [.ref v0] h (none, q.1, q.2.1, q.2.2) := by
  refine Calls.of M13 (Nat.le_of_ble_eq_true rfl) ?_
  show Run X (d + 1) 3 true (pCd 2183) 2 none 0 [(0, .ref v0)] [] h 0 0 (none, q.1, q.2.1, q.2.2)
  unfold fX3_init at hf
  by_cases hc : isO h v0 3 = true
  · rw [if_pos hc] at hf
    have nv0 : ¬ v0 = 4 := isO_ne hc
    refine r_aload_n (dGet dX3_init (j := 0) rfl) nv0 rfl ?_
    obtain ⟨_, ec8, hf⟩ := Option.bind_eq_some_iff.mp hf
    refine r_oinit (dGet dX3_init (j := 1) rfl) (by decide +kernel : pFind pOb 3 7 = some 2184) (guard_of ec8) (Nat.le_of_ble_eq_true rfl) ?_
    refine r_aload_n (dGet dX3_init (j := 2) rfl) nv0 rfl ?_
    refine r_sipush (dGet dX3_init (j := 3) rfl) kS_10006 ?_
    obtain ⟨q9, eq9, hf⟩ := Option.bind_eq_some_iff.mp hf
    refine r_newJ (dGet dX3_init (j := 4) rfl) eq9 ?_
    obtain ⟨h10, eh10, hf⟩ := Option.bind_eq_some_iff.mp hf
    refine r_putR (dGet dX3_init (j := 5) rfl) F3_13 rfl rfl eh10 ?_
    refine r_aload_n (dGet dX3_init (j := 6) rfl) nv0 rfl ?_
    refine r_sipush (dGet dX3_init (j := 7) rfl) kS_10006 ?_
    obtain ⟨q11, eq11, hf⟩ := Option.bind_eq_some_iff.mp hf
    refine r_newJ (dGet dX3_init (j := 8) rfl) eq11 ?_
    obtain ⟨h12, eh12, hf⟩ := Option.bind_eq_some_iff.mp hf
    refine r_putR (dGet dX3_init (j := 9) rfl) F3_17 rfl rfl eh12 ?_
    refine r_iconst (dGet dX3_init (j := 10) rfl) kI_0 ?_
    refine r_istore_n (lv' := [(1, .int (0 : Int32)), (0, .ref v0)]) (dGet dX3_init (j := 11) rfl) (by decide) rfl ?_
    refine Run.weak [(0, .ref v0), (1, .int (0 : Int32))] (by simp) (by simp [pNd]) ?_
    exact lX3_init_24 X N d N v0 (0 : Int32) ((0 + 1) + 1) ((0 + q9.2.2) + q11.2.2) h12 q hf nv0
  · rw [if_neg hc] at hf; cases hf
def eX5_init : List (Nat × Instr × Nat) := [(0, .aload_n 0, 1), (1, .invokespecial 1, 3), (4, .aload_n 0, 1), (5, .aload_n 1, 1), (6, .putfield 7, 3), (9, .aload_n 0, 1), (10, .aload_n 2, 1), (11, .putfield 13, 3), (14, .aload_n 0, 1), (15, .aload_n 3, 1), (16, .putfield 17, 3), (19, .aload_n 0, 1), (20, .aload 4, 2), (22, .putfield 21, 3), (25, .aload_n 0, 1), (26, .new 25, 3), (29, .dup, 1), (30, .invokespecial 27, 3), (33, .putfield 28, 3), (36, .aload_n 0, 1), (37, .sipush 2000, 3), (40, .newarray .long, 2), (42, .putfield 32, 3), (45, .aload_n 0, 1), (46, .bipush 100, 2), (48, .newarray .int, 2), (50, .putfield 36, 3), (53, .aload_n 0, 1), (54, .bipush 100, 2), (56, .newarray .int, 2), (58, .putfield 40, 3), (61, .aload_n 0, 1), (62, .bipush 100, 2), (64, .newarray .int, 2), (66, .putfield 43, 3), (69, .aload_n 0, 1), (70, .bipush 100, 2), (72, .newarray .long, 2), (74, .putfield 46, 3), (77, .aload_n 0, 1), (78, .sipush 500, 3), (81, .newarray .int, 2), (83, .putfield 49, 3), (86, .aload_n 0, 1), (87, .iconst (-1), 1), (88, .putfield 52, 3), (91, .return_, 1)]
theorem dX5_init : dChk (pCd 2177) eX5_init = true := by decide +kernel
def fX5_init (N : Nat) (v0 : Nat) (v1 : Nat) (v2 : Nat) (v3 : Nat) (v4 : Nat) (h : pH) : Option (pH × Nat × Nat) := if isO h v0 5 = true then (
  (if 6 ≤ v0 then some () else none).bind fun _ =>
  if v1 = 4 then none else
  (putR h v0 5 0 v1).bind fun h2 =>
  if v2 = 4 then none else
  (putR h2 v0 5 1 v2).bind fun h3 =>
  if v3 = 4 then none else
  (putR h3 v0 5 2 v3).bind fun h4 =>
  if v4 = 4 then none else
  (putR h4 v0 5 3 v4).bind fun h5 =>
  (fX3_init N (newOa h5) (newOh 3 h5)).bind fun q6 =>
  (putR q6.1 v0 5 4 (newOa h5)).bind fun h7 =>
  (newJ (2000 : Int32) h7).bind fun q8 =>
  (putR q8.2.1 v0 5 5 q8.1).bind fun h9 =>
  (newI (100 : Int32) h9).bind fun q10 =>
  (putR q10.2.1 v0 5 7 q10.1).bind fun h11 =>
  (newI (100 : Int32) h11).bind fun q12 =>
  (putR q12.2.1 v0 5 8 q12.1).bind fun h13 =>
  (newI (100 : Int32) h13).bind fun q14 =>
  (putR q14.2.1 v0 5 9 q14.1).bind fun h15 =>
  (newJ (100 : Int32) h15).bind fun q16 =>
  (putR q16.2.1 v0 5 10 q16.1).bind fun h17 =>
  (newI (500 : Int32) h17).bind fun q18 =>
  (putR q18.2.1 v0 5 18 q18.1).bind fun h19 =>
  (putI h19 v0 5 13 (-1 : Int32)).bind fun h20 =>
  some (h20, ((((((((0 + 1) + q6.2.1) + 1) + 1) + 1) + 1) + 1) + 1), ((((((((0 + 4) + q6.2.2) + q8.2.2) + q10.2.2) + q12.2.2) + q14.2.2) + q16.2.2) + q18.2.2))) else none
theorem oX5_init {N : Nat} {v0 : Nat} {v1 : Nat} {v2 : Nat} {v3 : Nat} {v4 : Nat} {h : pH} {q : pH × Nat × Nat} (hf : fX5_init N v0 v1 v2 v3 v4 h = some q) : isO h v0 5 = true := by
  unfold fX5_init at hf
  by_cases hc : isO h v0 5 = true
  · exact hc
  · rw [if_neg hc] at hf; cases hf
theorem cX5_init (X : pX) (N d : Nat) (v0 : Nat) (v1 : Nat) (v2 : Nat) (v3 : Nat) (v4 : Nat) (h : pH) (q : pH × Nat × Nat) (hf : fX5_init N v0 v1 v2 v3 v4 h = some q) : Calls X (d + 2) 12 [.ref v0, .ref v1, .ref v2, .ref v3, .ref v4] h (none, q.1, q.2.1, q.2.2) := by
  refine Calls.of M12 (Nat.le_of_ble_eq_true rfl) ?_
  show Run X (d + 2) 5 true (pCd 2177) 5 none 0 [(0, .ref v0), (1, .ref v1), (2, .ref v2), (3, .ref v3), (4, .ref v4)] [] h 0 0 (none, q.1, q.2.1, q.2.2)
  unfold fX5_init at hf
  by_cases hc : isO h v0 5 = true
  · rw [if_pos hc] at hf
    have nv0 : ¬ v0 = 4 := isO_ne hc
    refine r_aload_n (dGet dX5_init (j := 0) rfl) nv0 rfl ?_
    obtain ⟨_, ec1, hf⟩ := Option.bind_eq_some_iff.mp hf
    refine r_oinit (dGet dX5_init (j := 1) rfl) (by decide +kernel : pFind pOb 5 1 = some 2178) (guard_of ec1) (Nat.le_of_ble_eq_true rfl) ?_
    refine r_aload_n (dGet dX5_init (j := 2) rfl) nv0 rfl ?_
    by_cases nv1 : v1 = 4
    · rw [if_pos nv1] at hf; cases hf
    rw [if_neg nv1] at hf
    refine r_aload_n (dGet dX5_init (j := 3) rfl) nv1 rfl ?_
    obtain ⟨h2, eh2, hf⟩ := Option.bind_eq_some_iff.mp hf
    refine r_putRF (dGet dX5_init (j := 4) rfl) F5_7 (by decide) eh2 ?_
    refine r_aload_n (dGet dX5_init (j := 5) rfl) nv0 rfl ?_
    by_cases nv2 : v2 = 4
    · rw [if_pos nv2] at hf; cases hf
    rw [if_neg nv2] at hf
    refine r_aload_n (dGet dX5_init (j := 6) rfl) nv2 rfl ?_
    obtain ⟨h3, eh3, hf⟩ := Option.bind_eq_some_iff.mp hf
    refine r_putRF (dGet dX5_init (j := 7) rfl) F5_13 (by decide) eh3 ?_
    refine r_aload_n (dGet dX5_init (j := 8) rfl) nv0 rfl ?_
    by_cases nv3 : v3 = 4
    · rw [if_pos nv3] at hf; cases hf
    rw [if_neg nv3] at hf
    refine r_aload_n (dGet dX5_init (j := 9) rfl) nv3 rfl ?_
    obtain ⟨h4, eh4, hf⟩ := Option.bind_eq_some_iff.mp hf
    refine r_putRF (dGet dX5_init (j := 10) rfl) F5_17 (by decide) eh4 ?_
    refine r_aload_n (dGet dX5_init (j := 11) rfl) nv0 rfl ?_
    by_cases nv4 : v4 = 4
    · rw [if_pos nv4] at hf; cases hf
    rw [if_neg nv4] at hf
    refine r_aload (dGet dX5_init (j := 12) rfl) nv4 rfl ?_
    obtain ⟨h5, eh5, hf⟩ := Option.bind_eq_some_iff.mp hf
    refine r_putRF (dGet dX5_init (j := 13) rfl) F5_21 (by decide) eh5 ?_
    refine r_aload_n (dGet dX5_init (j := 14) rfl) nv0 rfl ?_
    refine r_newO (dGet dX5_init (j := 15) rfl) (by decide +kernel : pFind pNw 5 25 = some (3, 2179, 2180, 1013)) ?_
    refine r_dup (dGet dX5_init (j := 16) rfl) rfl ?_
    obtain ⟨q6, eq6, hf⟩ := Option.bind_eq_some_iff.mp hf
    refine r_special (dGet dX5_init (j := 17) rfl) (by decide +kernel) L5_27 M13 rfl rfl (Nat.le_of_ble_eq_true rfl) (oX3_init eq6) (cX3_init X N (d + 0) (newOa h5) (newOh 3 h5) q6 eq6) ?_
    obtain ⟨h7, eh7, hf⟩ := Option.bind_eq_some_iff.mp hf
    refine r_putRF (dGet dX5_init (j := 18) rfl) F5_28 (by decide) eh7 ?_
    refine r_aload_n (dGet dX5_init (j := 19) rfl) nv0 rfl ?_
    refine r_sipush (dGet dX5_init (j := 20) rfl) kS_2000 ?_
    obtain ⟨q8, eq8, hf⟩ := Option.bind_eq_some_iff.mp hf
    refine r_newJ (dGet dX5_init (j := 21) rfl) eq8 ?_
    obtain ⟨h9, eh9, hf⟩ := Option.bind_eq_some_iff.mp hf
    refine r_putR (dGet dX5_init (j := 22) rfl) F5_32 rfl rfl eh9 ?_
    refine r_aload_n (dGet dX5_init (j := 23) rfl) nv0 rfl ?_
    refine r_bipush (dGet dX5_init (j := 24) rfl) kB_100 ?_
    obtain ⟨q10, eq10, hf⟩ := Option.bind_eq_some_iff.mp hf
    refine r_newI (dGet dX5_init (j := 25) rfl) eq10 ?_
    obtain ⟨h11, eh11, hf⟩ := Option.bind_eq_some_iff.mp hf
    refine r_putRF (dGet dX5_init (j := 26) rfl) F5_36 (by decide) eh11 ?_
    refine r_aload_n (dGet dX5_init (j := 27) rfl) nv0 rfl ?_
    refine r_bipush (dGet dX5_init (j := 28) rfl) kB_100 ?_
    obtain ⟨q12, eq12, hf⟩ := Option.bind_eq_some_iff.mp hf
    refine r_newI (dGet dX5_init (j := 29) rfl) eq12 ?_
    obtain ⟨h13, eh13, hf⟩ := Option.bind_eq_some_iff.mp hf
    refine r_putRF (dGet dX5_init (j := 30) rfl) F5_40 (by decide) eh13 ?_
    refine r_aload_n (dGet dX5_init (j := 31) rfl) nv0 rfl ?_
    refine r_bipush (dGet dX5_init (j := 32) rfl) kB_100 ?_
    obtain ⟨q14, eq14, hf⟩ := Option.bind_eq_some_iff.mp hf
    refine r_newI (dGet dX5_init (j := 33) rfl) eq14 ?_
    obtain ⟨h15, eh15, hf⟩ := Option.bind_eq_some_iff.mp hf
    refine r_putRF (dGet dX5_init (j := 34) rfl) F5_43 (by decide) eh15 ?_
    refine r_aload_n (dGet dX5_init (j := 35) rfl) nv0 rfl ?_
    refine r_bipush (dGet dX5_init (j := 36) rfl) kB_100 ?_
    obtain ⟨q16, eq16, hf⟩ := Option.bind_eq_some_iff.mp hf
    refine r_newJ (dGet dX5_init (j := 37) rfl) eq16 ?_
    obtain ⟨h17, eh17, hf⟩ := Option.bind_eq_some_iff.mp hf
    refine r_putRF (dGet dX5_init (j := 38) rfl) F5_46 (by decide) eh17 ?_
    refine r_aload_n (dGet dX5_init (j := 39) rfl) nv0 rfl ?_
    refine r_sipush (dGet dX5_init (j := 40) rfl) kS_500 ?_
    obtain ⟨q18, eq18, hf⟩ := Option.bind_eq_some_iff.mp hf
    refine r_newI (dGet dX5_init (j := 41) rfl) eq18 ?_
    obtain ⟨h19, eh19, hf⟩ := Option.bind_eq_some_iff.mp hf
    refine r_putRF (dGet dX5_init (j := 42) rfl) F5_49 (by decide) eh19 ?_
    refine r_aload_n (dGet dX5_init (j := 43) rfl) nv0 rfl ?_
    refine r_iconst (dGet dX5_init (j := 44) rfl) kI_m1 ?_
    obtain ⟨h20, eh20, hf⟩ := Option.bind_eq_some_iff.mp hf
    refine r_putI (dGet dX5_init (j := 45) rfl) F5_52 rfl rfl eh20 ?_
    have hq := Option.some.inj hf
    subst hq
    exact r_vret (dGet dX5_init (j := 46) rfl) rfl
  · rw [if_neg hc] at hf; cases hf
def eX6_init : List (Nat × Instr × Nat) := [(0, .aload_n 0, 1), (1, .invokespecial 1, 3), (4, .aload_n 0, 1), (5, .aload_n 1, 1), (6, .putfield 7, 3), (9, .aload_n 0, 1), (10, .sipush 1000, 3), (13, .newarray .int, 2), (15, .putfield 13, 3), (18, .aload_n 0, 1), (19, .sipush 1000, 3), (22, .newarray .int, 2), (24, .putfield 17, 3), (27, .aload_n 0, 1), (28, .sipush 1000, 3), (31, .newarray .int, 2), (33, .putfield 20, 3), (36, .aload_n 0, 1), (37, .sipush 1000, 3), (40, .newarray .boolean, 2), (42, .putfield 23, 3), (45, .aload_n 0, 1), (46, .sipush 1000, 3), (49, .newarray .int, 2), (51, .putfield 27, 3), (54, .aload_n 0, 1), (55, .sipush 1000, 3), (58, .newarray .int, 2), (60, .putfield 30, 3), (63, .aload_n 0, 1), (64, .sipush 1000, 3), (67, .newarray .int, 2), (69, .putfield 33, 3), (72, .aload_n 0, 1), (73, .sipush 1000, 3), (76, .newarray .int, 2), (78, .putfield 36, 3), (81, .aload_n 0, 1), (82, .sipush 1000, 3), (85, .newarray .int, 2), (87, .putfield 39, 3), (90, .aload_n 0, 1), (91, .sipush 1000, 3), (94, .newarray .int, 2), (96, .putfield 42, 3), (99, .aload_n 0, 1), (100, .sipush 1000, 3), (103, .newarray .int, 2), (105, .putfield 45, 3), (108, .aload_n 0, 1), (109, .sipush 1000, 3), (112, .newarray .int, 2), (114, .putfield 48, 3), (117, .return_, 1)]
theorem dX6_init : dChk (pCd 1138) eX6_init = true := by decide +kernel
def fX6_init (N : Nat) (v0 : Nat) (v1 : Nat) (h : pH) : Option (pH × Nat × Nat) := if isO h v0 6 = true then (
  (if 6 ≤ v0 then some () else none).bind fun _ =>
  if v1 = 4 then none else
  (putR h v0 6 0 v1).bind fun h2 =>
  (newI (1000 : Int32) h2).bind fun q3 =>
  (putR q3.2.1 v0 6 1 q3.1).bind fun h4 =>
  (newI (1000 : Int32) h4).bind fun q5 =>
  (putR q5.2.1 v0 6 2 q5.1).bind fun h6 =>
  (newI (1000 : Int32) h6).bind fun q7 =>
  (putR q7.2.1 v0 6 3 q7.1).bind fun h8 =>
  (newZ (1000 : Int32) h8).bind fun q9 =>
  (putR q9.2.1 v0 6 4 q9.1).bind fun h10 =>
  (newI (1000 : Int32) h10).bind fun q11 =>
  (putR q11.2.1 v0 6 5 q11.1).bind fun h12 =>
  (newI (1000 : Int32) h12).bind fun q13 =>
  (putR q13.2.1 v0 6 6 q13.1).bind fun h14 =>
  (newI (1000 : Int32) h14).bind fun q15 =>
  (putR q15.2.1 v0 6 7 q15.1).bind fun h16 =>
  (newI (1000 : Int32) h16).bind fun q17 =>
  (putR q17.2.1 v0 6 8 q17.1).bind fun h18 =>
  (newI (1000 : Int32) h18).bind fun q19 =>
  (putR q19.2.1 v0 6 9 q19.1).bind fun h20 =>
  (newI (1000 : Int32) h20).bind fun q21 =>
  (putR q21.2.1 v0 6 10 q21.1).bind fun h22 =>
  (newI (1000 : Int32) h22).bind fun q23 =>
  (putR q23.2.1 v0 6 12 q23.1).bind fun h24 =>
  (newI (1000 : Int32) h24).bind fun q25 =>
  (putR q25.2.1 v0 6 13 q25.1).bind fun h26 =>
  some (h26, ((((((((((((0 + 1) + 1) + 1) + 1) + 1) + 1) + 1) + 1) + 1) + 1) + 1) + 1), ((((((((((((0 + q3.2.2) + q5.2.2) + q7.2.2) + q9.2.2) + q11.2.2) + q13.2.2) + q15.2.2) + q17.2.2) + q19.2.2) + q21.2.2) + q23.2.2) + q25.2.2))) else none
theorem oX6_init {N : Nat} {v0 : Nat} {v1 : Nat} {h : pH} {q : pH × Nat × Nat} (hf : fX6_init N v0 v1 h = some q) : isO h v0 6 = true := by
  unfold fX6_init at hf
  by_cases hc : isO h v0 6 = true
  · exact hc
  · rw [if_neg hc] at hf; cases hf
theorem cX6_init (X : pX) (N d : Nat) (v0 : Nat) (v1 : Nat) (h : pH) (q : pH × Nat × Nat) (hf : fX6_init N v0 v1 h = some q) : Calls X (d + 1) 5 [.ref v0, .ref v1] h (none, q.1, q.2.1, q.2.2) := by
  refine Calls.of M5 (Nat.le_of_ble_eq_true rfl) ?_
  show Run X (d + 1) 6 true (pCd 1138) 2 none 0 [(0, .ref v0), (1, .ref v1)] [] h 0 0 (none, q.1, q.2.1, q.2.2)
  unfold fX6_init at hf
  by_cases hc : isO h v0 6 = true
  · rw [if_pos hc] at hf
    have nv0 : ¬ v0 = 4 := isO_ne hc
    refine r_aload_n (dGet dX6_init (j := 0) rfl) nv0 rfl ?_
    obtain ⟨_, ec1, hf⟩ := Option.bind_eq_some_iff.mp hf
    refine r_oinit (dGet dX6_init (j := 1) rfl) (by decide +kernel : pFind pOb 6 1 = some 1139) (guard_of ec1) (Nat.le_of_ble_eq_true rfl) ?_
    refine r_aload_n (dGet dX6_init (j := 2) rfl) nv0 rfl ?_
    by_cases nv1 : v1 = 4
    · rw [if_pos nv1] at hf; cases hf
    rw [if_neg nv1] at hf
    refine r_aload_n (dGet dX6_init (j := 3) rfl) nv1 rfl ?_
    obtain ⟨h2, eh2, hf⟩ := Option.bind_eq_some_iff.mp hf
    refine r_putRF (dGet dX6_init (j := 4) rfl) F6_7 (by decide) eh2 ?_
    refine r_aload_n (dGet dX6_init (j := 5) rfl) nv0 rfl ?_
    refine r_sipush (dGet dX6_init (j := 6) rfl) kS_1000 ?_
    obtain ⟨q3, eq3, hf⟩ := Option.bind_eq_some_iff.mp hf
    refine r_newI (dGet dX6_init (j := 7) rfl) eq3 ?_
    obtain ⟨h4, eh4, hf⟩ := Option.bind_eq_some_iff.mp hf
    refine r_putRF (dGet dX6_init (j := 8) rfl) F6_13 (by decide) eh4 ?_
    refine r_aload_n (dGet dX6_init (j := 9) rfl) nv0 rfl ?_
    refine r_sipush (dGet dX6_init (j := 10) rfl) kS_1000 ?_
    obtain ⟨q5, eq5, hf⟩ := Option.bind_eq_some_iff.mp hf
    refine r_newI (dGet dX6_init (j := 11) rfl) eq5 ?_
    obtain ⟨h6, eh6, hf⟩ := Option.bind_eq_some_iff.mp hf
    refine r_putRF (dGet dX6_init (j := 12) rfl) F6_17 (by decide) eh6 ?_
    refine r_aload_n (dGet dX6_init (j := 13) rfl) nv0 rfl ?_
    refine r_sipush (dGet dX6_init (j := 14) rfl) kS_1000 ?_
    obtain ⟨q7, eq7, hf⟩ := Option.bind_eq_some_iff.mp hf
    refine r_newI (dGet dX6_init (j := 15) rfl) eq7 ?_
    obtain ⟨h8, eh8, hf⟩ := Option.bind_eq_some_iff.mp hf
    refine r_putRF (dGet dX6_init (j := 16) rfl) F6_20 (by decide) eh8 ?_
    refine r_aload_n (dGet dX6_init (j := 17) rfl) nv0 rfl ?_
    refine r_sipush (dGet dX6_init (j := 18) rfl) kS_1000 ?_
    obtain ⟨q9, eq9, hf⟩ := Option.bind_eq_some_iff.mp hf
    refine r_newZ (dGet dX6_init (j := 19) rfl) eq9 ?_
    obtain ⟨h10, eh10, hf⟩ := Option.bind_eq_some_iff.mp hf
    refine r_putRF (dGet dX6_init (j := 20) rfl) F6_23 (by decide) eh10 ?_
    refine r_aload_n (dGet dX6_init (j := 21) rfl) nv0 rfl ?_
    refine r_sipush (dGet dX6_init (j := 22) rfl) kS_1000 ?_
    obtain ⟨q11, eq11, hf⟩ := Option.bind_eq_some_iff.mp hf
    refine r_newI (dGet dX6_init (j := 23) rfl) eq11 ?_
    obtain ⟨h12, eh12, hf⟩ := Option.bind_eq_some_iff.mp hf
    refine r_putRF (dGet dX6_init (j := 24) rfl) F6_27 (by decide) eh12 ?_
    refine r_aload_n (dGet dX6_init (j := 25) rfl) nv0 rfl ?_
    refine r_sipush (dGet dX6_init (j := 26) rfl) kS_1000 ?_
    obtain ⟨q13, eq13, hf⟩ := Option.bind_eq_some_iff.mp hf
    refine r_newI (dGet dX6_init (j := 27) rfl) eq13 ?_
    obtain ⟨h14, eh14, hf⟩ := Option.bind_eq_some_iff.mp hf
    refine r_putRF (dGet dX6_init (j := 28) rfl) F6_30 (by decide) eh14 ?_
    refine r_aload_n (dGet dX6_init (j := 29) rfl) nv0 rfl ?_
    refine r_sipush (dGet dX6_init (j := 30) rfl) kS_1000 ?_
    obtain ⟨q15, eq15, hf⟩ := Option.bind_eq_some_iff.mp hf
    refine r_newI (dGet dX6_init (j := 31) rfl) eq15 ?_
    obtain ⟨h16, eh16, hf⟩ := Option.bind_eq_some_iff.mp hf
    refine r_putRF (dGet dX6_init (j := 32) rfl) F6_33 (by decide) eh16 ?_
    refine r_aload_n (dGet dX6_init (j := 33) rfl) nv0 rfl ?_
    refine r_sipush (dGet dX6_init (j := 34) rfl) kS_1000 ?_
    obtain ⟨q17, eq17, hf⟩ := Option.bind_eq_some_iff.mp hf
    refine r_newI (dGet dX6_init (j := 35) rfl) eq17 ?_
    obtain ⟨h18, eh18, hf⟩ := Option.bind_eq_some_iff.mp hf
    refine r_putRF (dGet dX6_init (j := 36) rfl) F6_36 (by decide) eh18 ?_
    refine r_aload_n (dGet dX6_init (j := 37) rfl) nv0 rfl ?_
    refine r_sipush (dGet dX6_init (j := 38) rfl) kS_1000 ?_
    obtain ⟨q19, eq19, hf⟩ := Option.bind_eq_some_iff.mp hf
    refine r_newI (dGet dX6_init (j := 39) rfl) eq19 ?_
    obtain ⟨h20, eh20, hf⟩ := Option.bind_eq_some_iff.mp hf
    refine r_putRF (dGet dX6_init (j := 40) rfl) F6_39 (by decide) eh20 ?_
    refine r_aload_n (dGet dX6_init (j := 41) rfl) nv0 rfl ?_
    refine r_sipush (dGet dX6_init (j := 42) rfl) kS_1000 ?_
    obtain ⟨q21, eq21, hf⟩ := Option.bind_eq_some_iff.mp hf
    refine r_newI (dGet dX6_init (j := 43) rfl) eq21 ?_
    obtain ⟨h22, eh22, hf⟩ := Option.bind_eq_some_iff.mp hf
    refine r_putRF (dGet dX6_init (j := 44) rfl) F6_42 (by decide) eh22 ?_
    refine r_aload_n (dGet dX6_init (j := 45) rfl) nv0 rfl ?_
    refine r_sipush (dGet dX6_init (j := 46) rfl) kS_1000 ?_
    obtain ⟨q23, eq23, hf⟩ := Option.bind_eq_some_iff.mp hf
    refine r_newI (dGet dX6_init (j := 47) rfl) eq23 ?_
    obtain ⟨h24, eh24, hf⟩ := Option.bind_eq_some_iff.mp hf
    refine r_putRF (dGet dX6_init (j := 48) rfl) F6_45 (by decide) eh24 ?_
    refine r_aload_n (dGet dX6_init (j := 49) rfl) nv0 rfl ?_
    refine r_sipush (dGet dX6_init (j := 50) rfl) kS_1000 ?_
    obtain ⟨q25, eq25, hf⟩ := Option.bind_eq_some_iff.mp hf
    refine r_newI (dGet dX6_init (j := 51) rfl) eq25 ?_
    obtain ⟨h26, eh26, hf⟩ := Option.bind_eq_some_iff.mp hf
    refine r_putRF (dGet dX6_init (j := 52) rfl) F6_48 (by decide) eh26 ?_
    have hq := Option.some.inj hf
    subst hq
    exact r_vret (dGet dX6_init (j := 53) rfl) rfl
  · rw [if_neg hc] at hf; cases hf
def eX7_init : List (Nat × Instr × Nat) := [(0, .aload_n 0, 1), (1, .invokespecial 1, 3), (4, .aload_n 0, 1), (5, .aload_n 1, 1), (6, .putfield 7, 3), (9, .aload_n 0, 1), (10, .aload_n 2, 1), (11, .putfield 13, 3), (14, .aload_n 0, 1), (15, .aload_n 3, 1), (16, .putfield 17, 3), (19, .aload_n 0, 1), (20, .aload 4, 2), (22, .putfield 21, 3), (25, .aload_n 0, 1), (26, .sipush 400, 3), (29, .newarray .int, 2), (31, .putfield 25, 3), (34, .aload_n 0, 1), (35, .sipush 400, 3), (38, .newarray .int, 2), (40, .putfield 29, 3), (43, .aload_n 0, 1), (44, .sipush 400, 3), (47, .newarray .int, 2), (49, .putfield 32, 3), (52, .return_, 1)]
theorem dX7_init : dChk (pCd 2021) eX7_init = true := by decide +kernel
def fX7_init (N : Nat) (v0 : Nat) (v1 : Nat) (v2 : Nat) (v3 : Nat) (v4 : Nat) (h : pH) : Option (pH × Nat × Nat) := if isO h v0 7 = true then (
  (if 6 ≤ v0 then some () else none).bind fun _ =>
  if v1 = 4 then none else
  (putR h v0 7 0 v1).bind fun h2 =>
  if v2 = 4 then none else
  (putR h2 v0 7 1 v2).bind fun h3 =>
  if v3 = 4 then none else
  (putR h3 v0 7 2 v3).bind fun h4 =>
  if v4 = 4 then none else
  (putR h4 v0 7 3 v4).bind fun h5 =>
  (newI (400 : Int32) h5).bind fun q6 =>
  (putR q6.2.1 v0 7 4 q6.1).bind fun h7 =>
  (newI (400 : Int32) h7).bind fun q8 =>
  (putR q8.2.1 v0 7 5 q8.1).bind fun h9 =>
  (newI (400 : Int32) h9).bind fun q10 =>
  (putR q10.2.1 v0 7 6 q10.1).bind fun h11 =>
  some (h11, (((0 + 1) + 1) + 1), (((0 + q6.2.2) + q8.2.2) + q10.2.2))) else none
theorem oX7_init {N : Nat} {v0 : Nat} {v1 : Nat} {v2 : Nat} {v3 : Nat} {v4 : Nat} {h : pH} {q : pH × Nat × Nat} (hf : fX7_init N v0 v1 v2 v3 v4 h = some q) : isO h v0 7 = true := by
  unfold fX7_init at hf
  by_cases hc : isO h v0 7 = true
  · exact hc
  · rw [if_neg hc] at hf; cases hf
theorem cX7_init (X : pX) (N d : Nat) (v0 : Nat) (v1 : Nat) (v2 : Nat) (v3 : Nat) (v4 : Nat) (h : pH) (q : pH × Nat × Nat) (hf : fX7_init N v0 v1 v2 v3 v4 h = some q) : Calls X (d + 1) 7 [.ref v0, .ref v1, .ref v2, .ref v3, .ref v4] h (none, q.1, q.2.1, q.2.2) := by
  refine Calls.of M7 (Nat.le_of_ble_eq_true rfl) ?_
  show Run X (d + 1) 7 true (pCd 2021) 5 none 0 [(0, .ref v0), (1, .ref v1), (2, .ref v2), (3, .ref v3), (4, .ref v4)] [] h 0 0 (none, q.1, q.2.1, q.2.2)
  unfold fX7_init at hf
  by_cases hc : isO h v0 7 = true
  · rw [if_pos hc] at hf
    have nv0 : ¬ v0 = 4 := isO_ne hc
    refine r_aload_n (dGet dX7_init (j := 0) rfl) nv0 rfl ?_
    obtain ⟨_, ec1, hf⟩ := Option.bind_eq_some_iff.mp hf
    refine r_oinit (dGet dX7_init (j := 1) rfl) (by decide +kernel : pFind pOb 7 1 = some 2022) (guard_of ec1) (Nat.le_of_ble_eq_true rfl) ?_
    refine r_aload_n (dGet dX7_init (j := 2) rfl) nv0 rfl ?_
    by_cases nv1 : v1 = 4
    · rw [if_pos nv1] at hf; cases hf
    rw [if_neg nv1] at hf
    refine r_aload_n (dGet dX7_init (j := 3) rfl) nv1 rfl ?_
    obtain ⟨h2, eh2, hf⟩ := Option.bind_eq_some_iff.mp hf
    refine r_putRF (dGet dX7_init (j := 4) rfl) F7_7 (by decide) eh2 ?_
    refine r_aload_n (dGet dX7_init (j := 5) rfl) nv0 rfl ?_
    by_cases nv2 : v2 = 4
    · rw [if_pos nv2] at hf; cases hf
    rw [if_neg nv2] at hf
    refine r_aload_n (dGet dX7_init (j := 6) rfl) nv2 rfl ?_
    obtain ⟨h3, eh3, hf⟩ := Option.bind_eq_some_iff.mp hf
    refine r_putRF (dGet dX7_init (j := 7) rfl) F7_13 (by decide) eh3 ?_
    refine r_aload_n (dGet dX7_init (j := 8) rfl) nv0 rfl ?_
    by_cases nv3 : v3 = 4
    · rw [if_pos nv3] at hf; cases hf
    rw [if_neg nv3] at hf
    refine r_aload_n (dGet dX7_init (j := 9) rfl) nv3 rfl ?_
    obtain ⟨h4, eh4, hf⟩ := Option.bind_eq_some_iff.mp hf
    refine r_putRF (dGet dX7_init (j := 10) rfl) F7_17 (by decide) eh4 ?_
    refine r_aload_n (dGet dX7_init (j := 11) rfl) nv0 rfl ?_
    by_cases nv4 : v4 = 4
    · rw [if_pos nv4] at hf; cases hf
    rw [if_neg nv4] at hf
    refine r_aload (dGet dX7_init (j := 12) rfl) nv4 rfl ?_
    obtain ⟨h5, eh5, hf⟩ := Option.bind_eq_some_iff.mp hf
    refine r_putRF (dGet dX7_init (j := 13) rfl) F7_21 (by decide) eh5 ?_
    refine r_aload_n (dGet dX7_init (j := 14) rfl) nv0 rfl ?_
    refine r_sipush (dGet dX7_init (j := 15) rfl) kS_400 ?_
    obtain ⟨q6, eq6, hf⟩ := Option.bind_eq_some_iff.mp hf
    refine r_newI (dGet dX7_init (j := 16) rfl) eq6 ?_
    obtain ⟨h7, eh7, hf⟩ := Option.bind_eq_some_iff.mp hf
    refine r_putRF (dGet dX7_init (j := 17) rfl) F7_25 (by decide) eh7 ?_
    refine r_aload_n (dGet dX7_init (j := 18) rfl) nv0 rfl ?_
    refine r_sipush (dGet dX7_init (j := 19) rfl) kS_400 ?_
    obtain ⟨q8, eq8, hf⟩ := Option.bind_eq_some_iff.mp hf
    refine r_newI (dGet dX7_init (j := 20) rfl) eq8 ?_
    obtain ⟨h9, eh9, hf⟩ := Option.bind_eq_some_iff.mp hf
    refine r_putRF (dGet dX7_init (j := 21) rfl) F7_29 (by decide) eh9 ?_
    refine r_aload_n (dGet dX7_init (j := 22) rfl) nv0 rfl ?_
    refine r_sipush (dGet dX7_init (j := 23) rfl) kS_400 ?_
    obtain ⟨q10, eq10, hf⟩ := Option.bind_eq_some_iff.mp hf
    refine r_newI (dGet dX7_init (j := 24) rfl) eq10 ?_
    obtain ⟨h11, eh11, hf⟩ := Option.bind_eq_some_iff.mp hf
    refine r_putRF (dGet dX7_init (j := 25) rfl) F7_32 (by decide) eh11 ?_
    have hq := Option.some.inj hf
    subst hq
    exact r_vret (dGet dX7_init (j := 26) rfl) rfl
  · rw [if_neg hc] at hf; cases hf
def eX8_init : List (Nat × Instr × Nat) := [(0, .aload_n 0, 1), (1, .invokespecial 3, 3), (4, .aload_n 0, 1), (5, .sipush 1000, 3), (8, .newarray .int, 2), (10, .putfield 9, 3), (13, .aload_n 0, 1), (14, .sipush 1000, 3), (17, .newarray .int, 2), (19, .putfield 13, 3), (22, .aload_n 0, 1), (23, .bipush 32, 2), (25, .newarray .int, 2), (27, .putfield 16, 3), (30, .aload_n 0, 1), (31, .bipush 32, 2), (33, .bipush 32, 2), (35, .multianewarray 19 2, 4), (39, .putfield 21, 3), (42, .aload_n 0, 1), (43, .bipush 32, 2), (45, .bipush 32, 2), (47, .multianewarray 19 2, 4), (51, .putfield 24, 3), (54, .aload_n 0, 1), (55, .bipush 32, 2), (57, .newarray .boolean, 2), (59, .putfield 27, 3), (62, .aload_n 0, 1), (63, .bipush 32, 2), (65, .newarray .boolean, 2), (67, .putfield 31, 3), (70, .aload_n 0, 1), (71, .bipush 32, 2), (73, .newarray .int, 2), (75, .putfield 34, 3), (78, .return_, 1)]
theorem dX8_init : dChk (pCd 2083) eX8_init = true := by decide +kernel
def fX8_init (N : Nat) (v0 : Nat) (h : pH) : Option (pH × Nat × Nat) := if isO h v0 8 = true then (
  (if 6 ≤ v0 then some () else none).bind fun _ =>
  (newI (1000 : Int32) h).bind fun q2 =>
  (putR q2.2.1 v0 8 0 q2.1).bind fun h3 =>
  (newI (1000 : Int32) h3).bind fun q4 =>
  (putR q4.2.1 v0 8 1 q4.1).bind fun h5 =>
  (newI (32 : Int32) h5).bind fun q6 =>
  (putR q6.2.1 v0 8 4 q6.1).bind fun h7 =>
  (newM (32 : Int32) (32 : Int32) h7).bind fun q8 =>
  (putR q8.2.1 v0 8 6 q8.1).bind fun h9 =>
  (newM (32 : Int32) (32 : Int32) h9).bind fun q10 =>
  (putR q10.2.1 v0 8 7 q10.1).bind fun h11 =>
  (newZ (32 : Int32) h11).bind fun q12 =>
  (putR q12.2.1 v0 8 8 q12.1).bind fun h13 =>
  (newZ (32 : Int32) h13).bind fun q14 =>
  (putR q14.2.1 v0 8 9 q14.1).bind fun h15 =>
  (newI (32 : Int32) h15).bind fun q16 =>
  (putR q16.2.1 v0 8 10 q16.1).bind fun h17 =>
  some (h17, ((((((((0 + 1) + 1) + 1) + q8.2.2.1) + q10.2.2.1) + 1) + 1) + 1), ((((((((0 + q2.2.2) + q4.2.2) + q6.2.2) + q8.2.2.2) + q10.2.2.2) + q12.2.2) + q14.2.2) + q16.2.2))) else none
theorem oX8_init {N : Nat} {v0 : Nat} {h : pH} {q : pH × Nat × Nat} (hf : fX8_init N v0 h = some q) : isO h v0 8 = true := by
  unfold fX8_init at hf
  by_cases hc : isO h v0 8 = true
  · exact hc
  · rw [if_neg hc] at hf; cases hf
theorem cX8_init (X : pX) (N d : Nat) (v0 : Nat) (h : pH) (q : pH × Nat × Nat) (hf : fX8_init N v0 h = some q) : Calls X (d + 1) 10 [.ref v0] h (none, q.1, q.2.1, q.2.2) := by
  refine Calls.of M10 (Nat.le_of_ble_eq_true rfl) ?_
  show Run X (d + 1) 8 true (pCd 2083) 1 none 0 [(0, .ref v0)] [] h 0 0 (none, q.1, q.2.1, q.2.2)
  unfold fX8_init at hf
  by_cases hc : isO h v0 8 = true
  · rw [if_pos hc] at hf
    have nv0 : ¬ v0 = 4 := isO_ne hc
    refine r_aload_n (dGet dX8_init (j := 0) rfl) nv0 rfl ?_
    obtain ⟨_, ec1, hf⟩ := Option.bind_eq_some_iff.mp hf
    refine r_oinit (dGet dX8_init (j := 1) rfl) (by decide +kernel : pFind pOb 8 3 = some 2084) (guard_of ec1) (Nat.le_of_ble_eq_true rfl) ?_
    refine r_aload_n (dGet dX8_init (j := 2) rfl) nv0 rfl ?_
    refine r_sipush (dGet dX8_init (j := 3) rfl) kS_1000 ?_
    obtain ⟨q2, eq2, hf⟩ := Option.bind_eq_some_iff.mp hf
    refine r_newI (dGet dX8_init (j := 4) rfl) eq2 ?_
    obtain ⟨h3, eh3, hf⟩ := Option.bind_eq_some_iff.mp hf
    refine r_putRF (dGet dX8_init (j := 5) rfl) F8_9 (by decide) eh3 ?_
    refine r_aload_n (dGet dX8_init (j := 6) rfl) nv0 rfl ?_
    refine r_sipush (dGet dX8_init (j := 7) rfl) kS_1000 ?_
    obtain ⟨q4, eq4, hf⟩ := Option.bind_eq_some_iff.mp hf
    refine r_newI (dGet dX8_init (j := 8) rfl) eq4 ?_
    obtain ⟨h5, eh5, hf⟩ := Option.bind_eq_some_iff.mp hf
    refine r_putRF (dGet dX8_init (j := 9) rfl) F8_13 (by decide) eh5 ?_
    refine r_aload_n (dGet dX8_init (j := 10) rfl) nv0 rfl ?_
    refine r_bipush (dGet dX8_init (j := 11) rfl) kB_32 ?_
    obtain ⟨q6, eq6, hf⟩ := Option.bind_eq_some_iff.mp hf
    refine r_newI (dGet dX8_init (j := 12) rfl) eq6 ?_
    obtain ⟨h7, eh7, hf⟩ := Option.bind_eq_some_iff.mp hf
    refine r_putRF (dGet dX8_init (j := 13) rfl) F8_16 (by decide) eh7 ?_
    refine r_aload_n (dGet dX8_init (j := 14) rfl) nv0 rfl ?_
    refine r_bipush (dGet dX8_init (j := 15) rfl) kB_32 ?_
    refine r_bipush (dGet dX8_init (j := 16) rfl) kB_32 ?_
    obtain ⟨q8, eq8, hf⟩ := Option.bind_eq_some_iff.mp hf
    refine r_newM (dGet dX8_init (j := 17) rfl) (by decide +kernel : pFind pMn 8 19 = some 2085) eq8 ?_
    obtain ⟨h9, eh9, hf⟩ := Option.bind_eq_some_iff.mp hf
    refine r_putRF (dGet dX8_init (j := 18) rfl) F8_21 (by decide) eh9 ?_
    refine r_aload_n (dGet dX8_init (j := 19) rfl) nv0 rfl ?_
    refine r_bipush (dGet dX8_init (j := 20) rfl) kB_32 ?_
    refine r_bipush (dGet dX8_init (j := 21) rfl) kB_32 ?_
    obtain ⟨q10, eq10, hf⟩ := Option.bind_eq_some_iff.mp hf
    refine r_newM (dGet dX8_init (j := 22) rfl) (by decide +kernel : pFind pMn 8 19 = some 2085) eq10 ?_
    obtain ⟨h11, eh11, hf⟩ := Option.bind_eq_some_iff.mp hf
    refine r_putRF (dGet dX8_init (j := 23) rfl) F8_24 (by decide) eh11 ?_
    refine r_aload_n (dGet dX8_init (j := 24) rfl) nv0 rfl ?_
    refine r_bipush (dGet dX8_init (j := 25) rfl) kB_32 ?_
    obtain ⟨q12, eq12, hf⟩ := Option.bind_eq_some_iff.mp hf
    refine r_newZ (dGet dX8_init (j := 26) rfl) eq12 ?_
    obtain ⟨h13, eh13, hf⟩ := Option.bind_eq_some_iff.mp hf
    refine r_putRF (dGet dX8_init (j := 27) rfl) F8_27 (by decide) eh13 ?_
    refine r_aload_n (dGet dX8_init (j := 28) rfl) nv0 rfl ?_
    refine r_bipush (dGet dX8_init (j := 29) rfl) kB_32 ?_
    obtain ⟨q14, eq14, hf⟩ := Option.bind_eq_some_iff.mp hf
    refine r_newZ (dGet dX8_init (j := 30) rfl) eq14 ?_
    obtain ⟨h15, eh15, hf⟩ := Option.bind_eq_some_iff.mp hf
    refine r_putRF (dGet dX8_init (j := 31) rfl) F8_31 (by decide) eh15 ?_
    refine r_aload_n (dGet dX8_init (j := 32) rfl) nv0 rfl ?_
    refine r_bipush (dGet dX8_init (j := 33) rfl) kB_32 ?_
    obtain ⟨q16, eq16, hf⟩ := Option.bind_eq_some_iff.mp hf
    refine r_newI (dGet dX8_init (j := 34) rfl) eq16 ?_
    obtain ⟨h17, eh17, hf⟩ := Option.bind_eq_some_iff.mp hf
    refine r_putRF (dGet dX8_init (j := 35) rfl) F8_34 (by decide) eh17 ?_
    have hq := Option.some.inj hf
    subst hq
    exact r_vret (dGet dX8_init (j := 36) rfl) rfl
  · rw [if_neg hc] at hf; cases hf
def eX9_init : List (Nat × Instr × Nat) := [(0, .aload_n 0, 1), (1, .invokespecial 1, 3), (4, .aload_n 0, 1), (5, .aload_n 1, 1), (6, .putfield 7, 3), (9, .aload_n 0, 1), (10, .aload_n 2, 1), (11, .putfield 13, 3), (14, .aload_n 0, 1), (15, .aload_n 3, 1), (16, .putfield 17, 3), (19, .aload_n 0, 1), (20, .new 21, 3), (23, .dup, 1), (24, .invokespecial 23, 3), (27, .putfield 24, 3), (30, .aload_n 0, 1), (31, .sipush 3100, 3), (34, .newarray .int, 2), (36, .putfield 30, 3), (39, .return_, 1)]
theorem dX9_init : dChk (pCd 2077) eX9_init = true := by decide +kernel
def fX9_init (N : Nat) (v0 : Nat) (v1 : Nat) (v2 : Nat) (v3 : Nat) (h : pH) : Option (pH × Nat × Nat) := if isO h v0 9 = true then (
  (if 6 ≤ v0 then some () else none).bind fun _ =>
  if v1 = 4 then none else
  (putR h v0 9 0 v1).bind fun h2 =>
  if v2 = 4 then none else
  (putR h2 v0 9 1 v2).bind fun h3 =>
  if v3 = 4 then none else
  (putR h3 v0 9 2 v3).bind fun h4 =>
  (fX8_init N (newOa h4) (newOh 8 h4)).bind fun q5 =>
  (putR q5.1 v0 9 3 (newOa h4)).bind fun h6 =>
  (newI (3100 : Int32) h6).bind fun q7 =>
  (putR q7.2.1 v0 9 4 q7.1).bind fun h8 =>
  some (h8, (((0 + 1) + q5.2.1) + 1), (((0 + 12) + q5.2.2) + q7.2.2))) else none
theorem oX9_init {N : Nat} {v0 : Nat} {v1 : Nat} {v2 : Nat} {v3 : Nat} {h : pH} {q : pH × Nat × Nat} (hf : fX9_init N v0 v1 v2 v3 h = some q) : isO h v0 9 = true := by
  unfold fX9_init at hf
  by_cases hc : isO h v0 9 = true
  · exact hc
  · rw [if_neg hc] at hf; cases hf
theorem cX9_init (X : pX) (N d : Nat) (v0 : Nat) (v1 : Nat) (v2 : Nat) (v3 : Nat) (h : pH) (q : pH × Nat × Nat) (hf : fX9_init N v0 v1 v2 v3 h = some q) : Calls X (d + 2) 9 [.ref v0, .ref v1, .ref v2, .ref v3] h (none, q.1, q.2.1, q.2.2) := by
  refine Calls.of M9 (Nat.le_of_ble_eq_true rfl) ?_
  show Run X (d + 2) 9 true (pCd 2077) 4 none 0 [(0, .ref v0), (1, .ref v1), (2, .ref v2), (3, .ref v3)] [] h 0 0 (none, q.1, q.2.1, q.2.2)
  unfold fX9_init at hf
  by_cases hc : isO h v0 9 = true
  · rw [if_pos hc] at hf
    have nv0 : ¬ v0 = 4 := isO_ne hc
    refine r_aload_n (dGet dX9_init (j := 0) rfl) nv0 rfl ?_
    obtain ⟨_, ec1, hf⟩ := Option.bind_eq_some_iff.mp hf
    refine r_oinit (dGet dX9_init (j := 1) rfl) (by decide +kernel : pFind pOb 9 1 = some 2078) (guard_of ec1) (Nat.le_of_ble_eq_true rfl) ?_
    refine r_aload_n (dGet dX9_init (j := 2) rfl) nv0 rfl ?_
    by_cases nv1 : v1 = 4
    · rw [if_pos nv1] at hf; cases hf
    rw [if_neg nv1] at hf
    refine r_aload_n (dGet dX9_init (j := 3) rfl) nv1 rfl ?_
    obtain ⟨h2, eh2, hf⟩ := Option.bind_eq_some_iff.mp hf
    refine r_putRF (dGet dX9_init (j := 4) rfl) F9_7 (by decide) eh2 ?_
    refine r_aload_n (dGet dX9_init (j := 5) rfl) nv0 rfl ?_
    by_cases nv2 : v2 = 4
    · rw [if_pos nv2] at hf; cases hf
    rw [if_neg nv2] at hf
    refine r_aload_n (dGet dX9_init (j := 6) rfl) nv2 rfl ?_
    obtain ⟨h3, eh3, hf⟩ := Option.bind_eq_some_iff.mp hf
    refine r_putRF (dGet dX9_init (j := 7) rfl) F9_13 (by decide) eh3 ?_
    refine r_aload_n (dGet dX9_init (j := 8) rfl) nv0 rfl ?_
    by_cases nv3 : v3 = 4
    · rw [if_pos nv3] at hf; cases hf
    rw [if_neg nv3] at hf
    refine r_aload_n (dGet dX9_init (j := 9) rfl) nv3 rfl ?_
    obtain ⟨h4, eh4, hf⟩ := Option.bind_eq_some_iff.mp hf
    refine r_putRF (dGet dX9_init (j := 10) rfl) F9_17 (by decide) eh4 ?_
    refine r_aload_n (dGet dX9_init (j := 11) rfl) nv0 rfl ?_
    refine r_newO (dGet dX9_init (j := 12) rfl) (by decide +kernel : pFind pNw 9 21 = some (8, 2079, 2080, 1010)) ?_
    refine r_dup (dGet dX9_init (j := 13) rfl) rfl ?_
    obtain ⟨q5, eq5, hf⟩ := Option.bind_eq_some_iff.mp hf
    refine r_special (dGet dX9_init (j := 14) rfl) (by decide +kernel) L9_23 M10 rfl rfl (Nat.le_of_ble_eq_true rfl) (oX8_init eq5) (cX8_init X N (d + 0) (newOa h4) (newOh 8 h4) q5 eq5) ?_
    obtain ⟨h6, eh6, hf⟩ := Option.bind_eq_some_iff.mp hf
    refine r_putRF (dGet dX9_init (j := 15) rfl) F9_24 (by decide) eh6 ?_
    refine r_aload_n (dGet dX9_init (j := 16) rfl) nv0 rfl ?_
    refine r_sipush (dGet dX9_init (j := 17) rfl) kS_3100 ?_
    obtain ⟨q7, eq7, hf⟩ := Option.bind_eq_some_iff.mp hf
    refine r_newI (dGet dX9_init (j := 18) rfl) eq7 ?_
    obtain ⟨h8, eh8, hf⟩ := Option.bind_eq_some_iff.mp hf
    refine r_putRF (dGet dX9_init (j := 19) rfl) F9_30 (by decide) eh8 ?_
    have hq := Option.some.inj hf
    subst hq
    exact r_vret (dGet dX9_init (j := 20) rfl) rfl
  · rw [if_neg hc] at hf; cases hf
def eX11_init : List (Nat × Instr × Nat) := [(0, .aload_n 0, 1), (1, .invokespecial 1, 3), (4, .aload_n 0, 1), (5, .sipush 3000, 3), (8, .newarray .int, 2), (10, .putfield 9, 3), (13, .aload_n 0, 1), (14, .new 13, 3), (17, .dup, 1), (18, .invokespecial 15, 3), (21, .putfield 16, 3), (24, .aload_n 0, 1), (25, .new 20, 3), (28, .dup, 1), (29, .invokespecial 22, 3), (32, .putfield 23, 3), (35, .new 27, 3), (38, .dup, 1), (39, .aload_n 0, 1), (40, .getfield 23, 3), (43, .invokespecial 29, 3), (46, .astore_n 1, 1), (47, .new 32, 3), (50, .dup, 1), (51, .invokespecial 34, 3), (54, .astore_n 2, 1), (55, .aload_n 0, 1), (56, .new 35, 3), (59, .dup, 1), (60, .aload_n 0, 1), (61, .getfield 16, 3), (64, .aload_n 0, 1), (65, .getfield 23, 3), (68, .aload_n 1, 1), (69, .aload_n 2, 1), (70, .invokespecial 37, 3), (73, .putfield 40, 3), (76, .aload_n 0, 1), (77, .new 44, 3), (80, .dup, 1), (81, .aload_n 0, 1), (82, .getfield 23, 3), (85, .aload_n 1, 1), (86, .invokespecial 46, 3), (89, .putfield 49, 3), (92, .aload_n 0, 1), (93, .new 53, 3), (96, .dup, 1), (97, .aload_n 0, 1), (98, .getfield 23, 3), (101, .aload_n 1, 1), (102, .aload_n 2, 1), (103, .invokespecial 55, 3), (106, .putfield 58, 3), (109, .aload_n 0, 1), (110, .new 62, 3), (113, .dup, 1), (114, .invokespecial 64, 3), (117, .putfield 65, 3), (120, .aload_n 0, 1), (121, .new 69, 3), (124, .dup, 1), (125, .aload_n 0, 1), (126, .getfield 23, 3), (129, .aload_n 1, 1), (130, .aload_n 2, 1), (131, .aload_n 0, 1), (132, .getfield 65, 3), (135, .invokespecial 71, 3), (138, .putfield 74, 3), (141, .aload_n 0, 1), (142, .iconst 0, 1), (143, .putfield 78, 3), (146, .aload_n 0, 1), (147, .sipush 1000, 3), (150, .putfield 82, 3), (153, .aload_n 0, 1), (154, .iconst 0, 1), (155, .putfield 85, 3), (158, .return_, 1)]
theorem dX11_init : dChk (pCd 1026) eX11_init = true := by decide +kernel
def fX11_init (N : Nat) (v0 : Nat) (h : pH) : Option (pH × Nat × Nat) := if isO h v0 11 = true then (
  (if 6 ≤ v0 then some () else none).bind fun _ =>
  (newI (3000 : Int32) h).bind fun q2 =>
  (putR q2.2.1 v0 11 0 q2.1).bind fun h3 =>
  (fX10_init N (newOa h3) (newOh 10 h3)).bind fun q4 =>
  (putR q4.1 v0 11 1 (newOa h3)).bind fun h5 =>
  (fX1_init N (newOa h5) (newOh 1 h5)).bind fun q6 =>
  (putR q6.1 v0 11 2 (newOa h5)).bind fun h7 =>
  (getR (newOh 6 h7) v0 11 2).bind fun t8 =>
  (fX6_init N (newOa h7) t8 (newOh 6 h7)).bind fun q9 =>
  if (newOa h7) = 4 then none else
  (fX2_init N (newOa q9.1) (newOh 2 q9.1)).bind fun q10 =>
  if (newOa q9.1) = 4 then none else
  (getR (newOh 7 q10.1) v0 11 1).bind fun t11 =>
  (getR (newOh 7 q10.1) v0 11 2).bind fun t12 =>
  (fX7_init N (newOa q10.1) t11 t12 (newOa h7) (newOa q9.1) (newOh 7 q10.1)).bind fun q13 =>
  (putR q13.1 v0 11 3 (newOa q10.1)).bind fun h14 =>
  (getR (newOh 0 h14) v0 11 2).bind fun t15 =>
  (fX0_init N (newOa h14) t15 (newOa h7) (newOh 0 h14)).bind fun h16 =>
  (putR h16 v0 11 4 (newOa h14)).bind fun h17 =>
  (getR (newOh 9 h17) v0 11 2).bind fun t18 =>
  (fX9_init N (newOa h17) t18 (newOa h7) (newOa q9.1) (newOh 9 h17)).bind fun q19 =>
  (putR q19.1 v0 11 5 (newOa h17)).bind fun h20 =>
  (fX4_init N (newOa h20) (newOh 4 h20)).bind fun q21 =>
  (putR q21.1 v0 11 6 (newOa h20)).bind fun h22 =>
  (getR (newOh 5 h22) v0 11 2).bind fun t23 =>
  (getR (newOh 5 h22) v0 11 6).bind fun t24 =>
  (fX5_init N (newOa h22) t23 (newOa h7) (newOa q9.1) t24 (newOh 5 h22)).bind fun q25 =>
  (putR q25.1 v0 11 7 (newOa h22)).bind fun h26 =>
  (putI h26 v0 11 8 (0 : Int32)).bind fun h27 =>
  (putI h27 v0 11 9 (1000 : Int32)).bind fun h28 =>
  (putZ h28 v0 11 10 (0 : Int32)).bind fun h29 =>
  some (h29, ((((((((((((((((((0 + 1) + 1) + q4.2.1) + 1) + q6.2.1) + 1) + q9.2.1) + 1) + q10.2.1) + 1) + q13.2.1) + 1) + 1) + q19.2.1) + 1) + q21.2.1) + 1) + q25.2.1), ((((((((((((((((((0 + q2.2.2) + 11) + q4.2.2) + 8) + q6.2.2) + 15) + q9.2.2) + 10) + q10.2.2) + 12) + q13.2.2) + 2) + 9) + q19.2.2) + 3) + q21.2.2) + 20) + q25.2.2))) else none
theorem oX11_init {N : Nat} {v0 : Nat} {h : pH} {q : pH × Nat × Nat} (hf : fX11_init N v0 h = some q) : isO h v0 11 = true := by
  unfold fX11_init at hf
  by_cases hc : isO h v0 11 = true
  · exact hc
  · rw [if_neg hc] at hf; cases hf
theorem cX11_init (X : pX) (N d : Nat) (v0 : Nat) (h : pH) (q : pH × Nat × Nat) (hf : fX11_init N v0 h = some q) : Calls X (d + 3) 0 [.ref v0] h (none, q.1, q.2.1, q.2.2) := by
  refine Calls.of M0 (Nat.le_of_ble_eq_true rfl) ?_
  show Run X (d + 3) 11 true (pCd 1026) 3 none 0 [(0, .ref v0)] [] h 0 0 (none, q.1, q.2.1, q.2.2)
  unfold fX11_init at hf
  by_cases hc : isO h v0 11 = true
  · rw [if_pos hc] at hf
    have nv0 : ¬ v0 = 4 := isO_ne hc
    refine r_aload_n (dGet dX11_init (j := 0) rfl) nv0 rfl ?_
    obtain ⟨_, ec1, hf⟩ := Option.bind_eq_some_iff.mp hf
    refine r_oinit (dGet dX11_init (j := 1) rfl) (by decide +kernel : pFind pOb 11 1 = some 1027) (guard_of ec1) (Nat.le_of_ble_eq_true rfl) ?_
    refine r_aload_n (dGet dX11_init (j := 2) rfl) nv0 rfl ?_
    refine r_sipush (dGet dX11_init (j := 3) rfl) kS_3000 ?_
    obtain ⟨q2, eq2, hf⟩ := Option.bind_eq_some_iff.mp hf
    refine r_newI (dGet dX11_init (j := 4) rfl) eq2 ?_
    obtain ⟨h3, eh3, hf⟩ := Option.bind_eq_some_iff.mp hf
    refine r_putRF (dGet dX11_init (j := 5) rfl) F11_9 (by decide) eh3 ?_
    refine r_aload_n (dGet dX11_init (j := 6) rfl) nv0 rfl ?_
    refine r_newO (dGet dX11_init (j := 7) rfl) (by decide +kernel : pFind pNw 11 13 = some (10, 1030, 1031, 1002)) ?_
    refine r_dup (dGet dX11_init (j := 8) rfl) rfl ?_
    obtain ⟨q4, eq4, hf⟩ := Option.bind_eq_some_iff.mp hf
    refine r_special (dGet dX11_init (j := 9) rfl) (by decide +kernel) L11_15 M1 rfl rfl (Nat.le_of_ble_eq_true rfl) (oX10_init eq4) (cX10_init X N (d + 0) (newOa h3) (newOh 10 h3) q4 eq4) ?_
    obtain ⟨h5, eh5, hf⟩ := Option.bind_eq_some_iff.mp hf
    refine r_putRF (dGet dX11_init (j := 10) rfl) F11_16 (by decide) eh5 ?_
    refine r_aload_n (dGet dX11_init (j := 11) rfl) nv0 rfl ?_
    refine r_newO (dGet dX11_init (j := 12) rfl) (by decide +kernel : pFind pNw 11 20 = some (1, 1087, 1088, 1004)) ?_
    refine r_dup (dGet dX11_init (j := 13) rfl) rfl ?_
    obtain ⟨q6, eq6, hf⟩ := Option.bind_eq_some_iff.mp hf
    refine r_special (dGet dX11_init (j := 14) rfl) (by decide +kernel) L11_22 M4 rfl rfl (Nat.le_of_ble_eq_true rfl) (oX1_init eq6) (cX1_init X N (d + 1) (newOa h5) (newOh 1 h5) q6 eq6) ?_
    obtain ⟨h7, eh7, hf⟩ := Option.bind_eq_some_iff.mp hf
    refine r_putRF (dGet dX11_init (j := 15) rfl) F11_23 (by decide) eh7 ?_
    refine r_newO (dGet dX11_init (j := 16) rfl) (by decide +kernel : pFind pNw 11 27 = some (6, 1134, 1135, 1005)) ?_
    refine r_dup (dGet dX11_init (j := 17) rfl) rfl ?_
    refine r_aload_n (dGet dX11_init (j := 18) rfl) nv0 rfl ?_
    obtain ⟨t8, et8, hf⟩ := Option.bind_eq_some_iff.mp hf
    refine r_getR (dGet dX11_init (j := 19) rfl) F11_23 et8 ?_
    obtain ⟨q9, eq9, hf⟩ := Option.bind_eq_some_iff.mp hf
    refine r_special (dGet dX11_init (j := 20) rfl) (by decide +kernel) L11_29 M5 rfl rfl (Nat.le_of_ble_eq_true rfl) (oX6_init eq9) (cX6_init X N (d + 1) (newOa h7) t8 (newOh 6 h7) q9 eq9) ?_
    by_cases n_newOa_h7_ : (newOa h7) = 4
    · rw [if_pos n_newOa_h7_] at hf; cases hf
    rw [if_neg n_newOa_h7_] at hf
    refine r_astore_n (lv' := [(1, .ref (newOa h7)), (0, .ref v0)]) (dGet dX11_init (j := 21) rfl) n_newOa_h7_ (by decide) rfl ?_
    refine r_newO (dGet dX11_init (j := 22) rfl) (by decide +kernel : pFind pNw 11 32 = some (2, 1203, 1204, 1006)) ?_
    refine r_dup (dGet dX11_init (j := 23) rfl) rfl ?_
    obtain ⟨q10, eq10, hf⟩ := Option.bind_eq_some_iff.mp hf
    refine r_special (dGet dX11_init (j := 24) rfl) (by decide +kernel) L11_34 M6 rfl rfl (Nat.le_of_ble_eq_true rfl) (oX2_init eq10) (cX2_init X N (d + 1) (newOa q9.1) (newOh 2 q9.1) q10 eq10) ?_
    by_cases n_newOa_q9_1_ : (newOa q9.1) = 4
    · rw [if_pos n_newOa_q9_1_] at hf; cases hf
    rw [if_neg n_newOa_q9_1_] at hf
    refine r_astore_n (lv' := [(2, .ref (newOa q9.1)), (1, .ref (newOa h7)), (0, .ref v0)]) (dGet dX11_init (j := 25) rfl) n_newOa_q9_1_ (by decide) rfl ?_
    refine r_aload_n (dGet dX11_init (j := 26) rfl) nv0 rfl ?_
    refine r_newO (dGet dX11_init (j := 27) rfl) (by decide +kernel : pFind pNw 11 35 = some (7, 2017, 2018, 1007)) ?_
    refine r_dup (dGet dX11_init (j := 28) rfl) rfl ?_
    refine r_aload_n (dGet dX11_init (j := 29) rfl) nv0 rfl ?_
    obtain ⟨t11, et11, hf⟩ := Option.bind_eq_some_iff.mp hf
    refine r_getR (dGet dX11_init (j := 30) rfl) F11_16 et11 ?_
    refine r_aload_n (dGet dX11_init (j := 31) rfl) nv0 rfl ?_
    obtain ⟨t12, et12, hf⟩ := Option.bind_eq_some_iff.mp hf
    refine r_getR (dGet dX11_init (j := 32) rfl) F11_23 et12 ?_
    refine r_aload_n (dGet dX11_init (j := 33) rfl) n_newOa_h7_ rfl ?_
    refine r_aload_n (dGet dX11_init (j := 34) rfl) n_newOa_q9_1_ rfl ?_
    obtain ⟨q13, eq13, hf⟩ := Option.bind_eq_some_iff.mp hf
    refine r_special (dGet dX11_init (j := 35) rfl) (by decide +kernel) L11_37 M7 rfl rfl (Nat.le_of_ble_eq_true rfl) (oX7_init eq13) (cX7_init X N (d + 1) (newOa q10.1) t11 t12 (newOa h7) (newOa q9.1) (newOh 7 q10.1) q13 eq13) ?_
    obtain ⟨h14, eh14, hf⟩ := Option.bind_eq_some_iff.mp hf
    refine r_putRF (dGet dX11_init (j := 36) rfl) F11_40 (by decide) eh14 ?_
    refine r_aload_n (dGet dX11_init (j := 37) rfl) nv0 rfl ?_
    refine r_newO (dGet dX11_init (j := 38) rfl) (by decide +kernel : pFind pNw 11 44 = some (0, 2060, 2061, 1008)) ?_
    refine r_dup (dGet dX11_init (j := 39) rfl) rfl ?_
    refine r_aload_n (dGet dX11_init (j := 40) rfl) nv0 rfl ?_
    obtain ⟨t15, et15, hf⟩ := Option.bind_eq_some_iff.mp hf
    refine r_getR (dGet dX11_init (j := 41) rfl) F11_23 et15 ?_
    refine r_aload_n (dGet dX11_init (j := 42) rfl) n_newOa_h7_ rfl ?_
    obtain ⟨h16, eh16, hf⟩ := Option.bind_eq_some_iff.mp hf
    refine r_special (dGet dX11_init (j := 43) rfl) (by decide +kernel) L11_46 M8 rfl rfl (Nat.le_of_ble_eq_true rfl) (oX0_init eh16) (cX0_init X N (d + 1) (newOa h14) t15 (newOa h7) (newOh 0 h14) h16 eh16) ?_
    obtain ⟨h17, eh17, hf⟩ := Option.bind_eq_some_iff.mp hf
    refine r_putRF (dGet dX11_init (j := 44) rfl) F11_49 (by decide) eh17 ?_
    refine r_aload_n (dGet dX11_init (j := 45) rfl) nv0 rfl ?_
    refine r_newO (dGet dX11_init (j := 46) rfl) (by decide +kernel : pFind pNw 11 53 = some (9, 2073, 2074, 1009)) ?_
    refine r_dup (dGet dX11_init (j := 47) rfl) rfl ?_
    refine r_aload_n (dGet dX11_init (j := 48) rfl) nv0 rfl ?_
    obtain ⟨t18, et18, hf⟩ := Option.bind_eq_some_iff.mp hf
    refine r_getR (dGet dX11_init (j := 49) rfl) F11_23 et18 ?_
    refine r_aload_n (dGet dX11_init (j := 50) rfl) n_newOa_h7_ rfl ?_
    refine r_aload_n (dGet dX11_init (j := 51) rfl) n_newOa_q9_1_ rfl ?_
    obtain ⟨q19, eq19, hf⟩ := Option.bind_eq_some_iff.mp hf
    refine r_special (dGet dX11_init (j := 52) rfl) (by decide +kernel) L11_55 M9 rfl rfl (Nat.le_of_ble_eq_true rfl) (oX9_init eq19) (cX9_init X N (d + 0) (newOa h17) t18 (newOa h7) (newOa q9.1) (newOh 9 h17) q19 eq19) ?_
    obtain ⟨h20, eh20, hf⟩ := Option.bind_eq_some_iff.mp hf
    refine r_putRF (dGet dX11_init (j := 53) rfl) F11_58 (by decide) eh20 ?_
    refine r_aload_n (dGet dX11_init (j := 54) rfl) nv0 rfl ?_
    refine r_newO (dGet dX11_init (j := 55) rfl) (by decide +kernel : pFind pNw 11 62 = some (4, 2156, 2157, 1011)) ?_
    refine r_dup (dGet dX11_init (j := 56) rfl) rfl ?_
    obtain ⟨q21, eq21, hf⟩ := Option.bind_eq_some_iff.mp hf
    refine r_special (dGet dX11_init (j := 57) rfl) (by decide +kernel) L11_64 M11 rfl rfl (Nat.le_of_ble_eq_true rfl) (oX4_init eq21) (cX4_init X N (d + 1) (newOa h20) (newOh 4 h20) q21 eq21) ?_
    obtain ⟨h22, eh22, hf⟩ := Option.bind_eq_some_iff.mp hf
    refine r_putRF (dGet dX11_init (j := 58) rfl) F11_65 (by decide) eh22 ?_
    refine r_aload_n (dGet dX11_init (j := 59) rfl) nv0 rfl ?_
    refine r_newO (dGet dX11_init (j := 60) rfl) (by decide +kernel : pFind pNw 11 69 = some (5, 2173, 2174, 1012)) ?_
    refine r_dup (dGet dX11_init (j := 61) rfl) rfl ?_
    refine r_aload_n (dGet dX11_init (j := 62) rfl) nv0 rfl ?_
    obtain ⟨t23, et23, hf⟩ := Option.bind_eq_some_iff.mp hf
    refine r_getR (dGet dX11_init (j := 63) rfl) F11_23 et23 ?_
    refine r_aload_n (dGet dX11_init (j := 64) rfl) n_newOa_h7_ rfl ?_
    refine r_aload_n (dGet dX11_init (j := 65) rfl) n_newOa_q9_1_ rfl ?_
    refine r_aload_n (dGet dX11_init (j := 66) rfl) nv0 rfl ?_
    obtain ⟨t24, et24, hf⟩ := Option.bind_eq_some_iff.mp hf
    refine r_getR (dGet dX11_init (j := 67) rfl) F11_65 et24 ?_
    obtain ⟨q25, eq25, hf⟩ := Option.bind_eq_some_iff.mp hf
    refine r_special (dGet dX11_init (j := 68) rfl) (by decide +kernel) L11_71 M12 rfl rfl (Nat.le_of_ble_eq_true rfl) (oX5_init eq25) (cX5_init X N (d + 0) (newOa h22) t23 (newOa h7) (newOa q9.1) t24 (newOh 5 h22) q25 eq25) ?_
    obtain ⟨h26, eh26, hf⟩ := Option.bind_eq_some_iff.mp hf
    refine r_putRF (dGet dX11_init (j := 69) rfl) F11_74 (by decide) eh26 ?_
    refine r_aload_n (dGet dX11_init (j := 70) rfl) nv0 rfl ?_
    refine r_iconst (dGet dX11_init (j := 71) rfl) kI_0 ?_
    obtain ⟨h27, eh27, hf⟩ := Option.bind_eq_some_iff.mp hf
    refine r_putI (dGet dX11_init (j := 72) rfl) F11_78 rfl rfl eh27 ?_
    refine r_aload_n (dGet dX11_init (j := 73) rfl) nv0 rfl ?_
    refine r_sipush (dGet dX11_init (j := 74) rfl) kS_1000 ?_
    obtain ⟨h28, eh28, hf⟩ := Option.bind_eq_some_iff.mp hf
    refine r_putI (dGet dX11_init (j := 75) rfl) F11_82 rfl rfl eh28 ?_
    refine r_aload_n (dGet dX11_init (j := 76) rfl) nv0 rfl ?_
    refine r_iconst (dGet dX11_init (j := 77) rfl) kI_0 ?_
    obtain ⟨h29, eh29, hf⟩ := Option.bind_eq_some_iff.mp hf
    refine r_putZ (dGet dX11_init (j := 78) rfl) F11_85 rfl rfl eh29 ?_
    have hq := Option.some.inj hf
    subst hq
    exact r_vret (dGet dX11_init (j := 79) rfl) rfl
  · rw [if_neg hc] at hf; cases hf
def eX12_init : List (Nat × Instr × Nat) := [(0, .aload_n 0, 1), (1, .invokespecial 1, 3), (4, .aload_n 0, 1), (5, .sipush 3000, 3), (8, .newarray .int, 2), (10, .putfield 7, 3), (13, .aload_n 0, 1), (14, .sipush 3100, 3), (17, .newarray .int, 2), (19, .putfield 13, 3), (22, .aload_n 0, 1), (23, .sipush 1600, 3), (26, .newarray .int, 2), (28, .putfield 16, 3), (31, .aload_n 0, 1), (32, .sipush 1600, 3), (35, .newarray .int, 2), (37, .putfield 19, 3), (40, .aload_n 0, 1), (41, .bipush 40, 2), (43, .newarray .int, 2), (45, .putfield 22, 3), (48, .aload_n 0, 1), (49, .sipush 3200, 3), (52, .newarray .int, 2), (54, .putfield 25, 3), (57, .aload_n 0, 1), (58, .sipush 3200, 3), (61, .newarray .int, 2), (63, .putfield 28, 3), (66, .aload_n 0, 1), (67, .sipush 3200, 3), (70, .newarray .int, 2), (72, .putfield 31, 3), (75, .aload_n 0, 1), (76, .sipush 3200, 3), (79, .newarray .int, 2), (81, .putfield 34, 3), (84, .aload_n 0, 1), (85, .sipush 3200, 3), (88, .newarray .int, 2), (90, .putfield 37, 3), (93, .aload_n 0, 1), (94, .sipush 3200, 3), (97, .newarray .int, 2), (99, .putfield 40, 3), (102, .aload_n 0, 1), (103, .sipush 3200, 3), (106, .newarray .int, 2), (108, .putfield 43, 3), (111, .aload_n 0, 1), (112, .sipush 1600, 3), (115, .newarray .int, 2), (117, .putfield 46, 3), (120, .aload_n 0, 1), (121, .sipush 1600, 3), (124, .newarray .int, 2), (126, .putfield 49, 3), (129, .aload_n 0, 1), (130, .sipush 1600, 3), (133, .newarray .int, 2), (135, .putfield 52, 3), (138, .aload_n 0, 1), (139, .sipush 1600, 3), (142, .newarray .int, 2), (144, .putfield 55, 3), (147, .aload_n 0, 1), (148, .sipush 1600, 3), (151, .newarray .int, 2), (153, .putfield 58, 3), (156, .aload_n 0, 1), (157, .sipush 1600, 3), (160, .newarray .int, 2), (162, .putfield 61, 3), (165, .aload_n 0, 1), (166, .sipush 1600, 3), (169, .newarray .int, 2), (171, .putfield 64, 3), (174, .aload_n 0, 1), (175, .sipush 1600, 3), (178, .newarray .int, 2), (180, .putfield 67, 3), (183, .aload_n 0, 1), (184, .sipush 1600, 3), (187, .newarray .int, 2), (189, .putfield 70, 3), (192, .aload_n 0, 1), (193, .sipush 1600, 3), (196, .newarray .int, 2), (198, .putfield 73, 3), (201, .aload_n 0, 1), (202, .sipush 1600, 3), (205, .newarray .int, 2), (207, .putfield 76, 3), (210, .aload_n 0, 1), (211, .sipush 350, 3), (214, .newarray .int, 2), (216, .putfield 79, 3), (219, .aload_n 0, 1), (220, .sipush 350, 3), (223, .newarray .int, 2), (225, .putfield 82, 3), (228, .aload_n 0, 1), (229, .sipush 350, 3), (232, .newarray .int, 2), (234, .putfield 85, 3), (237, .aload_n 0, 1), (238, .sipush 350, 3), (241, .newarray .int, 2), (243, .putfield 88, 3), (246, .aload_n 0, 1), (247, .sipush 350, 3), (250, .newarray .int, 2), (252, .putfield 91, 3), (255, .aload_n 0, 1), (256, .sipush 351, 3), (259, .newarray .int, 2), (261, .putfield 94, 3), (264, .aload_n 0, 1), (265, .sipush 800, 3), (268, .newarray .int, 2), (270, .putfield 97, 3), (273, .aload_n 0, 1), (274, .sipush 800, 3), (277, .newarray .int, 2), (279, .putfield 100, 3), (282, .aload_n 0, 1), (283, .sipush 800, 3), (286, .newarray .int, 2), (288, .putfield 103, 3), (291, .aload_n 0, 1), (292, .sipush 800, 3), (295, .newarray .boolean, 2), (297, .putfield 106, 3), (300, .aload_n 0, 1), (301, .sipush 801, 3), (304, .newarray .int, 2), (306, .putfield 110, 3), (309, .aload_n 0, 1), (310, .sipush 800, 3), (313, .newarray .int, 2), (315, .putfield 113, 3), (318, .aload_n 0, 1), (319, .sipush 800, 3), (322, .newarray .int, 2), (324, .putfield 116, 3), (327, .aload_n 0, 1), (328, .sipush 800, 3), (331, .newarray .int, 2), (333, .putfield 119, 3), (336, .aload_n 0, 1), (337, .sipush 900, 3), (340, .newarray .int, 2), (342, .putfield 122, 3), (345, .aload_n 0, 1), (346, .sipush 900, 3), (349, .newarray .int, 2), (351, .putfield 125, 3), (354, .aload_n 0, 1), (355, .sipush 1000, 3), (358, .newarray .int, 2), (360, .putfield 128, 3), (363, .aload_n 0, 1), (364, .sipush 1000, 3), (367, .newarray .int, 2), (369, .putfield 131, 3), (372, .aload_n 0, 1), (373, .sipush 1000, 3), (376, .newarray .boolean, 2), (378, .putfield 134, 3), (381, .aload_n 0, 1), (382, .ldc 137, 2), (384, .newarray .boolean, 2), (386, .putfield 138, 3), (389, .aload_n 0, 1), (390, .sipush 3200, 3), (393, .newarray .int, 2), (395, .putfield 141, 3), (398, .aload_n 0, 1), (399, .sipush 1000, 3), (402, .putfield 144, 3), (405, .aload_n 0, 1), (406, .sipush 500, 3), (409, .newarray .int, 2), (411, .putfield 148, 3), (414, .aload_n 0, 1), (415, .sipush 300, 3), (418, .newarray .int, 2), (420, .putfield 151, 3), (423, .aload_n 0, 1), (424, .sipush 5200, 3), (427, .newarray .int, 2), (429, .putfield 154, 3), (432, .aload_n 0, 1), (433, .sipush 5200, 3), (436, .newarray .int, 2), (438, .putfield 157, 3), (441, .aload_n 0, 1), (442, .sipush 5200, 3), (445, .newarray .int, 2), (447, .putfield 160, 3), (450, .aload_n 0, 1), (451, .sipush 5200, 3), (454, .newarray .boolean, 2), (456, .putfield 163, 3), (459, .aload_n 0, 1), (460, .sipush 5200, 3), (463, .newarray .int, 2), (465, .putfield 166, 3), (468, .aload_n 0, 1), (469, .sipush 5200, 3), (472, .newarray .int, 2), (474, .putfield 169, 3), (477, .aload_n 0, 1), (478, .sipush 12000, 3), (481, .newarray .int, 2), (483, .putfield 172, 3), (486, .aload_n 0, 1), (487, .sipush 12000, 3), (490, .newarray .boolean, 2), (492, .putfield 175, 3), (495, .aload_n 0, 1), (496, .bipush 101, 2), (498, .newarray .int, 2), (500, .putfield 178, 3), (503, .aload_n 0, 1), (504, .bipush 101, 2), (506, .newarray .int, 2), (508, .putfield 181, 3), (511, .aload_n 0, 1), (512, .bipush 101, 2), (514, .newarray .int, 2), (516, .putfield 184, 3), (519, .aload_n 0, 1), (520, .bipush 101, 2), (522, .newarray .int, 2), (524, .putfield 187, 3), (527, .aload_n 0, 1), (528, .ldc 190, 2), (530, .newarray .int, 2), (532, .putfield 191, 3), (535, .aload_n 0, 1), (536, .ldc 190, 2), (538, .newarray .boolean, 2), (540, .putfield 194, 3), (543, .aload_n 0, 1), (544, .ldc 197, 2), (546, .newarray .int, 2), (548, .putfield 198, 3), (551, .aload_n 0, 1), (552, .ldc 197, 2), (554, .newarray .boolean, 2), (556, .putfield 201, 3), (559, .aload_n 0, 1), (560, .ldc 204, 2), (562, .newarray .int, 2), (564, .putfield 205, 3), (567, .aload_n 0, 1), (568, .ldc 204, 2), (570, .newarray .int, 2), (572, .putfield 208, 3), (575, .aload_n 0, 1), (576, .sipush 6000, 3), (579, .newarray .int, 2), (581, .putfield 211, 3), (584, .aload_n 0, 1), (585, .sipush 6000, 3), (588, .newarray .int, 2), (590, .putfield 214, 3), (593, .aload_n 0, 1), (594, .iconst 0, 1), (595, .bipush 78, 2), (597, .bipush 117, 2), (599, .bipush 108, 2), (601, .bipush 108, 2), (603, .iconst 0, 1), (604, .iconst 0, 1), (605, .invokevirtual 217, 3), (608, .aload_n 0, 1), (609, .bipush 6, 2), (611, .bipush 66, 2), (613, .bipush 111, 2), (615, .bipush 117, 2), (617, .bipush 110, 2), (619, .bipush 100, 2), (621, .bipush 115, 2), (623, .invokevirtual 217, 3), (626, .aload_n 0, 1), (627, .bipush 12, 2), (629, .bipush 90, 2), (631, .bipush 101, 2), (633, .bipush 114, 2), (635, .bipush 111, 2), (637, .iconst 0, 1), (638, .iconst 0, 1), (639, .invokevirtual 217, 3), (642, .aload_n 0, 1), (643, .bipush 18, 2), (645, .bipush 67, 2), (647, .bipush 97, 2), (649, .bipush 115, 2), (651, .bipush 116, 2), (653, .iconst 0, 1), (654, .iconst 0, 1), (655, .invokevirtual 217, 3), (658, .aload_n 0, 1), (659, .bipush 24, 2), (661, .bipush 83, 2), (663, .bipush 105, 2), (665, .bipush 122, 2), (667, .bipush 101, 2), (669, .iconst 0, 1), (670, .iconst 0, 1), (671, .invokevirtual 217, 3), (674, .aload_n 0, 1), (675, .bipush 30, 2), (677, .bipush 77, 2), (679, .bipush 97, 2), (681, .bipush 105, 2), (683, .bipush 110, 2), (685, .iconst 0, 1), (686, .iconst 0, 1), (687, .invokevirtual 217, 3), (690, .return_, 1)]
theorem dX12_init : dChk (pCd 7004) eX12_init = true := by decide +kernel
def fX12_init (N : Nat) (v0 : Nat) (h : pH) : Option (pH × Nat × Nat) := if isO h v0 12 = true then (
  (if 6 ≤ v0 then some () else none).bind fun _ =>
  (newI (3000 : Int32) h).bind fun q2 =>
  (putR q2.2.1 v0 12 0 q2.1).bind fun h3 =>
  (newI (3100 : Int32) h3).bind fun q4 =>
  (putR q4.2.1 v0 12 2 q4.1).bind fun h5 =>
  (newI (1600 : Int32) h5).bind fun q6 =>
  (putR q6.2.1 v0 12 12 q6.1).bind fun h7 =>
  (newI (1600 : Int32) h7).bind fun q8 =>
  (putR q8.2.1 v0 12 13 q8.1).bind fun h9 =>
  (newI (40 : Int32) h9).bind fun q10 =>
  (putR q10.2.1 v0 12 14 q10.1).bind fun h11 =>
  (newI (3200 : Int32) h11).bind fun q12 =>
  (putR q12.2.1 v0 12 16 q12.1).bind fun h13 =>
  (newI (3200 : Int32) h13).bind fun q14 =>
  (putR q14.2.1 v0 12 17 q14.1).bind fun h15 =>
  (newI (3200 : Int32) h15).bind fun q16 =>
  (putR q16.2.1 v0 12 18 q16.1).bind fun h17 =>
  (newI (3200 : Int32) h17).bind fun q18 =>
  (putR q18.2.1 v0 12 19 q18.1).bind fun h19 =>
  (newI (3200 : Int32) h19).bind fun q20 =>
  (putR q20.2.1 v0 12 20 q20.1).bind fun h21 =>
  (newI (3200 : Int32) h21).bind fun q22 =>
  (putR q22.2.1 v0 12 22 q22.1).bind fun h23 =>
  (newI (3200 : Int32) h23).bind fun q24 =>
  (putR q24.2.1 v0 12 24 q24.1).bind fun h25 =>
  (newI (1600 : Int32) h25).bind fun q26 =>
  (putR q26.2.1 v0 12 26 q26.1).bind fun h27 =>
  (newI (1600 : Int32) h27).bind fun q28 =>
  (putR q28.2.1 v0 12 27 q28.1).bind fun h29 =>
  (newI (1600 : Int32) h29).bind fun q30 =>
  (putR q30.2.1 v0 12 28 q30.1).bind fun h31 =>
  (newI (1600 : Int32) h31).bind fun q32 =>
  (putR q32.2.1 v0 12 29 q32.1).bind fun h33 =>
  (newI (1600 : Int32) h33).bind fun q34 =>
  (putR q34.2.1 v0 12 30 q34.1).bind fun h35 =>
  (newI (1600 : Int32) h35).bind fun q36 =>
  (putR q36.2.1 v0 12 31 q36.1).bind fun h37 =>
  (newI (1600 : Int32) h37).bind fun q38 =>
  (putR q38.2.1 v0 12 32 q38.1).bind fun h39 =>
  (newI (1600 : Int32) h39).bind fun q40 =>
  (putR q40.2.1 v0 12 33 q40.1).bind fun h41 =>
  (newI (1600 : Int32) h41).bind fun q42 =>
  (putR q42.2.1 v0 12 34 q42.1).bind fun h43 =>
  (newI (1600 : Int32) h43).bind fun q44 =>
  (putR q44.2.1 v0 12 35 q44.1).bind fun h45 =>
  (newI (1600 : Int32) h45).bind fun q46 =>
  (putR q46.2.1 v0 12 36 q46.1).bind fun h47 =>
  (newI (350 : Int32) h47).bind fun q48 =>
  (putR q48.2.1 v0 12 38 q48.1).bind fun h49 =>
  (newI (350 : Int32) h49).bind fun q50 =>
  (putR q50.2.1 v0 12 39 q50.1).bind fun h51 =>
  (newI (350 : Int32) h51).bind fun q52 =>
  (putR q52.2.1 v0 12 40 q52.1).bind fun h53 =>
  (newI (350 : Int32) h53).bind fun q54 =>
  (putR q54.2.1 v0 12 41 q54.1).bind fun h55 =>
  (newI (350 : Int32) h55).bind fun q56 =>
  (putR q56.2.1 v0 12 42 q56.1).bind fun h57 =>
  (newI (351 : Int32) h57).bind fun q58 =>
  (putR q58.2.1 v0 12 43 q58.1).bind fun h59 =>
  (newI (800 : Int32) h59).bind fun q60 =>
  (putR q60.2.1 v0 12 45 q60.1).bind fun h61 =>
  (newI (800 : Int32) h61).bind fun q62 =>
  (putR q62.2.1 v0 12 46 q62.1).bind fun h63 =>
  (newI (800 : Int32) h63).bind fun q64 =>
  (putR q64.2.1 v0 12 47 q64.1).bind fun h65 =>
  (newZ (800 : Int32) h65).bind fun q66 =>
  (putR q66.2.1 v0 12 48 q66.1).bind fun h67 =>
  (newI (801 : Int32) h67).bind fun q68 =>
  (putR q68.2.1 v0 12 49 q68.1).bind fun h69 =>
  (newI (800 : Int32) h69).bind fun q70 =>
  (putR q70.2.1 v0 12 50 q70.1).bind fun h71 =>
  (newI (800 : Int32) h71).bind fun q72 =>
  (putR q72.2.1 v0 12 51 q72.1).bind fun h73 =>
  (newI (800 : Int32) h73).bind fun q74 =>
  (putR q74.2.1 v0 12 52 q74.1).bind fun h75 =>
  (newI (900 : Int32) h75).bind fun q76 =>
  (putR q76.2.1 v0 12 54 q76.1).bind fun h77 =>
  (newI (900 : Int32) h77).bind fun q78 =>
  (putR q78.2.1 v0 12 55 q78.1).bind fun h79 =>
  (newI (1000 : Int32) h79).bind fun q80 =>
  (putR q80.2.1 v0 12 63 q80.1).bind fun h81 =>
  (newI (1000 : Int32) h81).bind fun q82 =>
  (putR q82.2.1 v0 12 64 q82.1).bind fun h83 =>
  (newZ (1000 : Int32) h83).bind fun q84 =>
  (putR q84.2.1 v0 12 65 q84.1).bind fun h85 =>
  (newZ (100000 : Int32) h85).bind fun q86 =>
  (putR q86.2.1 v0 12 67 q86.1).bind fun h87 =>
  (newI (3200 : Int32) h87).bind fun q88 =>
  (putR q88.2.1 v0 12 68 q88.1).bind fun h89 =>
  (putI h89 v0 12 71 (1000 : Int32)).bind fun h90 =>
  (newI (500 : Int32) h90).bind fun q91 =>
  (putR q91.2.1 v0 12 79 q91.1).bind fun h92 =>
  (newI (300 : Int32) h92).bind fun q93 =>
  (putR q93.2.1 v0 12 81 q93.1).bind fun h94 =>
  (newI (5200 : Int32) h94).bind fun q95 =>
  (putR q95.2.1 v0 12 83 q95.1).bind fun h96 =>
  (newI (5200 : Int32) h96).bind fun q97 =>
  (putR q97.2.1 v0 12 84 q97.1).bind fun h98 =>
  (newI (5200 : Int32) h98).bind fun q99 =>
  (putR q99.2.1 v0 12 85 q99.1).bind fun h100 =>
  (newZ (5200 : Int32) h100).bind fun q101 =>
  (putR q101.2.1 v0 12 86 q101.1).bind fun h102 =>
  (newI (5200 : Int32) h102).bind fun q103 =>
  (putR q103.2.1 v0 12 87 q103.1).bind fun h104 =>
  (newI (5200 : Int32) h104).bind fun q105 =>
  (putR q105.2.1 v0 12 88 q105.1).bind fun h106 =>
  (newI (12000 : Int32) h106).bind fun q107 =>
  (putR q107.2.1 v0 12 91 q107.1).bind fun h108 =>
  (newZ (12000 : Int32) h108).bind fun q109 =>
  (putR q109.2.1 v0 12 92 q109.1).bind fun h110 =>
  (newI (101 : Int32) h110).bind fun q111 =>
  (putR q111.2.1 v0 12 94 q111.1).bind fun h112 =>
  (newI (101 : Int32) h112).bind fun q113 =>
  (putR q113.2.1 v0 12 95 q113.1).bind fun h114 =>
  (newI (101 : Int32) h114).bind fun q115 =>
  (putR q115.2.1 v0 12 96 q115.1).bind fun h116 =>
  (newI (101 : Int32) h116).bind fun q117 =>
  (putR q117.2.1 v0 12 97 q117.1).bind fun h118 =>
  (newI (90000 : Int32) h118).bind fun q119 =>
  (putR q119.2.1 v0 12 98 q119.1).bind fun h120 =>
  (newZ (90000 : Int32) h120).bind fun q121 =>
  (putR q121.2.1 v0 12 99 q121.1).bind fun h122 =>
  (newI (200000 : Int32) h122).bind fun q123 =>
  (putR q123.2.1 v0 12 101 q123.1).bind fun h124 =>
  (newZ (200000 : Int32) h124).bind fun q125 =>
  (putR q125.2.1 v0 12 102 q125.1).bind fun h126 =>
  (newI (400000 : Int32) h126).bind fun q127 =>
  (putR q127.2.1 v0 12 104 q127.1).bind fun h128 =>
  (newI (400000 : Int32) h128).bind fun q129 =>
  (putR q129.2.1 v0 12 105 q129.1).bind fun h130 =>
  (newI (6000 : Int32) h130).bind fun q131 =>
  (putR q131.2.1 v0 12 107 q131.1).bind fun h132 =>
  (newI (6000 : Int32) h132).bind fun q133 =>
  (putR q133.2.1 v0 12 108 q133.1).bind fun h134 =>
  (fX12_text N v0 (0 : Int32) (78 : Int32) (117 : Int32) (108 : Int32) (108 : Int32) (0 : Int32) (0 : Int32) h134).bind fun h135 =>
  (fX12_text N v0 (6 : Int32) (66 : Int32) (111 : Int32) (117 : Int32) (110 : Int32) (100 : Int32) (115 : Int32) h135).bind fun h136 =>
  (fX12_text N v0 (12 : Int32) (90 : Int32) (101 : Int32) (114 : Int32) (111 : Int32) (0 : Int32) (0 : Int32) h136).bind fun h137 =>
  (fX12_text N v0 (18 : Int32) (67 : Int32) (97 : Int32) (115 : Int32) (116 : Int32) (0 : Int32) (0 : Int32) h137).bind fun h138 =>
  (fX12_text N v0 (24 : Int32) (83 : Int32) (105 : Int32) (122 : Int32) (101 : Int32) (0 : Int32) (0 : Int32) h138).bind fun h139 =>
  (fX12_text N v0 (30 : Int32) (77 : Int32) (97 : Int32) (105 : Int32) (110 : Int32) (0 : Int32) (0 : Int32) h139).bind fun h140 =>
  some (h140, ((((((((((((((((((((((((((((((((((((((((((((((((((((((((((((((((((0 + 1) + 1) + 1) + 1) + 1) + 1) + 1) + 1) + 1) + 1) + 1) + 1) + 1) + 1) + 1) + 1) + 1) + 1) + 1) + 1) + 1) + 1) + 1) + 1) + 1) + 1) + 1) + 1) + 1) + 1) + 1) + 1) + 1) + 1) + 1) + 1) + 1) + 1) + 1) + 1) + 1) + 1) + 1) + 1) + 1) + 1) + 1) + 1) + 1) + 1) + 1) + 1) + 1) + 1) + 1) + 1) + 1) + 1) + 1) + 1) + 1) + 1) + 1) + 1) + 1) + 1), ((((((((((((((((((((((((((((((((((((((((((((((((((((((((((((((((((0 + q2.2.2) + q4.2.2) + q6.2.2) + q8.2.2) + q10.2.2) + q12.2.2) + q14.2.2) + q16.2.2) + q18.2.2) + q20.2.2) + q22.2.2) + q24.2.2) + q26.2.2) + q28.2.2) + q30.2.2) + q32.2.2) + q34.2.2) + q36.2.2) + q38.2.2) + q40.2.2) + q42.2.2) + q44.2.2) + q46.2.2) + q48.2.2) + q50.2.2) + q52.2.2) + q54.2.2) + q56.2.2) + q58.2.2) + q60.2.2) + q62.2.2) + q64.2.2) + q66.2.2) + q68.2.2) + q70.2.2) + q72.2.2) + q74.2.2) + q76.2.2) + q78.2.2) + q80.2.2) + q82.2.2) + q84.2.2) + q86.2.2) + q88.2.2) + q91.2.2) + q93.2.2) + q95.2.2) + q97.2.2) + q99.2.2) + q101.2.2) + q103.2.2) + q105.2.2) + q107.2.2) + q109.2.2) + q111.2.2) + q113.2.2) + q115.2.2) + q117.2.2) + q119.2.2) + q121.2.2) + q123.2.2) + q125.2.2) + q127.2.2) + q129.2.2) + q131.2.2) + q133.2.2))) else none
theorem oX12_init {N : Nat} {v0 : Nat} {h : pH} {q : pH × Nat × Nat} (hf : fX12_init N v0 h = some q) : isO h v0 12 = true := by
  unfold fX12_init at hf
  by_cases hc : isO h v0 12 = true
  · exact hc
  · rw [if_neg hc] at hf; cases hf
theorem cX12_init (X : pX) (N d : Nat) (v0 : Nat) (h : pH) (q : pH × Nat × Nat) (hf : fX12_init N v0 h = some q) : Calls X (d + 1) 229 [.ref v0] h (none, q.1, q.2.1, q.2.2) := by
  refine Calls.of M229 (Nat.le_of_ble_eq_true rfl) ?_
  show Run X (d + 1) 12 true (pCd 7004) 1 none 0 [(0, .ref v0)] [] h 0 0 (none, q.1, q.2.1, q.2.2)
  unfold fX12_init at hf
  by_cases hc : isO h v0 12 = true
  · rw [if_pos hc] at hf
    have nv0 : ¬ v0 = 4 := isO_ne hc
    refine r_aload_n (dGet dX12_init (j := 0) rfl) nv0 rfl ?_
    obtain ⟨_, ec1, hf⟩ := Option.bind_eq_some_iff.mp hf
    refine r_oinit (dGet dX12_init (j := 1) rfl) (by decide +kernel : pFind pOb 12 1 = some 7005) (guard_of ec1) (Nat.le_of_ble_eq_true rfl) ?_
    refine r_aload_n (dGet dX12_init (j := 2) rfl) nv0 rfl ?_
    refine r_sipush (dGet dX12_init (j := 3) rfl) kS_3000 ?_
    obtain ⟨q2, eq2, hf⟩ := Option.bind_eq_some_iff.mp hf
    refine r_newI (dGet dX12_init (j := 4) rfl) eq2 ?_
    obtain ⟨h3, eh3, hf⟩ := Option.bind_eq_some_iff.mp hf
    refine r_putRF (dGet dX12_init (j := 5) rfl) F12_7 (by decide) eh3 ?_
    refine r_aload_n (dGet dX12_init (j := 6) rfl) nv0 rfl ?_
    refine r_sipush (dGet dX12_init (j := 7) rfl) kS_3100 ?_
    obtain ⟨q4, eq4, hf⟩ := Option.bind_eq_some_iff.mp hf
    refine r_newI (dGet dX12_init (j := 8) rfl) eq4 ?_
    obtain ⟨h5, eh5, hf⟩ := Option.bind_eq_some_iff.mp hf
    refine r_putRF (dGet dX12_init (j := 9) rfl) F12_13 (by decide) eh5 ?_
    refine r_aload_n (dGet dX12_init (j := 10) rfl) nv0 rfl ?_
    refine r_sipush (dGet dX12_init (j := 11) rfl) kS_1600 ?_
    obtain ⟨q6, eq6, hf⟩ := Option.bind_eq_some_iff.mp hf
    refine r_newI (dGet dX12_init (j := 12) rfl) eq6 ?_
    obtain ⟨h7, eh7, hf⟩ := Option.bind_eq_some_iff.mp hf
    refine r_putRF (dGet dX12_init (j := 13) rfl) F12_16 (by decide) eh7 ?_
    refine r_aload_n (dGet dX12_init (j := 14) rfl) nv0 rfl ?_
    refine r_sipush (dGet dX12_init (j := 15) rfl) kS_1600 ?_
    obtain ⟨q8, eq8, hf⟩ := Option.bind_eq_some_iff.mp hf
    refine r_newI (dGet dX12_init (j := 16) rfl) eq8 ?_
    obtain ⟨h9, eh9, hf⟩ := Option.bind_eq_some_iff.mp hf
    refine r_putRF (dGet dX12_init (j := 17) rfl) F12_19 (by decide) eh9 ?_
    refine r_aload_n (dGet dX12_init (j := 18) rfl) nv0 rfl ?_
    refine r_bipush (dGet dX12_init (j := 19) rfl) kB_40 ?_
    obtain ⟨q10, eq10, hf⟩ := Option.bind_eq_some_iff.mp hf
    refine r_newI (dGet dX12_init (j := 20) rfl) eq10 ?_
    obtain ⟨h11, eh11, hf⟩ := Option.bind_eq_some_iff.mp hf
    refine r_putRF (dGet dX12_init (j := 21) rfl) F12_22 (by decide) eh11 ?_
    refine r_aload_n (dGet dX12_init (j := 22) rfl) nv0 rfl ?_
    refine r_sipush (dGet dX12_init (j := 23) rfl) kS_3200 ?_
    obtain ⟨q12, eq12, hf⟩ := Option.bind_eq_some_iff.mp hf
    refine r_newI (dGet dX12_init (j := 24) rfl) eq12 ?_
    obtain ⟨h13, eh13, hf⟩ := Option.bind_eq_some_iff.mp hf
    refine r_putRF (dGet dX12_init (j := 25) rfl) F12_25 (by decide) eh13 ?_
    refine r_aload_n (dGet dX12_init (j := 26) rfl) nv0 rfl ?_
    refine r_sipush (dGet dX12_init (j := 27) rfl) kS_3200 ?_
    obtain ⟨q14, eq14, hf⟩ := Option.bind_eq_some_iff.mp hf
    refine r_newI (dGet dX12_init (j := 28) rfl) eq14 ?_
    obtain ⟨h15, eh15, hf⟩ := Option.bind_eq_some_iff.mp hf
    refine r_putRF (dGet dX12_init (j := 29) rfl) F12_28 (by decide) eh15 ?_
    refine r_aload_n (dGet dX12_init (j := 30) rfl) nv0 rfl ?_
    refine r_sipush (dGet dX12_init (j := 31) rfl) kS_3200 ?_
    obtain ⟨q16, eq16, hf⟩ := Option.bind_eq_some_iff.mp hf
    refine r_newI (dGet dX12_init (j := 32) rfl) eq16 ?_
    obtain ⟨h17, eh17, hf⟩ := Option.bind_eq_some_iff.mp hf
    refine r_putRF (dGet dX12_init (j := 33) rfl) F12_31 (by decide) eh17 ?_
    refine r_aload_n (dGet dX12_init (j := 34) rfl) nv0 rfl ?_
    refine r_sipush (dGet dX12_init (j := 35) rfl) kS_3200 ?_
    obtain ⟨q18, eq18, hf⟩ := Option.bind_eq_some_iff.mp hf
    refine r_newI (dGet dX12_init (j := 36) rfl) eq18 ?_
    obtain ⟨h19, eh19, hf⟩ := Option.bind_eq_some_iff.mp hf
    refine r_putRF (dGet dX12_init (j := 37) rfl) F12_34 (by decide) eh19 ?_
    refine r_aload_n (dGet dX12_init (j := 38) rfl) nv0 rfl ?_
    refine r_sipush (dGet dX12_init (j := 39) rfl) kS_3200 ?_
    obtain ⟨q20, eq20, hf⟩ := Option.bind_eq_some_iff.mp hf
    refine r_newI (dGet dX12_init (j := 40) rfl) eq20 ?_
    obtain ⟨h21, eh21, hf⟩ := Option.bind_eq_some_iff.mp hf
    refine r_putRF (dGet dX12_init (j := 41) rfl) F12_37 (by decide) eh21 ?_
    refine r_aload_n (dGet dX12_init (j := 42) rfl) nv0 rfl ?_
    refine r_sipush (dGet dX12_init (j := 43) rfl) kS_3200 ?_
    obtain ⟨q22, eq22, hf⟩ := Option.bind_eq_some_iff.mp hf
    refine r_newI (dGet dX12_init (j := 44) rfl) eq22 ?_
    obtain ⟨h23, eh23, hf⟩ := Option.bind_eq_some_iff.mp hf
    refine r_putRF (dGet dX12_init (j := 45) rfl) F12_40 (by decide) eh23 ?_
    refine r_aload_n (dGet dX12_init (j := 46) rfl) nv0 rfl ?_
    refine r_sipush (dGet dX12_init (j := 47) rfl) kS_3200 ?_
    obtain ⟨q24, eq24, hf⟩ := Option.bind_eq_some_iff.mp hf
    refine r_newI (dGet dX12_init (j := 48) rfl) eq24 ?_
    obtain ⟨h25, eh25, hf⟩ := Option.bind_eq_some_iff.mp hf
    refine r_putRF (dGet dX12_init (j := 49) rfl) F12_43 (by decide) eh25 ?_
    refine r_aload_n (dGet dX12_init (j := 50) rfl) nv0 rfl ?_
    refine r_sipush (dGet dX12_init (j := 51) rfl) kS_1600 ?_
    obtain ⟨q26, eq26, hf⟩ := Option.bind_eq_some_iff.mp hf
    refine r_newI (dGet dX12_init (j := 52) rfl) eq26 ?_
    obtain ⟨h27, eh27, hf⟩ := Option.bind_eq_some_iff.mp hf
    refine r_putRF (dGet dX12_init (j := 53) rfl) F12_46 (by decide) eh27 ?_
    refine r_aload_n (dGet dX12_init (j := 54) rfl) nv0 rfl ?_
    refine r_sipush (dGet dX12_init (j := 55) rfl) kS_1600 ?_
    obtain ⟨q28, eq28, hf⟩ := Option.bind_eq_some_iff.mp hf
    refine r_newI (dGet dX12_init (j := 56) rfl) eq28 ?_
    obtain ⟨h29, eh29, hf⟩ := Option.bind_eq_some_iff.mp hf
    refine r_putRF (dGet dX12_init (j := 57) rfl) F12_49 (by decide) eh29 ?_
    refine r_aload_n (dGet dX12_init (j := 58) rfl) nv0 rfl ?_
    refine r_sipush (dGet dX12_init (j := 59) rfl) kS_1600 ?_
    obtain ⟨q30, eq30, hf⟩ := Option.bind_eq_some_iff.mp hf
    refine r_newI (dGet dX12_init (j := 60) rfl) eq30 ?_
    obtain ⟨h31, eh31, hf⟩ := Option.bind_eq_some_iff.mp hf
    refine r_putRF (dGet dX12_init (j := 61) rfl) F12_52 (by decide) eh31 ?_
    refine r_aload_n (dGet dX12_init (j := 62) rfl) nv0 rfl ?_
    refine r_sipush (dGet dX12_init (j := 63) rfl) kS_1600 ?_
    obtain ⟨q32, eq32, hf⟩ := Option.bind_eq_some_iff.mp hf
    refine r_newI (dGet dX12_init (j := 64) rfl) eq32 ?_
    obtain ⟨h33, eh33, hf⟩ := Option.bind_eq_some_iff.mp hf
    refine r_putRF (dGet dX12_init (j := 65) rfl) F12_55 (by decide) eh33 ?_
    refine r_aload_n (dGet dX12_init (j := 66) rfl) nv0 rfl ?_
    refine r_sipush (dGet dX12_init (j := 67) rfl) kS_1600 ?_
    obtain ⟨q34, eq34, hf⟩ := Option.bind_eq_some_iff.mp hf
    refine r_newI (dGet dX12_init (j := 68) rfl) eq34 ?_
    obtain ⟨h35, eh35, hf⟩ := Option.bind_eq_some_iff.mp hf
    refine r_putRF (dGet dX12_init (j := 69) rfl) F12_58 (by decide) eh35 ?_
    refine r_aload_n (dGet dX12_init (j := 70) rfl) nv0 rfl ?_
    refine r_sipush (dGet dX12_init (j := 71) rfl) kS_1600 ?_
    obtain ⟨q36, eq36, hf⟩ := Option.bind_eq_some_iff.mp hf
    refine r_newI (dGet dX12_init (j := 72) rfl) eq36 ?_
    obtain ⟨h37, eh37, hf⟩ := Option.bind_eq_some_iff.mp hf
    refine r_putRF (dGet dX12_init (j := 73) rfl) F12_61 (by decide) eh37 ?_
    refine r_aload_n (dGet dX12_init (j := 74) rfl) nv0 rfl ?_
    refine r_sipush (dGet dX12_init (j := 75) rfl) kS_1600 ?_
    obtain ⟨q38, eq38, hf⟩ := Option.bind_eq_some_iff.mp hf
    refine r_newI (dGet dX12_init (j := 76) rfl) eq38 ?_
    obtain ⟨h39, eh39, hf⟩ := Option.bind_eq_some_iff.mp hf
    refine r_putRF (dGet dX12_init (j := 77) rfl) F12_64 (by decide) eh39 ?_
    refine r_aload_n (dGet dX12_init (j := 78) rfl) nv0 rfl ?_
    refine r_sipush (dGet dX12_init (j := 79) rfl) kS_1600 ?_
    obtain ⟨q40, eq40, hf⟩ := Option.bind_eq_some_iff.mp hf
    refine r_newI (dGet dX12_init (j := 80) rfl) eq40 ?_
    obtain ⟨h41, eh41, hf⟩ := Option.bind_eq_some_iff.mp hf
    refine r_putRF (dGet dX12_init (j := 81) rfl) F12_67 (by decide) eh41 ?_
    refine r_aload_n (dGet dX12_init (j := 82) rfl) nv0 rfl ?_
    refine r_sipush (dGet dX12_init (j := 83) rfl) kS_1600 ?_
    obtain ⟨q42, eq42, hf⟩ := Option.bind_eq_some_iff.mp hf
    refine r_newI (dGet dX12_init (j := 84) rfl) eq42 ?_
    obtain ⟨h43, eh43, hf⟩ := Option.bind_eq_some_iff.mp hf
    refine r_putRF (dGet dX12_init (j := 85) rfl) F12_70 (by decide) eh43 ?_
    refine r_aload_n (dGet dX12_init (j := 86) rfl) nv0 rfl ?_
    refine r_sipush (dGet dX12_init (j := 87) rfl) kS_1600 ?_
    obtain ⟨q44, eq44, hf⟩ := Option.bind_eq_some_iff.mp hf
    refine r_newI (dGet dX12_init (j := 88) rfl) eq44 ?_
    obtain ⟨h45, eh45, hf⟩ := Option.bind_eq_some_iff.mp hf
    refine r_putRF (dGet dX12_init (j := 89) rfl) F12_73 (by decide) eh45 ?_
    refine r_aload_n (dGet dX12_init (j := 90) rfl) nv0 rfl ?_
    refine r_sipush (dGet dX12_init (j := 91) rfl) kS_1600 ?_
    obtain ⟨q46, eq46, hf⟩ := Option.bind_eq_some_iff.mp hf
    refine r_newI (dGet dX12_init (j := 92) rfl) eq46 ?_
    obtain ⟨h47, eh47, hf⟩ := Option.bind_eq_some_iff.mp hf
    refine r_putRF (dGet dX12_init (j := 93) rfl) F12_76 (by decide) eh47 ?_
    refine r_aload_n (dGet dX12_init (j := 94) rfl) nv0 rfl ?_
    refine r_sipush (dGet dX12_init (j := 95) rfl) kS_350 ?_
    obtain ⟨q48, eq48, hf⟩ := Option.bind_eq_some_iff.mp hf
    refine r_newI (dGet dX12_init (j := 96) rfl) eq48 ?_
    obtain ⟨h49, eh49, hf⟩ := Option.bind_eq_some_iff.mp hf
    refine r_putRF (dGet dX12_init (j := 97) rfl) F12_79 (by decide) eh49 ?_
    refine r_aload_n (dGet dX12_init (j := 98) rfl) nv0 rfl ?_
    refine r_sipush (dGet dX12_init (j := 99) rfl) kS_350 ?_
    obtain ⟨q50, eq50, hf⟩ := Option.bind_eq_some_iff.mp hf
    refine r_newI (dGet dX12_init (j := 100) rfl) eq50 ?_
    obtain ⟨h51, eh51, hf⟩ := Option.bind_eq_some_iff.mp hf
    refine r_putRF (dGet dX12_init (j := 101) rfl) F12_82 (by decide) eh51 ?_
    refine r_aload_n (dGet dX12_init (j := 102) rfl) nv0 rfl ?_
    refine r_sipush (dGet dX12_init (j := 103) rfl) kS_350 ?_
    obtain ⟨q52, eq52, hf⟩ := Option.bind_eq_some_iff.mp hf
    refine r_newI (dGet dX12_init (j := 104) rfl) eq52 ?_
    obtain ⟨h53, eh53, hf⟩ := Option.bind_eq_some_iff.mp hf
    refine r_putRF (dGet dX12_init (j := 105) rfl) F12_85 (by decide) eh53 ?_
    refine r_aload_n (dGet dX12_init (j := 106) rfl) nv0 rfl ?_
    refine r_sipush (dGet dX12_init (j := 107) rfl) kS_350 ?_
    obtain ⟨q54, eq54, hf⟩ := Option.bind_eq_some_iff.mp hf
    refine r_newI (dGet dX12_init (j := 108) rfl) eq54 ?_
    obtain ⟨h55, eh55, hf⟩ := Option.bind_eq_some_iff.mp hf
    refine r_putRF (dGet dX12_init (j := 109) rfl) F12_88 (by decide) eh55 ?_
    refine r_aload_n (dGet dX12_init (j := 110) rfl) nv0 rfl ?_
    refine r_sipush (dGet dX12_init (j := 111) rfl) kS_350 ?_
    obtain ⟨q56, eq56, hf⟩ := Option.bind_eq_some_iff.mp hf
    refine r_newI (dGet dX12_init (j := 112) rfl) eq56 ?_
    obtain ⟨h57, eh57, hf⟩ := Option.bind_eq_some_iff.mp hf
    refine r_putRF (dGet dX12_init (j := 113) rfl) F12_91 (by decide) eh57 ?_
    refine r_aload_n (dGet dX12_init (j := 114) rfl) nv0 rfl ?_
    refine r_sipush (dGet dX12_init (j := 115) rfl) kS_351 ?_
    obtain ⟨q58, eq58, hf⟩ := Option.bind_eq_some_iff.mp hf
    refine r_newI (dGet dX12_init (j := 116) rfl) eq58 ?_
    obtain ⟨h59, eh59, hf⟩ := Option.bind_eq_some_iff.mp hf
    refine r_putRF (dGet dX12_init (j := 117) rfl) F12_94 (by decide) eh59 ?_
    refine r_aload_n (dGet dX12_init (j := 118) rfl) nv0 rfl ?_
    refine r_sipush (dGet dX12_init (j := 119) rfl) kS_800 ?_
    obtain ⟨q60, eq60, hf⟩ := Option.bind_eq_some_iff.mp hf
    refine r_newI (dGet dX12_init (j := 120) rfl) eq60 ?_
    obtain ⟨h61, eh61, hf⟩ := Option.bind_eq_some_iff.mp hf
    refine r_putRF (dGet dX12_init (j := 121) rfl) F12_97 (by decide) eh61 ?_
    refine r_aload_n (dGet dX12_init (j := 122) rfl) nv0 rfl ?_
    refine r_sipush (dGet dX12_init (j := 123) rfl) kS_800 ?_
    obtain ⟨q62, eq62, hf⟩ := Option.bind_eq_some_iff.mp hf
    refine r_newI (dGet dX12_init (j := 124) rfl) eq62 ?_
    obtain ⟨h63, eh63, hf⟩ := Option.bind_eq_some_iff.mp hf
    refine r_putRF (dGet dX12_init (j := 125) rfl) F12_100 (by decide) eh63 ?_
    refine r_aload_n (dGet dX12_init (j := 126) rfl) nv0 rfl ?_
    refine r_sipush (dGet dX12_init (j := 127) rfl) kS_800 ?_
    obtain ⟨q64, eq64, hf⟩ := Option.bind_eq_some_iff.mp hf
    refine r_newI (dGet dX12_init (j := 128) rfl) eq64 ?_
    obtain ⟨h65, eh65, hf⟩ := Option.bind_eq_some_iff.mp hf
    refine r_putRF (dGet dX12_init (j := 129) rfl) F12_103 (by decide) eh65 ?_
    refine r_aload_n (dGet dX12_init (j := 130) rfl) nv0 rfl ?_
    refine r_sipush (dGet dX12_init (j := 131) rfl) kS_800 ?_
    obtain ⟨q66, eq66, hf⟩ := Option.bind_eq_some_iff.mp hf
    refine r_newZ (dGet dX12_init (j := 132) rfl) eq66 ?_
    obtain ⟨h67, eh67, hf⟩ := Option.bind_eq_some_iff.mp hf
    refine r_putRF (dGet dX12_init (j := 133) rfl) F12_106 (by decide) eh67 ?_
    refine r_aload_n (dGet dX12_init (j := 134) rfl) nv0 rfl ?_
    refine r_sipush (dGet dX12_init (j := 135) rfl) kS_801 ?_
    obtain ⟨q68, eq68, hf⟩ := Option.bind_eq_some_iff.mp hf
    refine r_newI (dGet dX12_init (j := 136) rfl) eq68 ?_
    obtain ⟨h69, eh69, hf⟩ := Option.bind_eq_some_iff.mp hf
    refine r_putRF (dGet dX12_init (j := 137) rfl) F12_110 (by decide) eh69 ?_
    refine r_aload_n (dGet dX12_init (j := 138) rfl) nv0 rfl ?_
    refine r_sipush (dGet dX12_init (j := 139) rfl) kS_800 ?_
    obtain ⟨q70, eq70, hf⟩ := Option.bind_eq_some_iff.mp hf
    refine r_newI (dGet dX12_init (j := 140) rfl) eq70 ?_
    obtain ⟨h71, eh71, hf⟩ := Option.bind_eq_some_iff.mp hf
    refine r_putRF (dGet dX12_init (j := 141) rfl) F12_113 (by decide) eh71 ?_
    refine r_aload_n (dGet dX12_init (j := 142) rfl) nv0 rfl ?_
    refine r_sipush (dGet dX12_init (j := 143) rfl) kS_800 ?_
    obtain ⟨q72, eq72, hf⟩ := Option.bind_eq_some_iff.mp hf
    refine r_newI (dGet dX12_init (j := 144) rfl) eq72 ?_
    obtain ⟨h73, eh73, hf⟩ := Option.bind_eq_some_iff.mp hf
    refine r_putRF (dGet dX12_init (j := 145) rfl) F12_116 (by decide) eh73 ?_
    refine r_aload_n (dGet dX12_init (j := 146) rfl) nv0 rfl ?_
    refine r_sipush (dGet dX12_init (j := 147) rfl) kS_800 ?_
    obtain ⟨q74, eq74, hf⟩ := Option.bind_eq_some_iff.mp hf
    refine r_newI (dGet dX12_init (j := 148) rfl) eq74 ?_
    obtain ⟨h75, eh75, hf⟩ := Option.bind_eq_some_iff.mp hf
    refine r_putRF (dGet dX12_init (j := 149) rfl) F12_119 (by decide) eh75 ?_
    refine r_aload_n (dGet dX12_init (j := 150) rfl) nv0 rfl ?_
    refine r_sipush (dGet dX12_init (j := 151) rfl) kS_900 ?_
    obtain ⟨q76, eq76, hf⟩ := Option.bind_eq_some_iff.mp hf
    refine r_newI (dGet dX12_init (j := 152) rfl) eq76 ?_
    obtain ⟨h77, eh77, hf⟩ := Option.bind_eq_some_iff.mp hf
    refine r_putRF (dGet dX12_init (j := 153) rfl) F12_122 (by decide) eh77 ?_
    refine r_aload_n (dGet dX12_init (j := 154) rfl) nv0 rfl ?_
    refine r_sipush (dGet dX12_init (j := 155) rfl) kS_900 ?_
    obtain ⟨q78, eq78, hf⟩ := Option.bind_eq_some_iff.mp hf
    refine r_newI (dGet dX12_init (j := 156) rfl) eq78 ?_
    obtain ⟨h79, eh79, hf⟩ := Option.bind_eq_some_iff.mp hf
    refine r_putRF (dGet dX12_init (j := 157) rfl) F12_125 (by decide) eh79 ?_
    refine r_aload_n (dGet dX12_init (j := 158) rfl) nv0 rfl ?_
    refine r_sipush (dGet dX12_init (j := 159) rfl) kS_1000 ?_
    obtain ⟨q80, eq80, hf⟩ := Option.bind_eq_some_iff.mp hf
    refine r_newI (dGet dX12_init (j := 160) rfl) eq80 ?_
    obtain ⟨h81, eh81, hf⟩ := Option.bind_eq_some_iff.mp hf
    refine r_putRF (dGet dX12_init (j := 161) rfl) F12_128 (by decide) eh81 ?_
    refine r_aload_n (dGet dX12_init (j := 162) rfl) nv0 rfl ?_
    refine r_sipush (dGet dX12_init (j := 163) rfl) kS_1000 ?_
    obtain ⟨q82, eq82, hf⟩ := Option.bind_eq_some_iff.mp hf
    refine r_newI (dGet dX12_init (j := 164) rfl) eq82 ?_
    obtain ⟨h83, eh83, hf⟩ := Option.bind_eq_some_iff.mp hf
    refine r_putRF (dGet dX12_init (j := 165) rfl) F12_131 (by decide) eh83 ?_
    refine r_aload_n (dGet dX12_init (j := 166) rfl) nv0 rfl ?_
    refine r_sipush (dGet dX12_init (j := 167) rfl) kS_1000 ?_
    obtain ⟨q84, eq84, hf⟩ := Option.bind_eq_some_iff.mp hf
    refine r_newZ (dGet dX12_init (j := 168) rfl) eq84 ?_
    obtain ⟨h85, eh85, hf⟩ := Option.bind_eq_some_iff.mp hf
    refine r_putRF (dGet dX12_init (j := 169) rfl) F12_134 (by decide) eh85 ?_
    refine r_aload_n (dGet dX12_init (j := 170) rfl) nv0 rfl ?_
    refine r_ldci (v := 100000) (dGet dX12_init (j := 171) rfl) (by decide +kernel) (by decide +kernel : pFind pKi 12 137 = some (100000, 7006)) ?_
    obtain ⟨q86, eq86, hf⟩ := Option.bind_eq_some_iff.mp hf
    refine r_newZ (dGet dX12_init (j := 172) rfl) eq86 ?_
    obtain ⟨h87, eh87, hf⟩ := Option.bind_eq_some_iff.mp hf
    refine r_putRF (dGet dX12_init (j := 173) rfl) F12_138 (by decide) eh87 ?_
    refine r_aload_n (dGet dX12_init (j := 174) rfl) nv0 rfl ?_
    refine r_sipush (dGet dX12_init (j := 175) rfl) kS_3200 ?_
    obtain ⟨q88, eq88, hf⟩ := Option.bind_eq_some_iff.mp hf
    refine r_newI (dGet dX12_init (j := 176) rfl) eq88 ?_
    obtain ⟨h89, eh89, hf⟩ := Option.bind_eq_some_iff.mp hf
    refine r_putRF (dGet dX12_init (j := 177) rfl) F12_141 (by decide) eh89 ?_
    refine r_aload_n (dGet dX12_init (j := 178) rfl) nv0 rfl ?_
    refine r_sipush (dGet dX12_init (j := 179) rfl) kS_1000 ?_
    obtain ⟨h90, eh90, hf⟩ := Option.bind_eq_some_iff.mp hf
    refine r_putI (dGet dX12_init (j := 180) rfl) F12_144 rfl rfl eh90 ?_
    refine r_aload_n (dGet dX12_init (j := 181) rfl) nv0 rfl ?_
    refine r_sipush (dGet dX12_init (j := 182) rfl) kS_500 ?_
    obtain ⟨q91, eq91, hf⟩ := Option.bind_eq_some_iff.mp hf
    refine r_newI (dGet dX12_init (j := 183) rfl) eq91 ?_
    obtain ⟨h92, eh92, hf⟩ := Option.bind_eq_some_iff.mp hf
    refine r_putRF (dGet dX12_init (j := 184) rfl) F12_148 (by decide) eh92 ?_
    refine r_aload_n (dGet dX12_init (j := 185) rfl) nv0 rfl ?_
    refine r_sipush (dGet dX12_init (j := 186) rfl) kS_300 ?_
    obtain ⟨q93, eq93, hf⟩ := Option.bind_eq_some_iff.mp hf
    refine r_newI (dGet dX12_init (j := 187) rfl) eq93 ?_
    obtain ⟨h94, eh94, hf⟩ := Option.bind_eq_some_iff.mp hf
    refine r_putRF (dGet dX12_init (j := 188) rfl) F12_151 (by decide) eh94 ?_
    refine r_aload_n (dGet dX12_init (j := 189) rfl) nv0 rfl ?_
    refine r_sipush (dGet dX12_init (j := 190) rfl) kS_5200 ?_
    obtain ⟨q95, eq95, hf⟩ := Option.bind_eq_some_iff.mp hf
    refine r_newI (dGet dX12_init (j := 191) rfl) eq95 ?_
    obtain ⟨h96, eh96, hf⟩ := Option.bind_eq_some_iff.mp hf
    refine r_putRF (dGet dX12_init (j := 192) rfl) F12_154 (by decide) eh96 ?_
    refine r_aload_n (dGet dX12_init (j := 193) rfl) nv0 rfl ?_
    refine r_sipush (dGet dX12_init (j := 194) rfl) kS_5200 ?_
    obtain ⟨q97, eq97, hf⟩ := Option.bind_eq_some_iff.mp hf
    refine r_newI (dGet dX12_init (j := 195) rfl) eq97 ?_
    obtain ⟨h98, eh98, hf⟩ := Option.bind_eq_some_iff.mp hf
    refine r_putRF (dGet dX12_init (j := 196) rfl) F12_157 (by decide) eh98 ?_
    refine r_aload_n (dGet dX12_init (j := 197) rfl) nv0 rfl ?_
    refine r_sipush (dGet dX12_init (j := 198) rfl) kS_5200 ?_
    obtain ⟨q99, eq99, hf⟩ := Option.bind_eq_some_iff.mp hf
    refine r_newI (dGet dX12_init (j := 199) rfl) eq99 ?_
    obtain ⟨h100, eh100, hf⟩ := Option.bind_eq_some_iff.mp hf
    refine r_putRF (dGet dX12_init (j := 200) rfl) F12_160 (by decide) eh100 ?_
    refine r_aload_n (dGet dX12_init (j := 201) rfl) nv0 rfl ?_
    refine r_sipush (dGet dX12_init (j := 202) rfl) kS_5200 ?_
    obtain ⟨q101, eq101, hf⟩ := Option.bind_eq_some_iff.mp hf
    refine r_newZ (dGet dX12_init (j := 203) rfl) eq101 ?_
    obtain ⟨h102, eh102, hf⟩ := Option.bind_eq_some_iff.mp hf
    refine r_putRF (dGet dX12_init (j := 204) rfl) F12_163 (by decide) eh102 ?_
    refine r_aload_n (dGet dX12_init (j := 205) rfl) nv0 rfl ?_
    refine r_sipush (dGet dX12_init (j := 206) rfl) kS_5200 ?_
    obtain ⟨q103, eq103, hf⟩ := Option.bind_eq_some_iff.mp hf
    refine r_newI (dGet dX12_init (j := 207) rfl) eq103 ?_
    obtain ⟨h104, eh104, hf⟩ := Option.bind_eq_some_iff.mp hf
    refine r_putRF (dGet dX12_init (j := 208) rfl) F12_166 (by decide) eh104 ?_
    refine r_aload_n (dGet dX12_init (j := 209) rfl) nv0 rfl ?_
    refine r_sipush (dGet dX12_init (j := 210) rfl) kS_5200 ?_
    obtain ⟨q105, eq105, hf⟩ := Option.bind_eq_some_iff.mp hf
    refine r_newI (dGet dX12_init (j := 211) rfl) eq105 ?_
    obtain ⟨h106, eh106, hf⟩ := Option.bind_eq_some_iff.mp hf
    refine r_putRF (dGet dX12_init (j := 212) rfl) F12_169 (by decide) eh106 ?_
    refine r_aload_n (dGet dX12_init (j := 213) rfl) nv0 rfl ?_
    refine r_sipush (dGet dX12_init (j := 214) rfl) kS_12000 ?_
    obtain ⟨q107, eq107, hf⟩ := Option.bind_eq_some_iff.mp hf
    refine r_newI (dGet dX12_init (j := 215) rfl) eq107 ?_
    obtain ⟨h108, eh108, hf⟩ := Option.bind_eq_some_iff.mp hf
    refine r_putRF (dGet dX12_init (j := 216) rfl) F12_172 (by decide) eh108 ?_
    refine r_aload_n (dGet dX12_init (j := 217) rfl) nv0 rfl ?_
    refine r_sipush (dGet dX12_init (j := 218) rfl) kS_12000 ?_
    obtain ⟨q109, eq109, hf⟩ := Option.bind_eq_some_iff.mp hf
    refine r_newZ (dGet dX12_init (j := 219) rfl) eq109 ?_
    obtain ⟨h110, eh110, hf⟩ := Option.bind_eq_some_iff.mp hf
    refine r_putRF (dGet dX12_init (j := 220) rfl) F12_175 (by decide) eh110 ?_
    refine r_aload_n (dGet dX12_init (j := 221) rfl) nv0 rfl ?_
    refine r_bipush (dGet dX12_init (j := 222) rfl) kB_101 ?_
    obtain ⟨q111, eq111, hf⟩ := Option.bind_eq_some_iff.mp hf
    refine r_newI (dGet dX12_init (j := 223) rfl) eq111 ?_
    obtain ⟨h112, eh112, hf⟩ := Option.bind_eq_some_iff.mp hf
    refine r_putRF (dGet dX12_init (j := 224) rfl) F12_178 (by decide) eh112 ?_
    refine r_aload_n (dGet dX12_init (j := 225) rfl) nv0 rfl ?_
    refine r_bipush (dGet dX12_init (j := 226) rfl) kB_101 ?_
    obtain ⟨q113, eq113, hf⟩ := Option.bind_eq_some_iff.mp hf
    refine r_newI (dGet dX12_init (j := 227) rfl) eq113 ?_
    obtain ⟨h114, eh114, hf⟩ := Option.bind_eq_some_iff.mp hf
    refine r_putRF (dGet dX12_init (j := 228) rfl) F12_181 (by decide) eh114 ?_
    refine r_aload_n (dGet dX12_init (j := 229) rfl) nv0 rfl ?_
    refine r_bipush (dGet dX12_init (j := 230) rfl) kB_101 ?_
    obtain ⟨q115, eq115, hf⟩ := Option.bind_eq_some_iff.mp hf
    refine r_newI (dGet dX12_init (j := 231) rfl) eq115 ?_
    obtain ⟨h116, eh116, hf⟩ := Option.bind_eq_some_iff.mp hf
    refine r_putRF (dGet dX12_init (j := 232) rfl) F12_184 (by decide) eh116 ?_
    refine r_aload_n (dGet dX12_init (j := 233) rfl) nv0 rfl ?_
    refine r_bipush (dGet dX12_init (j := 234) rfl) kB_101 ?_
    obtain ⟨q117, eq117, hf⟩ := Option.bind_eq_some_iff.mp hf
    refine r_newI (dGet dX12_init (j := 235) rfl) eq117 ?_
    obtain ⟨h118, eh118, hf⟩ := Option.bind_eq_some_iff.mp hf
    refine r_putRF (dGet dX12_init (j := 236) rfl) F12_187 (by decide) eh118 ?_
    refine r_aload_n (dGet dX12_init (j := 237) rfl) nv0 rfl ?_
    refine r_ldci (v := 90000) (dGet dX12_init (j := 238) rfl) (by decide +kernel) (by decide +kernel : pFind pKi 12 190 = some (90000, 7007)) ?_
    obtain ⟨q119, eq119, hf⟩ := Option.bind_eq_some_iff.mp hf
    refine r_newI (dGet dX12_init (j := 239) rfl) eq119 ?_
    obtain ⟨h120, eh120, hf⟩ := Option.bind_eq_some_iff.mp hf
    refine r_putRF (dGet dX12_init (j := 240) rfl) F12_191 (by decide) eh120 ?_
    refine r_aload_n (dGet dX12_init (j := 241) rfl) nv0 rfl ?_
    refine r_ldci (v := 90000) (dGet dX12_init (j := 242) rfl) (by decide +kernel) (by decide +kernel : pFind pKi 12 190 = some (90000, 7007)) ?_
    obtain ⟨q121, eq121, hf⟩ := Option.bind_eq_some_iff.mp hf
    refine r_newZ (dGet dX12_init (j := 243) rfl) eq121 ?_
    obtain ⟨h122, eh122, hf⟩ := Option.bind_eq_some_iff.mp hf
    refine r_putRF (dGet dX12_init (j := 244) rfl) F12_194 (by decide) eh122 ?_
    refine r_aload_n (dGet dX12_init (j := 245) rfl) nv0 rfl ?_
    refine r_ldci (v := 200000) (dGet dX12_init (j := 246) rfl) (by decide +kernel) (by decide +kernel : pFind pKi 12 197 = some (200000, 7008)) ?_
    obtain ⟨q123, eq123, hf⟩ := Option.bind_eq_some_iff.mp hf
    refine r_newI (dGet dX12_init (j := 247) rfl) eq123 ?_
    obtain ⟨h124, eh124, hf⟩ := Option.bind_eq_some_iff.mp hf
    refine r_putRF (dGet dX12_init (j := 248) rfl) F12_198 (by decide) eh124 ?_
    refine r_aload_n (dGet dX12_init (j := 249) rfl) nv0 rfl ?_
    refine r_ldci (v := 200000) (dGet dX12_init (j := 250) rfl) (by decide +kernel) (by decide +kernel : pFind pKi 12 197 = some (200000, 7008)) ?_
    obtain ⟨q125, eq125, hf⟩ := Option.bind_eq_some_iff.mp hf
    refine r_newZ (dGet dX12_init (j := 251) rfl) eq125 ?_
    obtain ⟨h126, eh126, hf⟩ := Option.bind_eq_some_iff.mp hf
    refine r_putRF (dGet dX12_init (j := 252) rfl) F12_201 (by decide) eh126 ?_
    refine r_aload_n (dGet dX12_init (j := 253) rfl) nv0 rfl ?_
    refine r_ldci (v := 400000) (dGet dX12_init (j := 254) rfl) (by decide +kernel) (by decide +kernel : pFind pKi 12 204 = some (400000, 7009)) ?_
    obtain ⟨q127, eq127, hf⟩ := Option.bind_eq_some_iff.mp hf
    refine r_newI (dGet dX12_init (j := 255) rfl) eq127 ?_
    obtain ⟨h128, eh128, hf⟩ := Option.bind_eq_some_iff.mp hf
    refine r_putRF (dGet dX12_init (j := 256) rfl) F12_205 (by decide) eh128 ?_
    refine r_aload_n (dGet dX12_init (j := 257) rfl) nv0 rfl ?_
    refine r_ldci (v := 400000) (dGet dX12_init (j := 258) rfl) (by decide +kernel) (by decide +kernel : pFind pKi 12 204 = some (400000, 7009)) ?_
    obtain ⟨q129, eq129, hf⟩ := Option.bind_eq_some_iff.mp hf
    refine r_newI (dGet dX12_init (j := 259) rfl) eq129 ?_
    obtain ⟨h130, eh130, hf⟩ := Option.bind_eq_some_iff.mp hf
    refine r_putRF (dGet dX12_init (j := 260) rfl) F12_208 (by decide) eh130 ?_
    refine r_aload_n (dGet dX12_init (j := 261) rfl) nv0 rfl ?_
    refine r_sipush (dGet dX12_init (j := 262) rfl) kS_6000 ?_
    obtain ⟨q131, eq131, hf⟩ := Option.bind_eq_some_iff.mp hf
    refine r_newI (dGet dX12_init (j := 263) rfl) eq131 ?_
    obtain ⟨h132, eh132, hf⟩ := Option.bind_eq_some_iff.mp hf
    refine r_putRF (dGet dX12_init (j := 264) rfl) F12_211 (by decide) eh132 ?_
    refine r_aload_n (dGet dX12_init (j := 265) rfl) nv0 rfl ?_
    refine r_sipush (dGet dX12_init (j := 266) rfl) kS_6000 ?_
    obtain ⟨q133, eq133, hf⟩ := Option.bind_eq_some_iff.mp hf
    refine r_newI (dGet dX12_init (j := 267) rfl) eq133 ?_
    obtain ⟨h134, eh134, hf⟩ := Option.bind_eq_some_iff.mp hf
    refine r_putRF (dGet dX12_init (j := 268) rfl) F12_214 (by decide) eh134 ?_
    refine r_aload_n (dGet dX12_init (j := 269) rfl) nv0 rfl ?_
    refine r_iconst (dGet dX12_init (j := 270) rfl) kI_0 ?_
    refine r_bipush (dGet dX12_init (j := 271) rfl) kB_78 ?_
    refine r_bipush (dGet dX12_init (j := 272) rfl) kB_117 ?_
    refine r_bipush (dGet dX12_init (j := 273) rfl) kB_108 ?_
    refine r_bipush (dGet dX12_init (j := 274) rfl) kB_108 ?_
    refine r_iconst (dGet dX12_init (j := 275) rfl) kI_0 ?_
    refine r_iconst (dGet dX12_init (j := 276) rfl) kI_0 ?_
    obtain ⟨h135, eh135, hf⟩ := Option.bind_eq_some_iff.mp hf
    refine r_virtual (dGet dX12_init (j := 277) rfl) L12_217 M230 rfl rfl (Nat.le_of_ble_eq_true rfl) (oX12_text eh135) (cX12_text X N (d + 0) v0 (0 : Int32) (78 : Int32) (117 : Int32) (108 : Int32) (108 : Int32) (0 : Int32) (0 : Int32) h134 h135 eh135) ?_
    refine r_aload_n (dGet dX12_init (j := 278) rfl) nv0 rfl ?_
    refine r_bipush (dGet dX12_init (j := 279) rfl) kB_6 ?_
    refine r_bipush (dGet dX12_init (j := 280) rfl) kB_66 ?_
    refine r_bipush (dGet dX12_init (j := 281) rfl) kB_111 ?_
    refine r_bipush (dGet dX12_init (j := 282) rfl) kB_117 ?_
    refine r_bipush (dGet dX12_init (j := 283) rfl) kB_110 ?_
    refine r_bipush (dGet dX12_init (j := 284) rfl) kB_100 ?_
    refine r_bipush (dGet dX12_init (j := 285) rfl) kB_115 ?_
    obtain ⟨h136, eh136, hf⟩ := Option.bind_eq_some_iff.mp hf
    refine r_virtual (dGet dX12_init (j := 286) rfl) L12_217 M230 rfl rfl (Nat.le_of_ble_eq_true rfl) (oX12_text eh136) (cX12_text X N (d + 0) v0 (6 : Int32) (66 : Int32) (111 : Int32) (117 : Int32) (110 : Int32) (100 : Int32) (115 : Int32) h135 h136 eh136) ?_
    refine r_aload_n (dGet dX12_init (j := 287) rfl) nv0 rfl ?_
    refine r_bipush (dGet dX12_init (j := 288) rfl) kB_12 ?_
    refine r_bipush (dGet dX12_init (j := 289) rfl) kB_90 ?_
    refine r_bipush (dGet dX12_init (j := 290) rfl) kB_101 ?_
    refine r_bipush (dGet dX12_init (j := 291) rfl) kB_114 ?_
    refine r_bipush (dGet dX12_init (j := 292) rfl) kB_111 ?_
    refine r_iconst (dGet dX12_init (j := 293) rfl) kI_0 ?_
    refine r_iconst (dGet dX12_init (j := 294) rfl) kI_0 ?_
    obtain ⟨h137, eh137, hf⟩ := Option.bind_eq_some_iff.mp hf
    refine r_virtual (dGet dX12_init (j := 295) rfl) L12_217 M230 rfl rfl (Nat.le_of_ble_eq_true rfl) (oX12_text eh137) (cX12_text X N (d + 0) v0 (12 : Int32) (90 : Int32) (101 : Int32) (114 : Int32) (111 : Int32) (0 : Int32) (0 : Int32) h136 h137 eh137) ?_
    refine r_aload_n (dGet dX12_init (j := 296) rfl) nv0 rfl ?_
    refine r_bipush (dGet dX12_init (j := 297) rfl) kB_18 ?_
    refine r_bipush (dGet dX12_init (j := 298) rfl) kB_67 ?_
    refine r_bipush (dGet dX12_init (j := 299) rfl) kB_97 ?_
    refine r_bipush (dGet dX12_init (j := 300) rfl) kB_115 ?_
    refine r_bipush (dGet dX12_init (j := 301) rfl) kB_116 ?_
    refine r_iconst (dGet dX12_init (j := 302) rfl) kI_0 ?_
    refine r_iconst (dGet dX12_init (j := 303) rfl) kI_0 ?_
    obtain ⟨h138, eh138, hf⟩ := Option.bind_eq_some_iff.mp hf
    refine r_virtual (dGet dX12_init (j := 304) rfl) L12_217 M230 rfl rfl (Nat.le_of_ble_eq_true rfl) (oX12_text eh138) (cX12_text X N (d + 0) v0 (18 : Int32) (67 : Int32) (97 : Int32) (115 : Int32) (116 : Int32) (0 : Int32) (0 : Int32) h137 h138 eh138) ?_
    refine r_aload_n (dGet dX12_init (j := 305) rfl) nv0 rfl ?_
    refine r_bipush (dGet dX12_init (j := 306) rfl) kB_24 ?_
    refine r_bipush (dGet dX12_init (j := 307) rfl) kB_83 ?_
    refine r_bipush (dGet dX12_init (j := 308) rfl) kB_105 ?_
    refine r_bipush (dGet dX12_init (j := 309) rfl) kB_122 ?_
    refine r_bipush (dGet dX12_init (j := 310) rfl) kB_101 ?_
    refine r_iconst (dGet dX12_init (j := 311) rfl) kI_0 ?_
    refine r_iconst (dGet dX12_init (j := 312) rfl) kI_0 ?_
    obtain ⟨h139, eh139, hf⟩ := Option.bind_eq_some_iff.mp hf
    refine r_virtual (dGet dX12_init (j := 313) rfl) L12_217 M230 rfl rfl (Nat.le_of_ble_eq_true rfl) (oX12_text eh139) (cX12_text X N (d + 0) v0 (24 : Int32) (83 : Int32) (105 : Int32) (122 : Int32) (101 : Int32) (0 : Int32) (0 : Int32) h138 h139 eh139) ?_
    refine r_aload_n (dGet dX12_init (j := 314) rfl) nv0 rfl ?_
    refine r_bipush (dGet dX12_init (j := 315) rfl) kB_30 ?_
    refine r_bipush (dGet dX12_init (j := 316) rfl) kB_77 ?_
    refine r_bipush (dGet dX12_init (j := 317) rfl) kB_97 ?_
    refine r_bipush (dGet dX12_init (j := 318) rfl) kB_105 ?_
    refine r_bipush (dGet dX12_init (j := 319) rfl) kB_110 ?_
    refine r_iconst (dGet dX12_init (j := 320) rfl) kI_0 ?_
    refine r_iconst (dGet dX12_init (j := 321) rfl) kI_0 ?_
    obtain ⟨h140, eh140, hf⟩ := Option.bind_eq_some_iff.mp hf
    refine r_virtual (dGet dX12_init (j := 322) rfl) L12_217 M230 rfl rfl (Nat.le_of_ble_eq_true rfl) (oX12_text eh140) (cX12_text X N (d + 0) v0 (30 : Int32) (77 : Int32) (97 : Int32) (105 : Int32) (110 : Int32) (0 : Int32) (0 : Int32) h139 h140 eh140) ?_
    have hq := Option.some.inj hf
    subst hq
    exact r_vret (dGet dX12_init (j := 323) rfl) rfl
  · rw [if_neg hc] at hf; cases hf
