def eX6_parameterNameOf : List (Nat × Instr × Nat) := [(0, .aload_n 0, 1), (1, .getfield 30, 3), (4, .iload_n 1, 1), (5, .iaload, 1), (6, .iload_n 2, 1), (7, .iadd, 1), (8, .istore_n 3, 1), (9, .iload_n 3, 1), (10, .aload_n 0, 1), (11, .getfield 55, 3), (14, .if_icmp .ge 12, 3), (17, .aload_n 0, 1), (18, .getfield 45, 3), (21, .iload_n 3, 1), (22, .iaload, 1), (23, .goto 4, 3), (26, .iconst (-1), 1), (27, .ireturn, 1)]
theorem dX6_parameterNameOf : dChk (pCd 4237) eX6_parameterNameOf = true := by decide +kernel
def fX6_parameterNameOf (N : Nat) (v0 : Nat) (v1 : Int32) (v2 : Int32) (h : pH) : Option (Int32 × pH) := if isO h v0 6 = true then (
  (getR h v0 6 6).bind fun t1 =>
  (ldI h t1 v1).bind fun t2 =>
  (getI h v0 6 14).bind fun t3 =>
  if t3 ≤ (t2 + v2) then (
  some ((-1 : Int32), h)) else (
  (getR h v0 6 12).bind fun t5 =>
  (ldI h t5 (t2 + v2)).bind fun t6 =>
  some (t6, h))) else none
theorem oX6_parameterNameOf {N : Nat} {v0 : Nat} {v1 : Int32} {v2 : Int32} {h : pH} {q : Int32 × pH} (hf : fX6_parameterNameOf N v0 v1 v2 h = some q) : isO h v0 6 = true := by
  unfold fX6_parameterNameOf at hf
  by_cases hc : isO h v0 6 = true
  · exact hc
  · rw [if_neg hc] at hf; cases hf
theorem cX6_parameterNameOf (X : pX) (N d : Nat) (v0 : Nat) (v1 : Int32) (v2 : Int32) (h : pH) (q : Int32 × pH) (hf : fX6_parameterNameOf N v0 v1 v2 h = some q) : Calls X (d + 0) 116 [.ref v0, .int v1, .int v2] h (some (.int q.1), q.2, 0, 0) := by
  refine Calls.of M116 (Nat.le_of_ble_eq_true rfl) ?_
  show Run X (d + 0) 6 false (pCd 4237) 4 (some .int) 0 [(0, .ref v0), (1, .int v1), (2, .int v2)] [] h 0 0 (some (.int q.1), q.2, 0, 0)
  unfold fX6_parameterNameOf at hf
  by_cases hc : isO h v0 6 = true
  · rw [if_pos hc] at hf
    have nv0 : ¬ v0 = 4 := isO_ne hc
    refine r_aload_n (dGet dX6_parameterNameOf (j := 0) rfl) nv0 rfl ?_
    obtain ⟨t1, et1, hf⟩ := Option.bind_eq_some_iff.mp hf
    refine r_getR (dGet dX6_parameterNameOf (j := 1) rfl) F6_30 et1 ?_
    refine r_iload_n (dGet dX6_parameterNameOf (j := 2) rfl) rfl ?_
    obtain ⟨t2, et2, hf⟩ := Option.bind_eq_some_iff.mp hf
    refine r_iald (dGet dX6_parameterNameOf (j := 3) rfl) et2 ?_
    refine r_iload_n (dGet dX6_parameterNameOf (j := 4) rfl) rfl ?_
    refine r_iadd (dGet dX6_parameterNameOf (j := 5) rfl) ?_
    refine r_istore_n (lv' := [(3, .int (t2 + v2)), (0, .ref v0), (1, .int v1), (2, .int v2)]) (dGet dX6_parameterNameOf (j := 6) rfl) (by decide) rfl ?_
    refine r_iload_n (dGet dX6_parameterNameOf (j := 7) rfl) rfl ?_
    refine r_aload_n (dGet dX6_parameterNameOf (j := 8) rfl) nv0 rfl ?_
    obtain ⟨t3, et3, hf⟩ := Option.bind_eq_some_iff.mp hf
    refine r_getI (dGet dX6_parameterNameOf (j := 9) rfl) F6_55 et3 ?_
    by_cases c4 : t3 ≤ (t2 + v2)
    · rw [if_pos c4] at hf
      refine r_icmp_ge_t (dGet dX6_parameterNameOf (j := 10) rfl) rfl c4 ?_
      refine r_iconst (dGet dX6_parameterNameOf (j := 16) rfl) kI_m1 ?_
      cases hf
      exact r_iret (dGet dX6_parameterNameOf (j := 17) rfl) rfl rfl
    · rw [if_neg c4] at hf
      refine r_icmp_ge_f (dGet dX6_parameterNameOf (j := 10) rfl) rfl c4 ?_
      refine r_aload_n (dGet dX6_parameterNameOf (j := 11) rfl) nv0 rfl ?_
      obtain ⟨t5, et5, hf⟩ := Option.bind_eq_some_iff.mp hf
      refine r_getR (dGet dX6_parameterNameOf (j := 12) rfl) F6_45 et5 ?_
      refine r_iload_n (dGet dX6_parameterNameOf (j := 13) rfl) rfl ?_
      obtain ⟨t6, et6, hf⟩ := Option.bind_eq_some_iff.mp hf
      refine r_iald (dGet dX6_parameterNameOf (j := 14) rfl) et6 ?_
      refine r_goto (dGet dX6_parameterNameOf (j := 15) rfl) rfl ?_
      cases hf
      exact r_iret (dGet dX6_parameterNameOf (j := 17) rfl) rfl rfl
  · rw [if_neg hc] at hf; cases hf
def eX6_parameterTypeOf : List (Nat × Instr × Nat) := [(0, .aload_n 0, 1), (1, .getfield 30, 3), (4, .iload_n 1, 1), (5, .iaload, 1), (6, .iload_n 2, 1), (7, .iadd, 1), (8, .istore_n 3, 1), (9, .iload_n 3, 1), (10, .aload_n 0, 1), (11, .getfield 55, 3), (14, .if_icmp .ge 12, 3), (17, .aload_n 0, 1), (18, .getfield 48, 3), (21, .iload_n 3, 1), (22, .iaload, 1), (23, .goto 5, 3), (26, .bipush (-6), 2), (28, .ireturn, 1)]
theorem dX6_parameterTypeOf : dChk (pCd 4233) eX6_parameterTypeOf = true := by decide +kernel
def fX6_parameterTypeOf (N : Nat) (v0 : Nat) (v1 : Int32) (v2 : Int32) (h : pH) : Option (Int32 × pH) := if isO h v0 6 = true then (
  (getR h v0 6 6).bind fun t1 =>
  (ldI h t1 v1).bind fun t2 =>
  (getI h v0 6 14).bind fun t3 =>
  if t3 ≤ (t2 + v2) then (
  some ((-6 : Int32), h)) else (
  (getR h v0 6 13).bind fun t5 =>
  (ldI h t5 (t2 + v2)).bind fun t6 =>
  some (t6, h))) else none
theorem oX6_parameterTypeOf {N : Nat} {v0 : Nat} {v1 : Int32} {v2 : Int32} {h : pH} {q : Int32 × pH} (hf : fX6_parameterTypeOf N v0 v1 v2 h = some q) : isO h v0 6 = true := by
  unfold fX6_parameterTypeOf at hf
  by_cases hc : isO h v0 6 = true
  · exact hc
  · rw [if_neg hc] at hf; cases hf
theorem cX6_parameterTypeOf (X : pX) (N d : Nat) (v0 : Nat) (v1 : Int32) (v2 : Int32) (h : pH) (q : Int32 × pH) (hf : fX6_parameterTypeOf N v0 v1 v2 h = some q) : Calls X (d + 0) 115 [.ref v0, .int v1, .int v2] h (some (.int q.1), q.2, 0, 0) := by
  refine Calls.of M115 (Nat.le_of_ble_eq_true rfl) ?_
  show Run X (d + 0) 6 false (pCd 4233) 4 (some .int) 0 [(0, .ref v0), (1, .int v1), (2, .int v2)] [] h 0 0 (some (.int q.1), q.2, 0, 0)
  unfold fX6_parameterTypeOf at hf
  by_cases hc : isO h v0 6 = true
  · rw [if_pos hc] at hf
    have nv0 : ¬ v0 = 4 := isO_ne hc
    refine r_aload_n (dGet dX6_parameterTypeOf (j := 0) rfl) nv0 rfl ?_
    obtain ⟨t1, et1, hf⟩ := Option.bind_eq_some_iff.mp hf
    refine r_getR (dGet dX6_parameterTypeOf (j := 1) rfl) F6_30 et1 ?_
    refine r_iload_n (dGet dX6_parameterTypeOf (j := 2) rfl) rfl ?_
    obtain ⟨t2, et2, hf⟩ := Option.bind_eq_some_iff.mp hf
    refine r_iald (dGet dX6_parameterTypeOf (j := 3) rfl) et2 ?_
    refine r_iload_n (dGet dX6_parameterTypeOf (j := 4) rfl) rfl ?_
    refine r_iadd (dGet dX6_parameterTypeOf (j := 5) rfl) ?_
    refine r_istore_n (lv' := [(3, .int (t2 + v2)), (0, .ref v0), (1, .int v1), (2, .int v2)]) (dGet dX6_parameterTypeOf (j := 6) rfl) (by decide) rfl ?_
    refine r_iload_n (dGet dX6_parameterTypeOf (j := 7) rfl) rfl ?_
    refine r_aload_n (dGet dX6_parameterTypeOf (j := 8) rfl) nv0 rfl ?_
    obtain ⟨t3, et3, hf⟩ := Option.bind_eq_some_iff.mp hf
    refine r_getI (dGet dX6_parameterTypeOf (j := 9) rfl) F6_55 et3 ?_
    by_cases c4 : t3 ≤ (t2 + v2)
    · rw [if_pos c4] at hf
      refine r_icmp_ge_t (dGet dX6_parameterTypeOf (j := 10) rfl) rfl c4 ?_
      refine r_bipush (dGet dX6_parameterTypeOf (j := 16) rfl) kB_m6 ?_
      cases hf
      exact r_iret (dGet dX6_parameterTypeOf (j := 17) rfl) rfl rfl
    · rw [if_neg c4] at hf
      refine r_icmp_ge_f (dGet dX6_parameterTypeOf (j := 10) rfl) rfl c4 ?_
      refine r_aload_n (dGet dX6_parameterTypeOf (j := 11) rfl) nv0 rfl ?_
      obtain ⟨t5, et5, hf⟩ := Option.bind_eq_some_iff.mp hf
      refine r_getR (dGet dX6_parameterTypeOf (j := 12) rfl) F6_48 et5 ?_
      refine r_iload_n (dGet dX6_parameterTypeOf (j := 13) rfl) rfl ?_
      obtain ⟨t6, et6, hf⟩ := Option.bind_eq_some_iff.mp hf
      refine r_iald (dGet dX6_parameterTypeOf (j := 14) rfl) et6 ?_
      refine r_goto (dGet dX6_parameterTypeOf (j := 15) rfl) rfl ?_
      cases hf
      exact r_iret (dGet dX6_parameterTypeOf (j := 17) rfl) rfl rfl
  · rw [if_neg hc] at hf; cases hf
def eX0_areParametersFine : List (Nat × Instr × Nat) := [(0, .iconst 0, 1), (1, .istore_n 2, 1), (2, .iload_n 2, 1), (3, .aload_n 0, 1), (4, .getfield 13, 3), (7, .getfield 102, 3), (10, .iload_n 1, 1), (11, .iaload, 1), (12, .if_icmp .ge 61, 3), (15, .aload_n 0, 1), (16, .getfield 13, 3), (19, .iload_n 1, 1), (20, .iload_n 2, 1), (21, .invokevirtual 105, 3), (24, .bipush (-6), 2), (26, .if_icmp .ne 5, 3), (29, .iconst 0, 1), (30, .ireturn, 1), (31, .iconst 0, 1), (32, .istore_n 3, 1), (33, .iload_n 3, 1), (34, .iload_n 2, 1), (35, .if_icmp .ge 32, 3), (38, .aload_n 0, 1), (39, .getfield 13, 3), (42, .iload_n 1, 1), (43, .iload_n 2, 1), (44, .invokevirtual 109, 3), (47, .aload_n 0, 1), (48, .getfield 13, 3), (51, .iload_n 1, 1), (52, .iload_n 3, 1), (53, .invokevirtual 109, 3), (56, .if_icmp .ne 5, 3), (59, .iconst 0, 1), (60, .ireturn, 1), (61, .iinc 3 1, 3), (64, .goto (-31), 3), (67, .iinc 2 1, 3), (70, .goto (-68), 3), (73, .iconst 1, 1), (74, .ireturn, 1)]
theorem dX0_areParametersFine : dChk (pCd 4229) eX0_areParametersFine = true := by decide +kernel
def fX0_areParametersFine_33 (N : Nat) (k2 : Nat → Int32 → Int32 → pH → Option (Int32 × pH)) : Nat → Nat → Int32 → Int32 → Int32 → pH → Option (Int32 × pH)
  | 0, _, _, _, _, _ => none
  | n + 1, v0, v1, v2, v3, h => if v2 ≤ v3 then (
  k2 v0 v1 (v2 + (1 : Int32)) h) else (
  (getR h v0 0 1).bind fun t2 =>
  (fX6_parameterNameOf N t2 v1 v2 h).bind fun q3 =>
  (getR q3.2 v0 0 1).bind fun t4 =>
  (fX6_parameterNameOf N t4 v1 v3 q3.2).bind fun q5 =>
  if q3.1 = q5.1 then (
  some ((0 : Int32), q5.2)) else (
  fX0_areParametersFine_33 N k2 n v0 v1 v2 (v3 + (1 : Int32)) q5.2))
theorem lX0_areParametersFine_33 (X : pX) (N d : Nat)  (k2 : Nat → Int32 → Int32 → pH → Option (Int32 × pH)) (K2 : ∀ (w0 : Nat) (w1 : Int32) (w2 : Int32) (h : pH) (q : Int32 × pH), k2 w0 w1 w2 h = some q → ¬ w0 = 4 → Run X (d + 1) 0 false (pCd 4229) 4 (some .boolean) 2 [(0, .ref w0), (1, .int w1), (2, .int w2)] [] h 0 0 (some (.int q.1), q.2, 0, 0)) : ∀ (n : Nat) (v0 : Nat) (v1 : Int32) (v2 : Int32) (v3 : Int32) (h : pH) (q : Int32 × pH), fX0_areParametersFine_33 N k2 n v0 v1 v2 v3 h = some q → ¬ v0 = 4 → Run X (d + 1) 0 false (pCd 4229) 4 (some .boolean) 33 [(0, .ref v0), (1, .int v1), (2, .int v2), (3, .int v3)] [] h 0 0 (some (.int q.1), q.2, 0, 0) := by
  intro n
  induction n with
  | zero => intro v0 v1 v2 v3 h q hf; cases hf
  | succ n ih =>
    intro v0 v1 v2 v3 h q hf nv0
    unfold fX0_areParametersFine_33 at hf
    refine r_iload_n (dGet dX0_areParametersFine (j := 20) rfl) rfl ?_
    refine r_iload_n (dGet dX0_areParametersFine (j := 21) rfl) rfl ?_
    by_cases c1 : v2 ≤ v3
    · rw [if_pos c1] at hf
      refine r_icmp_ge_t (dGet dX0_areParametersFine (j := 22) rfl) rfl c1 ?_
      refine r_iinc (lv' := [(2, .int (v2 + (1 : Int32))), (0, .ref v0), (1, .int v1), (3, .int v3)]) (dGet dX0_areParametersFine (j := 38) rfl) rfl (by decide) kI_1 rfl ?_
      refine r_goto (dGet dX0_areParametersFine (j := 39) rfl) rfl ?_
      refine Run.weak [(0, .ref v0), (1, .int v1), (2, .int (v2 + (1 : Int32)))] (by simp) (by simp [pNd]) ?_
      exact K2 v0 v1 (v2 + (1 : Int32)) h q hf nv0
    · rw [if_neg c1] at hf
      refine r_icmp_ge_f (dGet dX0_areParametersFine (j := 22) rfl) rfl c1 ?_
      refine r_aload_n (dGet dX0_areParametersFine (j := 23) rfl) nv0 rfl ?_
      obtain ⟨t2, et2, hf⟩ := Option.bind_eq_some_iff.mp hf
      refine r_getR (dGet dX0_areParametersFine (j := 24) rfl) F0_13 et2 ?_
      refine r_iload_n (dGet dX0_areParametersFine (j := 25) rfl) rfl ?_
      refine r_iload_n (dGet dX0_areParametersFine (j := 26) rfl) rfl ?_
      obtain ⟨q3, eq3, hf⟩ := Option.bind_eq_some_iff.mp hf
      refine r_virtual (dGet dX0_areParametersFine (j := 27) rfl) L0_109 M116 rfl rfl (Nat.le_of_ble_eq_true rfl) (oX6_parameterNameOf eq3) (cX6_parameterNameOf X N (d + 0) t2 v1 v2 h q3 eq3) ?_
      refine r_aload_n (dGet dX0_areParametersFine (j := 28) rfl) nv0 rfl ?_
      obtain ⟨t4, et4, hf⟩ := Option.bind_eq_some_iff.mp hf
      refine r_getR (dGet dX0_areParametersFine (j := 29) rfl) F0_13 et4 ?_
      refine r_iload_n (dGet dX0_areParametersFine (j := 30) rfl) rfl ?_
      refine r_iload_n (dGet dX0_areParametersFine (j := 31) rfl) rfl ?_
      obtain ⟨q5, eq5, hf⟩ := Option.bind_eq_some_iff.mp hf
      refine r_virtual (dGet dX0_areParametersFine (j := 32) rfl) L0_109 M116 rfl rfl (Nat.le_of_ble_eq_true rfl) (oX6_parameterNameOf eq5) (cX6_parameterNameOf X N (d + 0) t4 v1 v3 q3.2 q5 eq5) ?_
      by_cases c6 : q3.1 = q5.1
      · rw [if_pos c6] at hf
        refine r_icmp_ne_f (dGet dX0_areParametersFine (j := 33) rfl) rfl c6 ?_
        refine r_iconst (dGet dX0_areParametersFine (j := 34) rfl) kI_0 ?_
        cases hf
        exact r_iret (dGet dX0_areParametersFine (j := 35) rfl) rfl (by decide)
      · rw [if_neg c6] at hf
        refine r_icmp_ne_t (dGet dX0_areParametersFine (j := 33) rfl) rfl c6 ?_
        refine r_iinc (lv' := [(3, .int (v3 + (1 : Int32))), (0, .ref v0), (1, .int v1), (2, .int v2)]) (dGet dX0_areParametersFine (j := 36) rfl) rfl (by decide) kI_1 rfl ?_
        refine r_goto (dGet dX0_areParametersFine (j := 37) rfl) rfl ?_
        refine Run.weak [(0, .ref v0), (1, .int v1), (2, .int v2), (3, .int (v3 + (1 : Int32)))] (by simp) (by simp [pNd]) ?_
        exact ih v0 v1 v2 (v3 + (1 : Int32)) q5.2 q hf nv0
def fX0_areParametersFine_2 (N : Nat) : Nat → Nat → Int32 → Int32 → pH → Option (Int32 × pH)
  | 0, _, _, _, _ => none
  | n + 1, v0, v1, v2, h => (getR h v0 0 1).bind fun t7 =>
  (getR h t7 6 7).bind fun t8 =>
  (ldI h t8 v1).bind fun t9 =>
  if t9 ≤ v2 then (
  some ((1 : Int32), h)) else (
  (getR h v0 0 1).bind fun t11 =>
  (fX6_parameterTypeOf N t11 v1 v2 h).bind fun q12 =>
  if q12.1 = (-6 : Int32) then (
  some ((0 : Int32), q12.2)) else (
  fX0_areParametersFine_33 N (fX0_areParametersFine_2 N n) N v0 v1 v2 (0 : Int32) q12.2))
theorem lX0_areParametersFine_2 (X : pX) (N d : Nat)  : ∀ (n : Nat) (v0 : Nat) (v1 : Int32) (v2 : Int32) (h : pH) (q : Int32 × pH), fX0_areParametersFine_2 N n v0 v1 v2 h = some q → ¬ v0 = 4 → Run X (d + 1) 0 false (pCd 4229) 4 (some .boolean) 2 [(0, .ref v0), (1, .int v1), (2, .int v2)] [] h 0 0 (some (.int q.1), q.2, 0, 0) := by
  intro n
  induction n with
  | zero => intro v0 v1 v2 h q hf; cases hf
  | succ n ih =>
    intro v0 v1 v2 h q hf nv0
    unfold fX0_areParametersFine_2 at hf
    refine r_iload_n (dGet dX0_areParametersFine (j := 2) rfl) rfl ?_
    refine r_aload_n (dGet dX0_areParametersFine (j := 3) rfl) nv0 rfl ?_
    obtain ⟨t7, et7, hf⟩ := Option.bind_eq_some_iff.mp hf
    refine r_getR (dGet dX0_areParametersFine (j := 4) rfl) F0_13 et7 ?_
    obtain ⟨t8, et8, hf⟩ := Option.bind_eq_some_iff.mp hf
    refine r_getR (dGet dX0_areParametersFine (j := 5) rfl) F0_102 et8 ?_
    refine r_iload_n (dGet dX0_areParametersFine (j := 6) rfl) rfl ?_
    obtain ⟨t9, et9, hf⟩ := Option.bind_eq_some_iff.mp hf
    refine r_iald (dGet dX0_areParametersFine (j := 7) rfl) et9 ?_
    by_cases c10 : t9 ≤ v2
    · rw [if_pos c10] at hf
      refine r_icmp_ge_t (dGet dX0_areParametersFine (j := 8) rfl) rfl c10 ?_
      refine r_iconst (dGet dX0_areParametersFine (j := 40) rfl) kI_1 ?_
      cases hf
      exact r_iret (dGet dX0_areParametersFine (j := 41) rfl) rfl (by decide)
    · rw [if_neg c10] at hf
      refine r_icmp_ge_f (dGet dX0_areParametersFine (j := 8) rfl) rfl c10 ?_
      refine r_aload_n (dGet dX0_areParametersFine (j := 9) rfl) nv0 rfl ?_
      obtain ⟨t11, et11, hf⟩ := Option.bind_eq_some_iff.mp hf
      refine r_getR (dGet dX0_areParametersFine (j := 10) rfl) F0_13 et11 ?_
      refine r_iload_n (dGet dX0_areParametersFine (j := 11) rfl) rfl ?_
      refine r_iload_n (dGet dX0_areParametersFine (j := 12) rfl) rfl ?_
      obtain ⟨q12, eq12, hf⟩ := Option.bind_eq_some_iff.mp hf
      refine r_virtual (dGet dX0_areParametersFine (j := 13) rfl) L0_105 M115 rfl rfl (Nat.le_of_ble_eq_true rfl) (oX6_parameterTypeOf eq12) (cX6_parameterTypeOf X N (d + 0) t11 v1 v2 h q12 eq12) ?_
      refine r_bipush (dGet dX0_areParametersFine (j := 14) rfl) kB_m6 ?_
      by_cases c13 : q12.1 = (-6 : Int32)
      · rw [if_pos c13] at hf
        refine r_icmp_ne_f (dGet dX0_areParametersFine (j := 15) rfl) rfl c13 ?_
        refine r_iconst (dGet dX0_areParametersFine (j := 16) rfl) kI_0 ?_
        cases hf
        exact r_iret (dGet dX0_areParametersFine (j := 17) rfl) rfl (by decide)
      · rw [if_neg c13] at hf
        refine r_icmp_ne_t (dGet dX0_areParametersFine (j := 15) rfl) rfl c13 ?_
        refine r_iconst (dGet dX0_areParametersFine (j := 18) rfl) kI_0 ?_
        refine r_istore_n (lv' := [(3, .int (0 : Int32)), (0, .ref v0), (1, .int v1), (2, .int v2)]) (dGet dX0_areParametersFine (j := 19) rfl) (by decide) rfl ?_
        refine Run.weak [(0, .ref v0), (1, .int v1), (2, .int v2), (3, .int (0 : Int32))] (by simp) (by simp [pNd]) ?_
        exact lX0_areParametersFine_33 X N d (fX0_areParametersFine_2 N n) ih N v0 v1 v2 (0 : Int32) q12.2 q hf nv0
def fX0_areParametersFine (N : Nat) (v0 : Nat) (v1 : Int32) (h : pH) : Option (Int32 × pH) := if isO h v0 0 = true then (
  fX0_areParametersFine_2 N N v0 v1 (0 : Int32) h) else none
theorem oX0_areParametersFine {N : Nat} {v0 : Nat} {v1 : Int32} {h : pH} {q : Int32 × pH} (hf : fX0_areParametersFine N v0 v1 h = some q) : isO h v0 0 = true := by
  unfold fX0_areParametersFine at hf
  by_cases hc : isO h v0 0 = true
  · exact hc
  · rw [if_neg hc] at hf; cases hf
theorem cX0_areParametersFine (X : pX) (N d : Nat) (v0 : Nat) (v1 : Int32) (h : pH) (q : Int32 × pH) (hf : fX0_areParametersFine N v0 v1 h = some q) : Calls X (d + 1) 114 [.ref v0, .int v1] h (some (.int q.1), q.2, 0, 0) := by
  refine Calls.of M114 (Nat.le_of_ble_eq_true rfl) ?_
  show Run X (d + 1) 0 false (pCd 4229) 4 (some .boolean) 0 [(0, .ref v0), (1, .int v1)] [] h 0 0 (some (.int q.1), q.2, 0, 0)
  unfold fX0_areParametersFine at hf
  by_cases hc : isO h v0 0 = true
  · rw [if_pos hc] at hf
    have nv0 : ¬ v0 = 4 := isO_ne hc
    refine r_iconst (dGet dX0_areParametersFine (j := 0) rfl) kI_0 ?_
    refine r_istore_n (lv' := [(2, .int (0 : Int32)), (0, .ref v0), (1, .int v1)]) (dGet dX0_areParametersFine (j := 1) rfl) (by decide) rfl ?_
    refine Run.weak [(0, .ref v0), (1, .int v1), (2, .int (0 : Int32))] (by simp) (by simp [pNd]) ?_
    exact lX0_areParametersFine_2 X N d N v0 v1 (0 : Int32) h q hf nv0
  · rw [if_neg hc] at hf; cases hf
def eX0_isOnOwnWay : List (Nat × Instr × Nat) := [(0, .aload_n 0, 1), (1, .getfield 7, 3), (4, .iload_n 1, 1), (5, .invokevirtual 63, 3), (8, .istore_n 2, 1), (9, .iconst 0, 1), (10, .istore_n 3, 1), (11, .iload_n 3, 1), (12, .aload_n 0, 1), (13, .getfield 7, 3), (16, .getfield 38, 3), (19, .if_icmp .ge 30, 3), (22, .iload_n 2, 1), (23, .iconst (-1), 1), (24, .if_icmp .eq 25, 3), (27, .iload_n 2, 1), (28, .iload_n 1, 1), (29, .if_icmp .ne 5, 3), (32, .iconst 1, 1), (33, .ireturn, 1), (34, .aload_n 0, 1), (35, .getfield 7, 3), (38, .iload_n 2, 1), (39, .invokevirtual 63, 3), (42, .istore_n 2, 1), (43, .iinc 3 1, 3), (46, .goto (-35), 3), (49, .iconst 0, 1), (50, .ireturn, 1)]
theorem dX0_isOnOwnWay : dChk (pCd 4204) eX0_isOnOwnWay = true := by decide +kernel
def fX0_isOnOwnWay_11 (N : Nat) : Nat → Nat → Int32 → Int32 → Int32 → pH → Option (Int32 × pH)
  | 0, _, _, _, _, _ => none
  | n + 1, v0, v1, v2, v3, h => (getR h v0 0 0).bind fun t1 =>
  (getI h t1 1 7).bind fun t2 =>
  if t2 ≤ v3 then (
  some ((0 : Int32), h)) else (
  if v2 = (-1 : Int32) then (
  some ((0 : Int32), h)) else (
  if v2 = v1 then (
  some ((1 : Int32), h)) else (
  (getR h v0 0 0).bind fun t6 =>
  (fX1_parentOf N t6 v2 h).bind fun q7 =>
  fX0_isOnOwnWay_11 N n v0 v1 q7.1 (v3 + (1 : Int32)) q7.2)))
theorem lX0_isOnOwnWay_11 (X : pX) (N d : Nat)  : ∀ (n : Nat) (v0 : Nat) (v1 : Int32) (v2 : Int32) (v3 : Int32) (h : pH) (q : Int32 × pH), fX0_isOnOwnWay_11 N n v0 v1 v2 v3 h = some q → ¬ v0 = 4 → Run X (d + 1) 0 false (pCd 4204) 4 (some .boolean) 11 [(0, .ref v0), (1, .int v1), (2, .int v2), (3, .int v3)] [] h 0 0 (some (.int q.1), q.2, 0, 0) := by
  intro n
  induction n with
  | zero => intro v0 v1 v2 v3 h q hf; cases hf
  | succ n ih =>
    intro v0 v1 v2 v3 h q hf nv0
    unfold fX0_isOnOwnWay_11 at hf
    refine r_iload_n (dGet dX0_isOnOwnWay (j := 7) rfl) rfl ?_
    refine r_aload_n (dGet dX0_isOnOwnWay (j := 8) rfl) nv0 rfl ?_
    obtain ⟨t1, et1, hf⟩ := Option.bind_eq_some_iff.mp hf
    refine r_getR (dGet dX0_isOnOwnWay (j := 9) rfl) F0_7 et1 ?_
    obtain ⟨t2, et2, hf⟩ := Option.bind_eq_some_iff.mp hf
    refine r_getI (dGet dX0_isOnOwnWay (j := 10) rfl) F0_38 et2 ?_
    by_cases c3 : t2 ≤ v3
    · rw [if_pos c3] at hf
      refine r_icmp_ge_t (dGet dX0_isOnOwnWay (j := 11) rfl) rfl c3 ?_
      refine r_iconst (dGet dX0_isOnOwnWay (j := 27) rfl) kI_0 ?_
      cases hf
      exact r_iret (dGet dX0_isOnOwnWay (j := 28) rfl) rfl (by decide)
    · rw [if_neg c3] at hf
      refine r_icmp_ge_f (dGet dX0_isOnOwnWay (j := 11) rfl) rfl c3 ?_
      refine r_iload_n (dGet dX0_isOnOwnWay (j := 12) rfl) rfl ?_
      refine r_iconst (dGet dX0_isOnOwnWay (j := 13) rfl) kI_m1 ?_
      by_cases c4 : v2 = (-1 : Int32)
      · rw [if_pos c4] at hf
        refine r_icmp_eq_t (dGet dX0_isOnOwnWay (j := 14) rfl) rfl c4 ?_
        refine r_iconst (dGet dX0_isOnOwnWay (j := 27) rfl) kI_0 ?_
        cases hf
        exact r_iret (dGet dX0_isOnOwnWay (j := 28) rfl) rfl (by decide)
      · rw [if_neg c4] at hf
        refine r_icmp_eq_f (dGet dX0_isOnOwnWay (j := 14) rfl) rfl c4 ?_
        refine r_iload_n (dGet dX0_isOnOwnWay (j := 15) rfl) rfl ?_
        refine r_iload_n (dGet dX0_isOnOwnWay (j := 16) rfl) rfl ?_
        by_cases c5 : v2 = v1
        · rw [if_pos c5] at hf
          refine r_icmp_ne_f (dGet dX0_isOnOwnWay (j := 17) rfl) rfl c5 ?_
          refine r_iconst (dGet dX0_isOnOwnWay (j := 18) rfl) kI_1 ?_
          cases hf
          exact r_iret (dGet dX0_isOnOwnWay (j := 19) rfl) rfl (by decide)
        · rw [if_neg c5] at hf
          refine r_icmp_ne_t (dGet dX0_isOnOwnWay (j := 17) rfl) rfl c5 ?_
          refine r_aload_n (dGet dX0_isOnOwnWay (j := 20) rfl) nv0 rfl ?_
          obtain ⟨t6, et6, hf⟩ := Option.bind_eq_some_iff.mp hf
          refine r_getR (dGet dX0_isOnOwnWay (j := 21) rfl) F0_7 et6 ?_
          refine r_iload_n (dGet dX0_isOnOwnWay (j := 22) rfl) rfl ?_
          obtain ⟨q7, eq7, hf⟩ := Option.bind_eq_some_iff.mp hf
          refine r_virtual (dGet dX0_isOnOwnWay (j := 23) rfl) L0_63 M109 rfl rfl (Nat.le_of_ble_eq_true rfl) (oX1_parentOf eq7) (cX1_parentOf X N (d + 0) t6 v2 h q7 eq7) ?_
          refine r_istore_n (lv' := [(2, .int q7.1), (0, .ref v0), (1, .int v1), (3, .int v3)]) (dGet dX0_isOnOwnWay (j := 24) rfl) (by decide) rfl ?_
          refine r_iinc (lv' := [(3, .int (v3 + (1 : Int32))), (2, .int q7.1), (0, .ref v0), (1, .int v1)]) (dGet dX0_isOnOwnWay (j := 25) rfl) rfl (by decide) kI_1 rfl ?_
          refine r_goto (dGet dX0_isOnOwnWay (j := 26) rfl) rfl ?_
          refine Run.weak [(0, .ref v0), (1, .int v1), (2, .int q7.1), (3, .int (v3 + (1 : Int32)))] (by simp) (by simp [pNd]) ?_
          exact ih v0 v1 q7.1 (v3 + (1 : Int32)) q7.2 q hf nv0
def fX0_isOnOwnWay (N : Nat) (v0 : Nat) (v1 : Int32) (h : pH) : Option (Int32 × pH) := if isO h v0 0 = true then (
  (getR h v0 0 0).bind fun t8 =>
  (fX1_parentOf N t8 v1 h).bind fun q9 =>
  fX0_isOnOwnWay_11 N N v0 v1 q9.1 (0 : Int32) q9.2) else none
theorem oX0_isOnOwnWay {N : Nat} {v0 : Nat} {v1 : Int32} {h : pH} {q : Int32 × pH} (hf : fX0_isOnOwnWay N v0 v1 h = some q) : isO h v0 0 = true := by
  unfold fX0_isOnOwnWay at hf
  by_cases hc : isO h v0 0 = true
  · exact hc
  · rw [if_neg hc] at hf; cases hf
theorem cX0_isOnOwnWay (X : pX) (N d : Nat) (v0 : Nat) (v1 : Int32) (h : pH) (q : Int32 × pH) (hf : fX0_isOnOwnWay N v0 v1 h = some q) : Calls X (d + 1) 108 [.ref v0, .int v1] h (some (.int q.1), q.2, 0, 0) := by
  refine Calls.of M108 (Nat.le_of_ble_eq_true rfl) ?_
  show Run X (d + 1) 0 false (pCd 4204) 4 (some .boolean) 0 [(0, .ref v0), (1, .int v1)] [] h 0 0 (some (.int q.1), q.2, 0, 0)
  unfold fX0_isOnOwnWay at hf
  by_cases hc : isO h v0 0 = true
  · rw [if_pos hc] at hf
    have nv0 : ¬ v0 = 4 := isO_ne hc
    refine r_aload_n (dGet dX0_isOnOwnWay (j := 0) rfl) nv0 rfl ?_
    obtain ⟨t8, et8, hf⟩ := Option.bind_eq_some_iff.mp hf
    refine r_getR (dGet dX0_isOnOwnWay (j := 1) rfl) F0_7 et8 ?_
    refine r_iload_n (dGet dX0_isOnOwnWay (j := 2) rfl) rfl ?_
    obtain ⟨q9, eq9, hf⟩ := Option.bind_eq_some_iff.mp hf
    refine r_virtual (dGet dX0_isOnOwnWay (j := 3) rfl) L0_63 M109 rfl rfl (Nat.le_of_ble_eq_true rfl) (oX1_parentOf eq9) (cX1_parentOf X N (d + 0) t8 v1 h q9 eq9) ?_
    refine r_istore_n (lv' := [(2, .int q9.1), (0, .ref v0), (1, .int v1)]) (dGet dX0_isOnOwnWay (j := 4) rfl) (by decide) rfl ?_
    refine r_iconst (dGet dX0_isOnOwnWay (j := 5) rfl) kI_0 ?_
    refine r_istore_n (lv' := [(3, .int (0 : Int32)), (2, .int q9.1), (0, .ref v0), (1, .int v1)]) (dGet dX0_isOnOwnWay (j := 6) rfl) (by decide) rfl ?_
    refine Run.weak [(0, .ref v0), (1, .int v1), (2, .int q9.1), (3, .int (0 : Int32))] (by simp) (by simp [pNd]) ?_
    exact lX0_isOnOwnWay_11 X N d N v0 v1 q9.1 (0 : Int32) q9.2 q hf nv0
  · rw [if_neg hc] at hf; cases hf
def eX0_badClass : List (Nat × Instr × Nat) := [(0, .iconst 5, 1), (1, .istore_n 1, 1), (2, .iload_n 1, 1), (3, .aload_n 0, 1), (4, .getfield 7, 3), (7, .getfield 38, 3), (10, .if_icmp .ge 39, 3), (13, .aload_n 0, 1), (14, .getfield 7, 3), (17, .aload_n 0, 1), (18, .getfield 7, 3), (21, .getfield 42, 3), (24, .iload_n 1, 1), (25, .iaload, 1), (26, .invokevirtual 46, 3), (29, .iload_n 1, 1), (30, .if_icmp .eq 13, 3), (33, .aload_n 0, 1), (34, .getfield 7, 3), (37, .getfield 50, 3), (40, .iload_n 1, 1), (41, .iaload, 1), (42, .ireturn, 1), (43, .iinc 1 1, 3), (46, .goto (-44), 3), (49, .iconst 5, 1), (50, .istore_n 1, 1), (51, .iload_n 1, 1), (52, .aload_n 0, 1), (53, .getfield 7, 3), (56, .getfield 38, 3), (59, .if_icmp .ge 65, 3), (62, .aload_n 0, 1), (63, .getfield 7, 3), (66, .getfield 53, 3), (69, .iload_n 1, 1), (70, .iaload, 1), (71, .iconst (-1), 1), (72, .if_icmp .eq 46, 3), (75, .aload_n 0, 1), (76, .getfield 7, 3), (79, .aload_n 0, 1), (80, .getfield 7, 3), (83, .getfield 53, 3), (86, .iload_n 1, 1), (87, .iaload, 1), (88, .invokevirtual 46, 3), (91, .istore_n 2, 1), (92, .iload_n 2, 1), (93, .bipush (-6), 2), (95, .if_icmp .ne 13, 3), (98, .aload_n 0, 1), (99, .getfield 7, 3), (102, .getfield 50, 3), (105, .iload_n 1, 1), (106, .iaload, 1), (107, .ireturn, 1), (108, .aload_n 0, 1), (109, .getfield 7, 3), (112, .getfield 56, 3), (115, .iload_n 1, 1), (116, .iload_n 2, 1), (117, .iastore, 1), (118, .iinc 1 1, 3), (121, .goto (-70), 3), (124, .iconst 5, 1), (125, .istore_n 1, 1), (126, .iload_n 1, 1), (127, .aload_n 0, 1), (128, .getfield 7, 3), (131, .getfield 38, 3), (134, .if_icmp .ge 27, 3), (137, .aload_n 0, 1), (138, .iload_n 1, 1), (139, .invokevirtual 59, 3), (142, .ifCond .eq 13, 3), (145, .aload_n 0, 1), (146, .getfield 7, 3), (149, .getfield 50, 3), (152, .iload_n 1, 1), (153, .iaload, 1), (154, .ireturn, 1), (155, .iinc 1 1, 3), (158, .goto (-32), 3), (161, .iconst (-1), 1), (162, .ireturn, 1)]
theorem dX0_badClass : dChk (pCd 4196) eX0_badClass = true := by decide +kernel
def fX0_badClass_126 (N : Nat) : Nat → Nat → Int32 → pH → Option (Int32 × pH)
  | 0, _, _, _ => none
  | n + 1, v0, v1, h => (getR h v0 0 0).bind fun t1 =>
  (getI h t1 1 7).bind fun t2 =>
  if t2 ≤ v1 then (
  some ((-1 : Int32), h)) else (
  (fX0_isOnOwnWay N v0 v1 h).bind fun q4 =>
  if q4.1 = 0 then (
  fX0_badClass_126 N n v0 (v1 + (1 : Int32)) q4.2) else (
  (getR q4.2 v0 0 0).bind fun t6 =>
  (getR q4.2 t6 1 1).bind fun t7 =>
  (ldI q4.2 t7 v1).bind fun t8 =>
  some (t8, q4.2)))
theorem lX0_badClass_126 (X : pX) (N d : Nat)  : ∀ (n : Nat) (v0 : Nat) (v1 : Int32) (h : pH) (q : Int32 × pH), fX0_badClass_126 N n v0 v1 h = some q → ¬ v0 = 4 → Run X (d + 2) 0 false (pCd 4196) 3 (some .int) 126 [(0, .ref v0), (1, .int v1)] [] h 0 0 (some (.int q.1), q.2, 0, 0) := by
  intro n
  induction n with
  | zero => intro v0 v1 h q hf; cases hf
  | succ n ih =>
    intro v0 v1 h q hf nv0
    unfold fX0_badClass_126 at hf
    refine r_iload_n (dGet dX0_badClass (j := 67) rfl) rfl ?_
    refine r_aload_n (dGet dX0_badClass (j := 68) rfl) nv0 rfl ?_
    obtain ⟨t1, et1, hf⟩ := Option.bind_eq_some_iff.mp hf
    refine r_getR (dGet dX0_badClass (j := 69) rfl) F0_7 et1 ?_
    obtain ⟨t2, et2, hf⟩ := Option.bind_eq_some_iff.mp hf
    refine r_getI (dGet dX0_badClass (j := 70) rfl) F0_38 et2 ?_
    by_cases c3 : t2 ≤ v1
    · rw [if_pos c3] at hf
      refine r_icmp_ge_t (dGet dX0_badClass (j := 71) rfl) rfl c3 ?_
      refine r_iconst (dGet dX0_badClass (j := 84) rfl) kI_m1 ?_
      cases hf
      exact r_iret (dGet dX0_badClass (j := 85) rfl) rfl rfl
    · rw [if_neg c3] at hf
      refine r_icmp_ge_f (dGet dX0_badClass (j := 71) rfl) rfl c3 ?_
      refine r_aload_n (dGet dX0_badClass (j := 72) rfl) nv0 rfl ?_
      refine r_iload_n (dGet dX0_badClass (j := 73) rfl) rfl ?_
      obtain ⟨q4, eq4, hf⟩ := Option.bind_eq_some_iff.mp hf
      refine r_virtual (dGet dX0_badClass (j := 74) rfl) L0_59 M108 rfl rfl (Nat.le_of_ble_eq_true rfl) (oX0_isOnOwnWay eq4) (cX0_isOnOwnWay X N (d + 0) v0 v1 h q4 eq4) ?_
      by_cases c5 : q4.1 = 0
      · rw [if_pos c5] at hf
        refine r_if_eq_t (dGet dX0_badClass (j := 75) rfl) rfl c5 ?_
        refine r_iinc (lv' := [(1, .int (v1 + (1 : Int32))), (0, .ref v0)]) (dGet dX0_badClass (j := 82) rfl) rfl (by decide) kI_1 rfl ?_
        refine r_goto (dGet dX0_badClass (j := 83) rfl) rfl ?_
        refine Run.weak [(0, .ref v0), (1, .int (v1 + (1 : Int32)))] (by simp) (by simp [pNd]) ?_
        exact ih v0 (v1 + (1 : Int32)) q4.2 q hf nv0
      · rw [if_neg c5] at hf
        refine r_if_eq_f (dGet dX0_badClass (j := 75) rfl) rfl c5 ?_
        refine r_aload_n (dGet dX0_badClass (j := 76) rfl) nv0 rfl ?_
        obtain ⟨t6, et6, hf⟩ := Option.bind_eq_some_iff.mp hf
        refine r_getR (dGet dX0_badClass (j := 77) rfl) F0_7 et6 ?_
        obtain ⟨t7, et7, hf⟩ := Option.bind_eq_some_iff.mp hf
        refine r_getR (dGet dX0_badClass (j := 78) rfl) F0_50 et7 ?_
        refine r_iload_n (dGet dX0_badClass (j := 79) rfl) rfl ?_
        obtain ⟨t8, et8, hf⟩ := Option.bind_eq_some_iff.mp hf
        refine r_iald (dGet dX0_badClass (j := 80) rfl) et8 ?_
        cases hf
        exact r_iret (dGet dX0_badClass (j := 81) rfl) rfl rfl
def fX0_badClass_118 (N : Nat) (k51 : Nat → Int32 → pH → Option (Int32 × pH)) (v0 : Nat) (v1 : Int32) (h : pH) : Option (Int32 × pH) :=
  k51 v0 (v1 + (1 : Int32)) h
theorem lX0_badClass_118 (X : pX) (N d : Nat)  (k51 : Nat → Int32 → pH → Option (Int32 × pH)) (K51 : ∀ (w0 : Nat) (w1 : Int32) (h : pH) (q : Int32 × pH), k51 w0 w1 h = some q → ¬ w0 = 4 → Run X (d + 2) 0 false (pCd 4196) 3 (some .int) 51 [(0, .ref w0), (1, .int w1)] [] h 0 0 (some (.int q.1), q.2, 0, 0)) (v0 : Nat) (v1 : Int32) (h : pH) (q : Int32 × pH) (hf : fX0_badClass_118 N k51 v0 v1 h = some q) (nv0 : ¬ v0 = 4) : Run X (d + 2) 0 false (pCd 4196) 3 (some .int) 118 [(0, .ref v0), (1, .int v1)] [] h 0 0 (some (.int q.1), q.2, 0, 0) := by
  unfold fX0_badClass_118 at hf
  refine r_iinc (lv' := [(1, .int (v1 + (1 : Int32))), (0, .ref v0)]) (dGet dX0_badClass (j := 63) rfl) rfl (by decide) kI_1 rfl ?_
  refine r_goto (dGet dX0_badClass (j := 64) rfl) rfl ?_
  refine Run.weak [(0, .ref v0), (1, .int (v1 + (1 : Int32)))] (by simp) (by simp [pNd]) ?_
  exact K51 v0 (v1 + (1 : Int32)) h q hf nv0
def fX0_badClass_51 (N : Nat) : Nat → Nat → Int32 → pH → Option (Int32 × pH)
  | 0, _, _, _ => none
  | n + 1, v0, v1, h => (getR h v0 0 0).bind fun t9 =>
  (getI h t9 1 7).bind fun t10 =>
  if t10 ≤ v1 then (
  fX0_badClass_126 N N v0 (5 : Int32) h) else (
  (getR h v0 0 0).bind fun t12 =>
  (getR h t12 1 2).bind fun t13 =>
  (ldI h t13 v1).bind fun t14 =>
  if t14 = (-1 : Int32) then (
  fX0_badClass_118 N (fX0_badClass_51 N n) v0 v1 h) else (
  (getR h v0 0 0).bind fun t16 =>
  (getR h v0 0 0).bind fun t17 =>
  (getR h t17 1 2).bind fun t18 =>
  (ldI h t18 v1).bind fun t19 =>
  (fX1_find N t16 t19 h).bind fun q20 =>
  if q20.1 = (-6 : Int32) then (
  (getR q20.2 v0 0 0).bind fun t25 =>
  (getR q20.2 t25 1 1).bind fun t26 =>
  (ldI q20.2 t26 v1).bind fun t27 =>
  some (t27, q20.2)) else (
  (getR q20.2 v0 0 0).bind fun t22 =>
  (getR q20.2 t22 1 3).bind fun t23 =>
  (stI q20.2 t23 v1 q20.1).bind fun h24 =>
  fX0_badClass_118 N (fX0_badClass_51 N n) v0 v1 h24)))
theorem lX0_badClass_51 (X : pX) (N d : Nat)  : ∀ (n : Nat) (v0 : Nat) (v1 : Int32) (h : pH) (q : Int32 × pH), fX0_badClass_51 N n v0 v1 h = some q → ¬ v0 = 4 → Run X (d + 2) 0 false (pCd 4196) 3 (some .int) 51 [(0, .ref v0), (1, .int v1)] [] h 0 0 (some (.int q.1), q.2, 0, 0) := by
  intro n
  induction n with
  | zero => intro v0 v1 h q hf; cases hf
  | succ n ih =>
    intro v0 v1 h q hf nv0
    unfold fX0_badClass_51 at hf
    refine r_iload_n (dGet dX0_badClass (j := 27) rfl) rfl ?_
    refine r_aload_n (dGet dX0_badClass (j := 28) rfl) nv0 rfl ?_
    obtain ⟨t9, et9, hf⟩ := Option.bind_eq_some_iff.mp hf
    refine r_getR (dGet dX0_badClass (j := 29) rfl) F0_7 et9 ?_
    obtain ⟨t10, et10, hf⟩ := Option.bind_eq_some_iff.mp hf
    refine r_getI (dGet dX0_badClass (j := 30) rfl) F0_38 et10 ?_
    by_cases c11 : t10 ≤ v1
    · rw [if_pos c11] at hf
      refine r_icmp_ge_t (dGet dX0_badClass (j := 31) rfl) rfl c11 ?_
      refine r_iconst (dGet dX0_badClass (j := 65) rfl) kI_5 ?_
      refine r_istore_n (lv' := [(1, .int (5 : Int32)), (0, .ref v0)]) (dGet dX0_badClass (j := 66) rfl) (by decide) rfl ?_
      refine Run.weak [(0, .ref v0), (1, .int (5 : Int32))] (by simp) (by simp [pNd]) ?_
      exact lX0_badClass_126 X N d N v0 (5 : Int32) h q hf nv0
    · rw [if_neg c11] at hf
      refine r_icmp_ge_f (dGet dX0_badClass (j := 31) rfl) rfl c11 ?_
      refine r_aload_n (dGet dX0_badClass (j := 32) rfl) nv0 rfl ?_
      obtain ⟨t12, et12, hf⟩ := Option.bind_eq_some_iff.mp hf
      refine r_getR (dGet dX0_badClass (j := 33) rfl) F0_7 et12 ?_
      obtain ⟨t13, et13, hf⟩ := Option.bind_eq_some_iff.mp hf
      refine r_getR (dGet dX0_badClass (j := 34) rfl) F0_53 et13 ?_
      refine r_iload_n (dGet dX0_badClass (j := 35) rfl) rfl ?_
      obtain ⟨t14, et14, hf⟩ := Option.bind_eq_some_iff.mp hf
      refine r_iald (dGet dX0_badClass (j := 36) rfl) et14 ?_
      refine r_iconst (dGet dX0_badClass (j := 37) rfl) kI_m1 ?_
      by_cases c15 : t14 = (-1 : Int32)
      · rw [if_pos c15] at hf
        refine r_icmp_eq_t (dGet dX0_badClass (j := 38) rfl) rfl c15 ?_
        exact lX0_badClass_118 X N d (fX0_badClass_51 N n) ih v0 v1 h q hf nv0
      · rw [if_neg c15] at hf
        refine r_icmp_eq_f (dGet dX0_badClass (j := 38) rfl) rfl c15 ?_
        refine r_aload_n (dGet dX0_badClass (j := 39) rfl) nv0 rfl ?_
        obtain ⟨t16, et16, hf⟩ := Option.bind_eq_some_iff.mp hf
        refine r_getR (dGet dX0_badClass (j := 40) rfl) F0_7 et16 ?_
        refine r_aload_n (dGet dX0_badClass (j := 41) rfl) nv0 rfl ?_
        obtain ⟨t17, et17, hf⟩ := Option.bind_eq_some_iff.mp hf
        refine r_getR (dGet dX0_badClass (j := 42) rfl) F0_7 et17 ?_
        obtain ⟨t18, et18, hf⟩ := Option.bind_eq_some_iff.mp hf
        refine r_getR (dGet dX0_badClass (j := 43) rfl) F0_53 et18 ?_
        refine r_iload_n (dGet dX0_badClass (j := 44) rfl) rfl ?_
        obtain ⟨t19, et19, hf⟩ := Option.bind_eq_some_iff.mp hf
        refine r_iald (dGet dX0_badClass (j := 45) rfl) et19 ?_
        obtain ⟨q20, eq20, hf⟩ := Option.bind_eq_some_iff.mp hf
        refine r_virtual (dGet dX0_badClass (j := 46) rfl) L0_46 M107 rfl rfl (Nat.le_of_ble_eq_true rfl) (oX1_find eq20) (cX1_find X N (d + 1) t16 t19 h q20 eq20) ?_
        refine r_istore_n (lv' := [(2, .int q20.1), (0, .ref v0), (1, .int v1)]) (dGet dX0_badClass (j := 47) rfl) (by decide) rfl ?_
        refine r_iload_n (dGet dX0_badClass (j := 48) rfl) rfl ?_
        refine r_bipush (dGet dX0_badClass (j := 49) rfl) kB_m6 ?_
        by_cases c21 : q20.1 = (-6 : Int32)
        · rw [if_pos c21] at hf
          refine r_icmp_ne_f (dGet dX0_badClass (j := 50) rfl) rfl c21 ?_
          refine r_aload_n (dGet dX0_badClass (j := 51) rfl) nv0 rfl ?_
          obtain ⟨t25, et25, hf⟩ := Option.bind_eq_some_iff.mp hf
          refine r_getR (dGet dX0_badClass (j := 52) rfl) F0_7 et25 ?_
          obtain ⟨t26, et26, hf⟩ := Option.bind_eq_some_iff.mp hf
          refine r_getR (dGet dX0_badClass (j := 53) rfl) F0_50 et26 ?_
          refine r_iload_n (dGet dX0_badClass (j := 54) rfl) rfl ?_
          obtain ⟨t27, et27, hf⟩ := Option.bind_eq_some_iff.mp hf
          refine r_iald (dGet dX0_badClass (j := 55) rfl) et27 ?_
          cases hf
          exact r_iret (dGet dX0_badClass (j := 56) rfl) rfl rfl
        · rw [if_neg c21] at hf
          refine r_icmp_ne_t (dGet dX0_badClass (j := 50) rfl) rfl c21 ?_
          refine r_aload_n (dGet dX0_badClass (j := 57) rfl) nv0 rfl ?_
          obtain ⟨t22, et22, hf⟩ := Option.bind_eq_some_iff.mp hf
          refine r_getR (dGet dX0_badClass (j := 58) rfl) F0_7 et22 ?_
          obtain ⟨t23, et23, hf⟩ := Option.bind_eq_some_iff.mp hf
          refine r_getR (dGet dX0_badClass (j := 59) rfl) F0_56 et23 ?_
          refine r_iload_n (dGet dX0_badClass (j := 60) rfl) rfl ?_
          refine r_iload_n (dGet dX0_badClass (j := 61) rfl) rfl ?_
          obtain ⟨h24, eh24, hf⟩ := Option.bind_eq_some_iff.mp hf
          refine r_iast (dGet dX0_badClass (j := 62) rfl) eh24 ?_
          refine Run.weak [(0, .ref v0), (1, .int v1)] (by simp) (by simp [pNd]) ?_
          exact lX0_badClass_118 X N d (fX0_badClass_51 N n) ih v0 v1 h24 q hf nv0
def fX0_badClass_2 (N : Nat) : Nat → Nat → Int32 → pH → Option (Int32 × pH)
  | 0, _, _, _ => none
  | n + 1, v0, v1, h => (getR h v0 0 0).bind fun t28 =>
  (getI h t28 1 7).bind fun t29 =>
  if t29 ≤ v1 then (
  fX0_badClass_51 N N v0 (5 : Int32) h) else (
  (getR h v0 0 0).bind fun t31 =>
  (getR h v0 0 0).bind fun t32 =>
  (getR h t32 1 0).bind fun t33 =>
  (ldI h t33 v1).bind fun t34 =>
  (fX1_find N t31 t34 h).bind fun q35 =>
  if q35.1 = v1 then (
  fX0_badClass_2 N n v0 (v1 + (1 : Int32)) q35.2) else (
  (getR q35.2 v0 0 0).bind fun t37 =>
  (getR q35.2 t37 1 1).bind fun t38 =>
  (ldI q35.2 t38 v1).bind fun t39 =>
  some (t39, q35.2)))
theorem lX0_badClass_2 (X : pX) (N d : Nat)  : ∀ (n : Nat) (v0 : Nat) (v1 : Int32) (h : pH) (q : Int32 × pH), fX0_badClass_2 N n v0 v1 h = some q → ¬ v0 = 4 → Run X (d + 2) 0 false (pCd 4196) 3 (some .int) 2 [(0, .ref v0), (1, .int v1)] [] h 0 0 (some (.int q.1), q.2, 0, 0) := by
  intro n
  induction n with
  | zero => intro v0 v1 h q hf; cases hf
  | succ n ih =>
    intro v0 v1 h q hf nv0
    unfold fX0_badClass_2 at hf
    refine r_iload_n (dGet dX0_badClass (j := 2) rfl) rfl ?_
    refine r_aload_n (dGet dX0_badClass (j := 3) rfl) nv0 rfl ?_
    obtain ⟨t28, et28, hf⟩ := Option.bind_eq_some_iff.mp hf
    refine r_getR (dGet dX0_badClass (j := 4) rfl) F0_7 et28 ?_
    obtain ⟨t29, et29, hf⟩ := Option.bind_eq_some_iff.mp hf
    refine r_getI (dGet dX0_badClass (j := 5) rfl) F0_38 et29 ?_
    by_cases c30 : t29 ≤ v1
    · rw [if_pos c30] at hf
      refine r_icmp_ge_t (dGet dX0_badClass (j := 6) rfl) rfl c30 ?_
      refine r_iconst (dGet dX0_badClass (j := 25) rfl) kI_5 ?_
      refine r_istore_n (lv' := [(1, .int (5 : Int32)), (0, .ref v0)]) (dGet dX0_badClass (j := 26) rfl) (by decide) rfl ?_
      refine Run.weak [(0, .ref v0), (1, .int (5 : Int32))] (by simp) (by simp [pNd]) ?_
      exact lX0_badClass_51 X N d N v0 (5 : Int32) h q hf nv0
    · rw [if_neg c30] at hf
      refine r_icmp_ge_f (dGet dX0_badClass (j := 6) rfl) rfl c30 ?_
      refine r_aload_n (dGet dX0_badClass (j := 7) rfl) nv0 rfl ?_
      obtain ⟨t31, et31, hf⟩ := Option.bind_eq_some_iff.mp hf
      refine r_getR (dGet dX0_badClass (j := 8) rfl) F0_7 et31 ?_
      refine r_aload_n (dGet dX0_badClass (j := 9) rfl) nv0 rfl ?_
      obtain ⟨t32, et32, hf⟩ := Option.bind_eq_some_iff.mp hf
      refine r_getR (dGet dX0_badClass (j := 10) rfl) F0_7 et32 ?_
      obtain ⟨t33, et33, hf⟩ := Option.bind_eq_some_iff.mp hf
      refine r_getR (dGet dX0_badClass (j := 11) rfl) F0_42 et33 ?_
      refine r_iload_n (dGet dX0_badClass (j := 12) rfl) rfl ?_
      obtain ⟨t34, et34, hf⟩ := Option.bind_eq_some_iff.mp hf
      refine r_iald (dGet dX0_badClass (j := 13) rfl) et34 ?_
      obtain ⟨q35, eq35, hf⟩ := Option.bind_eq_some_iff.mp hf
      refine r_virtual (dGet dX0_badClass (j := 14) rfl) L0_46 M107 rfl rfl (Nat.le_of_ble_eq_true rfl) (oX1_find eq35) (cX1_find X N (d + 1) t31 t34 h q35 eq35) ?_
      refine r_iload_n (dGet dX0_badClass (j := 15) rfl) rfl ?_
      by_cases c36 : q35.1 = v1
      · rw [if_pos c36] at hf
        refine r_icmp_eq_t (dGet dX0_badClass (j := 16) rfl) rfl c36 ?_
        refine r_iinc (lv' := [(1, .int (v1 + (1 : Int32))), (0, .ref v0)]) (dGet dX0_badClass (j := 23) rfl) rfl (by decide) kI_1 rfl ?_
        refine r_goto (dGet dX0_badClass (j := 24) rfl) rfl ?_
        refine Run.weak [(0, .ref v0), (1, .int (v1 + (1 : Int32)))] (by simp) (by simp [pNd]) ?_
        exact ih v0 (v1 + (1 : Int32)) q35.2 q hf nv0
      · rw [if_neg c36] at hf
        refine r_icmp_eq_f (dGet dX0_badClass (j := 16) rfl) rfl c36 ?_
        refine r_aload_n (dGet dX0_badClass (j := 17) rfl) nv0 rfl ?_
        obtain ⟨t37, et37, hf⟩ := Option.bind_eq_some_iff.mp hf
        refine r_getR (dGet dX0_badClass (j := 18) rfl) F0_7 et37 ?_
        obtain ⟨t38, et38, hf⟩ := Option.bind_eq_some_iff.mp hf
        refine r_getR (dGet dX0_badClass (j := 19) rfl) F0_50 et38 ?_
        refine r_iload_n (dGet dX0_badClass (j := 20) rfl) rfl ?_
        obtain ⟨t39, et39, hf⟩ := Option.bind_eq_some_iff.mp hf
        refine r_iald (dGet dX0_badClass (j := 21) rfl) et39 ?_
        cases hf
        exact r_iret (dGet dX0_badClass (j := 22) rfl) rfl rfl
def fX0_badClass (N : Nat) (v0 : Nat) (h : pH) : Option (Int32 × pH) := if isO h v0 0 = true then (
  fX0_badClass_2 N N v0 (5 : Int32) h) else none
theorem oX0_badClass {N : Nat} {v0 : Nat} {h : pH} {q : Int32 × pH} (hf : fX0_badClass N v0 h = some q) : isO h v0 0 = true := by
  unfold fX0_badClass at hf
  by_cases hc : isO h v0 0 = true
  · exact hc
  · rw [if_neg hc] at hf; cases hf
theorem cX0_badClass (X : pX) (N d : Nat) (v0 : Nat) (h : pH) (q : Int32 × pH) (hf : fX0_badClass N v0 h = some q) : Calls X (d + 2) 106 [.ref v0] h (some (.int q.1), q.2, 0, 0) := by
  refine Calls.of M106 (Nat.le_of_ble_eq_true rfl) ?_
  show Run X (d + 2) 0 false (pCd 4196) 3 (some .int) 0 [(0, .ref v0)] [] h 0 0 (some (.int q.1), q.2, 0, 0)
  unfold fX0_badClass at hf
  by_cases hc : isO h v0 0 = true
  · rw [if_pos hc] at hf
    have nv0 : ¬ v0 = 4 := isO_ne hc
    refine r_iconst (dGet dX0_badClass (j := 0) rfl) kI_5 ?_
    refine r_istore_n (lv' := [(1, .int (5 : Int32)), (0, .ref v0)]) (dGet dX0_badClass (j := 1) rfl) (by decide) rfl ?_
    refine Run.weak [(0, .ref v0), (1, .int (5 : Int32))] (by simp) (by simp [pNd]) ?_
    exact lX0_badClass_2 X N d N v0 (5 : Int32) h q hf nv0
  · rw [if_neg hc] at hf; cases hf
def eX6_among : List (Nat × Instr × Nat) := [(0, .iload_n 1, 1), (1, .istore 5, 2), (3, .iload 5, 2), (5, .iload_n 2, 1), (6, .if_icmp .ge 35, 3), (9, .aload_n 0, 1), (10, .getfield 23, 3), (13, .iload 5, 2), (15, .baload, 1), (16, .iload_n 3, 1), (17, .if_icmp .ne 18, 3), (20, .aload_n 0, 1), (21, .getfield 13, 3), (24, .iload 5, 2), (26, .iaload, 1), (27, .iload 4, 2), (29, .if_icmp .ne 6, 3), (32, .iload 5, 2), (34, .ireturn, 1), (35, .iinc 5 1, 3), (38, .goto (-35), 3), (41, .iconst (-1), 1), (42, .ireturn, 1)]
theorem dX6_among : dChk (pCd 5001) eX6_among = true := by decide +kernel
def fX6_among_35 (N : Nat) (k3 : Nat → Int32 → Int32 → Int32 → Int32 → pH → Option (Int32 × pH)) (v0 : Nat) (v2 : Int32) (v3 : Int32) (v4 : Int32) (v5 : Int32) (h : pH) : Option (Int32 × pH) :=
  k3 v0 v2 v3 v4 (v5 + (1 : Int32)) h
theorem lX6_among_35 (X : pX) (N d : Nat)  (k3 : Nat → Int32 → Int32 → Int32 → Int32 → pH → Option (Int32 × pH)) (K3 : ∀ (w0 : Nat) (w2 : Int32) (w3 : Int32) (w4 : Int32) (w5 : Int32) (h : pH) (q : Int32 × pH), k3 w0 w2 w3 w4 w5 h = some q → ¬ w0 = 4 → Run X (d + 0) 6 false (pCd 5001) 6 (some .int) 3 [(0, .ref w0), (2, .int w2), (3, .int w3), (4, .int w4), (5, .int w5)] [] h 0 0 (some (.int q.1), q.2, 0, 0)) (v0 : Nat) (v2 : Int32) (v3 : Int32) (v4 : Int32) (v5 : Int32) (h : pH) (q : Int32 × pH) (hf : fX6_among_35 N k3 v0 v2 v3 v4 v5 h = some q) (nv0 : ¬ v0 = 4) : Run X (d + 0) 6 false (pCd 5001) 6 (some .int) 35 [(0, .ref v0), (2, .int v2), (3, .int v3), (4, .int v4), (5, .int v5)] [] h 0 0 (some (.int q.1), q.2, 0, 0) := by
  unfold fX6_among_35 at hf
  refine r_iinc (lv' := [(5, .int (v5 + (1 : Int32))), (0, .ref v0), (2, .int v2), (3, .int v3), (4, .int v4)]) (dGet dX6_among (j := 19) rfl) rfl (by decide) kI_1 rfl ?_
  refine r_goto (dGet dX6_among (j := 20) rfl) rfl ?_
  refine Run.weak [(0, .ref v0), (2, .int v2), (3, .int v3), (4, .int v4), (5, .int (v5 + (1 : Int32)))] (by simp) (by simp [pNd]) ?_
  exact K3 v0 v2 v3 v4 (v5 + (1 : Int32)) h q hf nv0
def fX6_among_3 (N : Nat) : Nat → Nat → Int32 → Int32 → Int32 → Int32 → pH → Option (Int32 × pH)
  | 0, _, _, _, _, _, _ => none
  | n + 1, v0, v2, v3, v4, v5, h => if v2 ≤ v5 then (
  some ((-1 : Int32), h)) else (
  (getR h v0 6 4).bind fun t2 =>
  (ldZ h t2 v5).bind fun t3 =>
  if t3 = v3 then (
  (getR h v0 6 1).bind fun t5 =>
  (ldI h t5 v5).bind fun t6 =>
  if t6 = v4 then (
  some (v5, h)) else (
  fX6_among_35 N (fX6_among_3 N n) v0 v2 v3 v4 v5 h)) else (
  fX6_among_35 N (fX6_among_3 N n) v0 v2 v3 v4 v5 h))
theorem lX6_among_3 (X : pX) (N d : Nat)  : ∀ (n : Nat) (v0 : Nat) (v2 : Int32) (v3 : Int32) (v4 : Int32) (v5 : Int32) (h : pH) (q : Int32 × pH), fX6_among_3 N n v0 v2 v3 v4 v5 h = some q → ¬ v0 = 4 → Run X (d + 0) 6 false (pCd 5001) 6 (some .int) 3 [(0, .ref v0), (2, .int v2), (3, .int v3), (4, .int v4), (5, .int v5)] [] h 0 0 (some (.int q.1), q.2, 0, 0) := by
  intro n
  induction n with
  | zero => intro v0 v2 v3 v4 v5 h q hf; cases hf
  | succ n ih =>
    intro v0 v2 v3 v4 v5 h q hf nv0
    unfold fX6_among_3 at hf
    refine r_iload (dGet dX6_among (j := 2) rfl) rfl ?_
    refine r_iload_n (dGet dX6_among (j := 3) rfl) rfl ?_
    by_cases c1 : v2 ≤ v5
    · rw [if_pos c1] at hf
      refine r_icmp_ge_t (dGet dX6_among (j := 4) rfl) rfl c1 ?_
      refine r_iconst (dGet dX6_among (j := 21) rfl) kI_m1 ?_
      cases hf
      exact r_iret (dGet dX6_among (j := 22) rfl) rfl rfl
    · rw [if_neg c1] at hf
      refine r_icmp_ge_f (dGet dX6_among (j := 4) rfl) rfl c1 ?_
      refine r_aload_n (dGet dX6_among (j := 5) rfl) nv0 rfl ?_
      obtain ⟨t2, et2, hf⟩ := Option.bind_eq_some_iff.mp hf
      refine r_getR (dGet dX6_among (j := 6) rfl) F6_23 et2 ?_
      refine r_iload (dGet dX6_among (j := 7) rfl) rfl ?_
      obtain ⟨t3, et3, hf⟩ := Option.bind_eq_some_iff.mp hf
      refine r_zald (dGet dX6_among (j := 8) rfl) et3 ?_
      refine r_iload_n (dGet dX6_among (j := 9) rfl) rfl ?_
      by_cases c4 : t3 = v3
      · rw [if_pos c4] at hf
        refine r_icmp_ne_f (dGet dX6_among (j := 10) rfl) rfl c4 ?_
        refine r_aload_n (dGet dX6_among (j := 11) rfl) nv0 rfl ?_
        obtain ⟨t5, et5, hf⟩ := Option.bind_eq_some_iff.mp hf
        refine r_getR (dGet dX6_among (j := 12) rfl) F6_13 et5 ?_
        refine r_iload (dGet dX6_among (j := 13) rfl) rfl ?_
        obtain ⟨t6, et6, hf⟩ := Option.bind_eq_some_iff.mp hf
        refine r_iald (dGet dX6_among (j := 14) rfl) et6 ?_
        refine r_iload (dGet dX6_among (j := 15) rfl) rfl ?_
        by_cases c7 : t6 = v4
        · rw [if_pos c7] at hf
          refine r_icmp_ne_f (dGet dX6_among (j := 16) rfl) rfl c7 ?_
          refine r_iload (dGet dX6_among (j := 17) rfl) rfl ?_
          cases hf
          exact r_iret (dGet dX6_among (j := 18) rfl) rfl rfl
        · rw [if_neg c7] at hf
          refine r_icmp_ne_t (dGet dX6_among (j := 16) rfl) rfl c7 ?_
          exact lX6_among_35 X N d (fX6_among_3 N n) ih v0 v2 v3 v4 v5 h q hf nv0
      · rw [if_neg c4] at hf
        refine r_icmp_ne_t (dGet dX6_among (j := 10) rfl) rfl c4 ?_
        exact lX6_among_35 X N d (fX6_among_3 N n) ih v0 v2 v3 v4 v5 h q hf nv0
def fX6_among (N : Nat) (v0 : Nat) (v1 : Int32) (v2 : Int32) (v3 : Int32) (v4 : Int32) (h : pH) : Option (Int32 × pH) := if isO h v0 6 = true then (
  fX6_among_3 N N v0 v2 v3 v4 v1 h) else none
theorem oX6_among {N : Nat} {v0 : Nat} {v1 : Int32} {v2 : Int32} {v3 : Int32} {v4 : Int32} {h : pH} {q : Int32 × pH} (hf : fX6_among N v0 v1 v2 v3 v4 h = some q) : isO h v0 6 = true := by
  unfold fX6_among at hf
  by_cases hc : isO h v0 6 = true
  · exact hc
  · rw [if_neg hc] at hf; cases hf
theorem cX6_among (X : pX) (N d : Nat) (v0 : Nat) (v1 : Int32) (v2 : Int32) (v3 : Int32) (v4 : Int32) (h : pH) (q : Int32 × pH) (hf : fX6_among N v0 v1 v2 v3 v4 h = some q) : Calls X (d + 0) 117 [.ref v0, .int v1, .int v2, .int v3, .int v4] h (some (.int q.1), q.2, 0, 0) := by
  refine Calls.of M117 (Nat.le_of_ble_eq_true rfl) ?_
  show Run X (d + 0) 6 false (pCd 5001) 6 (some .int) 0 [(0, .ref v0), (1, .int v1), (2, .int v2), (3, .int v3), (4, .int v4)] [] h 0 0 (some (.int q.1), q.2, 0, 0)
  unfold fX6_among at hf
  by_cases hc : isO h v0 6 = true
  · rw [if_pos hc] at hf
    have nv0 : ¬ v0 = 4 := isO_ne hc
    refine r_iload_n (dGet dX6_among (j := 0) rfl) rfl ?_
    refine r_istore (lv' := [(5, .int v1), (0, .ref v0), (1, .int v1), (2, .int v2), (3, .int v3), (4, .int v4)]) (dGet dX6_among (j := 1) rfl) (by decide) rfl ?_
    refine Run.weak [(0, .ref v0), (2, .int v2), (3, .int v3), (4, .int v4), (5, .int v1)] (by simp) (by simp [pNd]) ?_
    exact lX6_among_3 X N d N v0 v2 v3 v4 v1 h q hf nv0
  · rw [if_neg hc] at hf; cases hf
def eX6_had : List (Nat × Instr × Nat) := [(0, .iload_n 1, 1), (1, .istore 4, 2), (3, .iconst 0, 1), (4, .istore 5, 2), (6, .iload 5, 2), (8, .aload_n 0, 1), (9, .getfield 7, 3), (12, .getfield 67, 3), (15, .if_icmp .ge 75, 3), (18, .iload 4, 2), (20, .ifCond .lt 70, 3), (23, .iload 4, 2), (25, .aload_n 0, 1), (26, .getfield 7, 3), (29, .getfield 67, 3), (32, .if_icmp .ge 58, 3), (35, .aload_n 0, 1), (36, .aload_n 0, 1), (37, .getfield 7, 3), (40, .getfield 68, 3), (43, .iload 4, 2), (45, .iaload, 1), (46, .aload_n 0, 1), (47, .getfield 7, 3), (50, .getfield 71, 3), (53, .iload 4, 2), (55, .iaload, 1), (56, .iload_n 2, 1), (57, .iload_n 3, 1), (58, .invokevirtual 74, 3), (61, .istore 6, 2), (63, .iload 6, 2), (65, .iconst (-1), 1), (66, .if_icmp .eq 6, 3), (69, .iload 6, 2), (71, .ireturn, 1), (72, .aload_n 0, 1), (73, .getfield 7, 3), (76, .getfield 78, 3), (79, .iload 4, 2), (81, .iaload, 1), (82, .istore 4, 2), (84, .iinc 5 1, 3), (87, .goto (-81), 3), (90, .iconst (-1), 1), (91, .ireturn, 1)]
theorem dX6_had : dChk (pCd 5005) eX6_had = true := by decide +kernel
def fX6_had_6 (N : Nat) : Nat → Nat → Int32 → Int32 → Int32 → Int32 → pH → Option (Int32 × pH)
  | 0, _, _, _, _, _, _ => none
  | n + 1, v0, v2, v3, v4, v5, h => (getR h v0 6 0).bind fun t1 =>
  (getI h t1 1 7).bind fun t2 =>
  if t2 ≤ v5 then (
  some ((-1 : Int32), h)) else (
  if v4 < 0 then (
  some ((-1 : Int32), h)) else (
  (getR h v0 6 0).bind fun t5 =>
  (getI h t5 1 7).bind fun t6 =>
  if t6 ≤ v4 then (
  some ((-1 : Int32), h)) else (
  (getR h v0 6 0).bind fun t8 =>
  (getR h t8 1 4).bind fun t9 =>
  (ldI h t9 v4).bind fun t10 =>
  (getR h v0 6 0).bind fun t11 =>
  (getR h t11 1 5).bind fun t12 =>
  (ldI h t12 v4).bind fun t13 =>
  (fX6_among N v0 t10 t13 v2 v3 h).bind fun q14 =>
  if q14.1 = (-1 : Int32) then (
  (getR q14.2 v0 6 0).bind fun t16 =>
  (getR q14.2 t16 1 3).bind fun t17 =>
  (ldI q14.2 t17 v4).bind fun t18 =>
  fX6_had_6 N n v0 v2 v3 t18 (v5 + (1 : Int32)) q14.2) else (
  some (q14.1, q14.2)))))
theorem lX6_had_6 (X : pX) (N d : Nat)  : ∀ (n : Nat) (v0 : Nat) (v2 : Int32) (v3 : Int32) (v4 : Int32) (v5 : Int32) (h : pH) (q : Int32 × pH), fX6_had_6 N n v0 v2 v3 v4 v5 h = some q → ¬ v0 = 4 → Run X (d + 1) 6 false (pCd 5005) 7 (some .int) 6 [(0, .ref v0), (2, .int v2), (3, .int v3), (4, .int v4), (5, .int v5)] [] h 0 0 (some (.int q.1), q.2, 0, 0) := by
  intro n
  induction n with
  | zero => intro v0 v2 v3 v4 v5 h q hf; cases hf
  | succ n ih =>
    intro v0 v2 v3 v4 v5 h q hf nv0
    unfold fX6_had_6 at hf
    refine r_iload (dGet dX6_had (j := 4) rfl) rfl ?_
    refine r_aload_n (dGet dX6_had (j := 5) rfl) nv0 rfl ?_
    obtain ⟨t1, et1, hf⟩ := Option.bind_eq_some_iff.mp hf
    refine r_getR (dGet dX6_had (j := 6) rfl) F6_7 et1 ?_
    obtain ⟨t2, et2, hf⟩ := Option.bind_eq_some_iff.mp hf
    refine r_getI (dGet dX6_had (j := 7) rfl) F6_67 et2 ?_
    by_cases c3 : t2 ≤ v5
    · rw [if_pos c3] at hf
      refine r_icmp_ge_t (dGet dX6_had (j := 8) rfl) rfl c3 ?_
      refine r_iconst (dGet dX6_had (j := 44) rfl) kI_m1 ?_
      cases hf
      exact r_iret (dGet dX6_had (j := 45) rfl) rfl rfl
    · rw [if_neg c3] at hf
      refine r_icmp_ge_f (dGet dX6_had (j := 8) rfl) rfl c3 ?_
      refine r_iload (dGet dX6_had (j := 9) rfl) rfl ?_
      by_cases c4 : v4 < 0
      · rw [if_pos c4] at hf
        refine r_if_lt_t (dGet dX6_had (j := 10) rfl) rfl c4 ?_
        refine r_iconst (dGet dX6_had (j := 44) rfl) kI_m1 ?_
        cases hf
        exact r_iret (dGet dX6_had (j := 45) rfl) rfl rfl
      · rw [if_neg c4] at hf
        refine r_if_lt_f (dGet dX6_had (j := 10) rfl) rfl c4 ?_
        refine r_iload (dGet dX6_had (j := 11) rfl) rfl ?_
        refine r_aload_n (dGet dX6_had (j := 12) rfl) nv0 rfl ?_
        obtain ⟨t5, et5, hf⟩ := Option.bind_eq_some_iff.mp hf
        refine r_getR (dGet dX6_had (j := 13) rfl) F6_7 et5 ?_
        obtain ⟨t6, et6, hf⟩ := Option.bind_eq_some_iff.mp hf
        refine r_getI (dGet dX6_had (j := 14) rfl) F6_67 et6 ?_
        by_cases c7 : t6 ≤ v4
        · rw [if_pos c7] at hf
          refine r_icmp_ge_t (dGet dX6_had (j := 15) rfl) rfl c7 ?_
          refine r_iconst (dGet dX6_had (j := 44) rfl) kI_m1 ?_
          cases hf
          exact r_iret (dGet dX6_had (j := 45) rfl) rfl rfl
        · rw [if_neg c7] at hf
          refine r_icmp_ge_f (dGet dX6_had (j := 15) rfl) rfl c7 ?_
          refine r_aload_n (dGet dX6_had (j := 16) rfl) nv0 rfl ?_
          refine r_aload_n (dGet dX6_had (j := 17) rfl) nv0 rfl ?_
          obtain ⟨t8, et8, hf⟩ := Option.bind_eq_some_iff.mp hf
          refine r_getR (dGet dX6_had (j := 18) rfl) F6_7 et8 ?_
          obtain ⟨t9, et9, hf⟩ := Option.bind_eq_some_iff.mp hf
          refine r_getR (dGet dX6_had (j := 19) rfl) F6_68 et9 ?_
          refine r_iload (dGet dX6_had (j := 20) rfl) rfl ?_
          obtain ⟨t10, et10, hf⟩ := Option.bind_eq_some_iff.mp hf
          refine r_iald (dGet dX6_had (j := 21) rfl) et10 ?_
          refine r_aload_n (dGet dX6_had (j := 22) rfl) nv0 rfl ?_
          obtain ⟨t11, et11, hf⟩ := Option.bind_eq_some_iff.mp hf
          refine r_getR (dGet dX6_had (j := 23) rfl) F6_7 et11 ?_
          obtain ⟨t12, et12, hf⟩ := Option.bind_eq_some_iff.mp hf
          refine r_getR (dGet dX6_had (j := 24) rfl) F6_71 et12 ?_
          refine r_iload (dGet dX6_had (j := 25) rfl) rfl ?_
          obtain ⟨t13, et13, hf⟩ := Option.bind_eq_some_iff.mp hf
          refine r_iald (dGet dX6_had (j := 26) rfl) et13 ?_
          refine r_iload_n (dGet dX6_had (j := 27) rfl) rfl ?_
          refine r_iload_n (dGet dX6_had (j := 28) rfl) rfl ?_
          obtain ⟨q14, eq14, hf⟩ := Option.bind_eq_some_iff.mp hf
          refine r_virtual (dGet dX6_had (j := 29) rfl) L6_74 M117 rfl rfl (Nat.le_of_ble_eq_true rfl) (oX6_among eq14) (cX6_among X N (d + 0) v0 t10 t13 v2 v3 h q14 eq14) ?_
          refine r_istore (lv' := [(6, .int q14.1), (0, .ref v0), (2, .int v2), (3, .int v3), (4, .int v4), (5, .int v5)]) (dGet dX6_had (j := 30) rfl) (by decide) rfl ?_
          refine r_iload (dGet dX6_had (j := 31) rfl) rfl ?_
          refine r_iconst (dGet dX6_had (j := 32) rfl) kI_m1 ?_
          by_cases c15 : q14.1 = (-1 : Int32)
          · rw [if_pos c15] at hf
            refine r_icmp_eq_t (dGet dX6_had (j := 33) rfl) rfl c15 ?_
            refine r_aload_n (dGet dX6_had (j := 36) rfl) nv0 rfl ?_
            obtain ⟨t16, et16, hf⟩ := Option.bind_eq_some_iff.mp hf
            refine r_getR (dGet dX6_had (j := 37) rfl) F6_7 et16 ?_
            obtain ⟨t17, et17, hf⟩ := Option.bind_eq_some_iff.mp hf
            refine r_getR (dGet dX6_had (j := 38) rfl) F6_78 et17 ?_
            refine r_iload (dGet dX6_had (j := 39) rfl) rfl ?_
            obtain ⟨t18, et18, hf⟩ := Option.bind_eq_some_iff.mp hf
            refine r_iald (dGet dX6_had (j := 40) rfl) et18 ?_
            refine r_istore (lv' := [(4, .int t18), (6, .int q14.1), (0, .ref v0), (2, .int v2), (3, .int v3), (5, .int v5)]) (dGet dX6_had (j := 41) rfl) (by decide) rfl ?_
            refine r_iinc (lv' := [(5, .int (v5 + (1 : Int32))), (4, .int t18), (6, .int q14.1), (0, .ref v0), (2, .int v2), (3, .int v3)]) (dGet dX6_had (j := 42) rfl) rfl (by decide) kI_1 rfl ?_
            refine r_goto (dGet dX6_had (j := 43) rfl) rfl ?_
            refine Run.weak [(0, .ref v0), (2, .int v2), (3, .int v3), (4, .int t18), (5, .int (v5 + (1 : Int32)))] (by simp) (by simp [pNd]) ?_
            exact ih v0 v2 v3 t18 (v5 + (1 : Int32)) q14.2 q hf nv0
          · rw [if_neg c15] at hf
            refine r_icmp_eq_f (dGet dX6_had (j := 33) rfl) rfl c15 ?_
            refine r_iload (dGet dX6_had (j := 34) rfl) rfl ?_
            cases hf
            exact r_iret (dGet dX6_had (j := 35) rfl) rfl rfl
def fX6_had (N : Nat) (v0 : Nat) (v1 : Int32) (v2 : Int32) (v3 : Int32) (h : pH) : Option (Int32 × pH) := if isO h v0 6 = true then (
  fX6_had_6 N N v0 v2 v3 v1 (0 : Int32) h) else none
theorem oX6_had {N : Nat} {v0 : Nat} {v1 : Int32} {v2 : Int32} {v3 : Int32} {h : pH} {q : Int32 × pH} (hf : fX6_had N v0 v1 v2 v3 h = some q) : isO h v0 6 = true := by
  unfold fX6_had at hf
  by_cases hc : isO h v0 6 = true
  · exact hc
  · rw [if_neg hc] at hf; cases hf
theorem cX6_had (X : pX) (N d : Nat) (v0 : Nat) (v1 : Int32) (v2 : Int32) (v3 : Int32) (h : pH) (q : Int32 × pH) (hf : fX6_had N v0 v1 v2 v3 h = some q) : Calls X (d + 1) 118 [.ref v0, .int v1, .int v2, .int v3] h (some (.int q.1), q.2, 0, 0) := by
  refine Calls.of M118 (Nat.le_of_ble_eq_true rfl) ?_
  show Run X (d + 1) 6 false (pCd 5005) 7 (some .int) 0 [(0, .ref v0), (1, .int v1), (2, .int v2), (3, .int v3)] [] h 0 0 (some (.int q.1), q.2, 0, 0)
  unfold fX6_had at hf
  by_cases hc : isO h v0 6 = true
  · rw [if_pos hc] at hf
    have nv0 : ¬ v0 = 4 := isO_ne hc
    refine r_iload_n (dGet dX6_had (j := 0) rfl) rfl ?_
    refine r_istore (lv' := [(4, .int v1), (0, .ref v0), (1, .int v1), (2, .int v2), (3, .int v3)]) (dGet dX6_had (j := 1) rfl) (by decide) rfl ?_
    refine r_iconst (dGet dX6_had (j := 2) rfl) kI_0 ?_
    refine r_istore (lv' := [(5, .int (0 : Int32)), (4, .int v1), (0, .ref v0), (1, .int v1), (2, .int v2), (3, .int v3)]) (dGet dX6_had (j := 3) rfl) (by decide) rfl ?_
    refine Run.weak [(0, .ref v0), (2, .int v2), (3, .int v3), (4, .int v1), (5, .int (0 : Int32))] (by simp) (by simp [pNd]) ?_
    exact lX6_had_6 X N d N v0 v2 v3 v1 (0 : Int32) h q hf nv0
  · rw [if_neg hc] at hf; cases hf
def eX0_isFieldFine : List (Nat × Instr × Nat) := [(0, .aload_n 0, 1), (1, .getfield 13, 3), (4, .getfield 84, 3), (7, .iload_n 2, 1), (8, .iaload, 1), (9, .istore_n 3, 1), (10, .aload_n 0, 1), (11, .getfield 13, 3), (14, .getfield 85, 3), (17, .iload_n 2, 1), (18, .iaload, 1), (19, .bipush (-6), 2), (21, .if_icmp .eq 52, 3), (24, .aload_n 0, 1), (25, .getfield 13, 3), (28, .aload_n 0, 1), (29, .getfield 7, 3), (32, .getfield 66, 3), (35, .iload_n 1, 1), (36, .iaload, 1), (37, .iload_n 2, 1), (38, .iconst 0, 1), (39, .iload_n 3, 1), (40, .invokevirtual 88, 3), (43, .iconst (-1), 1), (44, .if_icmp .ne 29, 3), (47, .aload_n 0, 1), (48, .getfield 13, 3), (51, .aload_n 0, 1), (52, .getfield 7, 3), (55, .getfield 56, 3), (58, .iload_n 1, 1), (59, .iaload, 1), (60, .iconst 0, 1), (61, .iload_n 3, 1), (62, .invokevirtual 92, 3), (65, .iconst (-1), 1), (66, .if_icmp .ne 7, 3), (69, .iconst 1, 1), (70, .goto 4, 3), (73, .iconst 0, 1), (74, .ireturn, 1)]
theorem dX0_isFieldFine : dChk (pCd 5014) eX0_isFieldFine = true := by decide +kernel
def fX0_isFieldFine (N : Nat) (v0 : Nat) (v1 : Int32) (v2 : Int32) (h : pH) : Option (Int32 × pH) := if isO h v0 0 = true then (
  (getR h v0 0 1).bind fun t1 =>
  (getR h t1 6 1).bind fun t2 =>
  (ldI h t2 v2).bind fun t3 =>
  (getR h v0 0 1).bind fun t4 =>
  (getR h t4 6 3).bind fun t5 =>
  (ldI h t5 v2).bind fun t6 =>
  if t6 = (-6 : Int32) then (
  some ((0 : Int32), h)) else (
  (getR h v0 0 1).bind fun t8 =>
  (getR h v0 0 0).bind fun t9 =>
  (getR h t9 1 4).bind fun t10 =>
  (ldI h t10 v1).bind fun t11 =>
  (fX6_among N t8 t11 v2 (0 : Int32) t3 h).bind fun q12 =>
  if q12.1 = (-1 : Int32) then (
  (getR q12.2 v0 0 1).bind fun t14 =>
  (getR q12.2 v0 0 0).bind fun t15 =>
  (getR q12.2 t15 1 3).bind fun t16 =>
  (ldI q12.2 t16 v1).bind fun t17 =>
  (fX6_had N t14 t17 (0 : Int32) t3 q12.2).bind fun q18 =>
  if q18.1 = (-1 : Int32) then (
  some ((1 : Int32), q18.2)) else (
  some ((0 : Int32), q18.2))) else (
  some ((0 : Int32), q12.2)))) else none
theorem oX0_isFieldFine {N : Nat} {v0 : Nat} {v1 : Int32} {v2 : Int32} {h : pH} {q : Int32 × pH} (hf : fX0_isFieldFine N v0 v1 v2 h = some q) : isO h v0 0 = true := by
  unfold fX0_isFieldFine at hf
  by_cases hc : isO h v0 0 = true
  · exact hc
  · rw [if_neg hc] at hf; cases hf
theorem cX0_isFieldFine (X : pX) (N d : Nat) (v0 : Nat) (v1 : Int32) (v2 : Int32) (h : pH) (q : Int32 × pH) (hf : fX0_isFieldFine N v0 v1 v2 h = some q) : Calls X (d + 2) 120 [.ref v0, .int v1, .int v2] h (some (.int q.1), q.2, 0, 0) := by
  refine Calls.of M120 (Nat.le_of_ble_eq_true rfl) ?_
  show Run X (d + 2) 0 false (pCd 5014) 4 (some .boolean) 0 [(0, .ref v0), (1, .int v1), (2, .int v2)] [] h 0 0 (some (.int q.1), q.2, 0, 0)
  unfold fX0_isFieldFine at hf
  by_cases hc : isO h v0 0 = true
  · rw [if_pos hc] at hf
    have nv0 : ¬ v0 = 4 := isO_ne hc
    refine r_aload_n (dGet dX0_isFieldFine (j := 0) rfl) nv0 rfl ?_
    obtain ⟨t1, et1, hf⟩ := Option.bind_eq_some_iff.mp hf
    refine r_getR (dGet dX0_isFieldFine (j := 1) rfl) F0_13 et1 ?_
    obtain ⟨t2, et2, hf⟩ := Option.bind_eq_some_iff.mp hf
    refine r_getR (dGet dX0_isFieldFine (j := 2) rfl) F0_84 et2 ?_
    refine r_iload_n (dGet dX0_isFieldFine (j := 3) rfl) rfl ?_
    obtain ⟨t3, et3, hf⟩ := Option.bind_eq_some_iff.mp hf
    refine r_iald (dGet dX0_isFieldFine (j := 4) rfl) et3 ?_
    refine r_istore_n (lv' := [(3, .int t3), (0, .ref v0), (1, .int v1), (2, .int v2)]) (dGet dX0_isFieldFine (j := 5) rfl) (by decide) rfl ?_
    refine r_aload_n (dGet dX0_isFieldFine (j := 6) rfl) nv0 rfl ?_
    obtain ⟨t4, et4, hf⟩ := Option.bind_eq_some_iff.mp hf
    refine r_getR (dGet dX0_isFieldFine (j := 7) rfl) F0_13 et4 ?_
    obtain ⟨t5, et5, hf⟩ := Option.bind_eq_some_iff.mp hf
    refine r_getR (dGet dX0_isFieldFine (j := 8) rfl) F0_85 et5 ?_
    refine r_iload_n (dGet dX0_isFieldFine (j := 9) rfl) rfl ?_
    obtain ⟨t6, et6, hf⟩ := Option.bind_eq_some_iff.mp hf
    refine r_iald (dGet dX0_isFieldFine (j := 10) rfl) et6 ?_
    refine r_bipush (dGet dX0_isFieldFine (j := 11) rfl) kB_m6 ?_
    by_cases c7 : t6 = (-6 : Int32)
    · rw [if_pos c7] at hf
      refine r_icmp_eq_t (dGet dX0_isFieldFine (j := 12) rfl) rfl c7 ?_
      refine r_iconst (dGet dX0_isFieldFine (j := 40) rfl) kI_0 ?_
      cases hf
      exact r_iret (dGet dX0_isFieldFine (j := 41) rfl) rfl (by decide)
    · rw [if_neg c7] at hf
      refine r_icmp_eq_f (dGet dX0_isFieldFine (j := 12) rfl) rfl c7 ?_
      refine r_aload_n (dGet dX0_isFieldFine (j := 13) rfl) nv0 rfl ?_
      obtain ⟨t8, et8, hf⟩ := Option.bind_eq_some_iff.mp hf
      refine r_getR (dGet dX0_isFieldFine (j := 14) rfl) F0_13 et8 ?_
      refine r_aload_n (dGet dX0_isFieldFine (j := 15) rfl) nv0 rfl ?_
      obtain ⟨t9, et9, hf⟩ := Option.bind_eq_some_iff.mp hf
      refine r_getR (dGet dX0_isFieldFine (j := 16) rfl) F0_7 et9 ?_
      obtain ⟨t10, et10, hf⟩ := Option.bind_eq_some_iff.mp hf
      refine r_getR (dGet dX0_isFieldFine (j := 17) rfl) F0_66 et10 ?_
      refine r_iload_n (dGet dX0_isFieldFine (j := 18) rfl) rfl ?_
      obtain ⟨t11, et11, hf⟩ := Option.bind_eq_some_iff.mp hf
      refine r_iald (dGet dX0_isFieldFine (j := 19) rfl) et11 ?_
      refine r_iload_n (dGet dX0_isFieldFine (j := 20) rfl) rfl ?_
      refine r_iconst (dGet dX0_isFieldFine (j := 21) rfl) kI_0 ?_
      refine r_iload_n (dGet dX0_isFieldFine (j := 22) rfl) rfl ?_
      obtain ⟨q12, eq12, hf⟩ := Option.bind_eq_some_iff.mp hf
      refine r_virtual (dGet dX0_isFieldFine (j := 23) rfl) L0_88 M117 rfl rfl (Nat.le_of_ble_eq_true rfl) (oX6_among eq12) (cX6_among X N (d + 1) t8 t11 v2 (0 : Int32) t3 h q12 eq12) ?_
      refine r_iconst (dGet dX0_isFieldFine (j := 24) rfl) kI_m1 ?_
      by_cases c13 : q12.1 = (-1 : Int32)
      · rw [if_pos c13] at hf
        refine r_icmp_ne_f (dGet dX0_isFieldFine (j := 25) rfl) rfl c13 ?_
        refine r_aload_n (dGet dX0_isFieldFine (j := 26) rfl) nv0 rfl ?_
        obtain ⟨t14, et14, hf⟩ := Option.bind_eq_some_iff.mp hf
        refine r_getR (dGet dX0_isFieldFine (j := 27) rfl) F0_13 et14 ?_
        refine r_aload_n (dGet dX0_isFieldFine (j := 28) rfl) nv0 rfl ?_
        obtain ⟨t15, et15, hf⟩ := Option.bind_eq_some_iff.mp hf
        refine r_getR (dGet dX0_isFieldFine (j := 29) rfl) F0_7 et15 ?_
        obtain ⟨t16, et16, hf⟩ := Option.bind_eq_some_iff.mp hf
        refine r_getR (dGet dX0_isFieldFine (j := 30) rfl) F0_56 et16 ?_
        refine r_iload_n (dGet dX0_isFieldFine (j := 31) rfl) rfl ?_
        obtain ⟨t17, et17, hf⟩ := Option.bind_eq_some_iff.mp hf
        refine r_iald (dGet dX0_isFieldFine (j := 32) rfl) et17 ?_
        refine r_iconst (dGet dX0_isFieldFine (j := 33) rfl) kI_0 ?_
        refine r_iload_n (dGet dX0_isFieldFine (j := 34) rfl) rfl ?_
        obtain ⟨q18, eq18, hf⟩ := Option.bind_eq_some_iff.mp hf
        refine r_virtual (dGet dX0_isFieldFine (j := 35) rfl) L0_92 M118 rfl rfl (Nat.le_of_ble_eq_true rfl) (oX6_had eq18) (cX6_had X N (d + 0) t14 t17 (0 : Int32) t3 q12.2 q18 eq18) ?_
        refine r_iconst (dGet dX0_isFieldFine (j := 36) rfl) kI_m1 ?_
        by_cases c19 : q18.1 = (-1 : Int32)
        · rw [if_pos c19] at hf
          refine r_icmp_ne_f (dGet dX0_isFieldFine (j := 37) rfl) rfl c19 ?_
          refine r_iconst (dGet dX0_isFieldFine (j := 38) rfl) kI_1 ?_
          refine r_goto (dGet dX0_isFieldFine (j := 39) rfl) rfl ?_
          cases hf
          exact r_iret (dGet dX0_isFieldFine (j := 41) rfl) rfl (by decide)
        · rw [if_neg c19] at hf
          refine r_icmp_ne_t (dGet dX0_isFieldFine (j := 37) rfl) rfl c19 ?_
          refine r_iconst (dGet dX0_isFieldFine (j := 40) rfl) kI_0 ?_
          cases hf
          exact r_iret (dGet dX0_isFieldFine (j := 41) rfl) rfl (by decide)
      · rw [if_neg c13] at hf
        refine r_icmp_ne_t (dGet dX0_isFieldFine (j := 25) rfl) rfl c13 ?_
        refine r_iconst (dGet dX0_isFieldFine (j := 40) rfl) kI_0 ?_
        cases hf
        exact r_iret (dGet dX0_isFieldFine (j := 41) rfl) rfl (by decide)
  · rw [if_neg hc] at hf; cases hf
def eX0_haveSameTypes : List (Nat × Instr × Nat) := [(0, .aload_n 0, 1), (1, .getfield 13, 3), (4, .getfield 85, 3), (7, .iload_n 1, 1), (8, .iaload, 1), (9, .aload_n 0, 1), (10, .getfield 13, 3), (13, .getfield 85, 3), (16, .iload_n 2, 1), (17, .iaload, 1), (18, .if_icmp .ne 24, 3), (21, .aload_n 0, 1), (22, .getfield 13, 3), (25, .getfield 102, 3), (28, .iload_n 1, 1), (29, .iaload, 1), (30, .aload_n 0, 1), (31, .getfield 13, 3), (34, .getfield 102, 3), (37, .iload_n 2, 1), (38, .iaload, 1), (39, .if_icmp .eq 5, 3), (42, .iconst 0, 1), (43, .ireturn, 1), (44, .iconst 0, 1), (45, .istore_n 3, 1), (46, .iload_n 3, 1), (47, .aload_n 0, 1), (48, .getfield 13, 3), (51, .getfield 102, 3), (54, .iload_n 1, 1), (55, .iaload, 1), (56, .if_icmp .ge 32, 3), (59, .aload_n 0, 1), (60, .getfield 13, 3), (63, .iload_n 1, 1), (64, .iload_n 3, 1), (65, .invokevirtual 105, 3), (68, .aload_n 0, 1), (69, .getfield 13, 3), (72, .iload_n 2, 1), (73, .iload_n 3, 1), (74, .invokevirtual 105, 3), (77, .if_icmp .eq 5, 3), (80, .iconst 0, 1), (81, .ireturn, 1), (82, .iinc 3 1, 3), (85, .goto (-39), 3), (88, .iconst 1, 1), (89, .ireturn, 1)]
theorem dX0_haveSameTypes : dChk (pCd 5010) eX0_haveSameTypes = true := by decide +kernel
def fX0_haveSameTypes_46 (N : Nat) : Nat → Nat → Int32 → Int32 → Int32 → pH → Option (Int32 × pH)
  | 0, _, _, _, _, _ => none
  | n + 1, v0, v1, v2, v3, h => (getR h v0 0 1).bind fun t1 =>
  (getR h t1 6 7).bind fun t2 =>
  (ldI h t2 v1).bind fun t3 =>
  if t3 ≤ v3 then (
  some ((1 : Int32), h)) else (
  (getR h v0 0 1).bind fun t5 =>
  (fX6_parameterTypeOf N t5 v1 v3 h).bind fun q6 =>
  (getR q6.2 v0 0 1).bind fun t7 =>
  (fX6_parameterTypeOf N t7 v2 v3 q6.2).bind fun q8 =>
  if q6.1 = q8.1 then (
  fX0_haveSameTypes_46 N n v0 v1 v2 (v3 + (1 : Int32)) q8.2) else (
  some ((0 : Int32), q8.2)))
theorem lX0_haveSameTypes_46 (X : pX) (N d : Nat)  : ∀ (n : Nat) (v0 : Nat) (v1 : Int32) (v2 : Int32) (v3 : Int32) (h : pH) (q : Int32 × pH), fX0_haveSameTypes_46 N n v0 v1 v2 v3 h = some q → ¬ v0 = 4 → Run X (d + 1) 0 false (pCd 5010) 4 (some .boolean) 46 [(0, .ref v0), (1, .int v1), (2, .int v2), (3, .int v3)] [] h 0 0 (some (.int q.1), q.2, 0, 0) := by
  intro n
  induction n with
  | zero => intro v0 v1 v2 v3 h q hf; cases hf
  | succ n ih =>
    intro v0 v1 v2 v3 h q hf nv0
    unfold fX0_haveSameTypes_46 at hf
    refine r_iload_n (dGet dX0_haveSameTypes (j := 26) rfl) rfl ?_
    refine r_aload_n (dGet dX0_haveSameTypes (j := 27) rfl) nv0 rfl ?_
    obtain ⟨t1, et1, hf⟩ := Option.bind_eq_some_iff.mp hf
    refine r_getR (dGet dX0_haveSameTypes (j := 28) rfl) F0_13 et1 ?_
    obtain ⟨t2, et2, hf⟩ := Option.bind_eq_some_iff.mp hf
    refine r_getR (dGet dX0_haveSameTypes (j := 29) rfl) F0_102 et2 ?_
    refine r_iload_n (dGet dX0_haveSameTypes (j := 30) rfl) rfl ?_
    obtain ⟨t3, et3, hf⟩ := Option.bind_eq_some_iff.mp hf
    refine r_iald (dGet dX0_haveSameTypes (j := 31) rfl) et3 ?_
    by_cases c4 : t3 ≤ v3
    · rw [if_pos c4] at hf
      refine r_icmp_ge_t (dGet dX0_haveSameTypes (j := 32) rfl) rfl c4 ?_
      refine r_iconst (dGet dX0_haveSameTypes (j := 48) rfl) kI_1 ?_
      cases hf
      exact r_iret (dGet dX0_haveSameTypes (j := 49) rfl) rfl (by decide)
    · rw [if_neg c4] at hf
      refine r_icmp_ge_f (dGet dX0_haveSameTypes (j := 32) rfl) rfl c4 ?_
      refine r_aload_n (dGet dX0_haveSameTypes (j := 33) rfl) nv0 rfl ?_
      obtain ⟨t5, et5, hf⟩ := Option.bind_eq_some_iff.mp hf
      refine r_getR (dGet dX0_haveSameTypes (j := 34) rfl) F0_13 et5 ?_
      refine r_iload_n (dGet dX0_haveSameTypes (j := 35) rfl) rfl ?_
      refine r_iload_n (dGet dX0_haveSameTypes (j := 36) rfl) rfl ?_
      obtain ⟨q6, eq6, hf⟩ := Option.bind_eq_some_iff.mp hf
      refine r_virtual (dGet dX0_haveSameTypes (j := 37) rfl) L0_105 M115 rfl rfl (Nat.le_of_ble_eq_true rfl) (oX6_parameterTypeOf eq6) (cX6_parameterTypeOf X N (d + 0) t5 v1 v3 h q6 eq6) ?_
      refine r_aload_n (dGet dX0_haveSameTypes (j := 38) rfl) nv0 rfl ?_
      obtain ⟨t7, et7, hf⟩ := Option.bind_eq_some_iff.mp hf
      refine r_getR (dGet dX0_haveSameTypes (j := 39) rfl) F0_13 et7 ?_
      refine r_iload_n (dGet dX0_haveSameTypes (j := 40) rfl) rfl ?_
      refine r_iload_n (dGet dX0_haveSameTypes (j := 41) rfl) rfl ?_
      obtain ⟨q8, eq8, hf⟩ := Option.bind_eq_some_iff.mp hf
      refine r_virtual (dGet dX0_haveSameTypes (j := 42) rfl) L0_105 M115 rfl rfl (Nat.le_of_ble_eq_true rfl) (oX6_parameterTypeOf eq8) (cX6_parameterTypeOf X N (d + 0) t7 v2 v3 q6.2 q8 eq8) ?_
      by_cases c9 : q6.1 = q8.1
      · rw [if_pos c9] at hf
        refine r_icmp_eq_t (dGet dX0_haveSameTypes (j := 43) rfl) rfl c9 ?_
        refine r_iinc (lv' := [(3, .int (v3 + (1 : Int32))), (0, .ref v0), (1, .int v1), (2, .int v2)]) (dGet dX0_haveSameTypes (j := 46) rfl) rfl (by decide) kI_1 rfl ?_
        refine r_goto (dGet dX0_haveSameTypes (j := 47) rfl) rfl ?_
        refine Run.weak [(0, .ref v0), (1, .int v1), (2, .int v2), (3, .int (v3 + (1 : Int32)))] (by simp) (by simp [pNd]) ?_
        exact ih v0 v1 v2 (v3 + (1 : Int32)) q8.2 q hf nv0
      · rw [if_neg c9] at hf
        refine r_icmp_eq_f (dGet dX0_haveSameTypes (j := 43) rfl) rfl c9 ?_
        refine r_iconst (dGet dX0_haveSameTypes (j := 44) rfl) kI_0 ?_
        cases hf
        exact r_iret (dGet dX0_haveSameTypes (j := 45) rfl) rfl (by decide)
def fX0_haveSameTypes (N : Nat) (v0 : Nat) (v1 : Int32) (v2 : Int32) (h : pH) : Option (Int32 × pH) := if isO h v0 0 = true then (
  (getR h v0 0 1).bind fun t10 =>
  (getR h t10 6 3).bind fun t11 =>
  (ldI h t11 v1).bind fun t12 =>
  (getR h v0 0 1).bind fun t13 =>
  (getR h t13 6 3).bind fun t14 =>
  (ldI h t14 v2).bind fun t15 =>
  if t12 = t15 then (
  (getR h v0 0 1).bind fun t17 =>
  (getR h t17 6 7).bind fun t18 =>
  (ldI h t18 v1).bind fun t19 =>
  (getR h v0 0 1).bind fun t20 =>
  (getR h t20 6 7).bind fun t21 =>
  (ldI h t21 v2).bind fun t22 =>
  if t19 = t22 then (
  fX0_haveSameTypes_46 N N v0 v1 v2 (0 : Int32) h) else (
  some ((0 : Int32), h))) else (
  some ((0 : Int32), h))) else none
theorem oX0_haveSameTypes {N : Nat} {v0 : Nat} {v1 : Int32} {v2 : Int32} {h : pH} {q : Int32 × pH} (hf : fX0_haveSameTypes N v0 v1 v2 h = some q) : isO h v0 0 = true := by
  unfold fX0_haveSameTypes at hf
  by_cases hc : isO h v0 0 = true
  · exact hc
  · rw [if_neg hc] at hf; cases hf
theorem cX0_haveSameTypes (X : pX) (N d : Nat) (v0 : Nat) (v1 : Int32) (v2 : Int32) (h : pH) (q : Int32 × pH) (hf : fX0_haveSameTypes N v0 v1 v2 h = some q) : Calls X (d + 1) 119 [.ref v0, .int v1, .int v2] h (some (.int q.1), q.2, 0, 0) := by
  refine Calls.of M119 (Nat.le_of_ble_eq_true rfl) ?_
  show Run X (d + 1) 0 false (pCd 5010) 4 (some .boolean) 0 [(0, .ref v0), (1, .int v1), (2, .int v2)] [] h 0 0 (some (.int q.1), q.2, 0, 0)
  unfold fX0_haveSameTypes at hf
  by_cases hc : isO h v0 0 = true
  · rw [if_pos hc] at hf
    have nv0 : ¬ v0 = 4 := isO_ne hc
    refine r_aload_n (dGet dX0_haveSameTypes (j := 0) rfl) nv0 rfl ?_
    obtain ⟨t10, et10, hf⟩ := Option.bind_eq_some_iff.mp hf
    refine r_getR (dGet dX0_haveSameTypes (j := 1) rfl) F0_13 et10 ?_
    obtain ⟨t11, et11, hf⟩ := Option.bind_eq_some_iff.mp hf
    refine r_getR (dGet dX0_haveSameTypes (j := 2) rfl) F0_85 et11 ?_
    refine r_iload_n (dGet dX0_haveSameTypes (j := 3) rfl) rfl ?_
    obtain ⟨t12, et12, hf⟩ := Option.bind_eq_some_iff.mp hf
    refine r_iald (dGet dX0_haveSameTypes (j := 4) rfl) et12 ?_
    refine r_aload_n (dGet dX0_haveSameTypes (j := 5) rfl) nv0 rfl ?_
    obtain ⟨t13, et13, hf⟩ := Option.bind_eq_some_iff.mp hf
    refine r_getR (dGet dX0_haveSameTypes (j := 6) rfl) F0_13 et13 ?_
    obtain ⟨t14, et14, hf⟩ := Option.bind_eq_some_iff.mp hf
    refine r_getR (dGet dX0_haveSameTypes (j := 7) rfl) F0_85 et14 ?_
    refine r_iload_n (dGet dX0_haveSameTypes (j := 8) rfl) rfl ?_
    obtain ⟨t15, et15, hf⟩ := Option.bind_eq_some_iff.mp hf
    refine r_iald (dGet dX0_haveSameTypes (j := 9) rfl) et15 ?_
    by_cases c16 : t12 = t15
    · rw [if_pos c16] at hf
      refine r_icmp_ne_f (dGet dX0_haveSameTypes (j := 10) rfl) rfl c16 ?_
      refine r_aload_n (dGet dX0_haveSameTypes (j := 11) rfl) nv0 rfl ?_
      obtain ⟨t17, et17, hf⟩ := Option.bind_eq_some_iff.mp hf
      refine r_getR (dGet dX0_haveSameTypes (j := 12) rfl) F0_13 et17 ?_
      obtain ⟨t18, et18, hf⟩ := Option.bind_eq_some_iff.mp hf
      refine r_getR (dGet dX0_haveSameTypes (j := 13) rfl) F0_102 et18 ?_
      refine r_iload_n (dGet dX0_haveSameTypes (j := 14) rfl) rfl ?_
      obtain ⟨t19, et19, hf⟩ := Option.bind_eq_some_iff.mp hf
      refine r_iald (dGet dX0_haveSameTypes (j := 15) rfl) et19 ?_
      refine r_aload_n (dGet dX0_haveSameTypes (j := 16) rfl) nv0 rfl ?_
      obtain ⟨t20, et20, hf⟩ := Option.bind_eq_some_iff.mp hf
      refine r_getR (dGet dX0_haveSameTypes (j := 17) rfl) F0_13 et20 ?_
      obtain ⟨t21, et21, hf⟩ := Option.bind_eq_some_iff.mp hf
      refine r_getR (dGet dX0_haveSameTypes (j := 18) rfl) F0_102 et21 ?_
      refine r_iload_n (dGet dX0_haveSameTypes (j := 19) rfl) rfl ?_
      obtain ⟨t22, et22, hf⟩ := Option.bind_eq_some_iff.mp hf
      refine r_iald (dGet dX0_haveSameTypes (j := 20) rfl) et22 ?_
      by_cases c23 : t19 = t22
      · rw [if_pos c23] at hf
        refine r_icmp_eq_t (dGet dX0_haveSameTypes (j := 21) rfl) rfl c23 ?_
        refine r_iconst (dGet dX0_haveSameTypes (j := 24) rfl) kI_0 ?_
        refine r_istore_n (lv' := [(3, .int (0 : Int32)), (0, .ref v0), (1, .int v1), (2, .int v2)]) (dGet dX0_haveSameTypes (j := 25) rfl) (by decide) rfl ?_
        refine Run.weak [(0, .ref v0), (1, .int v1), (2, .int v2), (3, .int (0 : Int32))] (by simp) (by simp [pNd]) ?_
        exact lX0_haveSameTypes_46 X N d N v0 v1 v2 (0 : Int32) h q hf nv0
      · rw [if_neg c23] at hf
        refine r_icmp_eq_f (dGet dX0_haveSameTypes (j := 21) rfl) rfl c23 ?_
        refine r_iconst (dGet dX0_haveSameTypes (j := 22) rfl) kI_0 ?_
        cases hf
        exact r_iret (dGet dX0_haveSameTypes (j := 23) rfl) rfl (by decide)
    · rw [if_neg c16] at hf
      refine r_icmp_ne_t (dGet dX0_haveSameTypes (j := 10) rfl) rfl c16 ?_
      refine r_iconst (dGet dX0_haveSameTypes (j := 22) rfl) kI_0 ?_
      cases hf
      exact r_iret (dGet dX0_haveSameTypes (j := 23) rfl) rfl (by decide)
  · rw [if_neg hc] at hf; cases hf
def eX0_isMethodFine : List (Nat × Instr × Nat) := [(0, .aload_n 0, 1), (1, .getfield 13, 3), (4, .getfield 84, 3), (7, .iload_n 2, 1), (8, .iaload, 1), (9, .istore_n 3, 1), (10, .aload_n 0, 1), (11, .getfield 13, 3), (14, .getfield 85, 3), (17, .iload_n 2, 1), (18, .iaload, 1), (19, .bipush (-6), 2), (21, .if_icmp .eq 34, 3), (24, .aload_n 0, 1), (25, .iload_n 2, 1), (26, .invokevirtual 96, 3), (29, .ifCond .eq 26, 3), (32, .aload_n 0, 1), (33, .getfield 13, 3), (36, .aload_n 0, 1), (37, .getfield 7, 3), (40, .getfield 66, 3), (43, .iload_n 1, 1), (44, .iaload, 1), (45, .iload_n 2, 1), (46, .iconst 1, 1), (47, .iload_n 3, 1), (48, .invokevirtual 88, 3), (51, .iconst (-1), 1), (52, .if_icmp .eq 5, 3), (55, .iconst 0, 1), (56, .ireturn, 1), (57, .aload_n 0, 1), (58, .getfield 13, 3), (61, .aload_n 0, 1), (62, .getfield 7, 3), (65, .getfield 56, 3), (68, .iload_n 1, 1), (69, .iaload, 1), (70, .iconst 1, 1), (71, .iload_n 3, 1), (72, .invokevirtual 92, 3), (75, .istore 4, 2), (77, .iload 4, 2), (79, .iconst (-1), 1), (80, .if_icmp .eq 13, 3), (83, .aload_n 0, 1), (84, .iload_n 2, 1), (85, .iload 4, 2), (87, .invokevirtual 99, 3), (90, .ifCond .eq 7, 3), (93, .iconst 1, 1), (94, .goto 4, 3), (97, .iconst 0, 1), (98, .ireturn, 1)]
theorem dX0_isMethodFine : dChk (pCd 4225) eX0_isMethodFine = true := by decide +kernel
def fX0_isMethodFine (N : Nat) (v0 : Nat) (v1 : Int32) (v2 : Int32) (h : pH) : Option (Int32 × pH) := if isO h v0 0 = true then (
  (getR h v0 0 1).bind fun t1 =>
  (getR h t1 6 1).bind fun t2 =>
  (ldI h t2 v2).bind fun t3 =>
  (getR h v0 0 1).bind fun t4 =>
  (getR h t4 6 3).bind fun t5 =>
  (ldI h t5 v2).bind fun t6 =>
  if t6 = (-6 : Int32) then (
  some ((0 : Int32), h)) else (
  (fX0_areParametersFine N v0 v2 h).bind fun q8 =>
  if q8.1 = 0 then (
  some ((0 : Int32), q8.2)) else (
  (getR q8.2 v0 0 1).bind fun t10 =>
  (getR q8.2 v0 0 0).bind fun t11 =>
  (getR q8.2 t11 1 4).bind fun t12 =>
  (ldI q8.2 t12 v1).bind fun t13 =>
  (fX6_among N t10 t13 v2 (1 : Int32) t3 q8.2).bind fun q14 =>
  if q14.1 = (-1 : Int32) then (
  (getR q14.2 v0 0 1).bind fun t16 =>
  (getR q14.2 v0 0 0).bind fun t17 =>
  (getR q14.2 t17 1 3).bind fun t18 =>
  (ldI q14.2 t18 v1).bind fun t19 =>
  (fX6_had N t16 t19 (1 : Int32) t3 q14.2).bind fun q20 =>
  if q20.1 = (-1 : Int32) then (
  some ((1 : Int32), q20.2)) else (
  (fX0_haveSameTypes N v0 v2 q20.1 q20.2).bind fun q22 =>
  if q22.1 = 0 then (
  some ((0 : Int32), q22.2)) else (
  some ((1 : Int32), q22.2)))) else (
  some ((0 : Int32), q14.2))))) else none
theorem oX0_isMethodFine {N : Nat} {v0 : Nat} {v1 : Int32} {v2 : Int32} {h : pH} {q : Int32 × pH} (hf : fX0_isMethodFine N v0 v1 v2 h = some q) : isO h v0 0 = true := by
  unfold fX0_isMethodFine at hf
  by_cases hc : isO h v0 0 = true
  · exact hc
  · rw [if_neg hc] at hf; cases hf
theorem cX0_isMethodFine (X : pX) (N d : Nat) (v0 : Nat) (v1 : Int32) (v2 : Int32) (h : pH) (q : Int32 × pH) (hf : fX0_isMethodFine N v0 v1 v2 h = some q) : Calls X (d + 2) 113 [.ref v0, .int v1, .int v2] h (some (.int q.1), q.2, 0, 0) := by
  refine Calls.of M113 (Nat.le_of_ble_eq_true rfl) ?_
  show Run X (d + 2) 0 false (pCd 4225) 5 (some .boolean) 0 [(0, .ref v0), (1, .int v1), (2, .int v2)] [] h 0 0 (some (.int q.1), q.2, 0, 0)
  unfold fX0_isMethodFine at hf
  by_cases hc : isO h v0 0 = true
  · rw [if_pos hc] at hf
    have nv0 : ¬ v0 = 4 := isO_ne hc
    refine r_aload_n (dGet dX0_isMethodFine (j := 0) rfl) nv0 rfl ?_
    obtain ⟨t1, et1, hf⟩ := Option.bind_eq_some_iff.mp hf
    refine r_getR (dGet dX0_isMethodFine (j := 1) rfl) F0_13 et1 ?_
    obtain ⟨t2, et2, hf⟩ := Option.bind_eq_some_iff.mp hf
    refine r_getR (dGet dX0_isMethodFine (j := 2) rfl) F0_84 et2 ?_
    refine r_iload_n (dGet dX0_isMethodFine (j := 3) rfl) rfl ?_
    obtain ⟨t3, et3, hf⟩ := Option.bind_eq_some_iff.mp hf
    refine r_iald (dGet dX0_isMethodFine (j := 4) rfl) et3 ?_
    refine r_istore_n (lv' := [(3, .int t3), (0, .ref v0), (1, .int v1), (2, .int v2)]) (dGet dX0_isMethodFine (j := 5) rfl) (by decide) rfl ?_
    refine r_aload_n (dGet dX0_isMethodFine (j := 6) rfl) nv0 rfl ?_
    obtain ⟨t4, et4, hf⟩ := Option.bind_eq_some_iff.mp hf
    refine r_getR (dGet dX0_isMethodFine (j := 7) rfl) F0_13 et4 ?_
    obtain ⟨t5, et5, hf⟩ := Option.bind_eq_some_iff.mp hf
    refine r_getR (dGet dX0_isMethodFine (j := 8) rfl) F0_85 et5 ?_
    refine r_iload_n (dGet dX0_isMethodFine (j := 9) rfl) rfl ?_
    obtain ⟨t6, et6, hf⟩ := Option.bind_eq_some_iff.mp hf
    refine r_iald (dGet dX0_isMethodFine (j := 10) rfl) et6 ?_
    refine r_bipush (dGet dX0_isMethodFine (j := 11) rfl) kB_m6 ?_
    by_cases c7 : t6 = (-6 : Int32)
    · rw [if_pos c7] at hf
      refine r_icmp_eq_t (dGet dX0_isMethodFine (j := 12) rfl) rfl c7 ?_
      refine r_iconst (dGet dX0_isMethodFine (j := 30) rfl) kI_0 ?_
      cases hf
      exact r_iret (dGet dX0_isMethodFine (j := 31) rfl) rfl (by decide)
    · rw [if_neg c7] at hf
      refine r_icmp_eq_f (dGet dX0_isMethodFine (j := 12) rfl) rfl c7 ?_
      refine r_aload_n (dGet dX0_isMethodFine (j := 13) rfl) nv0 rfl ?_
      refine r_iload_n (dGet dX0_isMethodFine (j := 14) rfl) rfl ?_
      obtain ⟨q8, eq8, hf⟩ := Option.bind_eq_some_iff.mp hf
      refine r_virtual (dGet dX0_isMethodFine (j := 15) rfl) L0_96 M114 rfl rfl (Nat.le_of_ble_eq_true rfl) (oX0_areParametersFine eq8) (cX0_areParametersFine X N (d + 0) v0 v2 h q8 eq8) ?_
      by_cases c9 : q8.1 = 0
      · rw [if_pos c9] at hf
        refine r_if_eq_t (dGet dX0_isMethodFine (j := 16) rfl) rfl c9 ?_
        refine r_iconst (dGet dX0_isMethodFine (j := 30) rfl) kI_0 ?_
        cases hf
        exact r_iret (dGet dX0_isMethodFine (j := 31) rfl) rfl (by decide)
      · rw [if_neg c9] at hf
        refine r_if_eq_f (dGet dX0_isMethodFine (j := 16) rfl) rfl c9 ?_
        refine r_aload_n (dGet dX0_isMethodFine (j := 17) rfl) nv0 rfl ?_
        obtain ⟨t10, et10, hf⟩ := Option.bind_eq_some_iff.mp hf
        refine r_getR (dGet dX0_isMethodFine (j := 18) rfl) F0_13 et10 ?_
        refine r_aload_n (dGet dX0_isMethodFine (j := 19) rfl) nv0 rfl ?_
        obtain ⟨t11, et11, hf⟩ := Option.bind_eq_some_iff.mp hf
        refine r_getR (dGet dX0_isMethodFine (j := 20) rfl) F0_7 et11 ?_
        obtain ⟨t12, et12, hf⟩ := Option.bind_eq_some_iff.mp hf
        refine r_getR (dGet dX0_isMethodFine (j := 21) rfl) F0_66 et12 ?_
        refine r_iload_n (dGet dX0_isMethodFine (j := 22) rfl) rfl ?_
        obtain ⟨t13, et13, hf⟩ := Option.bind_eq_some_iff.mp hf
        refine r_iald (dGet dX0_isMethodFine (j := 23) rfl) et13 ?_
        refine r_iload_n (dGet dX0_isMethodFine (j := 24) rfl) rfl ?_
        refine r_iconst (dGet dX0_isMethodFine (j := 25) rfl) kI_1 ?_
        refine r_iload_n (dGet dX0_isMethodFine (j := 26) rfl) rfl ?_
        obtain ⟨q14, eq14, hf⟩ := Option.bind_eq_some_iff.mp hf
        refine r_virtual (dGet dX0_isMethodFine (j := 27) rfl) L0_88 M117 rfl rfl (Nat.le_of_ble_eq_true rfl) (oX6_among eq14) (cX6_among X N (d + 1) t10 t13 v2 (1 : Int32) t3 q8.2 q14 eq14) ?_
        refine r_iconst (dGet dX0_isMethodFine (j := 28) rfl) kI_m1 ?_
        by_cases c15 : q14.1 = (-1 : Int32)
        · rw [if_pos c15] at hf
          refine r_icmp_eq_t (dGet dX0_isMethodFine (j := 29) rfl) rfl c15 ?_
          refine r_aload_n (dGet dX0_isMethodFine (j := 32) rfl) nv0 rfl ?_
          obtain ⟨t16, et16, hf⟩ := Option.bind_eq_some_iff.mp hf
          refine r_getR (dGet dX0_isMethodFine (j := 33) rfl) F0_13 et16 ?_
          refine r_aload_n (dGet dX0_isMethodFine (j := 34) rfl) nv0 rfl ?_
          obtain ⟨t17, et17, hf⟩ := Option.bind_eq_some_iff.mp hf
          refine r_getR (dGet dX0_isMethodFine (j := 35) rfl) F0_7 et17 ?_
          obtain ⟨t18, et18, hf⟩ := Option.bind_eq_some_iff.mp hf
          refine r_getR (dGet dX0_isMethodFine (j := 36) rfl) F0_56 et18 ?_
          refine r_iload_n (dGet dX0_isMethodFine (j := 37) rfl) rfl ?_
          obtain ⟨t19, et19, hf⟩ := Option.bind_eq_some_iff.mp hf
          refine r_iald (dGet dX0_isMethodFine (j := 38) rfl) et19 ?_
          refine r_iconst (dGet dX0_isMethodFine (j := 39) rfl) kI_1 ?_
          refine r_iload_n (dGet dX0_isMethodFine (j := 40) rfl) rfl ?_
          obtain ⟨q20, eq20, hf⟩ := Option.bind_eq_some_iff.mp hf
          refine r_virtual (dGet dX0_isMethodFine (j := 41) rfl) L0_92 M118 rfl rfl (Nat.le_of_ble_eq_true rfl) (oX6_had eq20) (cX6_had X N (d + 0) t16 t19 (1 : Int32) t3 q14.2 q20 eq20) ?_
          refine r_istore (lv' := [(4, .int q20.1), (3, .int t3), (0, .ref v0), (1, .int v1), (2, .int v2)]) (dGet dX0_isMethodFine (j := 42) rfl) (by decide) rfl ?_
          refine r_iload (dGet dX0_isMethodFine (j := 43) rfl) rfl ?_
          refine r_iconst (dGet dX0_isMethodFine (j := 44) rfl) kI_m1 ?_
          by_cases c21 : q20.1 = (-1 : Int32)
          · rw [if_pos c21] at hf
            refine r_icmp_eq_t (dGet dX0_isMethodFine (j := 45) rfl) rfl c21 ?_
            refine r_iconst (dGet dX0_isMethodFine (j := 51) rfl) kI_1 ?_
            refine r_goto (dGet dX0_isMethodFine (j := 52) rfl) rfl ?_
            cases hf
            exact r_iret (dGet dX0_isMethodFine (j := 54) rfl) rfl (by decide)
          · rw [if_neg c21] at hf
            refine r_icmp_eq_f (dGet dX0_isMethodFine (j := 45) rfl) rfl c21 ?_
            refine r_aload_n (dGet dX0_isMethodFine (j := 46) rfl) nv0 rfl ?_
            refine r_iload_n (dGet dX0_isMethodFine (j := 47) rfl) rfl ?_
            refine r_iload (dGet dX0_isMethodFine (j := 48) rfl) rfl ?_
            obtain ⟨q22, eq22, hf⟩ := Option.bind_eq_some_iff.mp hf
            refine r_virtual (dGet dX0_isMethodFine (j := 49) rfl) L0_99 M119 rfl rfl (Nat.le_of_ble_eq_true rfl) (oX0_haveSameTypes eq22) (cX0_haveSameTypes X N (d + 0) v0 v2 q20.1 q20.2 q22 eq22) ?_
            by_cases c23 : q22.1 = 0
            · rw [if_pos c23] at hf
              refine r_if_eq_t (dGet dX0_isMethodFine (j := 50) rfl) rfl c23 ?_
              refine r_iconst (dGet dX0_isMethodFine (j := 53) rfl) kI_0 ?_
              cases hf
              exact r_iret (dGet dX0_isMethodFine (j := 54) rfl) rfl (by decide)
            · rw [if_neg c23] at hf
              refine r_if_eq_f (dGet dX0_isMethodFine (j := 50) rfl) rfl c23 ?_
              refine r_iconst (dGet dX0_isMethodFine (j := 51) rfl) kI_1 ?_
              refine r_goto (dGet dX0_isMethodFine (j := 52) rfl) rfl ?_
              cases hf
              exact r_iret (dGet dX0_isMethodFine (j := 54) rfl) rfl (by decide)
        · rw [if_neg c15] at hf
          refine r_icmp_eq_f (dGet dX0_isMethodFine (j := 29) rfl) rfl c15 ?_
          refine r_iconst (dGet dX0_isMethodFine (j := 30) rfl) kI_0 ?_
          cases hf
          exact r_iret (dGet dX0_isMethodFine (j := 31) rfl) rfl (by decide)
  · rw [if_neg hc] at hf; cases hf
def eX0_badMember : List (Nat × Instr × Nat) := [(0, .iconst 5, 1), (1, .istore_n 1, 1), (2, .iload_n 1, 1), (3, .aload_n 0, 1), (4, .getfield 7, 3), (7, .getfield 38, 3), (10, .if_icmp .ge 80, 3), (13, .aload_n 0, 1), (14, .getfield 7, 3), (17, .getfield 66, 3), (20, .iload_n 1, 1), (21, .iaload, 1), (22, .istore_n 2, 1), (23, .iload_n 2, 1), (24, .aload_n 0, 1), (25, .getfield 7, 3), (28, .getfield 69, 3), (31, .iload_n 1, 1), (32, .iaload, 1), (33, .if_icmp .ge 51, 3), (36, .aload_n 0, 1), (37, .getfield 13, 3), (40, .getfield 72, 3), (43, .iload_n 2, 1), (44, .baload, 1), (45, .ifCond .eq 12, 3), (48, .aload_n 0, 1), (49, .iload_n 1, 1), (50, .iload_n 2, 1), (51, .invokevirtual 76, 3), (54, .goto 9, 3), (57, .aload_n 0, 1), (58, .iload_n 1, 1), (59, .iload_n 2, 1), (60, .invokevirtual 80, 3), (63, .istore_n 3, 1), (64, .iload_n 3, 1), (65, .ifCond .ne 13, 3), (68, .aload_n 0, 1), (69, .getfield 13, 3), (72, .getfield 83, 3), (75, .iload_n 2, 1), (76, .iaload, 1), (77, .ireturn, 1), (78, .iinc 2 1, 3), (81, .goto (-58), 3), (84, .iinc 1 1, 3), (87, .goto (-85), 3), (90, .iconst (-1), 1), (91, .ireturn, 1)]
theorem dX0_badMember : dChk (pCd 4221) eX0_badMember = true := by decide +kernel
def fX0_badMember_63 (N : Nat) (k2 : Nat → Int32 → pH → Option (Int32 × pH)) (k23 : Nat → Int32 → Int32 → pH → Option (Int32 × pH)) (v0 : Nat) (v1 : Int32) (v2 : Int32) (s0 : Int32) (h : pH) : Option (Int32 × pH) :=
  if s0 = 0 then (
  (getR h v0 0 1).bind fun t2 =>
  (getR h t2 6 2).bind fun t3 =>
  (ldI h t3 v2).bind fun t4 =>
  some (t4, h)) else (
  k23 v0 v1 (v2 + (1 : Int32)) h)
theorem lX0_badMember_63 (X : pX) (N d : Nat)  (k2 : Nat → Int32 → pH → Option (Int32 × pH)) (K2 : ∀ (w0 : Nat) (w1 : Int32) (h : pH) (q : Int32 × pH), k2 w0 w1 h = some q → ¬ w0 = 4 → Run X (d + 3) 0 false (pCd 4221) 4 (some .int) 2 [(0, .ref w0), (1, .int w1)] [] h 0 0 (some (.int q.1), q.2, 0, 0)) (k23 : Nat → Int32 → Int32 → pH → Option (Int32 × pH)) (K23 : ∀ (w0 : Nat) (w1 : Int32) (w2 : Int32) (h : pH) (q : Int32 × pH), k23 w0 w1 w2 h = some q → ¬ w0 = 4 → Run X (d + 3) 0 false (pCd 4221) 4 (some .int) 23 [(0, .ref w0), (1, .int w1), (2, .int w2)] [] h 0 0 (some (.int q.1), q.2, 0, 0)) (v0 : Nat) (v1 : Int32) (v2 : Int32) (s0 : Int32) (h : pH) (q : Int32 × pH) (hf : fX0_badMember_63 N k2 k23 v0 v1 v2 s0 h = some q) (nv0 : ¬ v0 = 4) : Run X (d + 3) 0 false (pCd 4221) 4 (some .int) 63 [(0, .ref v0), (1, .int v1), (2, .int v2)] [.int s0] h 0 0 (some (.int q.1), q.2, 0, 0) := by
  unfold fX0_badMember_63 at hf
  refine r_istore_n (lv' := [(3, .int s0), (0, .ref v0), (1, .int v1), (2, .int v2)]) (dGet dX0_badMember (j := 35) rfl) (by decide) rfl ?_
  refine r_iload_n (dGet dX0_badMember (j := 36) rfl) rfl ?_
  by_cases c1 : s0 = 0
  · rw [if_pos c1] at hf
    refine r_if_ne_f (dGet dX0_badMember (j := 37) rfl) rfl c1 ?_
    refine r_aload_n (dGet dX0_badMember (j := 38) rfl) nv0 rfl ?_
    obtain ⟨t2, et2, hf⟩ := Option.bind_eq_some_iff.mp hf
    refine r_getR (dGet dX0_badMember (j := 39) rfl) F0_13 et2 ?_
    obtain ⟨t3, et3, hf⟩ := Option.bind_eq_some_iff.mp hf
    refine r_getR (dGet dX0_badMember (j := 40) rfl) F0_83 et3 ?_
    refine r_iload_n (dGet dX0_badMember (j := 41) rfl) rfl ?_
    obtain ⟨t4, et4, hf⟩ := Option.bind_eq_some_iff.mp hf
    refine r_iald (dGet dX0_badMember (j := 42) rfl) et4 ?_
    cases hf
    exact r_iret (dGet dX0_badMember (j := 43) rfl) rfl rfl
  · rw [if_neg c1] at hf
    refine r_if_ne_t (dGet dX0_badMember (j := 37) rfl) rfl c1 ?_
    refine r_iinc (lv' := [(2, .int (v2 + (1 : Int32))), (3, .int s0), (0, .ref v0), (1, .int v1)]) (dGet dX0_badMember (j := 44) rfl) rfl (by decide) kI_1 rfl ?_
    refine r_goto (dGet dX0_badMember (j := 45) rfl) rfl ?_
    refine Run.weak [(0, .ref v0), (1, .int v1), (2, .int (v2 + (1 : Int32)))] (by simp) (by simp [pNd]) ?_
    exact K23 v0 v1 (v2 + (1 : Int32)) h q hf nv0
def fX0_badMember_23 (N : Nat) (k2 : Nat → Int32 → pH → Option (Int32 × pH)) : Nat → Nat → Int32 → Int32 → pH → Option (Int32 × pH)
  | 0, _, _, _, _ => none
  | n + 1, v0, v1, v2, h => (getR h v0 0 0).bind fun t5 =>
  (getR h t5 1 5).bind fun t6 =>
  (ldI h t6 v1).bind fun t7 =>
  if t7 ≤ v2 then (
  k2 v0 (v1 + (1 : Int32)) h) else (
  (getR h v0 0 1).bind fun t9 =>
  (getR h t9 6 4).bind fun t10 =>
  (ldZ h t10 v2).bind fun t11 =>
  if t11 = 0 then (
  (fX0_isFieldFine N v0 v1 v2 h).bind fun q13 =>
  fX0_badMember_63 N k2 (fX0_badMember_23 N k2 n) v0 v1 v2 q13.1 q13.2) else (
  (fX0_isMethodFine N v0 v1 v2 h).bind fun q14 =>
  fX0_badMember_63 N k2 (fX0_badMember_23 N k2 n) v0 v1 v2 q14.1 q14.2))
theorem lX0_badMember_23 (X : pX) (N d : Nat)  (k2 : Nat → Int32 → pH → Option (Int32 × pH)) (K2 : ∀ (w0 : Nat) (w1 : Int32) (h : pH) (q : Int32 × pH), k2 w0 w1 h = some q → ¬ w0 = 4 → Run X (d + 3) 0 false (pCd 4221) 4 (some .int) 2 [(0, .ref w0), (1, .int w1)] [] h 0 0 (some (.int q.1), q.2, 0, 0)) : ∀ (n : Nat) (v0 : Nat) (v1 : Int32) (v2 : Int32) (h : pH) (q : Int32 × pH), fX0_badMember_23 N k2 n v0 v1 v2 h = some q → ¬ v0 = 4 → Run X (d + 3) 0 false (pCd 4221) 4 (some .int) 23 [(0, .ref v0), (1, .int v1), (2, .int v2)] [] h 0 0 (some (.int q.1), q.2, 0, 0) := by
  intro n
  induction n with
  | zero => intro v0 v1 v2 h q hf; cases hf
  | succ n ih =>
    intro v0 v1 v2 h q hf nv0
    unfold fX0_badMember_23 at hf
    refine r_iload_n (dGet dX0_badMember (j := 13) rfl) rfl ?_
    refine r_aload_n (dGet dX0_badMember (j := 14) rfl) nv0 rfl ?_
    obtain ⟨t5, et5, hf⟩ := Option.bind_eq_some_iff.mp hf
    refine r_getR (dGet dX0_badMember (j := 15) rfl) F0_7 et5 ?_
    obtain ⟨t6, et6, hf⟩ := Option.bind_eq_some_iff.mp hf
    refine r_getR (dGet dX0_badMember (j := 16) rfl) F0_69 et6 ?_
    refine r_iload_n (dGet dX0_badMember (j := 17) rfl) rfl ?_
    obtain ⟨t7, et7, hf⟩ := Option.bind_eq_some_iff.mp hf
    refine r_iald (dGet dX0_badMember (j := 18) rfl) et7 ?_
    by_cases c8 : t7 ≤ v2
    · rw [if_pos c8] at hf
      refine r_icmp_ge_t (dGet dX0_badMember (j := 19) rfl) rfl c8 ?_
      refine r_iinc (lv' := [(1, .int (v1 + (1 : Int32))), (0, .ref v0), (2, .int v2)]) (dGet dX0_badMember (j := 46) rfl) rfl (by decide) kI_1 rfl ?_
      refine r_goto (dGet dX0_badMember (j := 47) rfl) rfl ?_
      refine Run.weak [(0, .ref v0), (1, .int (v1 + (1 : Int32)))] (by simp) (by simp [pNd]) ?_
      exact K2 v0 (v1 + (1 : Int32)) h q hf nv0
    · rw [if_neg c8] at hf
      refine r_icmp_ge_f (dGet dX0_badMember (j := 19) rfl) rfl c8 ?_
      refine r_aload_n (dGet dX0_badMember (j := 20) rfl) nv0 rfl ?_
      obtain ⟨t9, et9, hf⟩ := Option.bind_eq_some_iff.mp hf
      refine r_getR (dGet dX0_badMember (j := 21) rfl) F0_13 et9 ?_
      obtain ⟨t10, et10, hf⟩ := Option.bind_eq_some_iff.mp hf
      refine r_getR (dGet dX0_badMember (j := 22) rfl) F0_72 et10 ?_
      refine r_iload_n (dGet dX0_badMember (j := 23) rfl) rfl ?_
      obtain ⟨t11, et11, hf⟩ := Option.bind_eq_some_iff.mp hf
      refine r_zald (dGet dX0_badMember (j := 24) rfl) et11 ?_
      by_cases c12 : t11 = 0
      · rw [if_pos c12] at hf
        refine r_if_eq_t (dGet dX0_badMember (j := 25) rfl) rfl c12 ?_
        refine r_aload_n (dGet dX0_badMember (j := 31) rfl) nv0 rfl ?_
        refine r_iload_n (dGet dX0_badMember (j := 32) rfl) rfl ?_
        refine r_iload_n (dGet dX0_badMember (j := 33) rfl) rfl ?_
        obtain ⟨q13, eq13, hf⟩ := Option.bind_eq_some_iff.mp hf
        refine r_virtual (dGet dX0_badMember (j := 34) rfl) L0_80 M120 rfl rfl (Nat.le_of_ble_eq_true rfl) (oX0_isFieldFine eq13) (cX0_isFieldFine X N (d + 0) v0 v1 v2 h q13 eq13) ?_
        exact lX0_badMember_63 X N d k2 K2 (fX0_badMember_23 N k2 n) ih v0 v1 v2 q13.1 q13.2 q hf nv0
      · rw [if_neg c12] at hf
        refine r_if_eq_f (dGet dX0_badMember (j := 25) rfl) rfl c12 ?_
        refine r_aload_n (dGet dX0_badMember (j := 26) rfl) nv0 rfl ?_
        refine r_iload_n (dGet dX0_badMember (j := 27) rfl) rfl ?_
        refine r_iload_n (dGet dX0_badMember (j := 28) rfl) rfl ?_
        obtain ⟨q14, eq14, hf⟩ := Option.bind_eq_some_iff.mp hf
        refine r_virtual (dGet dX0_badMember (j := 29) rfl) L0_76 M113 rfl rfl (Nat.le_of_ble_eq_true rfl) (oX0_isMethodFine eq14) (cX0_isMethodFine X N (d + 0) v0 v1 v2 h q14 eq14) ?_
        refine r_goto (dGet dX0_badMember (j := 30) rfl) rfl ?_
        exact lX0_badMember_63 X N d k2 K2 (fX0_badMember_23 N k2 n) ih v0 v1 v2 q14.1 q14.2 q hf nv0
def fX0_badMember_2 (N : Nat) : Nat → Nat → Int32 → pH → Option (Int32 × pH)
  | 0, _, _, _ => none
  | n + 1, v0, v1, h => (getR h v0 0 0).bind fun t15 =>
  (getI h t15 1 7).bind fun t16 =>
  if t16 ≤ v1 then (
  some ((-1 : Int32), h)) else (
  (getR h v0 0 0).bind fun t18 =>
  (getR h t18 1 4).bind fun t19 =>
  (ldI h t19 v1).bind fun t20 =>
  fX0_badMember_23 N (fX0_badMember_2 N n) N v0 v1 t20 h)
theorem lX0_badMember_2 (X : pX) (N d : Nat)  : ∀ (n : Nat) (v0 : Nat) (v1 : Int32) (h : pH) (q : Int32 × pH), fX0_badMember_2 N n v0 v1 h = some q → ¬ v0 = 4 → Run X (d + 3) 0 false (pCd 4221) 4 (some .int) 2 [(0, .ref v0), (1, .int v1)] [] h 0 0 (some (.int q.1), q.2, 0, 0) := by
  intro n
  induction n with
  | zero => intro v0 v1 h q hf; cases hf
  | succ n ih =>
    intro v0 v1 h q hf nv0
    unfold fX0_badMember_2 at hf
    refine r_iload_n (dGet dX0_badMember (j := 2) rfl) rfl ?_
    refine r_aload_n (dGet dX0_badMember (j := 3) rfl) nv0 rfl ?_
    obtain ⟨t15, et15, hf⟩ := Option.bind_eq_some_iff.mp hf
    refine r_getR (dGet dX0_badMember (j := 4) rfl) F0_7 et15 ?_
    obtain ⟨t16, et16, hf⟩ := Option.bind_eq_some_iff.mp hf
    refine r_getI (dGet dX0_badMember (j := 5) rfl) F0_38 et16 ?_
    by_cases c17 : t16 ≤ v1
    · rw [if_pos c17] at hf
      refine r_icmp_ge_t (dGet dX0_badMember (j := 6) rfl) rfl c17 ?_
      refine r_iconst (dGet dX0_badMember (j := 48) rfl) kI_m1 ?_
      cases hf
      exact r_iret (dGet dX0_badMember (j := 49) rfl) rfl rfl
    · rw [if_neg c17] at hf
      refine r_icmp_ge_f (dGet dX0_badMember (j := 6) rfl) rfl c17 ?_
      refine r_aload_n (dGet dX0_badMember (j := 7) rfl) nv0 rfl ?_
      obtain ⟨t18, et18, hf⟩ := Option.bind_eq_some_iff.mp hf
      refine r_getR (dGet dX0_badMember (j := 8) rfl) F0_7 et18 ?_
      obtain ⟨t19, et19, hf⟩ := Option.bind_eq_some_iff.mp hf
      refine r_getR (dGet dX0_badMember (j := 9) rfl) F0_66 et19 ?_
      refine r_iload_n (dGet dX0_badMember (j := 10) rfl) rfl ?_
      obtain ⟨t20, et20, hf⟩ := Option.bind_eq_some_iff.mp hf
      refine r_iald (dGet dX0_badMember (j := 11) rfl) et20 ?_
      refine r_istore_n (lv' := [(2, .int t20), (0, .ref v0), (1, .int v1)]) (dGet dX0_badMember (j := 12) rfl) (by decide) rfl ?_
      refine Run.weak [(0, .ref v0), (1, .int v1), (2, .int t20)] (by simp) (by simp [pNd]) ?_
      exact lX0_badMember_23 X N d (fX0_badMember_2 N n) ih N v0 v1 t20 h q hf nv0
def fX0_badMember (N : Nat) (v0 : Nat) (h : pH) : Option (Int32 × pH) := if isO h v0 0 = true then (
  fX0_badMember_2 N N v0 (5 : Int32) h) else none
theorem oX0_badMember {N : Nat} {v0 : Nat} {h : pH} {q : Int32 × pH} (hf : fX0_badMember N v0 h = some q) : isO h v0 0 = true := by
  unfold fX0_badMember at hf
  by_cases hc : isO h v0 0 = true
  · exact hc
  · rw [if_neg hc] at hf; cases hf
theorem cX0_badMember (X : pX) (N d : Nat) (v0 : Nat) (h : pH) (q : Int32 × pH) (hf : fX0_badMember N v0 h = some q) : Calls X (d + 3) 112 [.ref v0] h (some (.int q.1), q.2, 0, 0) := by
  refine Calls.of M112 (Nat.le_of_ble_eq_true rfl) ?_
  show Run X (d + 3) 0 false (pCd 4221) 4 (some .int) 0 [(0, .ref v0)] [] h 0 0 (some (.int q.1), q.2, 0, 0)
  unfold fX0_badMember at hf
  by_cases hc : isO h v0 0 = true
  · rw [if_pos hc] at hf
    have nv0 : ¬ v0 = 4 := isO_ne hc
    refine r_iconst (dGet dX0_badMember (j := 0) rfl) kI_5 ?_
    refine r_istore_n (lv' := [(1, .int (5 : Int32)), (0, .ref v0)]) (dGet dX0_badMember (j := 1) rfl) (by decide) rfl ?_
    refine Run.weak [(0, .ref v0), (1, .int (5 : Int32))] (by simp) (by simp [pNd]) ?_
    exact lX0_badMember_2 X N d N v0 (5 : Int32) h q hf nv0
  · rw [if_neg hc] at hf; cases hf
def eX0_hasMain : List (Nat × Instr × Nat) := [(0, .aload_n 0, 1), (1, .getfield 7, 3), (4, .bipush 26, 2), (6, .invokevirtual 46, 3), (9, .istore_n 1, 1), (10, .aload_n 0, 1), (11, .getfield 13, 3), (14, .iload_n 1, 1), (15, .iconst 1, 1), (16, .bipush 27, 2), (18, .invokevirtual 92, 3), (21, .istore_n 2, 1), (22, .iload_n 2, 1), (23, .iconst (-1), 1), (24, .if_icmp .eq 32, 3), (27, .aload_n 0, 1), (28, .getfield 13, 3), (31, .getfield 85, 3), (34, .iload_n 2, 1), (35, .iaload, 1), (36, .iconst (-1), 1), (37, .if_icmp .ne 19, 3), (40, .aload_n 0, 1), (41, .getfield 13, 3), (44, .getfield 102, 3), (47, .iload_n 2, 1), (48, .iaload, 1), (49, .ifCond .ne 7, 3), (52, .iconst 1, 1), (53, .goto 4, 3), (56, .iconst 0, 1), (57, .ireturn, 1)]
theorem dX0_hasMain : dChk (pCd 5031) eX0_hasMain = true := by decide +kernel
def fX0_hasMain (N : Nat) (v0 : Nat) (h : pH) : Option (Int32 × pH) := if isO h v0 0 = true then (
  (getR h v0 0 0).bind fun t1 =>
  (fX1_find N t1 (26 : Int32) h).bind fun q2 =>
  (getR q2.2 v0 0 1).bind fun t3 =>
  (fX6_had N t3 q2.1 (1 : Int32) (27 : Int32) q2.2).bind fun q4 =>
  if q4.1 = (-1 : Int32) then (
  some ((0 : Int32), q4.2)) else (
  (getR q4.2 v0 0 1).bind fun t6 =>
  (getR q4.2 t6 6 3).bind fun t7 =>
  (ldI q4.2 t7 q4.1).bind fun t8 =>
  if t8 = (-1 : Int32) then (
  (getR q4.2 v0 0 1).bind fun t10 =>
  (getR q4.2 t10 6 7).bind fun t11 =>
  (ldI q4.2 t11 q4.1).bind fun t12 =>
  if t12 = 0 then (
  some ((1 : Int32), q4.2)) else (
  some ((0 : Int32), q4.2))) else (
  some ((0 : Int32), q4.2)))) else none
theorem oX0_hasMain {N : Nat} {v0 : Nat} {h : pH} {q : Int32 × pH} (hf : fX0_hasMain N v0 h = some q) : isO h v0 0 = true := by
  unfold fX0_hasMain at hf
  by_cases hc : isO h v0 0 = true
  · exact hc
  · rw [if_neg hc] at hf; cases hf
theorem cX0_hasMain (X : pX) (N d : Nat) (v0 : Nat) (h : pH) (q : Int32 × pH) (hf : fX0_hasMain N v0 h = some q) : Calls X (d + 2) 124 [.ref v0] h (some (.int q.1), q.2, 0, 0) := by
  refine Calls.of M124 (Nat.le_of_ble_eq_true rfl) ?_
  show Run X (d + 2) 0 false (pCd 5031) 3 (some .boolean) 0 [(0, .ref v0)] [] h 0 0 (some (.int q.1), q.2, 0, 0)
  unfold fX0_hasMain at hf
  by_cases hc : isO h v0 0 = true
  · rw [if_pos hc] at hf
    have nv0 : ¬ v0 = 4 := isO_ne hc
    refine r_aload_n (dGet dX0_hasMain (j := 0) rfl) nv0 rfl ?_
    obtain ⟨t1, et1, hf⟩ := Option.bind_eq_some_iff.mp hf
    refine r_getR (dGet dX0_hasMain (j := 1) rfl) F0_7 et1 ?_
    refine r_bipush (dGet dX0_hasMain (j := 2) rfl) kB_26 ?_
    obtain ⟨q2, eq2, hf⟩ := Option.bind_eq_some_iff.mp hf
    refine r_virtual (dGet dX0_hasMain (j := 3) rfl) L0_46 M107 rfl rfl (Nat.le_of_ble_eq_true rfl) (oX1_find eq2) (cX1_find X N (d + 1) t1 (26 : Int32) h q2 eq2) ?_
    refine r_istore_n (lv' := [(1, .int q2.1), (0, .ref v0)]) (dGet dX0_hasMain (j := 4) rfl) (by decide) rfl ?_
    refine r_aload_n (dGet dX0_hasMain (j := 5) rfl) nv0 rfl ?_
    obtain ⟨t3, et3, hf⟩ := Option.bind_eq_some_iff.mp hf
    refine r_getR (dGet dX0_hasMain (j := 6) rfl) F0_13 et3 ?_
    refine r_iload_n (dGet dX0_hasMain (j := 7) rfl) rfl ?_
    refine r_iconst (dGet dX0_hasMain (j := 8) rfl) kI_1 ?_
    refine r_bipush (dGet dX0_hasMain (j := 9) rfl) kB_27 ?_
    obtain ⟨q4, eq4, hf⟩ := Option.bind_eq_some_iff.mp hf
    refine r_virtual (dGet dX0_hasMain (j := 10) rfl) L0_92 M118 rfl rfl (Nat.le_of_ble_eq_true rfl) (oX6_had eq4) (cX6_had X N (d + 0) t3 q2.1 (1 : Int32) (27 : Int32) q2.2 q4 eq4) ?_
    refine r_istore_n (lv' := [(2, .int q4.1), (1, .int q2.1), (0, .ref v0)]) (dGet dX0_hasMain (j := 11) rfl) (by decide) rfl ?_
    refine r_iload_n (dGet dX0_hasMain (j := 12) rfl) rfl ?_
    refine r_iconst (dGet dX0_hasMain (j := 13) rfl) kI_m1 ?_
    by_cases c5 : q4.1 = (-1 : Int32)
    · rw [if_pos c5] at hf
      refine r_icmp_eq_t (dGet dX0_hasMain (j := 14) rfl) rfl c5 ?_
      refine r_iconst (dGet dX0_hasMain (j := 30) rfl) kI_0 ?_
      cases hf
      exact r_iret (dGet dX0_hasMain (j := 31) rfl) rfl (by decide)
    · rw [if_neg c5] at hf
      refine r_icmp_eq_f (dGet dX0_hasMain (j := 14) rfl) rfl c5 ?_
      refine r_aload_n (dGet dX0_hasMain (j := 15) rfl) nv0 rfl ?_
      obtain ⟨t6, et6, hf⟩ := Option.bind_eq_some_iff.mp hf
      refine r_getR (dGet dX0_hasMain (j := 16) rfl) F0_13 et6 ?_
      obtain ⟨t7, et7, hf⟩ := Option.bind_eq_some_iff.mp hf
      refine r_getR (dGet dX0_hasMain (j := 17) rfl) F0_85 et7 ?_
      refine r_iload_n (dGet dX0_hasMain (j := 18) rfl) rfl ?_
      obtain ⟨t8, et8, hf⟩ := Option.bind_eq_some_iff.mp hf
      refine r_iald (dGet dX0_hasMain (j := 19) rfl) et8 ?_
      refine r_iconst (dGet dX0_hasMain (j := 20) rfl) kI_m1 ?_
      by_cases c9 : t8 = (-1 : Int32)
      · rw [if_pos c9] at hf
        refine r_icmp_ne_f (dGet dX0_hasMain (j := 21) rfl) rfl c9 ?_
        refine r_aload_n (dGet dX0_hasMain (j := 22) rfl) nv0 rfl ?_
        obtain ⟨t10, et10, hf⟩ := Option.bind_eq_some_iff.mp hf
        refine r_getR (dGet dX0_hasMain (j := 23) rfl) F0_13 et10 ?_
        obtain ⟨t11, et11, hf⟩ := Option.bind_eq_some_iff.mp hf
        refine r_getR (dGet dX0_hasMain (j := 24) rfl) F0_102 et11 ?_
        refine r_iload_n (dGet dX0_hasMain (j := 25) rfl) rfl ?_
        obtain ⟨t12, et12, hf⟩ := Option.bind_eq_some_iff.mp hf
        refine r_iald (dGet dX0_hasMain (j := 26) rfl) et12 ?_
        by_cases c13 : t12 = 0
        · rw [if_pos c13] at hf
          refine r_if_ne_f (dGet dX0_hasMain (j := 27) rfl) rfl c13 ?_
          refine r_iconst (dGet dX0_hasMain (j := 28) rfl) kI_1 ?_
          refine r_goto (dGet dX0_hasMain (j := 29) rfl) rfl ?_
          cases hf
          exact r_iret (dGet dX0_hasMain (j := 31) rfl) rfl (by decide)
        · rw [if_neg c13] at hf
          refine r_if_ne_t (dGet dX0_hasMain (j := 27) rfl) rfl c13 ?_
          refine r_iconst (dGet dX0_hasMain (j := 30) rfl) kI_0 ?_
          cases hf
          exact r_iret (dGet dX0_hasMain (j := 31) rfl) rfl (by decide)
      · rw [if_neg c9] at hf
        refine r_icmp_ne_t (dGet dX0_hasMain (j := 21) rfl) rfl c9 ?_
        refine r_iconst (dGet dX0_hasMain (j := 30) rfl) kI_0 ?_
        cases hf
        exact r_iret (dGet dX0_hasMain (j := 31) rfl) rfl (by decide)
  · rw [if_neg hc] at hf; cases hf
def eX6_ownFields : List (Nat × Instr × Nat) := [(0, .iconst 0, 1), (1, .istore_n 2, 1), (2, .aload_n 0, 1), (3, .getfield 7, 3), (6, .getfield 68, 3), (9, .iload_n 1, 1), (10, .iaload, 1), (11, .istore_n 3, 1), (12, .iload_n 3, 1), (13, .aload_n 0, 1), (14, .getfield 7, 3), (17, .getfield 71, 3), (20, .iload_n 1, 1), (21, .iaload, 1), (22, .if_icmp .ge 21, 3), (25, .aload_n 0, 1), (26, .getfield 23, 3), (29, .iload_n 3, 1), (30, .baload, 1), (31, .ifCond .ne 6, 3), (34, .iinc 2 1, 3), (37, .iinc 3 1, 3), (40, .goto (-28), 3), (43, .iload_n 2, 1), (44, .ireturn, 1)]
theorem dX6_ownFields : dChk (pCd 5027) eX6_ownFields = true := by decide +kernel
def fX6_ownFields_37 (N : Nat) (k12 : Nat → Int32 → Int32 → Int32 → pH → Option (Int32 × pH)) (v0 : Nat) (v1 : Int32) (v2 : Int32) (v3 : Int32) (h : pH) : Option (Int32 × pH) :=
  k12 v0 v1 v2 (v3 + (1 : Int32)) h
theorem lX6_ownFields_37 (X : pX) (N d : Nat)  (k12 : Nat → Int32 → Int32 → Int32 → pH → Option (Int32 × pH)) (K12 : ∀ (w0 : Nat) (w1 : Int32) (w2 : Int32) (w3 : Int32) (h : pH) (q : Int32 × pH), k12 w0 w1 w2 w3 h = some q → ¬ w0 = 4 → Run X (d + 0) 6 false (pCd 5027) 4 (some .int) 12 [(0, .ref w0), (1, .int w1), (2, .int w2), (3, .int w3)] [] h 0 0 (some (.int q.1), q.2, 0, 0)) (v0 : Nat) (v1 : Int32) (v2 : Int32) (v3 : Int32) (h : pH) (q : Int32 × pH) (hf : fX6_ownFields_37 N k12 v0 v1 v2 v3 h = some q) (nv0 : ¬ v0 = 4) : Run X (d + 0) 6 false (pCd 5027) 4 (some .int) 37 [(0, .ref v0), (1, .int v1), (2, .int v2), (3, .int v3)] [] h 0 0 (some (.int q.1), q.2, 0, 0) := by
  unfold fX6_ownFields_37 at hf
  refine r_iinc (lv' := [(3, .int (v3 + (1 : Int32))), (0, .ref v0), (1, .int v1), (2, .int v2)]) (dGet dX6_ownFields (j := 21) rfl) rfl (by decide) kI_1 rfl ?_
  refine r_goto (dGet dX6_ownFields (j := 22) rfl) rfl ?_
  refine Run.weak [(0, .ref v0), (1, .int v1), (2, .int v2), (3, .int (v3 + (1 : Int32)))] (by simp) (by simp [pNd]) ?_
  exact K12 v0 v1 v2 (v3 + (1 : Int32)) h q hf nv0
def fX6_ownFields_12 (N : Nat) : Nat → Nat → Int32 → Int32 → Int32 → pH → Option (Int32 × pH)
  | 0, _, _, _, _, _ => none
  | n + 1, v0, v1, v2, v3, h => (getR h v0 6 0).bind fun t1 =>
  (getR h t1 1 5).bind fun t2 =>
  (ldI h t2 v1).bind fun t3 =>
  if t3 ≤ v3 then (
  some (v2, h)) else (
  (getR h v0 6 4).bind fun t5 =>
  (ldZ h t5 v3).bind fun t6 =>
  if t6 = 0 then (
  fX6_ownFields_37 N (fX6_ownFields_12 N n) v0 v1 (v2 + (1 : Int32)) v3 h) else (
  fX6_ownFields_37 N (fX6_ownFields_12 N n) v0 v1 v2 v3 h))
theorem lX6_ownFields_12 (X : pX) (N d : Nat)  : ∀ (n : Nat) (v0 : Nat) (v1 : Int32) (v2 : Int32) (v3 : Int32) (h : pH) (q : Int32 × pH), fX6_ownFields_12 N n v0 v1 v2 v3 h = some q → ¬ v0 = 4 → Run X (d + 0) 6 false (pCd 5027) 4 (some .int) 12 [(0, .ref v0), (1, .int v1), (2, .int v2), (3, .int v3)] [] h 0 0 (some (.int q.1), q.2, 0, 0) := by
  intro n
  induction n with
  | zero => intro v0 v1 v2 v3 h q hf; cases hf
  | succ n ih =>
    intro v0 v1 v2 v3 h q hf nv0
    unfold fX6_ownFields_12 at hf
    refine r_iload_n (dGet dX6_ownFields (j := 8) rfl) rfl ?_
    refine r_aload_n (dGet dX6_ownFields (j := 9) rfl) nv0 rfl ?_
    obtain ⟨t1, et1, hf⟩ := Option.bind_eq_some_iff.mp hf
    refine r_getR (dGet dX6_ownFields (j := 10) rfl) F6_7 et1 ?_
    obtain ⟨t2, et2, hf⟩ := Option.bind_eq_some_iff.mp hf
    refine r_getR (dGet dX6_ownFields (j := 11) rfl) F6_71 et2 ?_
    refine r_iload_n (dGet dX6_ownFields (j := 12) rfl) rfl ?_
    obtain ⟨t3, et3, hf⟩ := Option.bind_eq_some_iff.mp hf
    refine r_iald (dGet dX6_ownFields (j := 13) rfl) et3 ?_
    by_cases c4 : t3 ≤ v3
    · rw [if_pos c4] at hf
      refine r_icmp_ge_t (dGet dX6_ownFields (j := 14) rfl) rfl c4 ?_
      refine r_iload_n (dGet dX6_ownFields (j := 23) rfl) rfl ?_
      cases hf
      exact r_iret (dGet dX6_ownFields (j := 24) rfl) rfl rfl
    · rw [if_neg c4] at hf
      refine r_icmp_ge_f (dGet dX6_ownFields (j := 14) rfl) rfl c4 ?_
      refine r_aload_n (dGet dX6_ownFields (j := 15) rfl) nv0 rfl ?_
      obtain ⟨t5, et5, hf⟩ := Option.bind_eq_some_iff.mp hf
      refine r_getR (dGet dX6_ownFields (j := 16) rfl) F6_23 et5 ?_
      refine r_iload_n (dGet dX6_ownFields (j := 17) rfl) rfl ?_
      obtain ⟨t6, et6, hf⟩ := Option.bind_eq_some_iff.mp hf
      refine r_zald (dGet dX6_ownFields (j := 18) rfl) et6 ?_
      by_cases c7 : t6 = 0
      · rw [if_pos c7] at hf
        refine r_if_ne_f (dGet dX6_ownFields (j := 19) rfl) rfl c7 ?_
        refine r_iinc (lv' := [(2, .int (v2 + (1 : Int32))), (0, .ref v0), (1, .int v1), (3, .int v3)]) (dGet dX6_ownFields (j := 20) rfl) rfl (by decide) kI_1 rfl ?_
        refine Run.weak [(0, .ref v0), (1, .int v1), (2, .int (v2 + (1 : Int32))), (3, .int v3)] (by simp) (by simp [pNd]) ?_
        exact lX6_ownFields_37 X N d (fX6_ownFields_12 N n) ih v0 v1 (v2 + (1 : Int32)) v3 h q hf nv0
      · rw [if_neg c7] at hf
        refine r_if_ne_t (dGet dX6_ownFields (j := 19) rfl) rfl c7 ?_
        exact lX6_ownFields_37 X N d (fX6_ownFields_12 N n) ih v0 v1 v2 v3 h q hf nv0
def fX6_ownFields (N : Nat) (v0 : Nat) (v1 : Int32) (h : pH) : Option (Int32 × pH) := if isO h v0 6 = true then (
  (getR h v0 6 0).bind fun t8 =>
  (getR h t8 1 4).bind fun t9 =>
  (ldI h t9 v1).bind fun t10 =>
  fX6_ownFields_12 N N v0 v1 (0 : Int32) t10 h) else none
theorem oX6_ownFields {N : Nat} {v0 : Nat} {v1 : Int32} {h : pH} {q : Int32 × pH} (hf : fX6_ownFields N v0 v1 h = some q) : isO h v0 6 = true := by
  unfold fX6_ownFields at hf
  by_cases hc : isO h v0 6 = true
  · exact hc
  · rw [if_neg hc] at hf; cases hf
theorem cX6_ownFields (X : pX) (N d : Nat) (v0 : Nat) (v1 : Int32) (h : pH) (q : Int32 × pH) (hf : fX6_ownFields N v0 v1 h = some q) : Calls X (d + 0) 123 [.ref v0, .int v1] h (some (.int q.1), q.2, 0, 0) := by
  refine Calls.of M123 (Nat.le_of_ble_eq_true rfl) ?_
  show Run X (d + 0) 6 false (pCd 5027) 4 (some .int) 0 [(0, .ref v0), (1, .int v1)] [] h 0 0 (some (.int q.1), q.2, 0, 0)
  unfold fX6_ownFields at hf
  by_cases hc : isO h v0 6 = true
  · rw [if_pos hc] at hf
    have nv0 : ¬ v0 = 4 := isO_ne hc
    refine r_iconst (dGet dX6_ownFields (j := 0) rfl) kI_0 ?_
    refine r_istore_n (lv' := [(2, .int (0 : Int32)), (0, .ref v0), (1, .int v1)]) (dGet dX6_ownFields (j := 1) rfl) (by decide) rfl ?_
    refine r_aload_n (dGet dX6_ownFields (j := 2) rfl) nv0 rfl ?_
    obtain ⟨t8, et8, hf⟩ := Option.bind_eq_some_iff.mp hf
    refine r_getR (dGet dX6_ownFields (j := 3) rfl) F6_7 et8 ?_
    obtain ⟨t9, et9, hf⟩ := Option.bind_eq_some_iff.mp hf
    refine r_getR (dGet dX6_ownFields (j := 4) rfl) F6_68 et9 ?_
    refine r_iload_n (dGet dX6_ownFields (j := 5) rfl) rfl ?_
    obtain ⟨t10, et10, hf⟩ := Option.bind_eq_some_iff.mp hf
    refine r_iald (dGet dX6_ownFields (j := 6) rfl) et10 ?_
    refine r_istore_n (lv' := [(3, .int t10), (2, .int (0 : Int32)), (0, .ref v0), (1, .int v1)]) (dGet dX6_ownFields (j := 7) rfl) (by decide) rfl ?_
    refine Run.weak [(0, .ref v0), (1, .int v1), (2, .int (0 : Int32)), (3, .int t10)] (by simp) (by simp [pNd]) ?_
    exact lX6_ownFields_12 X N d N v0 v1 (0 : Int32) t10 h q hf nv0
  · rw [if_neg hc] at hf; cases hf
def eX6_fieldsAbove : List (Nat × Instr × Nat) := [(0, .iconst 0, 1), (1, .istore_n 2, 1), (2, .aload_n 0, 1), (3, .getfield 7, 3), (6, .iload_n 1, 1), (7, .invokevirtual 87, 3), (10, .istore_n 3, 1), (11, .iconst 0, 1), (12, .istore 4, 2), (14, .iload 4, 2), (16, .aload_n 0, 1), (17, .getfield 7, 3), (20, .getfield 67, 3), (23, .if_icmp .ge 30, 3), (26, .iload_n 3, 1), (27, .ifCond .lt 26, 3), (30, .iload_n 2, 1), (31, .aload_n 0, 1), (32, .iload_n 3, 1), (33, .invokevirtual 90, 3), (36, .iadd, 1), (37, .istore_n 2, 1), (38, .aload_n 0, 1), (39, .getfield 7, 3), (42, .iload_n 3, 1), (43, .invokevirtual 87, 3), (46, .istore_n 3, 1), (47, .iinc 4 1, 3), (50, .goto (-36), 3), (53, .iload_n 2, 1), (54, .ireturn, 1)]
theorem dX6_fieldsAbove : dChk (pCd 5022) eX6_fieldsAbove = true := by decide +kernel
def fX6_fieldsAbove_14 (N : Nat) : Nat → Nat → Int32 → Int32 → Int32 → pH → Option (Int32 × pH)
  | 0, _, _, _, _, _ => none
  | n + 1, v0, v2, v3, v4, h => (getR h v0 6 0).bind fun t1 =>
  (getI h t1 1 7).bind fun t2 =>
  if t2 ≤ v4 then (
  some (v2, h)) else (
  if v3 < 0 then (
  some (v2, h)) else (
  (fX6_ownFields N v0 v3 h).bind fun q5 =>
  (getR q5.2 v0 6 0).bind fun t6 =>
  (fX1_parentOf N t6 v3 q5.2).bind fun q7 =>
  fX6_fieldsAbove_14 N n v0 (v2 + q5.1) q7.1 (v4 + (1 : Int32)) q7.2))
theorem lX6_fieldsAbove_14 (X : pX) (N d : Nat)  : ∀ (n : Nat) (v0 : Nat) (v2 : Int32) (v3 : Int32) (v4 : Int32) (h : pH) (q : Int32 × pH), fX6_fieldsAbove_14 N n v0 v2 v3 v4 h = some q → ¬ v0 = 4 → Run X (d + 1) 6 false (pCd 5022) 5 (some .int) 14 [(0, .ref v0), (2, .int v2), (3, .int v3), (4, .int v4)] [] h 0 0 (some (.int q.1), q.2, 0, 0) := by
  intro n
  induction n with
  | zero => intro v0 v2 v3 v4 h q hf; cases hf
  | succ n ih =>
    intro v0 v2 v3 v4 h q hf nv0
    unfold fX6_fieldsAbove_14 at hf
    refine r_iload (dGet dX6_fieldsAbove (j := 9) rfl) rfl ?_
    refine r_aload_n (dGet dX6_fieldsAbove (j := 10) rfl) nv0 rfl ?_
    obtain ⟨t1, et1, hf⟩ := Option.bind_eq_some_iff.mp hf
    refine r_getR (dGet dX6_fieldsAbove (j := 11) rfl) F6_7 et1 ?_
    obtain ⟨t2, et2, hf⟩ := Option.bind_eq_some_iff.mp hf
    refine r_getI (dGet dX6_fieldsAbove (j := 12) rfl) F6_67 et2 ?_
    by_cases c3 : t2 ≤ v4
    · rw [if_pos c3] at hf
      refine r_icmp_ge_t (dGet dX6_fieldsAbove (j := 13) rfl) rfl c3 ?_
      refine r_iload_n (dGet dX6_fieldsAbove (j := 29) rfl) rfl ?_
      cases hf
      exact r_iret (dGet dX6_fieldsAbove (j := 30) rfl) rfl rfl
    · rw [if_neg c3] at hf
      refine r_icmp_ge_f (dGet dX6_fieldsAbove (j := 13) rfl) rfl c3 ?_
      refine r_iload_n (dGet dX6_fieldsAbove (j := 14) rfl) rfl ?_
      by_cases c4 : v3 < 0
      · rw [if_pos c4] at hf
        refine r_if_lt_t (dGet dX6_fieldsAbove (j := 15) rfl) rfl c4 ?_
        refine r_iload_n (dGet dX6_fieldsAbove (j := 29) rfl) rfl ?_
        cases hf
        exact r_iret (dGet dX6_fieldsAbove (j := 30) rfl) rfl rfl
      · rw [if_neg c4] at hf
        refine r_if_lt_f (dGet dX6_fieldsAbove (j := 15) rfl) rfl c4 ?_
        refine r_iload_n (dGet dX6_fieldsAbove (j := 16) rfl) rfl ?_
        refine r_aload_n (dGet dX6_fieldsAbove (j := 17) rfl) nv0 rfl ?_
        refine r_iload_n (dGet dX6_fieldsAbove (j := 18) rfl) rfl ?_
        obtain ⟨q5, eq5, hf⟩ := Option.bind_eq_some_iff.mp hf
        refine r_virtual (dGet dX6_fieldsAbove (j := 19) rfl) L6_90 M123 rfl rfl (Nat.le_of_ble_eq_true rfl) (oX6_ownFields eq5) (cX6_ownFields X N (d + 0) v0 v3 h q5 eq5) ?_
        refine r_iadd (dGet dX6_fieldsAbove (j := 20) rfl) ?_
        refine r_istore_n (lv' := [(2, .int (v2 + q5.1)), (0, .ref v0), (3, .int v3), (4, .int v4)]) (dGet dX6_fieldsAbove (j := 21) rfl) (by decide) rfl ?_
        refine r_aload_n (dGet dX6_fieldsAbove (j := 22) rfl) nv0 rfl ?_
        obtain ⟨t6, et6, hf⟩ := Option.bind_eq_some_iff.mp hf
        refine r_getR (dGet dX6_fieldsAbove (j := 23) rfl) F6_7 et6 ?_
        refine r_iload_n (dGet dX6_fieldsAbove (j := 24) rfl) rfl ?_
        obtain ⟨q7, eq7, hf⟩ := Option.bind_eq_some_iff.mp hf
        refine r_virtual (dGet dX6_fieldsAbove (j := 25) rfl) L6_87 M109 rfl rfl (Nat.le_of_ble_eq_true rfl) (oX1_parentOf eq7) (cX1_parentOf X N (d + 0) t6 v3 q5.2 q7 eq7) ?_
        refine r_istore_n (lv' := [(3, .int q7.1), (2, .int (v2 + q5.1)), (0, .ref v0), (4, .int v4)]) (dGet dX6_fieldsAbove (j := 26) rfl) (by decide) rfl ?_
        refine r_iinc (lv' := [(4, .int (v4 + (1 : Int32))), (3, .int q7.1), (2, .int (v2 + q5.1)), (0, .ref v0)]) (dGet dX6_fieldsAbove (j := 27) rfl) rfl (by decide) kI_1 rfl ?_
        refine r_goto (dGet dX6_fieldsAbove (j := 28) rfl) rfl ?_
        refine Run.weak [(0, .ref v0), (2, .int (v2 + q5.1)), (3, .int q7.1), (4, .int (v4 + (1 : Int32)))] (by simp) (by simp [pNd]) ?_
        exact ih v0 (v2 + q5.1) q7.1 (v4 + (1 : Int32)) q7.2 q hf nv0
def fX6_fieldsAbove (N : Nat) (v0 : Nat) (v1 : Int32) (h : pH) : Option (Int32 × pH) := if isO h v0 6 = true then (
  (getR h v0 6 0).bind fun t8 =>
  (fX1_parentOf N t8 v1 h).bind fun q9 =>
  fX6_fieldsAbove_14 N N v0 (0 : Int32) q9.1 (0 : Int32) q9.2) else none
theorem oX6_fieldsAbove {N : Nat} {v0 : Nat} {v1 : Int32} {h : pH} {q : Int32 × pH} (hf : fX6_fieldsAbove N v0 v1 h = some q) : isO h v0 6 = true := by
  unfold fX6_fieldsAbove at hf
  by_cases hc : isO h v0 6 = true
  · exact hc
  · rw [if_neg hc] at hf; cases hf
theorem cX6_fieldsAbove (X : pX) (N d : Nat) (v0 : Nat) (v1 : Int32) (h : pH) (q : Int32 × pH) (hf : fX6_fieldsAbove N v0 v1 h = some q) : Calls X (d + 1) 122 [.ref v0, .int v1] h (some (.int q.1), q.2, 0, 0) := by
  refine Calls.of M122 (Nat.le_of_ble_eq_true rfl) ?_
  show Run X (d + 1) 6 false (pCd 5022) 5 (some .int) 0 [(0, .ref v0), (1, .int v1)] [] h 0 0 (some (.int q.1), q.2, 0, 0)
  unfold fX6_fieldsAbove at hf
  by_cases hc : isO h v0 6 = true
  · rw [if_pos hc] at hf
    have nv0 : ¬ v0 = 4 := isO_ne hc
    refine r_iconst (dGet dX6_fieldsAbove (j := 0) rfl) kI_0 ?_
    refine r_istore_n (lv' := [(2, .int (0 : Int32)), (0, .ref v0), (1, .int v1)]) (dGet dX6_fieldsAbove (j := 1) rfl) (by decide) rfl ?_
    refine r_aload_n (dGet dX6_fieldsAbove (j := 2) rfl) nv0 rfl ?_
    obtain ⟨t8, et8, hf⟩ := Option.bind_eq_some_iff.mp hf
    refine r_getR (dGet dX6_fieldsAbove (j := 3) rfl) F6_7 et8 ?_
    refine r_iload_n (dGet dX6_fieldsAbove (j := 4) rfl) rfl ?_
    obtain ⟨q9, eq9, hf⟩ := Option.bind_eq_some_iff.mp hf
    refine r_virtual (dGet dX6_fieldsAbove (j := 5) rfl) L6_87 M109 rfl rfl (Nat.le_of_ble_eq_true rfl) (oX1_parentOf eq9) (cX1_parentOf X N (d + 0) t8 v1 h q9 eq9) ?_
    refine r_istore_n (lv' := [(3, .int q9.1), (2, .int (0 : Int32)), (0, .ref v0), (1, .int v1)]) (dGet dX6_fieldsAbove (j := 6) rfl) (by decide) rfl ?_
    refine r_iconst (dGet dX6_fieldsAbove (j := 7) rfl) kI_0 ?_
    refine r_istore (lv' := [(4, .int (0 : Int32)), (3, .int q9.1), (2, .int (0 : Int32)), (0, .ref v0), (1, .int v1)]) (dGet dX6_fieldsAbove (j := 8) rfl) (by decide) rfl ?_
    refine Run.weak [(0, .ref v0), (2, .int (0 : Int32)), (3, .int q9.1), (4, .int (0 : Int32))] (by simp) (by simp [pNd]) ?_
    exact lX6_fieldsAbove_14 X N d N v0 (0 : Int32) q9.1 (0 : Int32) q9.2 q hf nv0
  · rw [if_neg hc] at hf; cases hf
def eX6_layOutFields : List (Nat × Instr × Nat) := [(0, .iconst 0, 1), (1, .istore_n 1, 1), (2, .iload_n 1, 1), (3, .aload_n 0, 1), (4, .getfield 7, 3), (7, .getfield 67, 3), (10, .if_icmp .ge 73, 3), (13, .aload_n 0, 1), (14, .iload_n 1, 1), (15, .invokevirtual 81, 3), (18, .istore_n 2, 1), (19, .aload_n 0, 1), (20, .getfield 7, 3), (23, .getfield 68, 3), (26, .iload_n 1, 1), (27, .iaload, 1), (28, .istore_n 3, 1), (29, .iload_n 3, 1), (30, .aload_n 0, 1), (31, .getfield 7, 3), (34, .getfield 71, 3), (37, .iload_n 1, 1), (38, .iaload, 1), (39, .if_icmp .ge 28, 3), (42, .aload_n 0, 1), (43, .getfield 23, 3), (46, .iload_n 3, 1), (47, .baload, 1), (48, .ifCond .ne 13, 3), (51, .aload_n 0, 1), (52, .getfield 27, 3), (55, .iload_n 3, 1), (56, .iload_n 2, 1), (57, .iastore, 1), (58, .iinc 2 1, 3), (61, .iinc 3 1, 3), (64, .goto (-35), 3), (67, .aload_n 0, 1), (68, .getfield 7, 3), (71, .getfield 84, 3), (74, .iload_n 1, 1), (75, .iload_n 2, 1), (76, .iastore, 1), (77, .iinc 1 1, 3), (80, .goto (-78), 3), (83, .return_, 1)]
theorem dX6_layOutFields : dChk (pCd 5018) eX6_layOutFields = true := by decide +kernel
def fX6_layOutFields_61 (N : Nat) (k2 : Nat → Int32 → pH → Option (pH)) (k29 : Nat → Int32 → Int32 → Int32 → pH → Option (pH)) (v0 : Nat) (v1 : Int32) (v2 : Int32) (v3 : Int32) (h : pH) : Option (pH) :=
  k29 v0 v1 v2 (v3 + (1 : Int32)) h
theorem lX6_layOutFields_61 (X : pX) (N d : Nat)  (k2 : Nat → Int32 → pH → Option (pH)) (K2 : ∀ (w0 : Nat) (w1 : Int32) (h : pH) (q : pH), k2 w0 w1 h = some q → ¬ w0 = 4 → Run X (d + 2) 6 false (pCd 5018) 4 none 2 [(0, .ref w0), (1, .int w1)] [] h 0 0 (none, q, 0, 0)) (k29 : Nat → Int32 → Int32 → Int32 → pH → Option (pH)) (K29 : ∀ (w0 : Nat) (w1 : Int32) (w2 : Int32) (w3 : Int32) (h : pH) (q : pH), k29 w0 w1 w2 w3 h = some q → ¬ w0 = 4 → Run X (d + 2) 6 false (pCd 5018) 4 none 29 [(0, .ref w0), (1, .int w1), (2, .int w2), (3, .int w3)] [] h 0 0 (none, q, 0, 0)) (v0 : Nat) (v1 : Int32) (v2 : Int32) (v3 : Int32) (h : pH) (q : pH) (hf : fX6_layOutFields_61 N k2 k29 v0 v1 v2 v3 h = some q) (nv0 : ¬ v0 = 4) : Run X (d + 2) 6 false (pCd 5018) 4 none 61 [(0, .ref v0), (1, .int v1), (2, .int v2), (3, .int v3)] [] h 0 0 (none, q, 0, 0) := by
  unfold fX6_layOutFields_61 at hf
  refine r_iinc (lv' := [(3, .int (v3 + (1 : Int32))), (0, .ref v0), (1, .int v1), (2, .int v2)]) (dGet dX6_layOutFields (j := 35) rfl) rfl (by decide) kI_1 rfl ?_
  refine r_goto (dGet dX6_layOutFields (j := 36) rfl) rfl ?_
  refine Run.weak [(0, .ref v0), (1, .int v1), (2, .int v2), (3, .int (v3 + (1 : Int32)))] (by simp) (by simp [pNd]) ?_
  exact K29 v0 v1 v2 (v3 + (1 : Int32)) h q hf nv0
def fX6_layOutFields_29 (N : Nat) (k2 : Nat → Int32 → pH → Option (pH)) : Nat → Nat → Int32 → Int32 → Int32 → pH → Option (pH)
  | 0, _, _, _, _, _ => none
  | n + 1, v0, v1, v2, v3, h => (getR h v0 6 0).bind fun t1 =>
  (getR h t1 1 5).bind fun t2 =>
  (ldI h t2 v1).bind fun t3 =>
  if t3 ≤ v3 then (
  (getR h v0 6 0).bind fun t5 =>
  (getR h t5 1 6).bind fun t6 =>
  (stI h t6 v1 v2).bind fun h7 =>
  k2 v0 (v1 + (1 : Int32)) h7) else (
  (getR h v0 6 4).bind fun t8 =>
  (ldZ h t8 v3).bind fun t9 =>
  if t9 = 0 then (
  (getR h v0 6 5).bind fun t11 =>
  (stI h t11 v3 v2).bind fun h12 =>
  fX6_layOutFields_61 N k2 (fX6_layOutFields_29 N k2 n) v0 v1 (v2 + (1 : Int32)) v3 h12) else (
  fX6_layOutFields_61 N k2 (fX6_layOutFields_29 N k2 n) v0 v1 v2 v3 h))
theorem lX6_layOutFields_29 (X : pX) (N d : Nat)  (k2 : Nat → Int32 → pH → Option (pH)) (K2 : ∀ (w0 : Nat) (w1 : Int32) (h : pH) (q : pH), k2 w0 w1 h = some q → ¬ w0 = 4 → Run X (d + 2) 6 false (pCd 5018) 4 none 2 [(0, .ref w0), (1, .int w1)] [] h 0 0 (none, q, 0, 0)) : ∀ (n : Nat) (v0 : Nat) (v1 : Int32) (v2 : Int32) (v3 : Int32) (h : pH) (q : pH), fX6_layOutFields_29 N k2 n v0 v1 v2 v3 h = some q → ¬ v0 = 4 → Run X (d + 2) 6 false (pCd 5018) 4 none 29 [(0, .ref v0), (1, .int v1), (2, .int v2), (3, .int v3)] [] h 0 0 (none, q, 0, 0) := by
  intro n
  induction n with
  | zero => intro v0 v1 v2 v3 h q hf; cases hf
  | succ n ih =>
    intro v0 v1 v2 v3 h q hf nv0
    unfold fX6_layOutFields_29 at hf
    refine r_iload_n (dGet dX6_layOutFields (j := 17) rfl) rfl ?_
    refine r_aload_n (dGet dX6_layOutFields (j := 18) rfl) nv0 rfl ?_
    obtain ⟨t1, et1, hf⟩ := Option.bind_eq_some_iff.mp hf
    refine r_getR (dGet dX6_layOutFields (j := 19) rfl) F6_7 et1 ?_
    obtain ⟨t2, et2, hf⟩ := Option.bind_eq_some_iff.mp hf
    refine r_getR (dGet dX6_layOutFields (j := 20) rfl) F6_71 et2 ?_
    refine r_iload_n (dGet dX6_layOutFields (j := 21) rfl) rfl ?_
    obtain ⟨t3, et3, hf⟩ := Option.bind_eq_some_iff.mp hf
    refine r_iald (dGet dX6_layOutFields (j := 22) rfl) et3 ?_
    by_cases c4 : t3 ≤ v3
    · rw [if_pos c4] at hf
      refine r_icmp_ge_t (dGet dX6_layOutFields (j := 23) rfl) rfl c4 ?_
      refine r_aload_n (dGet dX6_layOutFields (j := 37) rfl) nv0 rfl ?_
      obtain ⟨t5, et5, hf⟩ := Option.bind_eq_some_iff.mp hf
      refine r_getR (dGet dX6_layOutFields (j := 38) rfl) F6_7 et5 ?_
      obtain ⟨t6, et6, hf⟩ := Option.bind_eq_some_iff.mp hf
      refine r_getR (dGet dX6_layOutFields (j := 39) rfl) F6_84 et6 ?_
      refine r_iload_n (dGet dX6_layOutFields (j := 40) rfl) rfl ?_
      refine r_iload_n (dGet dX6_layOutFields (j := 41) rfl) rfl ?_
      obtain ⟨h7, eh7, hf⟩ := Option.bind_eq_some_iff.mp hf
      refine r_iast (dGet dX6_layOutFields (j := 42) rfl) eh7 ?_
      refine r_iinc (lv' := [(1, .int (v1 + (1 : Int32))), (0, .ref v0), (2, .int v2), (3, .int v3)]) (dGet dX6_layOutFields (j := 43) rfl) rfl (by decide) kI_1 rfl ?_
      refine r_goto (dGet dX6_layOutFields (j := 44) rfl) rfl ?_
      refine Run.weak [(0, .ref v0), (1, .int (v1 + (1 : Int32)))] (by simp) (by simp [pNd]) ?_
      exact K2 v0 (v1 + (1 : Int32)) h7 q hf nv0
    · rw [if_neg c4] at hf
      refine r_icmp_ge_f (dGet dX6_layOutFields (j := 23) rfl) rfl c4 ?_
      refine r_aload_n (dGet dX6_layOutFields (j := 24) rfl) nv0 rfl ?_
      obtain ⟨t8, et8, hf⟩ := Option.bind_eq_some_iff.mp hf
      refine r_getR (dGet dX6_layOutFields (j := 25) rfl) F6_23 et8 ?_
      refine r_iload_n (dGet dX6_layOutFields (j := 26) rfl) rfl ?_
      obtain ⟨t9, et9, hf⟩ := Option.bind_eq_some_iff.mp hf
      refine r_zald (dGet dX6_layOutFields (j := 27) rfl) et9 ?_
      by_cases c10 : t9 = 0
      · rw [if_pos c10] at hf
        refine r_if_ne_f (dGet dX6_layOutFields (j := 28) rfl) rfl c10 ?_
        refine r_aload_n (dGet dX6_layOutFields (j := 29) rfl) nv0 rfl ?_
        obtain ⟨t11, et11, hf⟩ := Option.bind_eq_some_iff.mp hf
        refine r_getR (dGet dX6_layOutFields (j := 30) rfl) F6_27 et11 ?_
        refine r_iload_n (dGet dX6_layOutFields (j := 31) rfl) rfl ?_
        refine r_iload_n (dGet dX6_layOutFields (j := 32) rfl) rfl ?_
        obtain ⟨h12, eh12, hf⟩ := Option.bind_eq_some_iff.mp hf
        refine r_iast (dGet dX6_layOutFields (j := 33) rfl) eh12 ?_
        refine r_iinc (lv' := [(2, .int (v2 + (1 : Int32))), (0, .ref v0), (1, .int v1), (3, .int v3)]) (dGet dX6_layOutFields (j := 34) rfl) rfl (by decide) kI_1 rfl ?_
        refine Run.weak [(0, .ref v0), (1, .int v1), (2, .int (v2 + (1 : Int32))), (3, .int v3)] (by simp) (by simp [pNd]) ?_
        exact lX6_layOutFields_61 X N d k2 K2 (fX6_layOutFields_29 N k2 n) ih v0 v1 (v2 + (1 : Int32)) v3 h12 q hf nv0
      · rw [if_neg c10] at hf
        refine r_if_ne_t (dGet dX6_layOutFields (j := 28) rfl) rfl c10 ?_
        exact lX6_layOutFields_61 X N d k2 K2 (fX6_layOutFields_29 N k2 n) ih v0 v1 v2 v3 h q hf nv0
def fX6_layOutFields_2 (N : Nat) : Nat → Nat → Int32 → pH → Option (pH)
  | 0, _, _, _ => none
  | n + 1, v0, v1, h => (getR h v0 6 0).bind fun t13 =>
  (getI h t13 1 7).bind fun t14 =>
  if t14 ≤ v1 then (
  some h) else (
  (fX6_fieldsAbove N v0 v1 h).bind fun q16 =>
  (getR q16.2 v0 6 0).bind fun t17 =>
  (getR q16.2 t17 1 4).bind fun t18 =>
  (ldI q16.2 t18 v1).bind fun t19 =>
  fX6_layOutFields_29 N (fX6_layOutFields_2 N n) N v0 v1 q16.1 t19 q16.2)
theorem lX6_layOutFields_2 (X : pX) (N d : Nat)  : ∀ (n : Nat) (v0 : Nat) (v1 : Int32) (h : pH) (q : pH), fX6_layOutFields_2 N n v0 v1 h = some q → ¬ v0 = 4 → Run X (d + 2) 6 false (pCd 5018) 4 none 2 [(0, .ref v0), (1, .int v1)] [] h 0 0 (none, q, 0, 0) := by
  intro n
  induction n with
  | zero => intro v0 v1 h q hf; cases hf
  | succ n ih =>
    intro v0 v1 h q hf nv0
    unfold fX6_layOutFields_2 at hf
    refine r_iload_n (dGet dX6_layOutFields (j := 2) rfl) rfl ?_
    refine r_aload_n (dGet dX6_layOutFields (j := 3) rfl) nv0 rfl ?_
    obtain ⟨t13, et13, hf⟩ := Option.bind_eq_some_iff.mp hf
    refine r_getR (dGet dX6_layOutFields (j := 4) rfl) F6_7 et13 ?_
    obtain ⟨t14, et14, hf⟩ := Option.bind_eq_some_iff.mp hf
    refine r_getI (dGet dX6_layOutFields (j := 5) rfl) F6_67 et14 ?_
    by_cases c15 : t14 ≤ v1
    · rw [if_pos c15] at hf
      refine r_icmp_ge_t (dGet dX6_layOutFields (j := 6) rfl) rfl c15 ?_
      cases hf
      exact r_vret (dGet dX6_layOutFields (j := 45) rfl) rfl
    · rw [if_neg c15] at hf
      refine r_icmp_ge_f (dGet dX6_layOutFields (j := 6) rfl) rfl c15 ?_
      refine r_aload_n (dGet dX6_layOutFields (j := 7) rfl) nv0 rfl ?_
      refine r_iload_n (dGet dX6_layOutFields (j := 8) rfl) rfl ?_
      obtain ⟨q16, eq16, hf⟩ := Option.bind_eq_some_iff.mp hf
      refine r_virtual (dGet dX6_layOutFields (j := 9) rfl) L6_81 M122 rfl rfl (Nat.le_of_ble_eq_true rfl) (oX6_fieldsAbove eq16) (cX6_fieldsAbove X N (d + 0) v0 v1 h q16 eq16) ?_
      refine r_istore_n (lv' := [(2, .int q16.1), (0, .ref v0), (1, .int v1)]) (dGet dX6_layOutFields (j := 10) rfl) (by decide) rfl ?_
      refine r_aload_n (dGet dX6_layOutFields (j := 11) rfl) nv0 rfl ?_
      obtain ⟨t17, et17, hf⟩ := Option.bind_eq_some_iff.mp hf
      refine r_getR (dGet dX6_layOutFields (j := 12) rfl) F6_7 et17 ?_
      obtain ⟨t18, et18, hf⟩ := Option.bind_eq_some_iff.mp hf
      refine r_getR (dGet dX6_layOutFields (j := 13) rfl) F6_68 et18 ?_
      refine r_iload_n (dGet dX6_layOutFields (j := 14) rfl) rfl ?_
      obtain ⟨t19, et19, hf⟩ := Option.bind_eq_some_iff.mp hf
      refine r_iald (dGet dX6_layOutFields (j := 15) rfl) et19 ?_
      refine r_istore_n (lv' := [(3, .int t19), (2, .int q16.1), (0, .ref v0), (1, .int v1)]) (dGet dX6_layOutFields (j := 16) rfl) (by decide) rfl ?_
      refine Run.weak [(0, .ref v0), (1, .int v1), (2, .int q16.1), (3, .int t19)] (by simp) (by simp [pNd]) ?_
      exact lX6_layOutFields_29 X N d (fX6_layOutFields_2 N n) ih N v0 v1 q16.1 t19 q16.2 q hf nv0
def fX6_layOutFields (N : Nat) (v0 : Nat) (h : pH) : Option (pH) := if isO h v0 6 = true then (
  fX6_layOutFields_2 N N v0 (0 : Int32) h) else none
theorem oX6_layOutFields {N : Nat} {v0 : Nat} {h : pH} {q : pH} (hf : fX6_layOutFields N v0 h = some q) : isO h v0 6 = true := by
  unfold fX6_layOutFields at hf
  by_cases hc : isO h v0 6 = true
  · exact hc
  · rw [if_neg hc] at hf; cases hf
theorem cX6_layOutFields (X : pX) (N d : Nat) (v0 : Nat) (h : pH) (q : pH) (hf : fX6_layOutFields N v0 h = some q) : Calls X (d + 2) 121 [.ref v0] h (none, q, 0, 0) := by
  refine Calls.of M121 (Nat.le_of_ble_eq_true rfl) ?_
  show Run X (d + 2) 6 false (pCd 5018) 4 none 0 [(0, .ref v0)] [] h 0 0 (none, q, 0, 0)
  unfold fX6_layOutFields at hf
  by_cases hc : isO h v0 6 = true
  · rw [if_pos hc] at hf
    have nv0 : ¬ v0 = 4 := isO_ne hc
    refine r_iconst (dGet dX6_layOutFields (j := 0) rfl) kI_0 ?_
    refine r_istore_n (lv' := [(1, .int (0 : Int32)), (0, .ref v0)]) (dGet dX6_layOutFields (j := 1) rfl) (by decide) rfl ?_
    refine Run.weak [(0, .ref v0), (1, .int (0 : Int32))] (by simp) (by simp [pNd]) ?_
    exact lX6_layOutFields_2 X N d N v0 (0 : Int32) h q hf nv0
  · rw [if_neg hc] at hf; cases hf
def eX6_resolved : List (Nat × Instr × Nat) := [(0, .iload_n 1, 1), (1, .ifCond .lt 14, 3), (4, .aload_n 0, 1), (5, .getfield 7, 3), (8, .iload_n 1, 1), (9, .invokevirtual 64, 3), (12, .goto 4, 3), (15, .iload_n 1, 1), (16, .ireturn, 1)]
theorem dX6_resolved : dChk (pCd 4216) eX6_resolved = true := by decide +kernel
def fX6_resolved (N : Nat) (v0 : Nat) (v1 : Int32) (h : pH) : Option (Int32 × pH) := if isO h v0 6 = true then (
  if v1 < 0 then (
  some (v1, h)) else (
  (getR h v0 6 0).bind fun t2 =>
  (fX1_find N t2 v1 h).bind fun q3 =>
  some (q3.1, q3.2))) else none
theorem oX6_resolved {N : Nat} {v0 : Nat} {v1 : Int32} {h : pH} {q : Int32 × pH} (hf : fX6_resolved N v0 v1 h = some q) : isO h v0 6 = true := by
  unfold fX6_resolved at hf
  by_cases hc : isO h v0 6 = true
  · exact hc
  · rw [if_neg hc] at hf; cases hf
theorem cX6_resolved (X : pX) (N d : Nat) (v0 : Nat) (v1 : Int32) (h : pH) (q : Int32 × pH) (hf : fX6_resolved N v0 v1 h = some q) : Calls X (d + 1) 111 [.ref v0, .int v1] h (some (.int q.1), q.2, 0, 0) := by
  refine Calls.of M111 (Nat.le_of_ble_eq_true rfl) ?_
  show Run X (d + 1) 6 false (pCd 4216) 2 (some .int) 0 [(0, .ref v0), (1, .int v1)] [] h 0 0 (some (.int q.1), q.2, 0, 0)
  unfold fX6_resolved at hf
  by_cases hc : isO h v0 6 = true
  · rw [if_pos hc] at hf
    have nv0 : ¬ v0 = 4 := isO_ne hc
    refine r_iload_n (dGet dX6_resolved (j := 0) rfl) rfl ?_
    by_cases c1 : v1 < 0
    · rw [if_pos c1] at hf
      refine r_if_lt_t (dGet dX6_resolved (j := 1) rfl) rfl c1 ?_
      refine r_iload_n (dGet dX6_resolved (j := 7) rfl) rfl ?_
      cases hf
      exact r_iret (dGet dX6_resolved (j := 8) rfl) rfl rfl
    · rw [if_neg c1] at hf
      refine r_if_lt_f (dGet dX6_resolved (j := 1) rfl) rfl c1 ?_
      refine r_aload_n (dGet dX6_resolved (j := 2) rfl) nv0 rfl ?_
      obtain ⟨t2, et2, hf⟩ := Option.bind_eq_some_iff.mp hf
      refine r_getR (dGet dX6_resolved (j := 3) rfl) F6_7 et2 ?_
      refine r_iload_n (dGet dX6_resolved (j := 4) rfl) rfl ?_
      obtain ⟨q3, eq3, hf⟩ := Option.bind_eq_some_iff.mp hf
      refine r_virtual (dGet dX6_resolved (j := 5) rfl) L6_64 M107 rfl rfl (Nat.le_of_ble_eq_true rfl) (oX1_find eq3) (cX1_find X N (d + 0) t2 v1 h q3 eq3) ?_
      refine r_goto (dGet dX6_resolved (j := 6) rfl) rfl ?_
      cases hf
      exact r_iret (dGet dX6_resolved (j := 8) rfl) rfl rfl
  · rw [if_neg hc] at hf; cases hf
def eX6_resolveTypes : List (Nat × Instr × Nat) := [(0, .iconst 0, 1), (1, .istore_n 1, 1), (2, .iload_n 1, 1), (3, .aload_n 0, 1), (4, .getfield 51, 3), (7, .if_icmp .ge 25, 3), (10, .aload_n 0, 1), (11, .getfield 20, 3), (14, .iload_n 1, 1), (15, .aload_n 0, 1), (16, .aload_n 0, 1), (17, .getfield 20, 3), (20, .iload_n 1, 1), (21, .iaload, 1), (22, .invokevirtual 60, 3), (25, .iastore, 1), (26, .iinc 1 1, 3), (29, .goto (-27), 3), (32, .iconst 0, 1), (33, .istore_n 1, 1), (34, .iload_n 1, 1), (35, .aload_n 0, 1), (36, .getfield 55, 3), (39, .if_icmp .ge 25, 3), (42, .aload_n 0, 1), (43, .getfield 48, 3), (46, .iload_n 1, 1), (47, .aload_n 0, 1), (48, .aload_n 0, 1), (49, .getfield 48, 3), (52, .iload_n 1, 1), (53, .iaload, 1), (54, .invokevirtual 60, 3), (57, .iastore, 1), (58, .iinc 1 1, 3), (61, .goto (-27), 3), (64, .return_, 1)]
theorem dX6_resolveTypes : dChk (pCd 4212) eX6_resolveTypes = true := by decide +kernel
def fX6_resolveTypes_34 (N : Nat) : Nat → Nat → Int32 → pH → Option (pH)
  | 0, _, _, _ => none
  | n + 1, v0, v1, h => (getI h v0 6 14).bind fun t1 =>
  if t1 ≤ v1 then (
  some h) else (
  (getR h v0 6 13).bind fun t3 =>
  (getR h v0 6 13).bind fun t4 =>
  (ldI h t4 v1).bind fun t5 =>
  (fX6_resolved N v0 t5 h).bind fun q6 =>
  (stI q6.2 t3 v1 q6.1).bind fun h7 =>
  fX6_resolveTypes_34 N n v0 (v1 + (1 : Int32)) h7)
theorem lX6_resolveTypes_34 (X : pX) (N d : Nat)  : ∀ (n : Nat) (v0 : Nat) (v1 : Int32) (h : pH) (q : pH), fX6_resolveTypes_34 N n v0 v1 h = some q → ¬ v0 = 4 → Run X (d + 2) 6 false (pCd 4212) 2 none 34 [(0, .ref v0), (1, .int v1)] [] h 0 0 (none, q, 0, 0) := by
  intro n
  induction n with
  | zero => intro v0 v1 h q hf; cases hf
  | succ n ih =>
    intro v0 v1 h q hf nv0
    unfold fX6_resolveTypes_34 at hf
    refine r_iload_n (dGet dX6_resolveTypes (j := 20) rfl) rfl ?_
    refine r_aload_n (dGet dX6_resolveTypes (j := 21) rfl) nv0 rfl ?_
    obtain ⟨t1, et1, hf⟩ := Option.bind_eq_some_iff.mp hf
    refine r_getI (dGet dX6_resolveTypes (j := 22) rfl) F6_55 et1 ?_
    by_cases c2 : t1 ≤ v1
    · rw [if_pos c2] at hf
      refine r_icmp_ge_t (dGet dX6_resolveTypes (j := 23) rfl) rfl c2 ?_
      cases hf
      exact r_vret (dGet dX6_resolveTypes (j := 36) rfl) rfl
    · rw [if_neg c2] at hf
      refine r_icmp_ge_f (dGet dX6_resolveTypes (j := 23) rfl) rfl c2 ?_
      refine r_aload_n (dGet dX6_resolveTypes (j := 24) rfl) nv0 rfl ?_
      obtain ⟨t3, et3, hf⟩ := Option.bind_eq_some_iff.mp hf
      refine r_getR (dGet dX6_resolveTypes (j := 25) rfl) F6_48 et3 ?_
      refine r_iload_n (dGet dX6_resolveTypes (j := 26) rfl) rfl ?_
      refine r_aload_n (dGet dX6_resolveTypes (j := 27) rfl) nv0 rfl ?_
      refine r_aload_n (dGet dX6_resolveTypes (j := 28) rfl) nv0 rfl ?_
      obtain ⟨t4, et4, hf⟩ := Option.bind_eq_some_iff.mp hf
      refine r_getR (dGet dX6_resolveTypes (j := 29) rfl) F6_48 et4 ?_
      refine r_iload_n (dGet dX6_resolveTypes (j := 30) rfl) rfl ?_
      obtain ⟨t5, et5, hf⟩ := Option.bind_eq_some_iff.mp hf
      refine r_iald (dGet dX6_resolveTypes (j := 31) rfl) et5 ?_
      obtain ⟨q6, eq6, hf⟩ := Option.bind_eq_some_iff.mp hf
      refine r_virtual (dGet dX6_resolveTypes (j := 32) rfl) L6_60 M111 rfl rfl (Nat.le_of_ble_eq_true rfl) (oX6_resolved eq6) (cX6_resolved X N (d + 0) v0 t5 h q6 eq6) ?_
      obtain ⟨h7, eh7, hf⟩ := Option.bind_eq_some_iff.mp hf
      refine r_iast (dGet dX6_resolveTypes (j := 33) rfl) eh7 ?_
      refine r_iinc (lv' := [(1, .int (v1 + (1 : Int32))), (0, .ref v0)]) (dGet dX6_resolveTypes (j := 34) rfl) rfl (by decide) kI_1 rfl ?_
      refine r_goto (dGet dX6_resolveTypes (j := 35) rfl) rfl ?_
      refine Run.weak [(0, .ref v0), (1, .int (v1 + (1 : Int32)))] (by simp) (by simp [pNd]) ?_
      exact ih v0 (v1 + (1 : Int32)) h7 q hf nv0
def fX6_resolveTypes_2 (N : Nat) : Nat → Nat → Int32 → pH → Option (pH)
  | 0, _, _, _ => none
  | n + 1, v0, v1, h => (getI h v0 6 11).bind fun t8 =>
  if t8 ≤ v1 then (
  fX6_resolveTypes_34 N N v0 (0 : Int32) h) else (
  (getR h v0 6 3).bind fun t10 =>
  (getR h v0 6 3).bind fun t11 =>
  (ldI h t11 v1).bind fun t12 =>
  (fX6_resolved N v0 t12 h).bind fun q13 =>
  (stI q13.2 t10 v1 q13.1).bind fun h14 =>
  fX6_resolveTypes_2 N n v0 (v1 + (1 : Int32)) h14)
theorem lX6_resolveTypes_2 (X : pX) (N d : Nat)  : ∀ (n : Nat) (v0 : Nat) (v1 : Int32) (h : pH) (q : pH), fX6_resolveTypes_2 N n v0 v1 h = some q → ¬ v0 = 4 → Run X (d + 2) 6 false (pCd 4212) 2 none 2 [(0, .ref v0), (1, .int v1)] [] h 0 0 (none, q, 0, 0) := by
  intro n
  induction n with
  | zero => intro v0 v1 h q hf; cases hf
  | succ n ih =>
    intro v0 v1 h q hf nv0
    unfold fX6_resolveTypes_2 at hf
    refine r_iload_n (dGet dX6_resolveTypes (j := 2) rfl) rfl ?_
    refine r_aload_n (dGet dX6_resolveTypes (j := 3) rfl) nv0 rfl ?_
    obtain ⟨t8, et8, hf⟩ := Option.bind_eq_some_iff.mp hf
    refine r_getI (dGet dX6_resolveTypes (j := 4) rfl) F6_51 et8 ?_
    by_cases c9 : t8 ≤ v1
    · rw [if_pos c9] at hf
      refine r_icmp_ge_t (dGet dX6_resolveTypes (j := 5) rfl) rfl c9 ?_
      refine r_iconst (dGet dX6_resolveTypes (j := 18) rfl) kI_0 ?_
      refine r_istore_n (lv' := [(1, .int (0 : Int32)), (0, .ref v0)]) (dGet dX6_resolveTypes (j := 19) rfl) (by decide) rfl ?_
      refine Run.weak [(0, .ref v0), (1, .int (0 : Int32))] (by simp) (by simp [pNd]) ?_
      exact lX6_resolveTypes_34 X N d N v0 (0 : Int32) h q hf nv0
    · rw [if_neg c9] at hf
      refine r_icmp_ge_f (dGet dX6_resolveTypes (j := 5) rfl) rfl c9 ?_
      refine r_aload_n (dGet dX6_resolveTypes (j := 6) rfl) nv0 rfl ?_
      obtain ⟨t10, et10, hf⟩ := Option.bind_eq_some_iff.mp hf
      refine r_getR (dGet dX6_resolveTypes (j := 7) rfl) F6_20 et10 ?_
      refine r_iload_n (dGet dX6_resolveTypes (j := 8) rfl) rfl ?_
      refine r_aload_n (dGet dX6_resolveTypes (j := 9) rfl) nv0 rfl ?_
      refine r_aload_n (dGet dX6_resolveTypes (j := 10) rfl) nv0 rfl ?_
      obtain ⟨t11, et11, hf⟩ := Option.bind_eq_some_iff.mp hf
      refine r_getR (dGet dX6_resolveTypes (j := 11) rfl) F6_20 et11 ?_
      refine r_iload_n (dGet dX6_resolveTypes (j := 12) rfl) rfl ?_
      obtain ⟨t12, et12, hf⟩ := Option.bind_eq_some_iff.mp hf
      refine r_iald (dGet dX6_resolveTypes (j := 13) rfl) et12 ?_
      obtain ⟨q13, eq13, hf⟩ := Option.bind_eq_some_iff.mp hf
      refine r_virtual (dGet dX6_resolveTypes (j := 14) rfl) L6_60 M111 rfl rfl (Nat.le_of_ble_eq_true rfl) (oX6_resolved eq13) (cX6_resolved X N (d + 0) v0 t12 h q13 eq13) ?_
      obtain ⟨h14, eh14, hf⟩ := Option.bind_eq_some_iff.mp hf
      refine r_iast (dGet dX6_resolveTypes (j := 15) rfl) eh14 ?_
      refine r_iinc (lv' := [(1, .int (v1 + (1 : Int32))), (0, .ref v0)]) (dGet dX6_resolveTypes (j := 16) rfl) rfl (by decide) kI_1 rfl ?_
      refine r_goto (dGet dX6_resolveTypes (j := 17) rfl) rfl ?_
      refine Run.weak [(0, .ref v0), (1, .int (v1 + (1 : Int32)))] (by simp) (by simp [pNd]) ?_
      exact ih v0 (v1 + (1 : Int32)) h14 q hf nv0
def fX6_resolveTypes (N : Nat) (v0 : Nat) (h : pH) : Option (pH) := if isO h v0 6 = true then (
  fX6_resolveTypes_2 N N v0 (0 : Int32) h) else none
theorem oX6_resolveTypes {N : Nat} {v0 : Nat} {h : pH} {q : pH} (hf : fX6_resolveTypes N v0 h = some q) : isO h v0 6 = true := by
  unfold fX6_resolveTypes at hf
  by_cases hc : isO h v0 6 = true
  · exact hc
  · rw [if_neg hc] at hf; cases hf
theorem cX6_resolveTypes (X : pX) (N d : Nat) (v0 : Nat) (h : pH) (q : pH) (hf : fX6_resolveTypes N v0 h = some q) : Calls X (d + 2) 110 [.ref v0] h (none, q, 0, 0) := by
  refine Calls.of M110 (Nat.le_of_ble_eq_true rfl) ?_
  show Run X (d + 2) 6 false (pCd 4212) 2 none 0 [(0, .ref v0)] [] h 0 0 (none, q, 0, 0)
  unfold fX6_resolveTypes at hf
  by_cases hc : isO h v0 6 = true
  · rw [if_pos hc] at hf
    have nv0 : ¬ v0 = 4 := isO_ne hc
    refine r_iconst (dGet dX6_resolveTypes (j := 0) rfl) kI_0 ?_
    refine r_istore_n (lv' := [(1, .int (0 : Int32)), (0, .ref v0)]) (dGet dX6_resolveTypes (j := 1) rfl) (by decide) rfl ?_
    refine Run.weak [(0, .ref v0), (1, .int (0 : Int32))] (by simp) (by simp [pNd]) ?_
    exact lX6_resolveTypes_2 X N d N v0 (0 : Int32) h q hf nv0
  · rw [if_neg hc] at hf; cases hf
def eX0_check : List (Nat × Instr × Nat) := [(0, .aload_n 0, 1), (1, .invokevirtual 17, 3), (4, .istore_n 2, 1), (5, .iload_n 2, 1), (6, .iconst (-1), 1), (7, .if_icmp .eq 5, 3), (10, .iload_n 2, 1), (11, .ireturn, 1), (12, .aload_n 0, 1), (13, .getfield 13, 3), (16, .invokevirtual 21, 3), (19, .aload_n 0, 1), (20, .invokevirtual 26, 3), (23, .istore_n 2, 1), (24, .iload_n 2, 1), (25, .iconst (-1), 1), (26, .if_icmp .eq 5, 3), (29, .iload_n 2, 1), (30, .ireturn, 1), (31, .aload_n 0, 1), (32, .getfield 13, 3), (35, .invokevirtual 29, 3), (38, .aload_n 0, 1), (39, .invokevirtual 32, 3), (42, .ifCond .eq 7, 3), (45, .iconst (-1), 1), (46, .goto 4, 3), (49, .iload_n 1, 1), (50, .ireturn, 1)]
theorem dX0_check : dChk (pCd 4192) eX0_check = true := by decide +kernel
def fX0_check (N : Nat) (v0 : Nat) (v1 : Int32) (h : pH) : Option (Int32 × pH) := if isO h v0 0 = true then (
  (fX0_badClass N v0 h).bind fun q1 =>
  if q1.1 = (-1 : Int32) then (
  (getR q1.2 v0 0 1).bind fun t3 =>
  (fX6_resolveTypes N t3 q1.2).bind fun h4 =>
  (fX0_badMember N v0 h4).bind fun q5 =>
  if q5.1 = (-1 : Int32) then (
  (getR q5.2 v0 0 1).bind fun t7 =>
  (fX6_layOutFields N t7 q5.2).bind fun h8 =>
  (fX0_hasMain N v0 h8).bind fun q9 =>
  if q9.1 = 0 then (
  some (v1, q9.2)) else (
  some ((-1 : Int32), q9.2))) else (
  some (q5.1, q5.2))) else (
  some (q1.1, q1.2))) else none
theorem oX0_check {N : Nat} {v0 : Nat} {v1 : Int32} {h : pH} {q : Int32 × pH} (hf : fX0_check N v0 v1 h = some q) : isO h v0 0 = true := by
  unfold fX0_check at hf
  by_cases hc : isO h v0 0 = true
  · exact hc
  · rw [if_neg hc] at hf; cases hf
theorem cX0_check (X : pX) (N d : Nat) (v0 : Nat) (v1 : Int32) (h : pH) (q : Int32 × pH) (hf : fX0_check N v0 v1 h = some q) : Calls X (d + 4) 105 [.ref v0, .int v1] h (some (.int q.1), q.2, 0, 0) := by
  refine Calls.of M105 (Nat.le_of_ble_eq_true rfl) ?_
  show Run X (d + 4) 0 false (pCd 4192) 3 (some .int) 0 [(0, .ref v0), (1, .int v1)] [] h 0 0 (some (.int q.1), q.2, 0, 0)
  unfold fX0_check at hf
  by_cases hc : isO h v0 0 = true
  · rw [if_pos hc] at hf
    have nv0 : ¬ v0 = 4 := isO_ne hc
    refine r_aload_n (dGet dX0_check (j := 0) rfl) nv0 rfl ?_
    obtain ⟨q1, eq1, hf⟩ := Option.bind_eq_some_iff.mp hf
    refine r_virtual (dGet dX0_check (j := 1) rfl) L0_17 M106 rfl rfl (Nat.le_of_ble_eq_true rfl) (oX0_badClass eq1) (cX0_badClass X N (d + 1) v0 h q1 eq1) ?_
    refine r_istore_n (lv' := [(2, .int q1.1), (0, .ref v0), (1, .int v1)]) (dGet dX0_check (j := 2) rfl) (by decide) rfl ?_
    refine r_iload_n (dGet dX0_check (j := 3) rfl) rfl ?_
    refine r_iconst (dGet dX0_check (j := 4) rfl) kI_m1 ?_
    by_cases c2 : q1.1 = (-1 : Int32)
    · rw [if_pos c2] at hf
      refine r_icmp_eq_t (dGet dX0_check (j := 5) rfl) rfl c2 ?_
      refine r_aload_n (dGet dX0_check (j := 8) rfl) nv0 rfl ?_
      obtain ⟨t3, et3, hf⟩ := Option.bind_eq_some_iff.mp hf
      refine r_getR (dGet dX0_check (j := 9) rfl) F0_13 et3 ?_
      obtain ⟨h4, eh4, hf⟩ := Option.bind_eq_some_iff.mp hf
      refine r_virtual (dGet dX0_check (j := 10) rfl) L0_21 M110 rfl rfl (Nat.le_of_ble_eq_true rfl) (oX6_resolveTypes eh4) (cX6_resolveTypes X N (d + 1) t3 q1.2 h4 eh4) ?_
      refine r_aload_n (dGet dX0_check (j := 11) rfl) nv0 rfl ?_
      obtain ⟨q5, eq5, hf⟩ := Option.bind_eq_some_iff.mp hf
      refine r_virtual (dGet dX0_check (j := 12) rfl) L0_26 M112 rfl rfl (Nat.le_of_ble_eq_true rfl) (oX0_badMember eq5) (cX0_badMember X N (d + 0) v0 h4 q5 eq5) ?_
      refine r_istore_n (lv' := [(2, .int q5.1), (0, .ref v0), (1, .int v1)]) (dGet dX0_check (j := 13) rfl) (by decide) rfl ?_
      refine r_iload_n (dGet dX0_check (j := 14) rfl) rfl ?_
      refine r_iconst (dGet dX0_check (j := 15) rfl) kI_m1 ?_
      by_cases c6 : q5.1 = (-1 : Int32)
      · rw [if_pos c6] at hf
        refine r_icmp_eq_t (dGet dX0_check (j := 16) rfl) rfl c6 ?_
        refine r_aload_n (dGet dX0_check (j := 19) rfl) nv0 rfl ?_
        obtain ⟨t7, et7, hf⟩ := Option.bind_eq_some_iff.mp hf
        refine r_getR (dGet dX0_check (j := 20) rfl) F0_13 et7 ?_
        obtain ⟨h8, eh8, hf⟩ := Option.bind_eq_some_iff.mp hf
        refine r_virtual (dGet dX0_check (j := 21) rfl) L0_29 M121 rfl rfl (Nat.le_of_ble_eq_true rfl) (oX6_layOutFields eh8) (cX6_layOutFields X N (d + 1) t7 q5.2 h8 eh8) ?_
        refine r_aload_n (dGet dX0_check (j := 22) rfl) nv0 rfl ?_
        obtain ⟨q9, eq9, hf⟩ := Option.bind_eq_some_iff.mp hf
        refine r_virtual (dGet dX0_check (j := 23) rfl) L0_32 M124 rfl rfl (Nat.le_of_ble_eq_true rfl) (oX0_hasMain eq9) (cX0_hasMain X N (d + 1) v0 h8 q9 eq9) ?_
        by_cases c10 : q9.1 = 0
        · rw [if_pos c10] at hf
          refine r_if_eq_t (dGet dX0_check (j := 24) rfl) rfl c10 ?_
          refine r_iload_n (dGet dX0_check (j := 27) rfl) rfl ?_
          cases hf
          exact r_iret (dGet dX0_check (j := 28) rfl) rfl rfl
        · rw [if_neg c10] at hf
          refine r_if_eq_f (dGet dX0_check (j := 24) rfl) rfl c10 ?_
          refine r_iconst (dGet dX0_check (j := 25) rfl) kI_m1 ?_
          refine r_goto (dGet dX0_check (j := 26) rfl) rfl ?_
          cases hf
          exact r_iret (dGet dX0_check (j := 28) rfl) rfl rfl
      · rw [if_neg c6] at hf
        refine r_icmp_eq_f (dGet dX0_check (j := 16) rfl) rfl c6 ?_
        refine r_iload_n (dGet dX0_check (j := 17) rfl) rfl ?_
        cases hf
        exact r_iret (dGet dX0_check (j := 18) rfl) rfl rfl
    · rw [if_neg c2] at hf
      refine r_icmp_eq_f (dGet dX0_check (j := 5) rfl) rfl c2 ?_
      refine r_iload_n (dGet dX0_check (j := 6) rfl) rfl ?_
      cases hf
      exact r_iret (dGet dX0_check (j := 7) rfl) rfl rfl
  · rw [if_neg hc] at hf; cases hf
def eX6_clear : List (Nat × Instr × Nat) := [(0, .aload_n 0, 1), (1, .iconst 0, 1), (2, .putfield 51, 3), (5, .aload_n 0, 1), (6, .iconst 0, 1), (7, .putfield 55, 3), (10, .return_, 1)]
theorem dX6_clear : dChk (pCd 4004) eX6_clear = true := by decide +kernel
def fX6_clear (N : Nat) (v0 : Nat) (h : pH) : Option (pH) := if isO h v0 6 = true then (
  (putI h v0 6 11 (0 : Int32)).bind fun h1 =>
  (putI h1 v0 6 14 (0 : Int32)).bind fun h2 =>
  some h2) else none
theorem oX6_clear {N : Nat} {v0 : Nat} {h : pH} {q : pH} (hf : fX6_clear N v0 h = some q) : isO h v0 6 = true := by
  unfold fX6_clear at hf
  by_cases hc : isO h v0 6 = true
  · exact hc
  · rw [if_neg hc] at hf; cases hf
theorem cX6_clear (X : pX) (N d : Nat) (v0 : Nat) (h : pH) (q : pH) (hf : fX6_clear N v0 h = some q) : Calls X (d + 0) 57 [.ref v0] h (none, q, 0, 0) := by
  refine Calls.of M57 (Nat.le_of_ble_eq_true rfl) ?_
  show Run X (d + 0) 6 false (pCd 4004) 1 none 0 [(0, .ref v0)] [] h 0 0 (none, q, 0, 0)
  unfold fX6_clear at hf
  by_cases hc : isO h v0 6 = true
  · rw [if_pos hc] at hf
    have nv0 : ¬ v0 = 4 := isO_ne hc
    refine r_aload_n (dGet dX6_clear (j := 0) rfl) nv0 rfl ?_
    refine r_iconst (dGet dX6_clear (j := 1) rfl) kI_0 ?_
    obtain ⟨h1, eh1, hf⟩ := Option.bind_eq_some_iff.mp hf
    refine r_putI (dGet dX6_clear (j := 2) rfl) F6_51 rfl rfl eh1 ?_
    refine r_aload_n (dGet dX6_clear (j := 3) rfl) nv0 rfl ?_
    refine r_iconst (dGet dX6_clear (j := 4) rfl) kI_0 ?_
    obtain ⟨h2, eh2, hf⟩ := Option.bind_eq_some_iff.mp hf
    refine r_putI (dGet dX6_clear (j := 5) rfl) F6_55 rfl rfl eh2 ?_
    cases hf
    exact r_vret (dGet dX6_clear (j := 6) rfl) rfl
  · rw [if_neg hc] at hf; cases hf
def eX6_add : List (Nat × Instr × Nat) := [(0, .aload_n 0, 1), (1, .getfield 51, 3), (4, .sipush 1000, 3), (7, .if_icmp .ge 117, 3), (10, .aload_n 0, 1), (11, .getfield 13, 3), (14, .aload_n 0, 1), (15, .getfield 51, 3), (18, .iload_n 1, 1), (19, .iastore, 1), (20, .aload_n 0, 1), (21, .getfield 17, 3), (24, .aload_n 0, 1), (25, .getfield 51, 3), (28, .iload_n 2, 1), (29, .iastore, 1), (30, .aload_n 0, 1), (31, .getfield 20, 3), (34, .aload_n 0, 1), (35, .getfield 51, 3), (38, .iload_n 3, 1), (39, .iastore, 1), (40, .aload_n 0, 1), (41, .getfield 23, 3), (44, .aload_n 0, 1), (45, .getfield 51, 3), (48, .iload 4, 2), (50, .bastore, 1), (51, .aload_n 0, 1), (52, .getfield 27, 3), (55, .aload_n 0, 1), (56, .getfield 51, 3), (59, .iconst 0, 1), (60, .iastore, 1), (61, .aload_n 0, 1), (62, .getfield 30, 3), (65, .aload_n 0, 1), (66, .getfield 51, 3), (69, .aload_n 0, 1), (70, .getfield 55, 3), (73, .iastore, 1), (74, .aload_n 0, 1), (75, .getfield 33, 3), (78, .aload_n 0, 1), (79, .getfield 51, 3), (82, .iconst 0, 1), (83, .iastore, 1), (84, .aload_n 0, 1), (85, .getfield 36, 3), (88, .aload_n 0, 1), (89, .getfield 51, 3), (92, .iconst 0, 1), (93, .iastore, 1), (94, .aload_n 0, 1), (95, .getfield 39, 3), (98, .aload_n 0, 1), (99, .getfield 51, 3), (102, .iconst 0, 1), (103, .iastore, 1), (104, .aload_n 0, 1), (105, .getfield 42, 3), (108, .aload_n 0, 1), (109, .getfield 51, 3), (112, .iconst 0, 1), (113, .iastore, 1), (114, .aload_n 0, 1), (115, .dup, 1), (116, .getfield 51, 3), (119, .iconst 1, 1), (120, .iadd, 1), (121, .putfield 51, 3), (124, .return_, 1)]
theorem dX6_add : dChk (pCd 4041) eX6_add = true := by decide +kernel
def fX6_add (N : Nat) (v0 : Nat) (v1 : Int32) (v2 : Int32) (v3 : Int32) (v4 : Int32) (h : pH) : Option (pH) := if isO h v0 6 = true then (
  (getI h v0 6 11).bind fun t1 =>
  if (1000 : Int32) ≤ t1 then (
  some h) else (
  (getR h v0 6 1).bind fun t3 =>
  (getI h v0 6 11).bind fun t4 =>
  (stI h t3 t4 v1).bind fun h5 =>
  (getR h5 v0 6 2).bind fun t6 =>
  (getI h5 v0 6 11).bind fun t7 =>
  (stI h5 t6 t7 v2).bind fun h8 =>
  (getR h8 v0 6 3).bind fun t9 =>
  (getI h8 v0 6 11).bind fun t10 =>
  (stI h8 t9 t10 v3).bind fun h11 =>
  (getR h11 v0 6 4).bind fun t12 =>
  (getI h11 v0 6 11).bind fun t13 =>
  (stZ h11 t12 t13 v4).bind fun h14 =>
  (getR h14 v0 6 5).bind fun t15 =>
  (getI h14 v0 6 11).bind fun t16 =>
  (stI h14 t15 t16 (0 : Int32)).bind fun h17 =>
  (getR h17 v0 6 6).bind fun t18 =>
  (getI h17 v0 6 11).bind fun t19 =>
  (getI h17 v0 6 14).bind fun t20 =>
  (stI h17 t18 t19 t20).bind fun h21 =>
  (getR h21 v0 6 7).bind fun t22 =>
  (getI h21 v0 6 11).bind fun t23 =>
  (stI h21 t22 t23 (0 : Int32)).bind fun h24 =>
  (getR h24 v0 6 8).bind fun t25 =>
  (getI h24 v0 6 11).bind fun t26 =>
  (stI h24 t25 t26 (0 : Int32)).bind fun h27 =>
  (getR h27 v0 6 9).bind fun t28 =>
  (getI h27 v0 6 11).bind fun t29 =>
  (stI h27 t28 t29 (0 : Int32)).bind fun h30 =>
  (getR h30 v0 6 10).bind fun t31 =>
  (getI h30 v0 6 11).bind fun t32 =>
  (stI h30 t31 t32 (0 : Int32)).bind fun h33 =>
  (getI h33 v0 6 11).bind fun t34 =>
  (putI h33 v0 6 11 (t34 + (1 : Int32))).bind fun h35 =>
  some h35)) else none
theorem oX6_add {N : Nat} {v0 : Nat} {v1 : Int32} {v2 : Int32} {v3 : Int32} {v4 : Int32} {h : pH} {q : pH} (hf : fX6_add N v0 v1 v2 v3 v4 h = some q) : isO h v0 6 = true := by
  unfold fX6_add at hf
  by_cases hc : isO h v0 6 = true
  · exact hc
  · rw [if_neg hc] at hf; cases hf
theorem cX6_add (X : pX) (N d : Nat) (v0 : Nat) (v1 : Int32) (v2 : Int32) (v3 : Int32) (v4 : Int32) (h : pH) (q : pH) (hf : fX6_add N v0 v1 v2 v3 v4 h = some q) : Calls X (d + 0) 66 [.ref v0, .int v1, .int v2, .int v3, .int v4] h (none, q, 0, 0) := by
  refine Calls.of M66 (Nat.le_of_ble_eq_true rfl) ?_
  show Run X (d + 0) 6 false (pCd 4041) 5 none 0 [(0, .ref v0), (1, .int v1), (2, .int v2), (3, .int v3), (4, .int v4)] [] h 0 0 (none, q, 0, 0)
  unfold fX6_add at hf
  by_cases hc : isO h v0 6 = true
  · rw [if_pos hc] at hf
    have nv0 : ¬ v0 = 4 := isO_ne hc
    refine r_aload_n (dGet dX6_add (j := 0) rfl) nv0 rfl ?_
    obtain ⟨t1, et1, hf⟩ := Option.bind_eq_some_iff.mp hf
    refine r_getI (dGet dX6_add (j := 1) rfl) F6_51 et1 ?_
    refine r_sipush (dGet dX6_add (j := 2) rfl) kS_1000 ?_
    by_cases c2 : (1000 : Int32) ≤ t1
    · rw [if_pos c2] at hf
      refine r_icmp_ge_t (dGet dX6_add (j := 3) rfl) rfl c2 ?_
      cases hf
      exact r_vret (dGet dX6_add (j := 71) rfl) rfl
    · rw [if_neg c2] at hf
      refine r_icmp_ge_f (dGet dX6_add (j := 3) rfl) rfl c2 ?_
      refine r_aload_n (dGet dX6_add (j := 4) rfl) nv0 rfl ?_
      obtain ⟨t3, et3, hf⟩ := Option.bind_eq_some_iff.mp hf
      refine r_getR (dGet dX6_add (j := 5) rfl) F6_13 et3 ?_
      refine r_aload_n (dGet dX6_add (j := 6) rfl) nv0 rfl ?_
      obtain ⟨t4, et4, hf⟩ := Option.bind_eq_some_iff.mp hf
      refine r_getI (dGet dX6_add (j := 7) rfl) F6_51 et4 ?_
      refine r_iload_n (dGet dX6_add (j := 8) rfl) rfl ?_
      obtain ⟨h5, eh5, hf⟩ := Option.bind_eq_some_iff.mp hf
      refine r_iast (dGet dX6_add (j := 9) rfl) eh5 ?_
      refine r_aload_n (dGet dX6_add (j := 10) rfl) nv0 rfl ?_
      obtain ⟨t6, et6, hf⟩ := Option.bind_eq_some_iff.mp hf
      refine r_getR (dGet dX6_add (j := 11) rfl) F6_17 et6 ?_
      refine r_aload_n (dGet dX6_add (j := 12) rfl) nv0 rfl ?_
      obtain ⟨t7, et7, hf⟩ := Option.bind_eq_some_iff.mp hf
      refine r_getI (dGet dX6_add (j := 13) rfl) F6_51 et7 ?_
      refine r_iload_n (dGet dX6_add (j := 14) rfl) rfl ?_
      obtain ⟨h8, eh8, hf⟩ := Option.bind_eq_some_iff.mp hf
      refine r_iast (dGet dX6_add (j := 15) rfl) eh8 ?_
      refine r_aload_n (dGet dX6_add (j := 16) rfl) nv0 rfl ?_
      obtain ⟨t9, et9, hf⟩ := Option.bind_eq_some_iff.mp hf
      refine r_getR (dGet dX6_add (j := 17) rfl) F6_20 et9 ?_
      refine r_aload_n (dGet dX6_add (j := 18) rfl) nv0 rfl ?_
      obtain ⟨t10, et10, hf⟩ := Option.bind_eq_some_iff.mp hf
      refine r_getI (dGet dX6_add (j := 19) rfl) F6_51 et10 ?_
      refine r_iload_n (dGet dX6_add (j := 20) rfl) rfl ?_
      obtain ⟨h11, eh11, hf⟩ := Option.bind_eq_some_iff.mp hf
      refine r_iast (dGet dX6_add (j := 21) rfl) eh11 ?_
      refine r_aload_n (dGet dX6_add (j := 22) rfl) nv0 rfl ?_
      obtain ⟨t12, et12, hf⟩ := Option.bind_eq_some_iff.mp hf
      refine r_getR (dGet dX6_add (j := 23) rfl) F6_23 et12 ?_
      refine r_aload_n (dGet dX6_add (j := 24) rfl) nv0 rfl ?_
      obtain ⟨t13, et13, hf⟩ := Option.bind_eq_some_iff.mp hf
      refine r_getI (dGet dX6_add (j := 25) rfl) F6_51 et13 ?_
      refine r_iload (dGet dX6_add (j := 26) rfl) rfl ?_
      obtain ⟨h14, eh14, hf⟩ := Option.bind_eq_some_iff.mp hf
      refine r_zast (dGet dX6_add (j := 27) rfl) eh14 ?_
      refine r_aload_n (dGet dX6_add (j := 28) rfl) nv0 rfl ?_
      obtain ⟨t15, et15, hf⟩ := Option.bind_eq_some_iff.mp hf
      refine r_getR (dGet dX6_add (j := 29) rfl) F6_27 et15 ?_
      refine r_aload_n (dGet dX6_add (j := 30) rfl) nv0 rfl ?_
      obtain ⟨t16, et16, hf⟩ := Option.bind_eq_some_iff.mp hf
      refine r_getI (dGet dX6_add (j := 31) rfl) F6_51 et16 ?_
      refine r_iconst (dGet dX6_add (j := 32) rfl) kI_0 ?_
      obtain ⟨h17, eh17, hf⟩ := Option.bind_eq_some_iff.mp hf
      refine r_iast (dGet dX6_add (j := 33) rfl) eh17 ?_
      refine r_aload_n (dGet dX6_add (j := 34) rfl) nv0 rfl ?_
      obtain ⟨t18, et18, hf⟩ := Option.bind_eq_some_iff.mp hf
      refine r_getR (dGet dX6_add (j := 35) rfl) F6_30 et18 ?_
      refine r_aload_n (dGet dX6_add (j := 36) rfl) nv0 rfl ?_
      obtain ⟨t19, et19, hf⟩ := Option.bind_eq_some_iff.mp hf
      refine r_getI (dGet dX6_add (j := 37) rfl) F6_51 et19 ?_
      refine r_aload_n (dGet dX6_add (j := 38) rfl) nv0 rfl ?_
      obtain ⟨t20, et20, hf⟩ := Option.bind_eq_some_iff.mp hf
      refine r_getI (dGet dX6_add (j := 39) rfl) F6_55 et20 ?_
      obtain ⟨h21, eh21, hf⟩ := Option.bind_eq_some_iff.mp hf
      refine r_iast (dGet dX6_add (j := 40) rfl) eh21 ?_
      refine r_aload_n (dGet dX6_add (j := 41) rfl) nv0 rfl ?_
      obtain ⟨t22, et22, hf⟩ := Option.bind_eq_some_iff.mp hf
      refine r_getR (dGet dX6_add (j := 42) rfl) F6_33 et22 ?_
      refine r_aload_n (dGet dX6_add (j := 43) rfl) nv0 rfl ?_
      obtain ⟨t23, et23, hf⟩ := Option.bind_eq_some_iff.mp hf
      refine r_getI (dGet dX6_add (j := 44) rfl) F6_51 et23 ?_
      refine r_iconst (dGet dX6_add (j := 45) rfl) kI_0 ?_
      obtain ⟨h24, eh24, hf⟩ := Option.bind_eq_some_iff.mp hf
      refine r_iast (dGet dX6_add (j := 46) rfl) eh24 ?_
      refine r_aload_n (dGet dX6_add (j := 47) rfl) nv0 rfl ?_
      obtain ⟨t25, et25, hf⟩ := Option.bind_eq_some_iff.mp hf
      refine r_getR (dGet dX6_add (j := 48) rfl) F6_36 et25 ?_
      refine r_aload_n (dGet dX6_add (j := 49) rfl) nv0 rfl ?_
      obtain ⟨t26, et26, hf⟩ := Option.bind_eq_some_iff.mp hf
      refine r_getI (dGet dX6_add (j := 50) rfl) F6_51 et26 ?_
      refine r_iconst (dGet dX6_add (j := 51) rfl) kI_0 ?_
      obtain ⟨h27, eh27, hf⟩ := Option.bind_eq_some_iff.mp hf
      refine r_iast (dGet dX6_add (j := 52) rfl) eh27 ?_
      refine r_aload_n (dGet dX6_add (j := 53) rfl) nv0 rfl ?_
      obtain ⟨t28, et28, hf⟩ := Option.bind_eq_some_iff.mp hf
      refine r_getR (dGet dX6_add (j := 54) rfl) F6_39 et28 ?_
      refine r_aload_n (dGet dX6_add (j := 55) rfl) nv0 rfl ?_
      obtain ⟨t29, et29, hf⟩ := Option.bind_eq_some_iff.mp hf
      refine r_getI (dGet dX6_add (j := 56) rfl) F6_51 et29 ?_
      refine r_iconst (dGet dX6_add (j := 57) rfl) kI_0 ?_
      obtain ⟨h30, eh30, hf⟩ := Option.bind_eq_some_iff.mp hf
      refine r_iast (dGet dX6_add (j := 58) rfl) eh30 ?_
      refine r_aload_n (dGet dX6_add (j := 59) rfl) nv0 rfl ?_
      obtain ⟨t31, et31, hf⟩ := Option.bind_eq_some_iff.mp hf
      refine r_getR (dGet dX6_add (j := 60) rfl) F6_42 et31 ?_
      refine r_aload_n (dGet dX6_add (j := 61) rfl) nv0 rfl ?_
      obtain ⟨t32, et32, hf⟩ := Option.bind_eq_some_iff.mp hf
      refine r_getI (dGet dX6_add (j := 62) rfl) F6_51 et32 ?_
      refine r_iconst (dGet dX6_add (j := 63) rfl) kI_0 ?_
      obtain ⟨h33, eh33, hf⟩ := Option.bind_eq_some_iff.mp hf
      refine r_iast (dGet dX6_add (j := 64) rfl) eh33 ?_
      refine r_aload_n (dGet dX6_add (j := 65) rfl) nv0 rfl ?_
      refine r_dup (dGet dX6_add (j := 66) rfl) rfl ?_
      obtain ⟨t34, et34, hf⟩ := Option.bind_eq_some_iff.mp hf
      refine r_getI (dGet dX6_add (j := 67) rfl) F6_51 et34 ?_
      refine r_iconst (dGet dX6_add (j := 68) rfl) kI_1 ?_
      refine r_iadd (dGet dX6_add (j := 69) rfl) ?_
      obtain ⟨h35, eh35, hf⟩ := Option.bind_eq_some_iff.mp hf
      refine r_putI (dGet dX6_add (j := 70) rfl) F6_51 rfl rfl eh35 ?_
      cases hf
      exact r_vret (dGet dX6_add (j := 71) rfl) rfl
  · rw [if_neg hc] at hf; cases hf
def eX6_codeOfLast : List (Nat × Instr × Nat) := [(0, .aload_n 0, 1), (1, .getfield 51, 3), (4, .ifCond .le 15, 3), (7, .aload_n 0, 1), (8, .getfield 36, 3), (11, .aload_n 0, 1), (12, .getfield 51, 3), (15, .iconst 1, 1), (16, .isub, 1), (17, .iload_n 1, 1), (18, .iastore, 1), (19, .return_, 1)]
theorem dX6_codeOfLast : dChk (pCd 4061) eX6_codeOfLast = true := by decide +kernel
def fX6_codeOfLast (N : Nat) (v0 : Nat) (v1 : Int32) (h : pH) : Option (pH) := if isO h v0 6 = true then (
  (getI h v0 6 11).bind fun t1 =>
  if t1 ≤ 0 then (
  some h) else (
  (getR h v0 6 8).bind fun t3 =>
  (getI h v0 6 11).bind fun t4 =>
  (stI h t3 (t4 - (1 : Int32)) v1).bind fun h5 =>
  some h5)) else none
theorem oX6_codeOfLast {N : Nat} {v0 : Nat} {v1 : Int32} {h : pH} {q : pH} (hf : fX6_codeOfLast N v0 v1 h = some q) : isO h v0 6 = true := by
  unfold fX6_codeOfLast at hf
  by_cases hc : isO h v0 6 = true
  · exact hc
  · rw [if_neg hc] at hf; cases hf
theorem cX6_codeOfLast (X : pX) (N d : Nat) (v0 : Nat) (v1 : Int32) (h : pH) (q : pH) (hf : fX6_codeOfLast N v0 v1 h = some q) : Calls X (d + 0) 71 [.ref v0, .int v1] h (none, q, 0, 0) := by
  refine Calls.of M71 (Nat.le_of_ble_eq_true rfl) ?_
  show Run X (d + 0) 6 false (pCd 4061) 2 none 0 [(0, .ref v0), (1, .int v1)] [] h 0 0 (none, q, 0, 0)
  unfold fX6_codeOfLast at hf
  by_cases hc : isO h v0 6 = true
  · rw [if_pos hc] at hf
    have nv0 : ¬ v0 = 4 := isO_ne hc
    refine r_aload_n (dGet dX6_codeOfLast (j := 0) rfl) nv0 rfl ?_
    obtain ⟨t1, et1, hf⟩ := Option.bind_eq_some_iff.mp hf
    refine r_getI (dGet dX6_codeOfLast (j := 1) rfl) F6_51 et1 ?_
    by_cases c2 : t1 ≤ 0
    · rw [if_pos c2] at hf
      refine r_if_le_t (dGet dX6_codeOfLast (j := 2) rfl) rfl c2 ?_
      cases hf
      exact r_vret (dGet dX6_codeOfLast (j := 11) rfl) rfl
    · rw [if_neg c2] at hf
      refine r_if_le_f (dGet dX6_codeOfLast (j := 2) rfl) rfl c2 ?_
      refine r_aload_n (dGet dX6_codeOfLast (j := 3) rfl) nv0 rfl ?_
      obtain ⟨t3, et3, hf⟩ := Option.bind_eq_some_iff.mp hf
      refine r_getR (dGet dX6_codeOfLast (j := 4) rfl) F6_36 et3 ?_
      refine r_aload_n (dGet dX6_codeOfLast (j := 5) rfl) nv0 rfl ?_
      obtain ⟨t4, et4, hf⟩ := Option.bind_eq_some_iff.mp hf
      refine r_getI (dGet dX6_codeOfLast (j := 6) rfl) F6_51 et4 ?_
      refine r_iconst (dGet dX6_codeOfLast (j := 7) rfl) kI_1 ?_
      refine r_isub (dGet dX6_codeOfLast (j := 8) rfl) ?_
      refine r_iload_n (dGet dX6_codeOfLast (j := 9) rfl) rfl ?_
      obtain ⟨h5, eh5, hf⟩ := Option.bind_eq_some_iff.mp hf
      refine r_iast (dGet dX6_codeOfLast (j := 10) rfl) eh5 ?_
      cases hf
      exact r_vret (dGet dX6_codeOfLast (j := 11) rfl) rfl
  · rw [if_neg hc] at hf; cases hf
def eX6_addParameter : List (Nat × Instr × Nat) := [(0, .aload_n 0, 1), (1, .getfield 51, 3), (4, .ifCond .le 58, 3), (7, .aload_n 0, 1), (8, .getfield 55, 3), (11, .sipush 1000, 3), (14, .if_icmp .ge 48, 3), (17, .aload_n 0, 1), (18, .getfield 45, 3), (21, .aload_n 0, 1), (22, .getfield 55, 3), (25, .iload_n 2, 1), (26, .iastore, 1), (27, .aload_n 0, 1), (28, .getfield 48, 3), (31, .aload_n 0, 1), (32, .getfield 55, 3), (35, .iload_n 1, 1), (36, .iastore, 1), (37, .aload_n 0, 1), (38, .dup, 1), (39, .getfield 55, 3), (42, .iconst 1, 1), (43, .iadd, 1), (44, .putfield 55, 3), (47, .aload_n 0, 1), (48, .getfield 33, 3), (51, .aload_n 0, 1), (52, .getfield 51, 3), (55, .iconst 1, 1), (56, .isub, 1), (57, .dup2, 1), (58, .iaload, 1), (59, .iconst 1, 1), (60, .iadd, 1), (61, .iastore, 1), (62, .return_, 1)]
theorem dX6_addParameter : dChk (pCd 4053) eX6_addParameter = true := by decide +kernel
def fX6_addParameter (N : Nat) (v0 : Nat) (v1 : Int32) (v2 : Int32) (h : pH) : Option (pH) := if isO h v0 6 = true then (
  (getI h v0 6 11).bind fun t1 =>
  if t1 ≤ 0 then (
  some h) else (
  (getI h v0 6 14).bind fun t3 =>
  if (1000 : Int32) ≤ t3 then (
  some h) else (
  (getR h v0 6 12).bind fun t5 =>
  (getI h v0 6 14).bind fun t6 =>
  (stI h t5 t6 v2).bind fun h7 =>
  (getR h7 v0 6 13).bind fun t8 =>
  (getI h7 v0 6 14).bind fun t9 =>
  (stI h7 t8 t9 v1).bind fun h10 =>
  (getI h10 v0 6 14).bind fun t11 =>
  (putI h10 v0 6 14 (t11 + (1 : Int32))).bind fun h12 =>
  (getR h12 v0 6 7).bind fun t13 =>
  (getI h12 v0 6 11).bind fun t14 =>
  (ldI h12 t13 (t14 - (1 : Int32))).bind fun t15 =>
  (stI h12 t13 (t14 - (1 : Int32)) (t15 + (1 : Int32))).bind fun h16 =>
  some h16))) else none
theorem oX6_addParameter {N : Nat} {v0 : Nat} {v1 : Int32} {v2 : Int32} {h : pH} {q : pH} (hf : fX6_addParameter N v0 v1 v2 h = some q) : isO h v0 6 = true := by
  unfold fX6_addParameter at hf
  by_cases hc : isO h v0 6 = true
  · exact hc
  · rw [if_neg hc] at hf; cases hf
theorem cX6_addParameter (X : pX) (N d : Nat) (v0 : Nat) (v1 : Int32) (v2 : Int32) (h : pH) (q : pH) (hf : fX6_addParameter N v0 v1 v2 h = some q) : Calls X (d + 0) 69 [.ref v0, .int v1, .int v2] h (none, q, 0, 0) := by
  refine Calls.of M69 (Nat.le_of_ble_eq_true rfl) ?_
  show Run X (d + 0) 6 false (pCd 4053) 3 none 0 [(0, .ref v0), (1, .int v1), (2, .int v2)] [] h 0 0 (none, q, 0, 0)
  unfold fX6_addParameter at hf
  by_cases hc : isO h v0 6 = true
  · rw [if_pos hc] at hf
    have nv0 : ¬ v0 = 4 := isO_ne hc
    refine r_aload_n (dGet dX6_addParameter (j := 0) rfl) nv0 rfl ?_
    obtain ⟨t1, et1, hf⟩ := Option.bind_eq_some_iff.mp hf
    refine r_getI (dGet dX6_addParameter (j := 1) rfl) F6_51 et1 ?_
    by_cases c2 : t1 ≤ 0
    · rw [if_pos c2] at hf
      refine r_if_le_t (dGet dX6_addParameter (j := 2) rfl) rfl c2 ?_
      cases hf
      exact r_vret (dGet dX6_addParameter (j := 36) rfl) rfl
    · rw [if_neg c2] at hf
      refine r_if_le_f (dGet dX6_addParameter (j := 2) rfl) rfl c2 ?_
      refine r_aload_n (dGet dX6_addParameter (j := 3) rfl) nv0 rfl ?_
      obtain ⟨t3, et3, hf⟩ := Option.bind_eq_some_iff.mp hf
      refine r_getI (dGet dX6_addParameter (j := 4) rfl) F6_55 et3 ?_
      refine r_sipush (dGet dX6_addParameter (j := 5) rfl) kS_1000 ?_
      by_cases c4 : (1000 : Int32) ≤ t3
      · rw [if_pos c4] at hf
        refine r_icmp_ge_t (dGet dX6_addParameter (j := 6) rfl) rfl c4 ?_
        cases hf
        exact r_vret (dGet dX6_addParameter (j := 36) rfl) rfl
      · rw [if_neg c4] at hf
        refine r_icmp_ge_f (dGet dX6_addParameter (j := 6) rfl) rfl c4 ?_
        refine r_aload_n (dGet dX6_addParameter (j := 7) rfl) nv0 rfl ?_
        obtain ⟨t5, et5, hf⟩ := Option.bind_eq_some_iff.mp hf
        refine r_getR (dGet dX6_addParameter (j := 8) rfl) F6_45 et5 ?_
        refine r_aload_n (dGet dX6_addParameter (j := 9) rfl) nv0 rfl ?_
        obtain ⟨t6, et6, hf⟩ := Option.bind_eq_some_iff.mp hf
        refine r_getI (dGet dX6_addParameter (j := 10) rfl) F6_55 et6 ?_
        refine r_iload_n (dGet dX6_addParameter (j := 11) rfl) rfl ?_
        obtain ⟨h7, eh7, hf⟩ := Option.bind_eq_some_iff.mp hf
        refine r_iast (dGet dX6_addParameter (j := 12) rfl) eh7 ?_
        refine r_aload_n (dGet dX6_addParameter (j := 13) rfl) nv0 rfl ?_
        obtain ⟨t8, et8, hf⟩ := Option.bind_eq_some_iff.mp hf
        refine r_getR (dGet dX6_addParameter (j := 14) rfl) F6_48 et8 ?_
        refine r_aload_n (dGet dX6_addParameter (j := 15) rfl) nv0 rfl ?_
        obtain ⟨t9, et9, hf⟩ := Option.bind_eq_some_iff.mp hf
        refine r_getI (dGet dX6_addParameter (j := 16) rfl) F6_55 et9 ?_
        refine r_iload_n (dGet dX6_addParameter (j := 17) rfl) rfl ?_
        obtain ⟨h10, eh10, hf⟩ := Option.bind_eq_some_iff.mp hf
        refine r_iast (dGet dX6_addParameter (j := 18) rfl) eh10 ?_
        refine r_aload_n (dGet dX6_addParameter (j := 19) rfl) nv0 rfl ?_
        refine r_dup (dGet dX6_addParameter (j := 20) rfl) rfl ?_
        obtain ⟨t11, et11, hf⟩ := Option.bind_eq_some_iff.mp hf
        refine r_getI (dGet dX6_addParameter (j := 21) rfl) F6_55 et11 ?_
        refine r_iconst (dGet dX6_addParameter (j := 22) rfl) kI_1 ?_
        refine r_iadd (dGet dX6_addParameter (j := 23) rfl) ?_
        obtain ⟨h12, eh12, hf⟩ := Option.bind_eq_some_iff.mp hf
        refine r_putI (dGet dX6_addParameter (j := 24) rfl) F6_55 rfl rfl eh12 ?_
        refine r_aload_n (dGet dX6_addParameter (j := 25) rfl) nv0 rfl ?_
        obtain ⟨t13, et13, hf⟩ := Option.bind_eq_some_iff.mp hf
        refine r_getR (dGet dX6_addParameter (j := 26) rfl) F6_33 et13 ?_
        refine r_aload_n (dGet dX6_addParameter (j := 27) rfl) nv0 rfl ?_
        obtain ⟨t14, et14, hf⟩ := Option.bind_eq_some_iff.mp hf
        refine r_getI (dGet dX6_addParameter (j := 28) rfl) F6_51 et14 ?_
        refine r_iconst (dGet dX6_addParameter (j := 29) rfl) kI_1 ?_
        refine r_isub (dGet dX6_addParameter (j := 30) rfl) ?_
        refine r_dup2 (dGet dX6_addParameter (j := 31) rfl) rfl rfl ?_
        obtain ⟨t15, et15, hf⟩ := Option.bind_eq_some_iff.mp hf
        refine r_iald (dGet dX6_addParameter (j := 32) rfl) et15 ?_
        refine r_iconst (dGet dX6_addParameter (j := 33) rfl) kI_1 ?_
        refine r_iadd (dGet dX6_addParameter (j := 34) rfl) ?_
        obtain ⟨h16, eh16, hf⟩ := Option.bind_eq_some_iff.mp hf
        refine r_iast (dGet dX6_addParameter (j := 35) rfl) eh16 ?_
        cases hf
        exact r_vret (dGet dX6_addParameter (j := 36) rfl) rfl
  · rw [if_neg hc] at hf; cases hf
