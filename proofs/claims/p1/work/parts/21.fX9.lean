def eX9_codeEnd : List (Nat × Instr × Nat) := [(0, .iload_n 1, 1), (1, .istore_n 2, 1), (2, .iload_n 2, 1), (3, .aload_n 0, 1), (4, .getfield 17, 3), (7, .getfield 118, 3), (10, .iconst 1, 1), (11, .isub, 1), (12, .if_icmp .ge 23, 3), (15, .aload_n 0, 1), (16, .getfield 17, 3), (19, .getfield 67, 3), (22, .iload_n 2, 1), (23, .iaload, 1), (24, .bipush 61, 2), (26, .if_icmp .eq 9, 3), (29, .iinc 2 1, 3), (32, .goto (-30), 3), (35, .iload_n 2, 1), (36, .ireturn, 1)]
theorem dX9_codeEnd : dChk (pCd 5058) eX9_codeEnd = true := by decide +kernel
def fX9_codeEnd_2 (N : Nat) : Nat → Nat → Int32 → pH → Option (Int32 × pH)
  | 0, _, _, _ => none
  | n + 1, v0, v2, h => (getR h v0 9 2).bind fun t1 =>
  (getI h t1 2 7).bind fun t2 =>
  if (t2 - (1 : Int32)) ≤ v2 then (
  some (v2, h)) else (
  (getR h v0 9 2).bind fun t4 =>
  (getR h t4 2 0).bind fun t5 =>
  (ldI h t5 v2).bind fun t6 =>
  if t6 = (61 : Int32) then (
  some (v2, h)) else (
  fX9_codeEnd_2 N n v0 (v2 + (1 : Int32)) h))
theorem lX9_codeEnd_2 (X : pX) (N d : Nat)  : ∀ (n : Nat) (v0 : Nat) (v2 : Int32) (h : pH) (q : Int32 × pH), fX9_codeEnd_2 N n v0 v2 h = some q → ¬ v0 = 4 → Run X (d + 0) 9 false (pCd 5058) 3 (some .int) 2 [(0, .ref v0), (2, .int v2)] [] h 0 0 (some (.int q.1), q.2, 0, 0) := by
  intro n
  induction n with
  | zero => intro v0 v2 h q hf; cases hf
  | succ n ih =>
    intro v0 v2 h q hf nv0
    unfold fX9_codeEnd_2 at hf
    refine r_iload_n (dGet dX9_codeEnd (j := 2) rfl) rfl ?_
    refine r_aload_n (dGet dX9_codeEnd (j := 3) rfl) nv0 rfl ?_
    obtain ⟨t1, et1, hf⟩ := Option.bind_eq_some_iff.mp hf
    refine r_getR (dGet dX9_codeEnd (j := 4) rfl) F9_17 et1 ?_
    obtain ⟨t2, et2, hf⟩ := Option.bind_eq_some_iff.mp hf
    refine r_getI (dGet dX9_codeEnd (j := 5) rfl) F9_118 et2 ?_
    refine r_iconst (dGet dX9_codeEnd (j := 6) rfl) kI_1 ?_
    refine r_isub (dGet dX9_codeEnd (j := 7) rfl) ?_
    by_cases c3 : (t2 - (1 : Int32)) ≤ v2
    · rw [if_pos c3] at hf
      refine r_icmp_ge_t (dGet dX9_codeEnd (j := 8) rfl) rfl c3 ?_
      refine r_iload_n (dGet dX9_codeEnd (j := 18) rfl) rfl ?_
      cases hf
      exact r_iret (dGet dX9_codeEnd (j := 19) rfl) rfl rfl
    · rw [if_neg c3] at hf
      refine r_icmp_ge_f (dGet dX9_codeEnd (j := 8) rfl) rfl c3 ?_
      refine r_aload_n (dGet dX9_codeEnd (j := 9) rfl) nv0 rfl ?_
      obtain ⟨t4, et4, hf⟩ := Option.bind_eq_some_iff.mp hf
      refine r_getR (dGet dX9_codeEnd (j := 10) rfl) F9_17 et4 ?_
      obtain ⟨t5, et5, hf⟩ := Option.bind_eq_some_iff.mp hf
      refine r_getR (dGet dX9_codeEnd (j := 11) rfl) F9_67 et5 ?_
      refine r_iload_n (dGet dX9_codeEnd (j := 12) rfl) rfl ?_
      obtain ⟨t6, et6, hf⟩ := Option.bind_eq_some_iff.mp hf
      refine r_iald (dGet dX9_codeEnd (j := 13) rfl) et6 ?_
      refine r_bipush (dGet dX9_codeEnd (j := 14) rfl) kB_61 ?_
      by_cases c7 : t6 = (61 : Int32)
      · rw [if_pos c7] at hf
        refine r_icmp_eq_t (dGet dX9_codeEnd (j := 15) rfl) rfl c7 ?_
        refine r_iload_n (dGet dX9_codeEnd (j := 18) rfl) rfl ?_
        cases hf
        exact r_iret (dGet dX9_codeEnd (j := 19) rfl) rfl rfl
      · rw [if_neg c7] at hf
        refine r_icmp_eq_f (dGet dX9_codeEnd (j := 15) rfl) rfl c7 ?_
        refine r_iinc (lv' := [(2, .int (v2 + (1 : Int32))), (0, .ref v0)]) (dGet dX9_codeEnd (j := 16) rfl) rfl (by decide) kI_1 rfl ?_
        refine r_goto (dGet dX9_codeEnd (j := 17) rfl) rfl ?_
        refine Run.weak [(0, .ref v0), (2, .int (v2 + (1 : Int32)))] (by simp) (by simp [pNd]) ?_
        exact ih v0 (v2 + (1 : Int32)) h q hf nv0
def fX9_codeEnd (N : Nat) (v0 : Nat) (v1 : Int32) (h : pH) : Option (Int32 × pH) := if isO h v0 9 = true then (
  fX9_codeEnd_2 N N v0 v1 h) else none
theorem oX9_codeEnd {N : Nat} {v0 : Nat} {v1 : Int32} {h : pH} {q : Int32 × pH} (hf : fX9_codeEnd N v0 v1 h = some q) : isO h v0 9 = true := by
  unfold fX9_codeEnd at hf
  by_cases hc : isO h v0 9 = true
  · exact hc
  · rw [if_neg hc] at hf; cases hf
theorem cX9_codeEnd (X : pX) (N d : Nat) (v0 : Nat) (v1 : Int32) (h : pH) (q : Int32 × pH) (hf : fX9_codeEnd N v0 v1 h = some q) : Calls X (d + 0) 130 [.ref v0, .int v1] h (some (.int q.1), q.2, 0, 0) := by
  refine Calls.of M130 (Nat.le_of_ble_eq_true rfl) ?_
  show Run X (d + 0) 9 false (pCd 5058) 3 (some .int) 0 [(0, .ref v0), (1, .int v1)] [] h 0 0 (some (.int q.1), q.2, 0, 0)
  unfold fX9_codeEnd at hf
  by_cases hc : isO h v0 9 = true
  · rw [if_pos hc] at hf
    have nv0 : ¬ v0 = 4 := isO_ne hc
    refine r_iload_n (dGet dX9_codeEnd (j := 0) rfl) rfl ?_
    refine r_istore_n (lv' := [(2, .int v1), (0, .ref v0), (1, .int v1)]) (dGet dX9_codeEnd (j := 1) rfl) (by decide) rfl ?_
    refine Run.weak [(0, .ref v0), (2, .int v1)] (by simp) (by simp [pNd]) ?_
    exact lX9_codeEnd_2 X N d N v0 v1 h q hf nv0
  · rw [if_neg hc] at hf; cases hf
def eX9_enter : List (Nat × Instr × Nat) := [(0, .aload_n 0, 1), (1, .iload_n 1, 1), (2, .putfield 89, 3), (5, .aload_n 0, 1), (6, .aload_n 0, 1), (7, .getfield 13, 3), (10, .getfield 92, 3), (13, .iload_n 2, 1), (14, .iaload, 1), (15, .putfield 95, 3), (18, .aload_n 0, 1), (19, .iconst 0, 1), (20, .putfield 98, 3), (23, .aload_n 0, 1), (24, .iconst 0, 1), (25, .putfield 86, 3), (28, .aload_n 0, 1), (29, .getfield 24, 3), (32, .invokevirtual 101, 3), (35, .iconst 0, 1), (36, .istore_n 3, 1), (37, .iload_n 3, 1), (38, .aload_n 0, 1), (39, .getfield 13, 3), (42, .getfield 104, 3), (45, .iload_n 2, 1), (46, .iaload, 1), (47, .if_icmp .ge 36, 3), (50, .aload_n 0, 1), (51, .getfield 24, 3), (54, .aload_n 0, 1), (55, .getfield 13, 3), (58, .iload_n 2, 1), (59, .iload_n 3, 1), (60, .invokevirtual 107, 3), (63, .aload_n 0, 1), (64, .getfield 13, 3), (67, .iload_n 2, 1), (68, .iload_n 3, 1), (69, .invokevirtual 111, 3), (72, .iconst 1, 1), (73, .invokevirtual 114, 3), (76, .pop, 1), (77, .iinc 3 1, 3), (80, .goto (-43), 3), (83, .return_, 1)]
theorem dX9_enter : dChk (pCd 5039) eX9_enter = true := by decide +kernel
def fX9_enter_37 (N : Nat) : Nat → Nat → Int32 → Int32 → pH → Option (pH)
  | 0, _, _, _, _ => none
  | n + 1, v0, v2, v3, h => (getR h v0 9 1).bind fun t1 =>
  (getR h t1 6 7).bind fun t2 =>
  (ldI h t2 v2).bind fun t3 =>
  if t3 ≤ v3 then (
  some h) else (
  (getR h v0 9 3).bind fun t5 =>
  (getR h v0 9 1).bind fun t6 =>
  (fX6_parameterNameOf N t6 v2 v3 h).bind fun q7 =>
  (getR q7.2 v0 9 1).bind fun t8 =>
  (fX6_parameterTypeOf N t8 v2 v3 q7.2).bind fun q9 =>
  (fX8_add N t5 q7.1 q9.1 (1 : Int32) q9.2).bind fun q10 =>
  fX9_enter_37 N n v0 v2 (v3 + (1 : Int32)) q10.2)
theorem lX9_enter_37 (X : pX) (N d : Nat)  : ∀ (n : Nat) (v0 : Nat) (v2 : Int32) (v3 : Int32) (h : pH) (q : pH), fX9_enter_37 N n v0 v2 v3 h = some q → ¬ v0 = 4 → Run X (d + 2) 9 false (pCd 5039) 4 none 37 [(0, .ref v0), (2, .int v2), (3, .int v3)] [] h 0 0 (none, q, 0, 0) := by
  intro n
  induction n with
  | zero => intro v0 v2 v3 h q hf; cases hf
  | succ n ih =>
    intro v0 v2 v3 h q hf nv0
    unfold fX9_enter_37 at hf
    refine r_iload_n (dGet dX9_enter (j := 21) rfl) rfl ?_
    refine r_aload_n (dGet dX9_enter (j := 22) rfl) nv0 rfl ?_
    obtain ⟨t1, et1, hf⟩ := Option.bind_eq_some_iff.mp hf
    refine r_getR (dGet dX9_enter (j := 23) rfl) F9_13 et1 ?_
    obtain ⟨t2, et2, hf⟩ := Option.bind_eq_some_iff.mp hf
    refine r_getR (dGet dX9_enter (j := 24) rfl) F9_104 et2 ?_
    refine r_iload_n (dGet dX9_enter (j := 25) rfl) rfl ?_
    obtain ⟨t3, et3, hf⟩ := Option.bind_eq_some_iff.mp hf
    refine r_iald (dGet dX9_enter (j := 26) rfl) et3 ?_
    by_cases c4 : t3 ≤ v3
    · rw [if_pos c4] at hf
      refine r_icmp_ge_t (dGet dX9_enter (j := 27) rfl) rfl c4 ?_
      cases hf
      exact r_vret (dGet dX9_enter (j := 45) rfl) rfl
    · rw [if_neg c4] at hf
      refine r_icmp_ge_f (dGet dX9_enter (j := 27) rfl) rfl c4 ?_
      refine r_aload_n (dGet dX9_enter (j := 28) rfl) nv0 rfl ?_
      obtain ⟨t5, et5, hf⟩ := Option.bind_eq_some_iff.mp hf
      refine r_getR (dGet dX9_enter (j := 29) rfl) F9_24 et5 ?_
      refine r_aload_n (dGet dX9_enter (j := 30) rfl) nv0 rfl ?_
      obtain ⟨t6, et6, hf⟩ := Option.bind_eq_some_iff.mp hf
      refine r_getR (dGet dX9_enter (j := 31) rfl) F9_13 et6 ?_
      refine r_iload_n (dGet dX9_enter (j := 32) rfl) rfl ?_
      refine r_iload_n (dGet dX9_enter (j := 33) rfl) rfl ?_
      obtain ⟨q7, eq7, hf⟩ := Option.bind_eq_some_iff.mp hf
      refine r_virtual (dGet dX9_enter (j := 34) rfl) L9_107 M116 rfl rfl (Nat.le_of_ble_eq_true rfl) (oX6_parameterNameOf eq7) (cX6_parameterNameOf X N (d + 1) t6 v2 v3 h q7 eq7) ?_
      refine r_aload_n (dGet dX9_enter (j := 35) rfl) nv0 rfl ?_
      obtain ⟨t8, et8, hf⟩ := Option.bind_eq_some_iff.mp hf
      refine r_getR (dGet dX9_enter (j := 36) rfl) F9_13 et8 ?_
      refine r_iload_n (dGet dX9_enter (j := 37) rfl) rfl ?_
      refine r_iload_n (dGet dX9_enter (j := 38) rfl) rfl ?_
      obtain ⟨q9, eq9, hf⟩ := Option.bind_eq_some_iff.mp hf
      refine r_virtual (dGet dX9_enter (j := 39) rfl) L9_111 M115 rfl rfl (Nat.le_of_ble_eq_true rfl) (oX6_parameterTypeOf eq9) (cX6_parameterTypeOf X N (d + 1) t8 v2 v3 q7.2 q9 eq9) ?_
      refine r_iconst (dGet dX9_enter (j := 40) rfl) kI_1 ?_
      obtain ⟨q10, eq10, hf⟩ := Option.bind_eq_some_iff.mp hf
      refine r_virtual (dGet dX9_enter (j := 41) rfl) L9_114 M128 rfl rfl (Nat.le_of_ble_eq_true rfl) (oX8_add eq10) (cX8_add X N (d + 0) t5 q7.1 q9.1 (1 : Int32) q9.2 q10 eq10) ?_
      refine r_pop (dGet dX9_enter (j := 42) rfl) rfl ?_
      refine r_iinc (lv' := [(3, .int (v3 + (1 : Int32))), (0, .ref v0), (2, .int v2)]) (dGet dX9_enter (j := 43) rfl) rfl (by decide) kI_1 rfl ?_
      refine r_goto (dGet dX9_enter (j := 44) rfl) rfl ?_
      refine Run.weak [(0, .ref v0), (2, .int v2), (3, .int (v3 + (1 : Int32)))] (by simp) (by simp [pNd]) ?_
      exact ih v0 v2 (v3 + (1 : Int32)) q10.2 q hf nv0
def fX9_enter (N : Nat) (v0 : Nat) (v1 : Int32) (v2 : Int32) (h : pH) : Option (pH) := if isO h v0 9 = true then (
  (putI h v0 9 7 v1).bind fun h11 =>
  (getR h11 v0 9 1).bind fun t12 =>
  (getR h11 t12 6 3).bind fun t13 =>
  (ldI h11 t13 v2).bind fun t14 =>
  (putI h11 v0 9 8 t14).bind fun h15 =>
  (putI h15 v0 9 5 (0 : Int32)).bind fun h16 =>
  (putI h16 v0 9 6 (0 : Int32)).bind fun h17 =>
  (getR h17 v0 9 3).bind fun t18 =>
  (fX8_clear N t18 h17).bind fun h19 =>
  fX9_enter_37 N N v0 v2 (0 : Int32) h19) else none
theorem oX9_enter {N : Nat} {v0 : Nat} {v1 : Int32} {v2 : Int32} {h : pH} {q : pH} (hf : fX9_enter N v0 v1 v2 h = some q) : isO h v0 9 = true := by
  unfold fX9_enter at hf
  by_cases hc : isO h v0 9 = true
  · exact hc
  · rw [if_neg hc] at hf; cases hf
theorem cX9_enter (X : pX) (N d : Nat) (v0 : Nat) (v1 : Int32) (v2 : Int32) (h : pH) (q : pH) (hf : fX9_enter N v0 v1 v2 h = some q) : Calls X (d + 2) 126 [.ref v0, .int v1, .int v2] h (none, q, 0, 0) := by
  refine Calls.of M126 (Nat.le_of_ble_eq_true rfl) ?_
  show Run X (d + 2) 9 false (pCd 5039) 4 none 0 [(0, .ref v0), (1, .int v1), (2, .int v2)] [] h 0 0 (none, q, 0, 0)
  unfold fX9_enter at hf
  by_cases hc : isO h v0 9 = true
  · rw [if_pos hc] at hf
    have nv0 : ¬ v0 = 4 := isO_ne hc
    refine r_aload_n (dGet dX9_enter (j := 0) rfl) nv0 rfl ?_
    refine r_iload_n (dGet dX9_enter (j := 1) rfl) rfl ?_
    obtain ⟨h11, eh11, hf⟩ := Option.bind_eq_some_iff.mp hf
    refine r_putI (dGet dX9_enter (j := 2) rfl) F9_89 rfl rfl eh11 ?_
    refine r_aload_n (dGet dX9_enter (j := 3) rfl) nv0 rfl ?_
    refine r_aload_n (dGet dX9_enter (j := 4) rfl) nv0 rfl ?_
    obtain ⟨t12, et12, hf⟩ := Option.bind_eq_some_iff.mp hf
    refine r_getR (dGet dX9_enter (j := 5) rfl) F9_13 et12 ?_
    obtain ⟨t13, et13, hf⟩ := Option.bind_eq_some_iff.mp hf
    refine r_getR (dGet dX9_enter (j := 6) rfl) F9_92 et13 ?_
    refine r_iload_n (dGet dX9_enter (j := 7) rfl) rfl ?_
    obtain ⟨t14, et14, hf⟩ := Option.bind_eq_some_iff.mp hf
    refine r_iald (dGet dX9_enter (j := 8) rfl) et14 ?_
    obtain ⟨h15, eh15, hf⟩ := Option.bind_eq_some_iff.mp hf
    refine r_putI (dGet dX9_enter (j := 9) rfl) F9_95 rfl rfl eh15 ?_
    refine r_aload_n (dGet dX9_enter (j := 10) rfl) nv0 rfl ?_
    refine r_iconst (dGet dX9_enter (j := 11) rfl) kI_0 ?_
    obtain ⟨h16, eh16, hf⟩ := Option.bind_eq_some_iff.mp hf
    refine r_putI (dGet dX9_enter (j := 12) rfl) F9_98 rfl rfl eh16 ?_
    refine r_aload_n (dGet dX9_enter (j := 13) rfl) nv0 rfl ?_
    refine r_iconst (dGet dX9_enter (j := 14) rfl) kI_0 ?_
    obtain ⟨h17, eh17, hf⟩ := Option.bind_eq_some_iff.mp hf
    refine r_putI (dGet dX9_enter (j := 15) rfl) F9_86 rfl rfl eh17 ?_
    refine r_aload_n (dGet dX9_enter (j := 16) rfl) nv0 rfl ?_
    obtain ⟨t18, et18, hf⟩ := Option.bind_eq_some_iff.mp hf
    refine r_getR (dGet dX9_enter (j := 17) rfl) F9_24 et18 ?_
    obtain ⟨h19, eh19, hf⟩ := Option.bind_eq_some_iff.mp hf
    refine r_virtual (dGet dX9_enter (j := 18) rfl) L9_101 M127 rfl rfl (Nat.le_of_ble_eq_true rfl) (oX8_clear eh19) (cX8_clear X N (d + 1) t18 h17 h19 eh19) ?_
    refine r_iconst (dGet dX9_enter (j := 19) rfl) kI_0 ?_
    refine r_istore_n (lv' := [(3, .int (0 : Int32)), (0, .ref v0), (1, .int v1), (2, .int v2)]) (dGet dX9_enter (j := 20) rfl) (by decide) rfl ?_
    refine Run.weak [(0, .ref v0), (2, .int v2), (3, .int (0 : Int32))] (by simp) (by simp [pNd]) ?_
    exact lX9_enter_37 X N d N v0 v2 (0 : Int32) h19 q hf nv0
  · rw [if_neg hc] at hf; cases hf
def eX9_fieldType : List (Nat × Instr × Nat) := [(0, .aload_n 0, 1), (1, .getfield 13, 3), (4, .iload_n 2, 1), (5, .iconst 0, 1), (6, .aload_n 0, 1), (7, .getfield 17, 3), (10, .getfield 149, 3), (13, .iload_n 1, 1), (14, .iaload, 1), (15, .invokevirtual 163, 3), (18, .istore 4, 2), (20, .iload 4, 2), (22, .iconst (-1), 1), (23, .if_icmp .ne 6, 3), (26, .bipush (-6), 2), (28, .ireturn, 1), (29, .aload_n 0, 1), (30, .getfield 17, 3), (33, .getfield 67, 3), (36, .iload_n 1, 1), (37, .iload_n 3, 1), (38, .iastore, 1), (39, .aload_n 0, 1), (40, .getfield 17, 3), (43, .getfield 149, 3), (46, .iload_n 1, 1), (47, .aload_n 0, 1), (48, .getfield 13, 3), (51, .getfield 167, 3), (54, .iload 4, 2), (56, .iaload, 1), (57, .iastore, 1), (58, .aload_n 0, 1), (59, .getfield 13, 3), (62, .getfield 92, 3), (65, .iload 4, 2), (67, .iaload, 1), (68, .ireturn, 1)]
theorem dX9_fieldType : dChk (pCd 5083) eX9_fieldType = true := by decide +kernel
def fX9_fieldType (N : Nat) (v0 : Nat) (v1 : Int32) (v2 : Int32) (v3 : Int32) (h : pH) : Option (Int32 × pH) := if isO h v0 9 = true then (
  (getR h v0 9 1).bind fun t1 =>
  (getR h v0 9 2).bind fun t2 =>
  (getR h t2 2 1).bind fun t3 =>
  (ldI h t3 v1).bind fun t4 =>
  (fX6_had N t1 v2 (0 : Int32) t4 h).bind fun q5 =>
  if q5.1 = (-1 : Int32) then (
  some ((-6 : Int32), q5.2)) else (
  (getR q5.2 v0 9 2).bind fun t7 =>
  (getR q5.2 t7 2 0).bind fun t8 =>
  (stI q5.2 t8 v1 v3).bind fun h9 =>
  (getR h9 v0 9 2).bind fun t10 =>
  (getR h9 t10 2 1).bind fun t11 =>
  (getR h9 v0 9 1).bind fun t12 =>
  (getR h9 t12 6 5).bind fun t13 =>
  (ldI h9 t13 q5.1).bind fun t14 =>
  (stI h9 t11 v1 t14).bind fun h15 =>
  (getR h15 v0 9 1).bind fun t16 =>
  (getR h15 t16 6 3).bind fun t17 =>
  (ldI h15 t17 q5.1).bind fun t18 =>
  some (t18, h15))) else none
theorem oX9_fieldType {N : Nat} {v0 : Nat} {v1 : Int32} {v2 : Int32} {v3 : Int32} {h : pH} {q : Int32 × pH} (hf : fX9_fieldType N v0 v1 v2 v3 h = some q) : isO h v0 9 = true := by
  unfold fX9_fieldType at hf
  by_cases hc : isO h v0 9 = true
  · exact hc
  · rw [if_neg hc] at hf; cases hf
theorem cX9_fieldType (X : pX) (N d : Nat) (v0 : Nat) (v1 : Int32) (v2 : Int32) (v3 : Int32) (h : pH) (q : Int32 × pH) (hf : fX9_fieldType N v0 v1 v2 v3 h = some q) : Calls X (d + 2) 136 [.ref v0, .int v1, .int v2, .int v3] h (some (.int q.1), q.2, 0, 0) := by
  refine Calls.of M136 (Nat.le_of_ble_eq_true rfl) ?_
  show Run X (d + 2) 9 false (pCd 5083) 5 (some .int) 0 [(0, .ref v0), (1, .int v1), (2, .int v2), (3, .int v3)] [] h 0 0 (some (.int q.1), q.2, 0, 0)
  unfold fX9_fieldType at hf
  by_cases hc : isO h v0 9 = true
  · rw [if_pos hc] at hf
    have nv0 : ¬ v0 = 4 := isO_ne hc
    refine r_aload_n (dGet dX9_fieldType (j := 0) rfl) nv0 rfl ?_
    obtain ⟨t1, et1, hf⟩ := Option.bind_eq_some_iff.mp hf
    refine r_getR (dGet dX9_fieldType (j := 1) rfl) F9_13 et1 ?_
    refine r_iload_n (dGet dX9_fieldType (j := 2) rfl) rfl ?_
    refine r_iconst (dGet dX9_fieldType (j := 3) rfl) kI_0 ?_
    refine r_aload_n (dGet dX9_fieldType (j := 4) rfl) nv0 rfl ?_
    obtain ⟨t2, et2, hf⟩ := Option.bind_eq_some_iff.mp hf
    refine r_getR (dGet dX9_fieldType (j := 5) rfl) F9_17 et2 ?_
    obtain ⟨t3, et3, hf⟩ := Option.bind_eq_some_iff.mp hf
    refine r_getR (dGet dX9_fieldType (j := 6) rfl) F9_149 et3 ?_
    refine r_iload_n (dGet dX9_fieldType (j := 7) rfl) rfl ?_
    obtain ⟨t4, et4, hf⟩ := Option.bind_eq_some_iff.mp hf
    refine r_iald (dGet dX9_fieldType (j := 8) rfl) et4 ?_
    obtain ⟨q5, eq5, hf⟩ := Option.bind_eq_some_iff.mp hf
    refine r_virtual (dGet dX9_fieldType (j := 9) rfl) L9_163 M118 rfl rfl (Nat.le_of_ble_eq_true rfl) (oX6_had eq5) (cX6_had X N (d + 0) t1 v2 (0 : Int32) t4 h q5 eq5) ?_
    refine r_istore (lv' := [(4, .int q5.1), (0, .ref v0), (1, .int v1), (2, .int v2), (3, .int v3)]) (dGet dX9_fieldType (j := 10) rfl) (by decide) rfl ?_
    refine r_iload (dGet dX9_fieldType (j := 11) rfl) rfl ?_
    refine r_iconst (dGet dX9_fieldType (j := 12) rfl) kI_m1 ?_
    by_cases c6 : q5.1 = (-1 : Int32)
    · rw [if_pos c6] at hf
      refine r_icmp_ne_f (dGet dX9_fieldType (j := 13) rfl) rfl c6 ?_
      refine r_bipush (dGet dX9_fieldType (j := 14) rfl) kB_m6 ?_
      cases hf
      exact r_iret (dGet dX9_fieldType (j := 15) rfl) rfl rfl
    · rw [if_neg c6] at hf
      refine r_icmp_ne_t (dGet dX9_fieldType (j := 13) rfl) rfl c6 ?_
      refine r_aload_n (dGet dX9_fieldType (j := 16) rfl) nv0 rfl ?_
      obtain ⟨t7, et7, hf⟩ := Option.bind_eq_some_iff.mp hf
      refine r_getR (dGet dX9_fieldType (j := 17) rfl) F9_17 et7 ?_
      obtain ⟨t8, et8, hf⟩ := Option.bind_eq_some_iff.mp hf
      refine r_getR (dGet dX9_fieldType (j := 18) rfl) F9_67 et8 ?_
      refine r_iload_n (dGet dX9_fieldType (j := 19) rfl) rfl ?_
      refine r_iload_n (dGet dX9_fieldType (j := 20) rfl) rfl ?_
      obtain ⟨h9, eh9, hf⟩ := Option.bind_eq_some_iff.mp hf
      refine r_iast (dGet dX9_fieldType (j := 21) rfl) eh9 ?_
      refine r_aload_n (dGet dX9_fieldType (j := 22) rfl) nv0 rfl ?_
      obtain ⟨t10, et10, hf⟩ := Option.bind_eq_some_iff.mp hf
      refine r_getR (dGet dX9_fieldType (j := 23) rfl) F9_17 et10 ?_
      obtain ⟨t11, et11, hf⟩ := Option.bind_eq_some_iff.mp hf
      refine r_getR (dGet dX9_fieldType (j := 24) rfl) F9_149 et11 ?_
      refine r_iload_n (dGet dX9_fieldType (j := 25) rfl) rfl ?_
      refine r_aload_n (dGet dX9_fieldType (j := 26) rfl) nv0 rfl ?_
      obtain ⟨t12, et12, hf⟩ := Option.bind_eq_some_iff.mp hf
      refine r_getR (dGet dX9_fieldType (j := 27) rfl) F9_13 et12 ?_
      obtain ⟨t13, et13, hf⟩ := Option.bind_eq_some_iff.mp hf
      refine r_getR (dGet dX9_fieldType (j := 28) rfl) F9_167 et13 ?_
      refine r_iload (dGet dX9_fieldType (j := 29) rfl) rfl ?_
      obtain ⟨t14, et14, hf⟩ := Option.bind_eq_some_iff.mp hf
      refine r_iald (dGet dX9_fieldType (j := 30) rfl) et14 ?_
      obtain ⟨h15, eh15, hf⟩ := Option.bind_eq_some_iff.mp hf
      refine r_iast (dGet dX9_fieldType (j := 31) rfl) eh15 ?_
      refine r_aload_n (dGet dX9_fieldType (j := 32) rfl) nv0 rfl ?_
      obtain ⟨t16, et16, hf⟩ := Option.bind_eq_some_iff.mp hf
      refine r_getR (dGet dX9_fieldType (j := 33) rfl) F9_13 et16 ?_
      obtain ⟨t17, et17, hf⟩ := Option.bind_eq_some_iff.mp hf
      refine r_getR (dGet dX9_fieldType (j := 34) rfl) F9_92 et17 ?_
      refine r_iload (dGet dX9_fieldType (j := 35) rfl) rfl ?_
      obtain ⟨t18, et18, hf⟩ := Option.bind_eq_some_iff.mp hf
      refine r_iald (dGet dX9_fieldType (j := 36) rfl) et18 ?_
      cases hf
      exact r_iret (dGet dX9_fieldType (j := 37) rfl) rfl rfl
  · rw [if_neg hc] at hf; cases hf
def eX9_fits : List (Nat × Instr × Nat) := [(0, .iload_n 2, 1), (1, .bipush (-6), 2), (3, .if_icmp .eq 19, 3), (6, .aload_n 0, 1), (7, .getfield 7, 3), (10, .iload_n 1, 1), (11, .iload_n 2, 1), (12, .invokevirtual 195, 3), (15, .ifCond .eq 7, 3), (18, .iconst 1, 1), (19, .goto 4, 3), (22, .iconst 0, 1), (23, .ireturn, 1)]
theorem dX9_fits : dChk (pCd 5143) eX9_fits = true := by decide +kernel
def fX9_fits (N : Nat) (v0 : Nat) (v1 : Int32) (v2 : Int32) (h : pH) : Option (Int32 × pH) := if isO h v0 9 = true then (
  if v2 = (-6 : Int32) then (
  some ((0 : Int32), h)) else (
  (getR h v0 9 0).bind fun t2 =>
  (fX1_isSub N t2 v1 v2 h).bind fun q3 =>
  if q3.1 = 0 then (
  some ((0 : Int32), q3.2)) else (
  some ((1 : Int32), q3.2)))) else none
theorem oX9_fits {N : Nat} {v0 : Nat} {v1 : Int32} {v2 : Int32} {h : pH} {q : Int32 × pH} (hf : fX9_fits N v0 v1 v2 h = some q) : isO h v0 9 = true := by
  unfold fX9_fits at hf
  by_cases hc : isO h v0 9 = true
  · exact hc
  · rw [if_neg hc] at hf; cases hf
theorem cX9_fits (X : pX) (N d : Nat) (v0 : Nat) (v1 : Int32) (v2 : Int32) (h : pH) (q : Int32 × pH) (hf : fX9_fits N v0 v1 v2 h = some q) : Calls X (d + 2) 151 [.ref v0, .int v1, .int v2] h (some (.int q.1), q.2, 0, 0) := by
  refine Calls.of M151 (Nat.le_of_ble_eq_true rfl) ?_
  show Run X (d + 2) 9 false (pCd 5143) 3 (some .boolean) 0 [(0, .ref v0), (1, .int v1), (2, .int v2)] [] h 0 0 (some (.int q.1), q.2, 0, 0)
  unfold fX9_fits at hf
  by_cases hc : isO h v0 9 = true
  · rw [if_pos hc] at hf
    have nv0 : ¬ v0 = 4 := isO_ne hc
    refine r_iload_n (dGet dX9_fits (j := 0) rfl) rfl ?_
    refine r_bipush (dGet dX9_fits (j := 1) rfl) kB_m6 ?_
    by_cases c1 : v2 = (-6 : Int32)
    · rw [if_pos c1] at hf
      refine r_icmp_eq_t (dGet dX9_fits (j := 2) rfl) rfl c1 ?_
      refine r_iconst (dGet dX9_fits (j := 11) rfl) kI_0 ?_
      cases hf
      exact r_iret (dGet dX9_fits (j := 12) rfl) rfl (by decide)
    · rw [if_neg c1] at hf
      refine r_icmp_eq_f (dGet dX9_fits (j := 2) rfl) rfl c1 ?_
      refine r_aload_n (dGet dX9_fits (j := 3) rfl) nv0 rfl ?_
      obtain ⟨t2, et2, hf⟩ := Option.bind_eq_some_iff.mp hf
      refine r_getR (dGet dX9_fits (j := 4) rfl) F9_7 et2 ?_
      refine r_iload_n (dGet dX9_fits (j := 5) rfl) rfl ?_
      refine r_iload_n (dGet dX9_fits (j := 6) rfl) rfl ?_
      obtain ⟨q3, eq3, hf⟩ := Option.bind_eq_some_iff.mp hf
      refine r_virtual (dGet dX9_fits (j := 7) rfl) L9_195 M146 rfl rfl (Nat.le_of_ble_eq_true rfl) (oX1_isSub eq3) (cX1_isSub X N (d + 0) t2 v1 v2 h q3 eq3) ?_
      by_cases c4 : q3.1 = 0
      · rw [if_pos c4] at hf
        refine r_if_eq_t (dGet dX9_fits (j := 8) rfl) rfl c4 ?_
        refine r_iconst (dGet dX9_fits (j := 11) rfl) kI_0 ?_
        cases hf
        exact r_iret (dGet dX9_fits (j := 12) rfl) rfl (by decide)
      · rw [if_neg c4] at hf
        refine r_if_eq_f (dGet dX9_fits (j := 8) rfl) rfl c4 ?_
        refine r_iconst (dGet dX9_fits (j := 9) rfl) kI_1 ?_
        refine r_goto (dGet dX9_fits (j := 10) rfl) rfl ?_
        cases hf
        exact r_iret (dGet dX9_fits (j := 12) rfl) rfl (by decide)
  · rw [if_neg hc] at hf; cases hf
def eX9_push : List (Nat × Instr × Nat) := [(0, .iload_n 1, 1), (1, .bipush (-6), 2), (3, .if_icmp .eq 15, 3), (6, .aload_n 0, 1), (7, .getfield 98, 3), (10, .aload_n 0, 1), (11, .getfield 30, 3), (14, .arraylength, 1), (15, .if_icmp .lt 5, 3), (18, .iconst 0, 1), (19, .ireturn, 1), (20, .aload_n 0, 1), (21, .getfield 30, 3), (24, .aload_n 0, 1), (25, .getfield 98, 3), (28, .iload_n 1, 1), (29, .iastore, 1), (30, .aload_n 0, 1), (31, .dup, 1), (32, .getfield 98, 3), (35, .iconst 1, 1), (36, .iadd, 1), (37, .putfield 98, 3), (40, .aload_n 0, 1), (41, .aload_n 0, 1), (42, .getfield 86, 3), (45, .aload_n 0, 1), (46, .getfield 98, 3), (49, .invokestatic 138, 3), (52, .putfield 86, 3), (55, .iconst 1, 1), (56, .ireturn, 1)]
theorem dX9_push : dChk (pCd 5070) eX9_push = true := by decide +kernel
def fX9_push (N : Nat) (v0 : Nat) (v1 : Int32) (h : pH) : Option (Int32 × pH) := if isO h v0 9 = true then (
  if v1 = (-6 : Int32) then (
  some ((0 : Int32), h)) else (
  (getI h v0 9 5).bind fun t2 =>
  (getR h v0 9 4).bind fun t3 =>
  (lenA h t3).bind fun t4 =>
  if t2 < t4 then (
  (getR h v0 9 4).bind fun t6 =>
  (getI h v0 9 5).bind fun t7 =>
  (stI h t6 t7 v1).bind fun h8 =>
  (getI h8 v0 9 5).bind fun t9 =>
  (putI h8 v0 9 5 (t9 + (1 : Int32))).bind fun h10 =>
  (getI h10 v0 9 6).bind fun t11 =>
  (getI h10 v0 9 5).bind fun t12 =>
  (putI h10 v0 9 6 (if t11 < t12 then t12 else t11)).bind fun h13 =>
  some ((1 : Int32), h13)) else (
  some ((0 : Int32), h)))) else none
theorem oX9_push {N : Nat} {v0 : Nat} {v1 : Int32} {h : pH} {q : Int32 × pH} (hf : fX9_push N v0 v1 h = some q) : isO h v0 9 = true := by
  unfold fX9_push at hf
  by_cases hc : isO h v0 9 = true
  · exact hc
  · rw [if_neg hc] at hf; cases hf
theorem cX9_push (X : pX) (N d : Nat) (v0 : Nat) (v1 : Int32) (h : pH) (q : Int32 × pH) (hf : fX9_push N v0 v1 h = some q) : Calls X (d + 1) 133 [.ref v0, .int v1] h (some (.int q.1), q.2, 0, 0) := by
  refine Calls.of M133 (Nat.le_of_ble_eq_true rfl) ?_
  show Run X (d + 1) 9 false (pCd 5070) 2 (some .boolean) 0 [(0, .ref v0), (1, .int v1)] [] h 0 0 (some (.int q.1), q.2, 0, 0)
  unfold fX9_push at hf
  by_cases hc : isO h v0 9 = true
  · rw [if_pos hc] at hf
    have nv0 : ¬ v0 = 4 := isO_ne hc
    refine r_iload_n (dGet dX9_push (j := 0) rfl) rfl ?_
    refine r_bipush (dGet dX9_push (j := 1) rfl) kB_m6 ?_
    by_cases c1 : v1 = (-6 : Int32)
    · rw [if_pos c1] at hf
      refine r_icmp_eq_t (dGet dX9_push (j := 2) rfl) rfl c1 ?_
      refine r_iconst (dGet dX9_push (j := 9) rfl) kI_0 ?_
      cases hf
      exact r_iret (dGet dX9_push (j := 10) rfl) rfl (by decide)
    · rw [if_neg c1] at hf
      refine r_icmp_eq_f (dGet dX9_push (j := 2) rfl) rfl c1 ?_
      refine r_aload_n (dGet dX9_push (j := 3) rfl) nv0 rfl ?_
      obtain ⟨t2, et2, hf⟩ := Option.bind_eq_some_iff.mp hf
      refine r_getI (dGet dX9_push (j := 4) rfl) F9_98 et2 ?_
      refine r_aload_n (dGet dX9_push (j := 5) rfl) nv0 rfl ?_
      obtain ⟨t3, et3, hf⟩ := Option.bind_eq_some_iff.mp hf
      refine r_getR (dGet dX9_push (j := 6) rfl) F9_30 et3 ?_
      obtain ⟨t4, et4, hf⟩ := Option.bind_eq_some_iff.mp hf
      refine r_alen (dGet dX9_push (j := 7) rfl) et4 ?_
      by_cases c5 : t2 < t4
      · rw [if_pos c5] at hf
        refine r_icmp_lt_t (dGet dX9_push (j := 8) rfl) rfl c5 ?_
        refine r_aload_n (dGet dX9_push (j := 11) rfl) nv0 rfl ?_
        obtain ⟨t6, et6, hf⟩ := Option.bind_eq_some_iff.mp hf
        refine r_getR (dGet dX9_push (j := 12) rfl) F9_30 et6 ?_
        refine r_aload_n (dGet dX9_push (j := 13) rfl) nv0 rfl ?_
        obtain ⟨t7, et7, hf⟩ := Option.bind_eq_some_iff.mp hf
        refine r_getI (dGet dX9_push (j := 14) rfl) F9_98 et7 ?_
        refine r_iload_n (dGet dX9_push (j := 15) rfl) rfl ?_
        obtain ⟨h8, eh8, hf⟩ := Option.bind_eq_some_iff.mp hf
        refine r_iast (dGet dX9_push (j := 16) rfl) eh8 ?_
        refine r_aload_n (dGet dX9_push (j := 17) rfl) nv0 rfl ?_
        refine r_dup (dGet dX9_push (j := 18) rfl) rfl ?_
        obtain ⟨t9, et9, hf⟩ := Option.bind_eq_some_iff.mp hf
        refine r_getI (dGet dX9_push (j := 19) rfl) F9_98 et9 ?_
        refine r_iconst (dGet dX9_push (j := 20) rfl) kI_1 ?_
        refine r_iadd (dGet dX9_push (j := 21) rfl) ?_
        obtain ⟨h10, eh10, hf⟩ := Option.bind_eq_some_iff.mp hf
        refine r_putI (dGet dX9_push (j := 22) rfl) F9_98 rfl rfl eh10 ?_
        refine r_aload_n (dGet dX9_push (j := 23) rfl) nv0 rfl ?_
        refine r_aload_n (dGet dX9_push (j := 24) rfl) nv0 rfl ?_
        obtain ⟨t11, et11, hf⟩ := Option.bind_eq_some_iff.mp hf
        refine r_getI (dGet dX9_push (j := 25) rfl) F9_86 et11 ?_
        refine r_aload_n (dGet dX9_push (j := 26) rfl) nv0 rfl ?_
        obtain ⟨t12, et12, hf⟩ := Option.bind_eq_some_iff.mp hf
        refine r_getI (dGet dX9_push (j := 27) rfl) F9_98 et12 ?_
        refine r_max (dGet dX9_push (j := 28) rfl) (by decide +kernel) (by decide +kernel : pFind pMx 9 138 = some (0, 5071)) (Nat.le_of_ble_eq_true rfl) ?_
        obtain ⟨h13, eh13, hf⟩ := Option.bind_eq_some_iff.mp hf
        refine r_putI (dGet dX9_push (j := 29) rfl) F9_86 rfl rfl eh13 ?_
        refine r_iconst (dGet dX9_push (j := 30) rfl) kI_1 ?_
        cases hf
        exact r_iret (dGet dX9_push (j := 31) rfl) rfl (by decide)
      · rw [if_neg c5] at hf
        refine r_icmp_lt_f (dGet dX9_push (j := 8) rfl) rfl c5 ?_
        refine r_iconst (dGet dX9_push (j := 9) rfl) kI_0 ?_
        cases hf
        exact r_iret (dGet dX9_push (j := 10) rfl) rfl (by decide)
  · rw [if_neg hc] at hf; cases hf
def eX9_isCallFine : List (Nat × Instr × Nat) := [(0, .aload_n 0, 1), (1, .getfield 17, 3), (4, .getfield 214, 3), (7, .iload_n 1, 1), (8, .iaload, 1), (9, .istore_n 2, 1), (10, .aload_n 0, 1), (11, .getfield 98, 3), (14, .iload_n 2, 1), (15, .isub, 1), (16, .istore_n 3, 1), (17, .iload_n 2, 1), (18, .ifCond .lt 8, 3), (21, .iload_n 3, 1), (22, .iconst 1, 1), (23, .if_icmp .ge 5, 3), (26, .iconst 0, 1), (27, .ireturn, 1), (28, .aload_n 0, 1), (29, .getfield 13, 3), (32, .aload_n 0, 1), (33, .getfield 30, 3), (36, .iload_n 3, 1), (37, .iconst 1, 1), (38, .isub, 1), (39, .iaload, 1), (40, .iconst 1, 1), (41, .aload_n 0, 1), (42, .getfield 17, 3), (45, .getfield 149, 3), (48, .iload_n 1, 1), (49, .iaload, 1), (50, .invokevirtual 163, 3), (53, .istore 4, 2), (55, .iload 4, 2), (57, .iconst (-1), 1), (58, .if_icmp .eq 17, 3), (61, .aload_n 0, 1), (62, .getfield 13, 3), (65, .getfield 104, 3), (68, .iload 4, 2), (70, .iaload, 1), (71, .iload_n 2, 1), (72, .if_icmp .eq 5, 3), (75, .iconst 0, 1), (76, .ireturn, 1), (77, .iconst 0, 1), (78, .istore 5, 2), (80, .iload 5, 2), (82, .iload_n 2, 1), (83, .if_icmp .ge 41, 3), (86, .aload_n 0, 1), (87, .getfield 7, 3), (90, .aload_n 0, 1), (91, .getfield 30, 3), (94, .iload_n 3, 1), (95, .iload 5, 2), (97, .iadd, 1), (98, .iaload, 1), (99, .aload_n 0, 1), (100, .getfield 13, 3), (103, .iload 4, 2), (105, .iload 5, 2), (107, .invokevirtual 111, 3), (110, .invokevirtual 195, 3), (113, .ifCond .ne 5, 3), (116, .iconst 0, 1), (117, .ireturn, 1), (118, .iinc 5 1, 3), (121, .goto (-41), 3), (124, .aload_n 0, 1), (125, .iload_n 3, 1), (126, .iconst 1, 1), (127, .isub, 1), (128, .putfield 98, 3), (131, .aload_n 0, 1), (132, .aload_n 0, 1), (133, .getfield 13, 3), (136, .getfield 92, 3), (139, .iload 4, 2), (141, .iaload, 1), (142, .invokevirtual 143, 3), (145, .ireturn, 1)]
theorem dX9_isCallFine : dChk (pCd 5135) eX9_isCallFine = true := by decide +kernel
def fX9_isCallFine_80 (N : Nat) : Nat → Nat → Int32 → Int32 → Int32 → Int32 → pH → Option (Int32 × pH)
  | 0, _, _, _, _, _, _ => none
  | n + 1, v0, v2, v3, v4, v5, h => if v2 ≤ v5 then (
  (putI h v0 9 5 (v3 - (1 : Int32))).bind fun h2 =>
  (getR h2 v0 9 1).bind fun t3 =>
  (getR h2 t3 6 3).bind fun t4 =>
  (ldI h2 t4 v4).bind fun t5 =>
  (fX9_push N v0 t5 h2).bind fun q6 =>
  if pRet .boolean q6.1 = true then some (q6.1, q6.2) else none) else (
  (getR h v0 9 0).bind fun t8 =>
  (getR h v0 9 4).bind fun t9 =>
  (ldI h t9 (v3 + v5)).bind fun t10 =>
  (getR h v0 9 1).bind fun t11 =>
  (fX6_parameterTypeOf N t11 v4 v5 h).bind fun q12 =>
  (fX1_isSub N t8 t10 q12.1 q12.2).bind fun q13 =>
  if q13.1 = 0 then (
  some ((0 : Int32), q13.2)) else (
  fX9_isCallFine_80 N n v0 v2 v3 v4 (v5 + (1 : Int32)) q13.2))
theorem lX9_isCallFine_80 (X : pX) (N d : Nat)  : ∀ (n : Nat) (v0 : Nat) (v2 : Int32) (v3 : Int32) (v4 : Int32) (v5 : Int32) (h : pH) (q : Int32 × pH), fX9_isCallFine_80 N n v0 v2 v3 v4 v5 h = some q → ¬ v0 = 4 → Run X (d + 2) 9 false (pCd 5135) 6 (some .boolean) 80 [(0, .ref v0), (2, .int v2), (3, .int v3), (4, .int v4), (5, .int v5)] [] h 0 0 (some (.int q.1), q.2, 0, 0) := by
  intro n
  induction n with
  | zero => intro v0 v2 v3 v4 v5 h q hf; cases hf
  | succ n ih =>
    intro v0 v2 v3 v4 v5 h q hf nv0
    unfold fX9_isCallFine_80 at hf
    refine r_iload (dGet dX9_isCallFine (j := 48) rfl) rfl ?_
    refine r_iload_n (dGet dX9_isCallFine (j := 49) rfl) rfl ?_
    by_cases c1 : v2 ≤ v5
    · rw [if_pos c1] at hf
      refine r_icmp_ge_t (dGet dX9_isCallFine (j := 50) rfl) rfl c1 ?_
      refine r_aload_n (dGet dX9_isCallFine (j := 70) rfl) nv0 rfl ?_
      refine r_iload_n (dGet dX9_isCallFine (j := 71) rfl) rfl ?_
      refine r_iconst (dGet dX9_isCallFine (j := 72) rfl) kI_1 ?_
      refine r_isub (dGet dX9_isCallFine (j := 73) rfl) ?_
      obtain ⟨h2, eh2, hf⟩ := Option.bind_eq_some_iff.mp hf
      refine r_putI (dGet dX9_isCallFine (j := 74) rfl) F9_98 rfl rfl eh2 ?_
      refine r_aload_n (dGet dX9_isCallFine (j := 75) rfl) nv0 rfl ?_
      refine r_aload_n (dGet dX9_isCallFine (j := 76) rfl) nv0 rfl ?_
      obtain ⟨t3, et3, hf⟩ := Option.bind_eq_some_iff.mp hf
      refine r_getR (dGet dX9_isCallFine (j := 77) rfl) F9_13 et3 ?_
      obtain ⟨t4, et4, hf⟩ := Option.bind_eq_some_iff.mp hf
      refine r_getR (dGet dX9_isCallFine (j := 78) rfl) F9_92 et4 ?_
      refine r_iload (dGet dX9_isCallFine (j := 79) rfl) rfl ?_
      obtain ⟨t5, et5, hf⟩ := Option.bind_eq_some_iff.mp hf
      refine r_iald (dGet dX9_isCallFine (j := 80) rfl) et5 ?_
      obtain ⟨q6, eq6, hf⟩ := Option.bind_eq_some_iff.mp hf
      refine r_virtual (dGet dX9_isCallFine (j := 81) rfl) L9_143 M133 rfl rfl (Nat.le_of_ble_eq_true rfl) (oX9_push eq6) (cX9_push X N (d + 0) v0 t5 h2 q6 eq6) ?_
      by_cases c7 : pRet .boolean q6.1 = true
      · rw [if_pos c7] at hf
        cases hf
        exact r_iret (dGet dX9_isCallFine (j := 82) rfl) rfl c7
      · rw [if_neg c7] at hf; cases hf
    · rw [if_neg c1] at hf
      refine r_icmp_ge_f (dGet dX9_isCallFine (j := 50) rfl) rfl c1 ?_
      refine r_aload_n (dGet dX9_isCallFine (j := 51) rfl) nv0 rfl ?_
      obtain ⟨t8, et8, hf⟩ := Option.bind_eq_some_iff.mp hf
      refine r_getR (dGet dX9_isCallFine (j := 52) rfl) F9_7 et8 ?_
      refine r_aload_n (dGet dX9_isCallFine (j := 53) rfl) nv0 rfl ?_
      obtain ⟨t9, et9, hf⟩ := Option.bind_eq_some_iff.mp hf
      refine r_getR (dGet dX9_isCallFine (j := 54) rfl) F9_30 et9 ?_
      refine r_iload_n (dGet dX9_isCallFine (j := 55) rfl) rfl ?_
      refine r_iload (dGet dX9_isCallFine (j := 56) rfl) rfl ?_
      refine r_iadd (dGet dX9_isCallFine (j := 57) rfl) ?_
      obtain ⟨t10, et10, hf⟩ := Option.bind_eq_some_iff.mp hf
      refine r_iald (dGet dX9_isCallFine (j := 58) rfl) et10 ?_
      refine r_aload_n (dGet dX9_isCallFine (j := 59) rfl) nv0 rfl ?_
      obtain ⟨t11, et11, hf⟩ := Option.bind_eq_some_iff.mp hf
      refine r_getR (dGet dX9_isCallFine (j := 60) rfl) F9_13 et11 ?_
      refine r_iload (dGet dX9_isCallFine (j := 61) rfl) rfl ?_
      refine r_iload (dGet dX9_isCallFine (j := 62) rfl) rfl ?_
      obtain ⟨q12, eq12, hf⟩ := Option.bind_eq_some_iff.mp hf
      refine r_virtual (dGet dX9_isCallFine (j := 63) rfl) L9_111 M115 rfl rfl (Nat.le_of_ble_eq_true rfl) (oX6_parameterTypeOf eq12) (cX6_parameterTypeOf X N (d + 1) t11 v4 v5 h q12 eq12) ?_
      obtain ⟨q13, eq13, hf⟩ := Option.bind_eq_some_iff.mp hf
      refine r_virtual (dGet dX9_isCallFine (j := 64) rfl) L9_195 M146 rfl rfl (Nat.le_of_ble_eq_true rfl) (oX1_isSub eq13) (cX1_isSub X N (d + 0) t8 t10 q12.1 q12.2 q13 eq13) ?_
      by_cases c14 : q13.1 = 0
      · rw [if_pos c14] at hf
        refine r_if_ne_f (dGet dX9_isCallFine (j := 65) rfl) rfl c14 ?_
        refine r_iconst (dGet dX9_isCallFine (j := 66) rfl) kI_0 ?_
        cases hf
        exact r_iret (dGet dX9_isCallFine (j := 67) rfl) rfl (by decide)
      · rw [if_neg c14] at hf
        refine r_if_ne_t (dGet dX9_isCallFine (j := 65) rfl) rfl c14 ?_
        refine r_iinc (lv' := [(5, .int (v5 + (1 : Int32))), (0, .ref v0), (2, .int v2), (3, .int v3), (4, .int v4)]) (dGet dX9_isCallFine (j := 68) rfl) rfl (by decide) kI_1 rfl ?_
        refine r_goto (dGet dX9_isCallFine (j := 69) rfl) rfl ?_
        refine Run.weak [(0, .ref v0), (2, .int v2), (3, .int v3), (4, .int v4), (5, .int (v5 + (1 : Int32)))] (by simp) (by simp [pNd]) ?_
        exact ih v0 v2 v3 v4 (v5 + (1 : Int32)) q13.2 q hf nv0
def fX9_isCallFine (N : Nat) (v0 : Nat) (v1 : Int32) (h : pH) : Option (Int32 × pH) := if isO h v0 9 = true then (
  (getR h v0 9 2).bind fun t15 =>
  (getR h t15 2 2).bind fun t16 =>
  (ldI h t16 v1).bind fun t17 =>
  (getI h v0 9 5).bind fun t18 =>
  if t17 < 0 then (
  some ((0 : Int32), h)) else (
  if (1 : Int32) ≤ (t18 - t17) then (
  (getR h v0 9 1).bind fun t21 =>
  (getR h v0 9 4).bind fun t22 =>
  (ldI h t22 ((t18 - t17) - (1 : Int32))).bind fun t23 =>
  (getR h v0 9 2).bind fun t24 =>
  (getR h t24 2 1).bind fun t25 =>
  (ldI h t25 v1).bind fun t26 =>
  (fX6_had N t21 t23 (1 : Int32) t26 h).bind fun q27 =>
  if q27.1 = (-1 : Int32) then (
  some ((0 : Int32), q27.2)) else (
  (getR q27.2 v0 9 1).bind fun t29 =>
  (getR q27.2 t29 6 7).bind fun t30 =>
  (ldI q27.2 t30 q27.1).bind fun t31 =>
  if t31 = t17 then (
  fX9_isCallFine_80 N N v0 t17 (t18 - t17) q27.1 (0 : Int32) q27.2) else (
  some ((0 : Int32), q27.2)))) else (
  some ((0 : Int32), h)))) else none
theorem oX9_isCallFine {N : Nat} {v0 : Nat} {v1 : Int32} {h : pH} {q : Int32 × pH} (hf : fX9_isCallFine N v0 v1 h = some q) : isO h v0 9 = true := by
  unfold fX9_isCallFine at hf
  by_cases hc : isO h v0 9 = true
  · exact hc
  · rw [if_neg hc] at hf; cases hf
theorem cX9_isCallFine (X : pX) (N d : Nat) (v0 : Nat) (v1 : Int32) (h : pH) (q : Int32 × pH) (hf : fX9_isCallFine N v0 v1 h = some q) : Calls X (d + 2) 149 [.ref v0, .int v1] h (some (.int q.1), q.2, 0, 0) := by
  refine Calls.of M149 (Nat.le_of_ble_eq_true rfl) ?_
  show Run X (d + 2) 9 false (pCd 5135) 6 (some .boolean) 0 [(0, .ref v0), (1, .int v1)] [] h 0 0 (some (.int q.1), q.2, 0, 0)
  unfold fX9_isCallFine at hf
  by_cases hc : isO h v0 9 = true
  · rw [if_pos hc] at hf
    have nv0 : ¬ v0 = 4 := isO_ne hc
    refine r_aload_n (dGet dX9_isCallFine (j := 0) rfl) nv0 rfl ?_
    obtain ⟨t15, et15, hf⟩ := Option.bind_eq_some_iff.mp hf
    refine r_getR (dGet dX9_isCallFine (j := 1) rfl) F9_17 et15 ?_
    obtain ⟨t16, et16, hf⟩ := Option.bind_eq_some_iff.mp hf
    refine r_getR (dGet dX9_isCallFine (j := 2) rfl) F9_214 et16 ?_
    refine r_iload_n (dGet dX9_isCallFine (j := 3) rfl) rfl ?_
    obtain ⟨t17, et17, hf⟩ := Option.bind_eq_some_iff.mp hf
    refine r_iald (dGet dX9_isCallFine (j := 4) rfl) et17 ?_
    refine r_istore_n (lv' := [(2, .int t17), (0, .ref v0), (1, .int v1)]) (dGet dX9_isCallFine (j := 5) rfl) (by decide) rfl ?_
    refine r_aload_n (dGet dX9_isCallFine (j := 6) rfl) nv0 rfl ?_
    obtain ⟨t18, et18, hf⟩ := Option.bind_eq_some_iff.mp hf
    refine r_getI (dGet dX9_isCallFine (j := 7) rfl) F9_98 et18 ?_
    refine r_iload_n (dGet dX9_isCallFine (j := 8) rfl) rfl ?_
    refine r_isub (dGet dX9_isCallFine (j := 9) rfl) ?_
    refine r_istore_n (lv' := [(3, .int (t18 - t17)), (2, .int t17), (0, .ref v0), (1, .int v1)]) (dGet dX9_isCallFine (j := 10) rfl) (by decide) rfl ?_
    refine r_iload_n (dGet dX9_isCallFine (j := 11) rfl) rfl ?_
    by_cases c19 : t17 < 0
    · rw [if_pos c19] at hf
      refine r_if_lt_t (dGet dX9_isCallFine (j := 12) rfl) rfl c19 ?_
      refine r_iconst (dGet dX9_isCallFine (j := 16) rfl) kI_0 ?_
      cases hf
      exact r_iret (dGet dX9_isCallFine (j := 17) rfl) rfl (by decide)
    · rw [if_neg c19] at hf
      refine r_if_lt_f (dGet dX9_isCallFine (j := 12) rfl) rfl c19 ?_
      refine r_iload_n (dGet dX9_isCallFine (j := 13) rfl) rfl ?_
      refine r_iconst (dGet dX9_isCallFine (j := 14) rfl) kI_1 ?_
      by_cases c20 : (1 : Int32) ≤ (t18 - t17)
      · rw [if_pos c20] at hf
        refine r_icmp_ge_t (dGet dX9_isCallFine (j := 15) rfl) rfl c20 ?_
        refine r_aload_n (dGet dX9_isCallFine (j := 18) rfl) nv0 rfl ?_
        obtain ⟨t21, et21, hf⟩ := Option.bind_eq_some_iff.mp hf
        refine r_getR (dGet dX9_isCallFine (j := 19) rfl) F9_13 et21 ?_
        refine r_aload_n (dGet dX9_isCallFine (j := 20) rfl) nv0 rfl ?_
        obtain ⟨t22, et22, hf⟩ := Option.bind_eq_some_iff.mp hf
        refine r_getR (dGet dX9_isCallFine (j := 21) rfl) F9_30 et22 ?_
        refine r_iload_n (dGet dX9_isCallFine (j := 22) rfl) rfl ?_
        refine r_iconst (dGet dX9_isCallFine (j := 23) rfl) kI_1 ?_
        refine r_isub (dGet dX9_isCallFine (j := 24) rfl) ?_
        obtain ⟨t23, et23, hf⟩ := Option.bind_eq_some_iff.mp hf
        refine r_iald (dGet dX9_isCallFine (j := 25) rfl) et23 ?_
        refine r_iconst (dGet dX9_isCallFine (j := 26) rfl) kI_1 ?_
        refine r_aload_n (dGet dX9_isCallFine (j := 27) rfl) nv0 rfl ?_
        obtain ⟨t24, et24, hf⟩ := Option.bind_eq_some_iff.mp hf
        refine r_getR (dGet dX9_isCallFine (j := 28) rfl) F9_17 et24 ?_
        obtain ⟨t25, et25, hf⟩ := Option.bind_eq_some_iff.mp hf
        refine r_getR (dGet dX9_isCallFine (j := 29) rfl) F9_149 et25 ?_
        refine r_iload_n (dGet dX9_isCallFine (j := 30) rfl) rfl ?_
        obtain ⟨t26, et26, hf⟩ := Option.bind_eq_some_iff.mp hf
        refine r_iald (dGet dX9_isCallFine (j := 31) rfl) et26 ?_
        obtain ⟨q27, eq27, hf⟩ := Option.bind_eq_some_iff.mp hf
        refine r_virtual (dGet dX9_isCallFine (j := 32) rfl) L9_163 M118 rfl rfl (Nat.le_of_ble_eq_true rfl) (oX6_had eq27) (cX6_had X N (d + 0) t21 t23 (1 : Int32) t26 h q27 eq27) ?_
        refine r_istore (lv' := [(4, .int q27.1), (3, .int (t18 - t17)), (2, .int t17), (0, .ref v0), (1, .int v1)]) (dGet dX9_isCallFine (j := 33) rfl) (by decide) rfl ?_
        refine r_iload (dGet dX9_isCallFine (j := 34) rfl) rfl ?_
        refine r_iconst (dGet dX9_isCallFine (j := 35) rfl) kI_m1 ?_
        by_cases c28 : q27.1 = (-1 : Int32)
        · rw [if_pos c28] at hf
          refine r_icmp_eq_t (dGet dX9_isCallFine (j := 36) rfl) rfl c28 ?_
          refine r_iconst (dGet dX9_isCallFine (j := 44) rfl) kI_0 ?_
          cases hf
          exact r_iret (dGet dX9_isCallFine (j := 45) rfl) rfl (by decide)
        · rw [if_neg c28] at hf
          refine r_icmp_eq_f (dGet dX9_isCallFine (j := 36) rfl) rfl c28 ?_
          refine r_aload_n (dGet dX9_isCallFine (j := 37) rfl) nv0 rfl ?_
          obtain ⟨t29, et29, hf⟩ := Option.bind_eq_some_iff.mp hf
          refine r_getR (dGet dX9_isCallFine (j := 38) rfl) F9_13 et29 ?_
          obtain ⟨t30, et30, hf⟩ := Option.bind_eq_some_iff.mp hf
          refine r_getR (dGet dX9_isCallFine (j := 39) rfl) F9_104 et30 ?_
          refine r_iload (dGet dX9_isCallFine (j := 40) rfl) rfl ?_
          obtain ⟨t31, et31, hf⟩ := Option.bind_eq_some_iff.mp hf
          refine r_iald (dGet dX9_isCallFine (j := 41) rfl) et31 ?_
          refine r_iload_n (dGet dX9_isCallFine (j := 42) rfl) rfl ?_
          by_cases c32 : t31 = t17
          · rw [if_pos c32] at hf
            refine r_icmp_eq_t (dGet dX9_isCallFine (j := 43) rfl) rfl c32 ?_
            refine r_iconst (dGet dX9_isCallFine (j := 46) rfl) kI_0 ?_
            refine r_istore (lv' := [(5, .int (0 : Int32)), (4, .int q27.1), (3, .int (t18 - t17)), (2, .int t17), (0, .ref v0), (1, .int v1)]) (dGet dX9_isCallFine (j := 47) rfl) (by decide) rfl ?_
            refine Run.weak [(0, .ref v0), (2, .int t17), (3, .int (t18 - t17)), (4, .int q27.1), (5, .int (0 : Int32))] (by simp) (by simp [pNd]) ?_
            exact lX9_isCallFine_80 X N d N v0 t17 (t18 - t17) q27.1 (0 : Int32) q27.2 q hf nv0
          · rw [if_neg c32] at hf
            refine r_icmp_eq_f (dGet dX9_isCallFine (j := 43) rfl) rfl c32 ?_
            refine r_iconst (dGet dX9_isCallFine (j := 44) rfl) kI_0 ?_
            cases hf
            exact r_iret (dGet dX9_isCallFine (j := 45) rfl) rfl (by decide)
      · rw [if_neg c20] at hf
        refine r_icmp_ge_f (dGet dX9_isCallFine (j := 15) rfl) rfl c20 ?_
        refine r_iconst (dGet dX9_isCallFine (j := 16) rfl) kI_0 ?_
        cases hf
        exact r_iret (dGet dX9_isCallFine (j := 17) rfl) rfl (by decide)
  · rw [if_neg hc] at hf; cases hf
def eX9_isGivenNameFine : List (Nat × Instr × Nat) := [(0, .aload_n 0, 1), (1, .getfield 24, 3), (4, .aload_n 0, 1), (5, .getfield 17, 3), (8, .getfield 149, 3), (11, .iload_n 1, 1), (12, .iaload, 1), (13, .invokevirtual 152, 3), (16, .istore_n 3, 1), (17, .iload_n 3, 1), (18, .iconst (-1), 1), (19, .if_icmp .ne 20, 3), (22, .aload_n 0, 1), (23, .iload_n 2, 1), (24, .aload_n 0, 1), (25, .iload_n 1, 1), (26, .aload_n 0, 1), (27, .getfield 89, 3), (30, .bipush 33, 2), (32, .invokevirtual 155, 3), (35, .invokevirtual 204, 3), (38, .ireturn, 1), (39, .aload_n 0, 1), (40, .getfield 17, 3), (43, .getfield 67, 3), (46, .iload_n 1, 1), (47, .bipush 32, 2), (49, .iastore, 1), (50, .aload_n 0, 1), (51, .getfield 17, 3), (54, .getfield 149, 3), (57, .iload_n 1, 1), (58, .iload_n 3, 1), (59, .iastore, 1), (60, .aload_n 0, 1), (61, .getfield 24, 3), (64, .iload_n 3, 1), (65, .invokevirtual 217, 3), (68, .aload_n 0, 1), (69, .getfield 7, 3), (72, .iload_n 2, 1), (73, .aload_n 0, 1), (74, .getfield 24, 3), (77, .getfield 162, 3), (80, .iload_n 3, 1), (81, .iaload, 1), (82, .invokevirtual 195, 3), (85, .ireturn, 1)]
theorem dX9_isGivenNameFine : dChk (pCd 5139) eX9_isGivenNameFine = true := by decide +kernel
def fX9_isGivenNameFine (N : Nat) (v0 : Nat) (v1 : Int32) (v2 : Int32) (h : pH) : Option (Int32 × pH) := if isO h v0 9 = true then (
  (getR h v0 9 3).bind fun t1 =>
  (getR h v0 9 2).bind fun t2 =>
  (getR h t2 2 1).bind fun t3 =>
  (ldI h t3 v1).bind fun t4 =>
  (fX8_find N t1 t4 h).bind fun q5 =>
  if q5.1 = (-1 : Int32) then (
  (getI q5.2 v0 9 7).bind fun t21 =>
  (fX9_fieldType N v0 v1 t21 (33 : Int32) q5.2).bind fun q22 =>
  (fX9_fits N v0 v2 q22.1 q22.2).bind fun q23 =>
  if pRet .boolean q23.1 = true then some (q23.1, q23.2) else none) else (
  (getR q5.2 v0 9 2).bind fun t7 =>
  (getR q5.2 t7 2 0).bind fun t8 =>
  (stI q5.2 t8 v1 (32 : Int32)).bind fun h9 =>
  (getR h9 v0 9 2).bind fun t10 =>
  (getR h9 t10 2 1).bind fun t11 =>
  (stI h9 t11 v1 q5.1).bind fun h12 =>
  (getR h12 v0 9 3).bind fun t13 =>
  (fX8_give N t13 q5.1 h12).bind fun h14 =>
  (getR h14 v0 9 0).bind fun t15 =>
  (getR h14 v0 9 3).bind fun t16 =>
  (getR h14 t16 8 1).bind fun t17 =>
  (ldI h14 t17 q5.1).bind fun t18 =>
  (fX1_isSub N t15 v2 t18 h14).bind fun q19 =>
  if pRet .boolean q19.1 = true then some (q19.1, q19.2) else none)) else none
theorem oX9_isGivenNameFine {N : Nat} {v0 : Nat} {v1 : Int32} {v2 : Int32} {h : pH} {q : Int32 × pH} (hf : fX9_isGivenNameFine N v0 v1 v2 h = some q) : isO h v0 9 = true := by
  unfold fX9_isGivenNameFine at hf
  by_cases hc : isO h v0 9 = true
  · exact hc
  · rw [if_neg hc] at hf; cases hf
theorem cX9_isGivenNameFine (X : pX) (N d : Nat) (v0 : Nat) (v1 : Int32) (v2 : Int32) (h : pH) (q : Int32 × pH) (hf : fX9_isGivenNameFine N v0 v1 v2 h = some q) : Calls X (d + 3) 150 [.ref v0, .int v1, .int v2] h (some (.int q.1), q.2, 0, 0) := by
  refine Calls.of M150 (Nat.le_of_ble_eq_true rfl) ?_
  show Run X (d + 3) 9 false (pCd 5139) 4 (some .boolean) 0 [(0, .ref v0), (1, .int v1), (2, .int v2)] [] h 0 0 (some (.int q.1), q.2, 0, 0)
  unfold fX9_isGivenNameFine at hf
  by_cases hc : isO h v0 9 = true
  · rw [if_pos hc] at hf
    have nv0 : ¬ v0 = 4 := isO_ne hc
    refine r_aload_n (dGet dX9_isGivenNameFine (j := 0) rfl) nv0 rfl ?_
    obtain ⟨t1, et1, hf⟩ := Option.bind_eq_some_iff.mp hf
    refine r_getR (dGet dX9_isGivenNameFine (j := 1) rfl) F9_24 et1 ?_
    refine r_aload_n (dGet dX9_isGivenNameFine (j := 2) rfl) nv0 rfl ?_
    obtain ⟨t2, et2, hf⟩ := Option.bind_eq_some_iff.mp hf
    refine r_getR (dGet dX9_isGivenNameFine (j := 3) rfl) F9_17 et2 ?_
    obtain ⟨t3, et3, hf⟩ := Option.bind_eq_some_iff.mp hf
    refine r_getR (dGet dX9_isGivenNameFine (j := 4) rfl) F9_149 et3 ?_
    refine r_iload_n (dGet dX9_isGivenNameFine (j := 5) rfl) rfl ?_
    obtain ⟨t4, et4, hf⟩ := Option.bind_eq_some_iff.mp hf
    refine r_iald (dGet dX9_isGivenNameFine (j := 6) rfl) et4 ?_
    obtain ⟨q5, eq5, hf⟩ := Option.bind_eq_some_iff.mp hf
    refine r_virtual (dGet dX9_isGivenNameFine (j := 7) rfl) L9_152 M135 rfl rfl (Nat.le_of_ble_eq_true rfl) (oX8_find eq5) (cX8_find X N (d + 2) t1 t4 h q5 eq5) ?_
    refine r_istore_n (lv' := [(3, .int q5.1), (0, .ref v0), (1, .int v1), (2, .int v2)]) (dGet dX9_isGivenNameFine (j := 8) rfl) (by decide) rfl ?_
    refine r_iload_n (dGet dX9_isGivenNameFine (j := 9) rfl) rfl ?_
    refine r_iconst (dGet dX9_isGivenNameFine (j := 10) rfl) kI_m1 ?_
    by_cases c6 : q5.1 = (-1 : Int32)
    · rw [if_pos c6] at hf
      refine r_icmp_ne_f (dGet dX9_isGivenNameFine (j := 11) rfl) rfl c6 ?_
      refine r_aload_n (dGet dX9_isGivenNameFine (j := 12) rfl) nv0 rfl ?_
      refine r_iload_n (dGet dX9_isGivenNameFine (j := 13) rfl) rfl ?_
      refine r_aload_n (dGet dX9_isGivenNameFine (j := 14) rfl) nv0 rfl ?_
      refine r_iload_n (dGet dX9_isGivenNameFine (j := 15) rfl) rfl ?_
      refine r_aload_n (dGet dX9_isGivenNameFine (j := 16) rfl) nv0 rfl ?_
      obtain ⟨t21, et21, hf⟩ := Option.bind_eq_some_iff.mp hf
      refine r_getI (dGet dX9_isGivenNameFine (j := 17) rfl) F9_89 et21 ?_
      refine r_bipush (dGet dX9_isGivenNameFine (j := 18) rfl) kB_33 ?_
      obtain ⟨q22, eq22, hf⟩ := Option.bind_eq_some_iff.mp hf
      refine r_virtual (dGet dX9_isGivenNameFine (j := 19) rfl) L9_155 M136 rfl rfl (Nat.le_of_ble_eq_true rfl) (oX9_fieldType eq22) (cX9_fieldType X N (d + 0) v0 v1 t21 (33 : Int32) q5.2 q22 eq22) ?_
      obtain ⟨q23, eq23, hf⟩ := Option.bind_eq_some_iff.mp hf
      refine r_virtual (dGet dX9_isGivenNameFine (j := 20) rfl) L9_204 M151 rfl rfl (Nat.le_of_ble_eq_true rfl) (oX9_fits eq23) (cX9_fits X N (d + 0) v0 v2 q22.1 q22.2 q23 eq23) ?_
      by_cases c24 : pRet .boolean q23.1 = true
      · rw [if_pos c24] at hf
        cases hf
        exact r_iret (dGet dX9_isGivenNameFine (j := 21) rfl) rfl c24
      · rw [if_neg c24] at hf; cases hf
    · rw [if_neg c6] at hf
      refine r_icmp_ne_t (dGet dX9_isGivenNameFine (j := 11) rfl) rfl c6 ?_
      refine r_aload_n (dGet dX9_isGivenNameFine (j := 22) rfl) nv0 rfl ?_
      obtain ⟨t7, et7, hf⟩ := Option.bind_eq_some_iff.mp hf
      refine r_getR (dGet dX9_isGivenNameFine (j := 23) rfl) F9_17 et7 ?_
      obtain ⟨t8, et8, hf⟩ := Option.bind_eq_some_iff.mp hf
      refine r_getR (dGet dX9_isGivenNameFine (j := 24) rfl) F9_67 et8 ?_
      refine r_iload_n (dGet dX9_isGivenNameFine (j := 25) rfl) rfl ?_
      refine r_bipush (dGet dX9_isGivenNameFine (j := 26) rfl) kB_32 ?_
      obtain ⟨h9, eh9, hf⟩ := Option.bind_eq_some_iff.mp hf
      refine r_iast (dGet dX9_isGivenNameFine (j := 27) rfl) eh9 ?_
      refine r_aload_n (dGet dX9_isGivenNameFine (j := 28) rfl) nv0 rfl ?_
      obtain ⟨t10, et10, hf⟩ := Option.bind_eq_some_iff.mp hf
      refine r_getR (dGet dX9_isGivenNameFine (j := 29) rfl) F9_17 et10 ?_
      obtain ⟨t11, et11, hf⟩ := Option.bind_eq_some_iff.mp hf
      refine r_getR (dGet dX9_isGivenNameFine (j := 30) rfl) F9_149 et11 ?_
      refine r_iload_n (dGet dX9_isGivenNameFine (j := 31) rfl) rfl ?_
      refine r_iload_n (dGet dX9_isGivenNameFine (j := 32) rfl) rfl ?_
      obtain ⟨h12, eh12, hf⟩ := Option.bind_eq_some_iff.mp hf
      refine r_iast (dGet dX9_isGivenNameFine (j := 33) rfl) eh12 ?_
      refine r_aload_n (dGet dX9_isGivenNameFine (j := 34) rfl) nv0 rfl ?_
      obtain ⟨t13, et13, hf⟩ := Option.bind_eq_some_iff.mp hf
      refine r_getR (dGet dX9_isGivenNameFine (j := 35) rfl) F9_24 et13 ?_
      refine r_iload_n (dGet dX9_isGivenNameFine (j := 36) rfl) rfl ?_
      obtain ⟨h14, eh14, hf⟩ := Option.bind_eq_some_iff.mp hf
      refine r_virtual (dGet dX9_isGivenNameFine (j := 37) rfl) L9_217 M129 rfl rfl (Nat.le_of_ble_eq_true rfl) (oX8_give eh14) (cX8_give X N (d + 2) t13 q5.1 h12 h14 eh14) ?_
      refine r_aload_n (dGet dX9_isGivenNameFine (j := 38) rfl) nv0 rfl ?_
      obtain ⟨t15, et15, hf⟩ := Option.bind_eq_some_iff.mp hf
      refine r_getR (dGet dX9_isGivenNameFine (j := 39) rfl) F9_7 et15 ?_
      refine r_iload_n (dGet dX9_isGivenNameFine (j := 40) rfl) rfl ?_
      refine r_aload_n (dGet dX9_isGivenNameFine (j := 41) rfl) nv0 rfl ?_
      obtain ⟨t16, et16, hf⟩ := Option.bind_eq_some_iff.mp hf
      refine r_getR (dGet dX9_isGivenNameFine (j := 42) rfl) F9_24 et16 ?_
      obtain ⟨t17, et17, hf⟩ := Option.bind_eq_some_iff.mp hf
      refine r_getR (dGet dX9_isGivenNameFine (j := 43) rfl) F9_162 et17 ?_
      refine r_iload_n (dGet dX9_isGivenNameFine (j := 44) rfl) rfl ?_
      obtain ⟨t18, et18, hf⟩ := Option.bind_eq_some_iff.mp hf
      refine r_iald (dGet dX9_isGivenNameFine (j := 45) rfl) et18 ?_
      obtain ⟨q19, eq19, hf⟩ := Option.bind_eq_some_iff.mp hf
      refine r_virtual (dGet dX9_isGivenNameFine (j := 46) rfl) L9_195 M146 rfl rfl (Nat.le_of_ble_eq_true rfl) (oX1_isSub eq19) (cX1_isSub X N (d + 1) t15 v2 t18 h14 q19 eq19) ?_
      by_cases c20 : pRet .boolean q19.1 = true
      · rw [if_pos c20] at hf
        cases hf
        exact r_iret (dGet dX9_isGivenNameFine (j := 47) rfl) rfl c20
      · rw [if_neg c20] at hf; cases hf
  · rw [if_neg hc] at hf; cases hf
def eX9_pop : List (Nat × Instr × Nat) := [(0, .aload_n 0, 1), (1, .getfield 98, 3), (4, .ifCond .ne 6, 3), (7, .bipush (-6), 2), (9, .ireturn, 1), (10, .aload_n 0, 1), (11, .dup, 1), (12, .getfield 98, 3), (15, .iconst 1, 1), (16, .isub, 1), (17, .putfield 98, 3), (20, .aload_n 0, 1), (21, .getfield 30, 3), (24, .aload_n 0, 1), (25, .getfield 98, 3), (28, .iaload, 1), (29, .ireturn, 1)]
theorem dX9_pop : dChk (pCd 5100) eX9_pop = true := by decide +kernel
def fX9_pop (N : Nat) (v0 : Nat) (h : pH) : Option (Int32 × pH) := if isO h v0 9 = true then (
  (getI h v0 9 5).bind fun t1 =>
  if t1 = 0 then (
  some ((-6 : Int32), h)) else (
  (getI h v0 9 5).bind fun t3 =>
  (putI h v0 9 5 (t3 - (1 : Int32))).bind fun h4 =>
  (getR h4 v0 9 4).bind fun t5 =>
  (getI h4 v0 9 5).bind fun t6 =>
  (ldI h4 t5 t6).bind fun t7 =>
  some (t7, h4))) else none
theorem oX9_pop {N : Nat} {v0 : Nat} {h : pH} {q : Int32 × pH} (hf : fX9_pop N v0 h = some q) : isO h v0 9 = true := by
  unfold fX9_pop at hf
  by_cases hc : isO h v0 9 = true
  · exact hc
  · rw [if_neg hc] at hf; cases hf
theorem cX9_pop (X : pX) (N d : Nat) (v0 : Nat) (h : pH) (q : Int32 × pH) (hf : fX9_pop N v0 h = some q) : Calls X (d + 0) 140 [.ref v0] h (some (.int q.1), q.2, 0, 0) := by
  refine Calls.of M140 (Nat.le_of_ble_eq_true rfl) ?_
  show Run X (d + 0) 9 false (pCd 5100) 1 (some .int) 0 [(0, .ref v0)] [] h 0 0 (some (.int q.1), q.2, 0, 0)
  unfold fX9_pop at hf
  by_cases hc : isO h v0 9 = true
  · rw [if_pos hc] at hf
    have nv0 : ¬ v0 = 4 := isO_ne hc
    refine r_aload_n (dGet dX9_pop (j := 0) rfl) nv0 rfl ?_
    obtain ⟨t1, et1, hf⟩ := Option.bind_eq_some_iff.mp hf
    refine r_getI (dGet dX9_pop (j := 1) rfl) F9_98 et1 ?_
    by_cases c2 : t1 = 0
    · rw [if_pos c2] at hf
      refine r_if_ne_f (dGet dX9_pop (j := 2) rfl) rfl c2 ?_
      refine r_bipush (dGet dX9_pop (j := 3) rfl) kB_m6 ?_
      cases hf
      exact r_iret (dGet dX9_pop (j := 4) rfl) rfl rfl
    · rw [if_neg c2] at hf
      refine r_if_ne_t (dGet dX9_pop (j := 2) rfl) rfl c2 ?_
      refine r_aload_n (dGet dX9_pop (j := 5) rfl) nv0 rfl ?_
      refine r_dup (dGet dX9_pop (j := 6) rfl) rfl ?_
      obtain ⟨t3, et3, hf⟩ := Option.bind_eq_some_iff.mp hf
      refine r_getI (dGet dX9_pop (j := 7) rfl) F9_98 et3 ?_
      refine r_iconst (dGet dX9_pop (j := 8) rfl) kI_1 ?_
      refine r_isub (dGet dX9_pop (j := 9) rfl) ?_
      obtain ⟨h4, eh4, hf⟩ := Option.bind_eq_some_iff.mp hf
      refine r_putI (dGet dX9_pop (j := 10) rfl) F9_98 rfl rfl eh4 ?_
      refine r_aload_n (dGet dX9_pop (j := 11) rfl) nv0 rfl ?_
      obtain ⟨t5, et5, hf⟩ := Option.bind_eq_some_iff.mp hf
      refine r_getR (dGet dX9_pop (j := 12) rfl) F9_30 et5 ?_
      refine r_aload_n (dGet dX9_pop (j := 13) rfl) nv0 rfl ?_
      obtain ⟨t6, et6, hf⟩ := Option.bind_eq_some_iff.mp hf
      refine r_getI (dGet dX9_pop (j := 14) rfl) F9_98 et6 ?_
      obtain ⟨t7, et7, hf⟩ := Option.bind_eq_some_iff.mp hf
      refine r_iald (dGet dX9_pop (j := 15) rfl) et7 ?_
      cases hf
      exact r_iret (dGet dX9_pop (j := 16) rfl) rfl rfl
  · rw [if_neg hc] at hf; cases hf
def eX9_variableType : List (Nat × Instr × Nat) := [(0, .aload_n 0, 1), (1, .getfield 17, 3), (4, .getfield 214, 3), (7, .iload_n 1, 1), (8, .iaload, 1), (9, .istore_n 2, 1), (10, .iload_n 2, 1), (11, .ifCond .lt 14, 3), (14, .aload_n 0, 1), (15, .getfield 7, 3), (18, .iload_n 2, 1), (19, .invokevirtual 185, 3), (22, .goto 4, 3), (25, .iload_n 2, 1), (26, .ireturn, 1)]
theorem dX9_variableType : dChk (pCd 5148) eX9_variableType = true := by decide +kernel
def fX9_variableType (N : Nat) (v0 : Nat) (v1 : Int32) (h : pH) : Option (Int32 × pH) := if isO h v0 9 = true then (
  (getR h v0 9 2).bind fun t1 =>
  (getR h t1 2 2).bind fun t2 =>
  (ldI h t2 v1).bind fun t3 =>
  if t3 < 0 then (
  some (t3, h)) else (
  (getR h v0 9 0).bind fun t5 =>
  (fX1_find N t5 t3 h).bind fun q6 =>
  some (q6.1, q6.2))) else none
theorem oX9_variableType {N : Nat} {v0 : Nat} {v1 : Int32} {h : pH} {q : Int32 × pH} (hf : fX9_variableType N v0 v1 h = some q) : isO h v0 9 = true := by
  unfold fX9_variableType at hf
  by_cases hc : isO h v0 9 = true
  · exact hc
  · rw [if_neg hc] at hf; cases hf
theorem cX9_variableType (X : pX) (N d : Nat) (v0 : Nat) (v1 : Int32) (h : pH) (q : Int32 × pH) (hf : fX9_variableType N v0 v1 h = some q) : Calls X (d + 1) 152 [.ref v0, .int v1] h (some (.int q.1), q.2, 0, 0) := by
  refine Calls.of M152 (Nat.le_of_ble_eq_true rfl) ?_
  show Run X (d + 1) 9 false (pCd 5148) 3 (some .int) 0 [(0, .ref v0), (1, .int v1)] [] h 0 0 (some (.int q.1), q.2, 0, 0)
  unfold fX9_variableType at hf
  by_cases hc : isO h v0 9 = true
  · rw [if_pos hc] at hf
    have nv0 : ¬ v0 = 4 := isO_ne hc
    refine r_aload_n (dGet dX9_variableType (j := 0) rfl) nv0 rfl ?_
    obtain ⟨t1, et1, hf⟩ := Option.bind_eq_some_iff.mp hf
    refine r_getR (dGet dX9_variableType (j := 1) rfl) F9_17 et1 ?_
    obtain ⟨t2, et2, hf⟩ := Option.bind_eq_some_iff.mp hf
    refine r_getR (dGet dX9_variableType (j := 2) rfl) F9_214 et2 ?_
    refine r_iload_n (dGet dX9_variableType (j := 3) rfl) rfl ?_
    obtain ⟨t3, et3, hf⟩ := Option.bind_eq_some_iff.mp hf
    refine r_iald (dGet dX9_variableType (j := 4) rfl) et3 ?_
    refine r_istore_n (lv' := [(2, .int t3), (0, .ref v0), (1, .int v1)]) (dGet dX9_variableType (j := 5) rfl) (by decide) rfl ?_
    refine r_iload_n (dGet dX9_variableType (j := 6) rfl) rfl ?_
    by_cases c4 : t3 < 0
    · rw [if_pos c4] at hf
      refine r_if_lt_t (dGet dX9_variableType (j := 7) rfl) rfl c4 ?_
      refine r_iload_n (dGet dX9_variableType (j := 13) rfl) rfl ?_
      cases hf
      exact r_iret (dGet dX9_variableType (j := 14) rfl) rfl rfl
    · rw [if_neg c4] at hf
      refine r_if_lt_f (dGet dX9_variableType (j := 7) rfl) rfl c4 ?_
      refine r_aload_n (dGet dX9_variableType (j := 8) rfl) nv0 rfl ?_
      obtain ⟨t5, et5, hf⟩ := Option.bind_eq_some_iff.mp hf
      refine r_getR (dGet dX9_variableType (j := 9) rfl) F9_7 et5 ?_
      refine r_iload_n (dGet dX9_variableType (j := 10) rfl) rfl ?_
      obtain ⟨q6, eq6, hf⟩ := Option.bind_eq_some_iff.mp hf
      refine r_virtual (dGet dX9_variableType (j := 11) rfl) L9_185 M107 rfl rfl (Nat.le_of_ble_eq_true rfl) (oX1_find eq6) (cX1_find X N (d + 0) t5 t3 h q6 eq6) ?_
      refine r_goto (dGet dX9_variableType (j := 12) rfl) rfl ?_
      cases hf
      exact r_iret (dGet dX9_variableType (j := 14) rfl) rfl rfl
  · rw [if_neg hc] at hf; cases hf
def eX9_tell : List (Nat × Instr × Nat) := [(0, .aload_n 0, 1), (1, .iload_n 1, 1), (2, .invokevirtual 207, 3), (5, .istore_n 3, 1), (6, .iload_n 3, 1), (7, .bipush (-6), 2), (9, .if_icmp .eq 23, 3), (12, .aload_n 0, 1), (13, .getfield 24, 3), (16, .aload_n 0, 1), (17, .getfield 17, 3), (20, .getfield 149, 3), (23, .iload_n 1, 1), (24, .iaload, 1), (25, .invokevirtual 152, 3), (28, .iconst (-1), 1), (29, .if_icmp .eq 5, 3), (32, .iconst 0, 1), (33, .ireturn, 1), (34, .aload_n 0, 1), (35, .getfield 17, 3), (38, .getfield 149, 3), (41, .iload_n 1, 1), (42, .aload_n 0, 1), (43, .getfield 24, 3), (46, .aload_n 0, 1), (47, .getfield 17, 3), (50, .getfield 149, 3), (53, .iload_n 1, 1), (54, .iaload, 1), (55, .iload_n 3, 1), (56, .iload_n 2, 1), (57, .invokevirtual 114, 3), (60, .iastore, 1), (61, .iconst 1, 1), (62, .ireturn, 1)]
theorem dX9_tell : dChk (pCd 5152) eX9_tell = true := by decide +kernel
def fX9_tell (N : Nat) (v0 : Nat) (v1 : Int32) (v2 : Int32) (h : pH) : Option (Int32 × pH) := if isO h v0 9 = true then (
  (fX9_variableType N v0 v1 h).bind fun q1 =>
  if q1.1 = (-6 : Int32) then (
  some ((0 : Int32), q1.2)) else (
  (getR q1.2 v0 9 3).bind fun t3 =>
  (getR q1.2 v0 9 2).bind fun t4 =>
  (getR q1.2 t4 2 1).bind fun t5 =>
  (ldI q1.2 t5 v1).bind fun t6 =>
  (fX8_find N t3 t6 q1.2).bind fun q7 =>
  if q7.1 = (-1 : Int32) then (
  (getR q7.2 v0 9 2).bind fun t9 =>
  (getR q7.2 t9 2 1).bind fun t10 =>
  (getR q7.2 v0 9 3).bind fun t11 =>
  (getR q7.2 v0 9 2).bind fun t12 =>
  (getR q7.2 t12 2 1).bind fun t13 =>
  (ldI q7.2 t13 v1).bind fun t14 =>
  (fX8_add N t11 t14 q1.1 v2 q7.2).bind fun q15 =>
  (stI q15.2 t10 v1 q15.1).bind fun h16 =>
  some ((1 : Int32), h16)) else (
  some ((0 : Int32), q7.2)))) else none
theorem oX9_tell {N : Nat} {v0 : Nat} {v1 : Int32} {v2 : Int32} {h : pH} {q : Int32 × pH} (hf : fX9_tell N v0 v1 v2 h = some q) : isO h v0 9 = true := by
  unfold fX9_tell at hf
  by_cases hc : isO h v0 9 = true
  · exact hc
  · rw [if_neg hc] at hf; cases hf
theorem cX9_tell (X : pX) (N d : Nat) (v0 : Nat) (v1 : Int32) (v2 : Int32) (h : pH) (q : Int32 × pH) (hf : fX9_tell N v0 v1 v2 h = some q) : Calls X (d + 2) 153 [.ref v0, .int v1, .int v2] h (some (.int q.1), q.2, 0, 0) := by
  refine Calls.of M153 (Nat.le_of_ble_eq_true rfl) ?_
  show Run X (d + 2) 9 false (pCd 5152) 4 (some .boolean) 0 [(0, .ref v0), (1, .int v1), (2, .int v2)] [] h 0 0 (some (.int q.1), q.2, 0, 0)
  unfold fX9_tell at hf
  by_cases hc : isO h v0 9 = true
  · rw [if_pos hc] at hf
    have nv0 : ¬ v0 = 4 := isO_ne hc
    refine r_aload_n (dGet dX9_tell (j := 0) rfl) nv0 rfl ?_
    refine r_iload_n (dGet dX9_tell (j := 1) rfl) rfl ?_
    obtain ⟨q1, eq1, hf⟩ := Option.bind_eq_some_iff.mp hf
    refine r_virtual (dGet dX9_tell (j := 2) rfl) L9_207 M152 rfl rfl (Nat.le_of_ble_eq_true rfl) (oX9_variableType eq1) (cX9_variableType X N (d + 0) v0 v1 h q1 eq1) ?_
    refine r_istore_n (lv' := [(3, .int q1.1), (0, .ref v0), (1, .int v1), (2, .int v2)]) (dGet dX9_tell (j := 3) rfl) (by decide) rfl ?_
    refine r_iload_n (dGet dX9_tell (j := 4) rfl) rfl ?_
    refine r_bipush (dGet dX9_tell (j := 5) rfl) kB_m6 ?_
    by_cases c2 : q1.1 = (-6 : Int32)
    · rw [if_pos c2] at hf
      refine r_icmp_eq_t (dGet dX9_tell (j := 6) rfl) rfl c2 ?_
      refine r_iconst (dGet dX9_tell (j := 17) rfl) kI_0 ?_
      cases hf
      exact r_iret (dGet dX9_tell (j := 18) rfl) rfl (by decide)
    · rw [if_neg c2] at hf
      refine r_icmp_eq_f (dGet dX9_tell (j := 6) rfl) rfl c2 ?_
      refine r_aload_n (dGet dX9_tell (j := 7) rfl) nv0 rfl ?_
      obtain ⟨t3, et3, hf⟩ := Option.bind_eq_some_iff.mp hf
      refine r_getR (dGet dX9_tell (j := 8) rfl) F9_24 et3 ?_
      refine r_aload_n (dGet dX9_tell (j := 9) rfl) nv0 rfl ?_
      obtain ⟨t4, et4, hf⟩ := Option.bind_eq_some_iff.mp hf
      refine r_getR (dGet dX9_tell (j := 10) rfl) F9_17 et4 ?_
      obtain ⟨t5, et5, hf⟩ := Option.bind_eq_some_iff.mp hf
      refine r_getR (dGet dX9_tell (j := 11) rfl) F9_149 et5 ?_
      refine r_iload_n (dGet dX9_tell (j := 12) rfl) rfl ?_
      obtain ⟨t6, et6, hf⟩ := Option.bind_eq_some_iff.mp hf
      refine r_iald (dGet dX9_tell (j := 13) rfl) et6 ?_
      obtain ⟨q7, eq7, hf⟩ := Option.bind_eq_some_iff.mp hf
      refine r_virtual (dGet dX9_tell (j := 14) rfl) L9_152 M135 rfl rfl (Nat.le_of_ble_eq_true rfl) (oX8_find eq7) (cX8_find X N (d + 1) t3 t6 q1.2 q7 eq7) ?_
      refine r_iconst (dGet dX9_tell (j := 15) rfl) kI_m1 ?_
      by_cases c8 : q7.1 = (-1 : Int32)
      · rw [if_pos c8] at hf
        refine r_icmp_eq_t (dGet dX9_tell (j := 16) rfl) rfl c8 ?_
        refine r_aload_n (dGet dX9_tell (j := 19) rfl) nv0 rfl ?_
        obtain ⟨t9, et9, hf⟩ := Option.bind_eq_some_iff.mp hf
        refine r_getR (dGet dX9_tell (j := 20) rfl) F9_17 et9 ?_
        obtain ⟨t10, et10, hf⟩ := Option.bind_eq_some_iff.mp hf
        refine r_getR (dGet dX9_tell (j := 21) rfl) F9_149 et10 ?_
        refine r_iload_n (dGet dX9_tell (j := 22) rfl) rfl ?_
        refine r_aload_n (dGet dX9_tell (j := 23) rfl) nv0 rfl ?_
        obtain ⟨t11, et11, hf⟩ := Option.bind_eq_some_iff.mp hf
        refine r_getR (dGet dX9_tell (j := 24) rfl) F9_24 et11 ?_
        refine r_aload_n (dGet dX9_tell (j := 25) rfl) nv0 rfl ?_
        obtain ⟨t12, et12, hf⟩ := Option.bind_eq_some_iff.mp hf
        refine r_getR (dGet dX9_tell (j := 26) rfl) F9_17 et12 ?_
        obtain ⟨t13, et13, hf⟩ := Option.bind_eq_some_iff.mp hf
        refine r_getR (dGet dX9_tell (j := 27) rfl) F9_149 et13 ?_
        refine r_iload_n (dGet dX9_tell (j := 28) rfl) rfl ?_
        obtain ⟨t14, et14, hf⟩ := Option.bind_eq_some_iff.mp hf
        refine r_iald (dGet dX9_tell (j := 29) rfl) et14 ?_
        refine r_iload_n (dGet dX9_tell (j := 30) rfl) rfl ?_
        refine r_iload_n (dGet dX9_tell (j := 31) rfl) rfl ?_
        obtain ⟨q15, eq15, hf⟩ := Option.bind_eq_some_iff.mp hf
        refine r_virtual (dGet dX9_tell (j := 32) rfl) L9_114 M128 rfl rfl (Nat.le_of_ble_eq_true rfl) (oX8_add eq15) (cX8_add X N (d + 0) t11 t14 q1.1 v2 q7.2 q15 eq15) ?_
        obtain ⟨h16, eh16, hf⟩ := Option.bind_eq_some_iff.mp hf
        refine r_iast (dGet dX9_tell (j := 33) rfl) eh16 ?_
        refine r_iconst (dGet dX9_tell (j := 34) rfl) kI_1 ?_
        cases hf
        exact r_iret (dGet dX9_tell (j := 35) rfl) rfl (by decide)
      · rw [if_neg c8] at hf
        refine r_icmp_eq_f (dGet dX9_tell (j := 16) rfl) rfl c8 ?_
        refine r_iconst (dGet dX9_tell (j := 17) rfl) kI_0 ?_
        cases hf
        exact r_iret (dGet dX9_tell (j := 18) rfl) rfl (by decide)
  · rw [if_neg hc] at hf; cases hf
def eX9_isGiftFine : List (Nat × Instr × Nat) := [(0, .iload_n 2, 1), (1, .bipush 30, 2), (3, .if_icmp .ne 9, 3), (6, .aload_n 0, 1), (7, .iload_n 1, 1), (8, .invokevirtual 198, 3), (11, .ireturn, 1), (12, .aload_n 0, 1), (13, .invokevirtual 173, 3), (16, .istore_n 3, 1), (17, .iload_n 2, 1), (18, .lookupswitch 86 #[(31, 34), (34, 41), (36, 58)], 34), (52, .aload_n 0, 1), (53, .iload_n 1, 1), (54, .iload_n 3, 1), (55, .invokevirtual 201, 3), (58, .ireturn, 1), (59, .aload_n 0, 1), (60, .iload_n 3, 1), (61, .aload_n 0, 1), (62, .iload_n 1, 1), (63, .aload_n 0, 1), (64, .invokevirtual 173, 3), (67, .bipush 35, 2), (69, .invokevirtual 155, 3), (72, .invokevirtual 204, 3), (75, .ireturn, 1), (76, .iload_n 3, 1), (77, .iconst (-1), 1), (78, .if_icmp .ne 24, 3), (81, .aload_n 0, 1), (82, .invokevirtual 173, 3), (85, .iconst (-1), 1), (86, .if_icmp .ne 16, 3), (89, .aload_n 0, 1), (90, .invokevirtual 173, 3), (93, .bipush (-3), 2), (95, .if_icmp .ne 7, 3), (98, .iconst 1, 1), (99, .goto 4, 3), (102, .iconst 0, 1), (103, .ireturn, 1), (104, .aload_n 0, 1), (105, .iload_n 3, 1), (106, .aload_n 0, 1), (107, .iload_n 1, 1), (108, .invokevirtual 207, 3), (111, .invokevirtual 204, 3), (114, .ifCond .eq 16, 3), (117, .aload_n 0, 1), (118, .iload_n 1, 1), (119, .iconst 1, 1), (120, .invokevirtual 210, 3), (123, .ifCond .eq 7, 3), (126, .iconst 1, 1), (127, .goto 4, 3), (130, .iconst 0, 1), (131, .ireturn, 1)]
theorem dX9_isGiftFine : dChk (pCd 5131) eX9_isGiftFine = true := by decide +kernel
def fX9_isGiftFine (N : Nat) (v0 : Nat) (v1 : Int32) (v2 : Int32) (h : pH) : Option (Int32 × pH) := if isO h v0 9 = true then (
  if v2 = (30 : Int32) then (
  (fX9_isCallFine N v0 v1 h).bind fun q22 =>
  if pRet .boolean q22.1 = true then some (q22.1, q22.2) else none) else (
  (fX9_pop N v0 h).bind fun q2 =>
  if v2 = 31 then (
  (fX9_isGivenNameFine N v0 v1 q2.1 q2.2).bind fun q6 =>
  if pRet .boolean q6.1 = true then some (q6.1, q6.2) else none) else
  if v2 = 34 then (
  (fX9_pop N v0 q2.2).bind fun q8 =>
  (fX9_fieldType N v0 v1 q8.1 (35 : Int32) q8.2).bind fun q9 =>
  (fX9_fits N v0 q2.1 q9.1 q9.2).bind fun q10 =>
  if pRet .boolean q10.1 = true then some (q10.1, q10.2) else none) else
  if v2 = 36 then (
  if q2.1 = (-1 : Int32) then (
  (fX9_pop N v0 q2.2).bind fun q13 =>
  if q13.1 = (-1 : Int32) then (
  (fX9_pop N v0 q13.2).bind fun q15 =>
  if q15.1 = (-3 : Int32) then (
  some ((1 : Int32), q15.2)) else (
  some ((0 : Int32), q15.2))) else (
  some ((0 : Int32), q13.2))) else (
  some ((0 : Int32), q2.2))) else
  (fX9_variableType N v0 v1 q2.2).bind fun q17 =>
  (fX9_fits N v0 q2.1 q17.1 q17.2).bind fun q18 =>
  if q18.1 = 0 then (
  some ((0 : Int32), q18.2)) else (
  (fX9_tell N v0 v1 (1 : Int32) q18.2).bind fun q20 =>
  if q20.1 = 0 then (
  some ((0 : Int32), q20.2)) else (
  some ((1 : Int32), q20.2))))) else none
theorem oX9_isGiftFine {N : Nat} {v0 : Nat} {v1 : Int32} {v2 : Int32} {h : pH} {q : Int32 × pH} (hf : fX9_isGiftFine N v0 v1 v2 h = some q) : isO h v0 9 = true := by
  unfold fX9_isGiftFine at hf
  by_cases hc : isO h v0 9 = true
  · exact hc
  · rw [if_neg hc] at hf; cases hf
theorem cX9_isGiftFine (X : pX) (N d : Nat) (v0 : Nat) (v1 : Int32) (v2 : Int32) (h : pH) (q : Int32 × pH) (hf : fX9_isGiftFine N v0 v1 v2 h = some q) : Calls X (d + 4) 148 [.ref v0, .int v1, .int v2] h (some (.int q.1), q.2, 0, 0) := by
  refine Calls.of M148 (Nat.le_of_ble_eq_true rfl) ?_
  show Run X (d + 4) 9 false (pCd 5131) 4 (some .boolean) 0 [(0, .ref v0), (1, .int v1), (2, .int v2)] [] h 0 0 (some (.int q.1), q.2, 0, 0)
  unfold fX9_isGiftFine at hf
  by_cases hc : isO h v0 9 = true
  · rw [if_pos hc] at hf
    have nv0 : ¬ v0 = 4 := isO_ne hc
    refine r_iload_n (dGet dX9_isGiftFine (j := 0) rfl) rfl ?_
    refine r_bipush (dGet dX9_isGiftFine (j := 1) rfl) kB_30 ?_
    by_cases c1 : v2 = (30 : Int32)
    · rw [if_pos c1] at hf
      refine r_icmp_ne_f (dGet dX9_isGiftFine (j := 2) rfl) rfl c1 ?_
      refine r_aload_n (dGet dX9_isGiftFine (j := 3) rfl) nv0 rfl ?_
      refine r_iload_n (dGet dX9_isGiftFine (j := 4) rfl) rfl ?_
      obtain ⟨q22, eq22, hf⟩ := Option.bind_eq_some_iff.mp hf
      refine r_virtual (dGet dX9_isGiftFine (j := 5) rfl) L9_198 M149 rfl rfl (Nat.le_of_ble_eq_true rfl) (oX9_isCallFine eq22) (cX9_isCallFine X N (d + 1) v0 v1 h q22 eq22) ?_
      by_cases c23 : pRet .boolean q22.1 = true
      · rw [if_pos c23] at hf
        cases hf
        exact r_iret (dGet dX9_isGiftFine (j := 6) rfl) rfl c23
      · rw [if_neg c23] at hf; cases hf
    · rw [if_neg c1] at hf
      refine r_icmp_ne_t (dGet dX9_isGiftFine (j := 2) rfl) rfl c1 ?_
      refine r_aload_n (dGet dX9_isGiftFine (j := 7) rfl) nv0 rfl ?_
      obtain ⟨q2, eq2, hf⟩ := Option.bind_eq_some_iff.mp hf
      refine r_virtual (dGet dX9_isGiftFine (j := 8) rfl) L9_173 M140 rfl rfl (Nat.le_of_ble_eq_true rfl) (oX9_pop eq2) (cX9_pop X N (d + 3) v0 h q2 eq2) ?_
      refine r_istore_n (lv' := [(3, .int q2.1), (0, .ref v0), (1, .int v1), (2, .int v2)]) (dGet dX9_isGiftFine (j := 9) rfl) (by decide) rfl ?_
      refine r_iload_n (dGet dX9_isGiftFine (j := 10) rfl) rfl ?_
      by_cases c3 : v2 = 31
      · rw [if_pos c3] at hf
        refine r_lookup (off := 34) (dGet dX9_isGiftFine (j := 11) rfl) (by rw [c3]; decide) rfl ?_
        refine r_aload_n (dGet dX9_isGiftFine (j := 12) rfl) nv0 rfl ?_
        refine r_iload_n (dGet dX9_isGiftFine (j := 13) rfl) rfl ?_
        refine r_iload_n (dGet dX9_isGiftFine (j := 14) rfl) rfl ?_
        obtain ⟨q6, eq6, hf⟩ := Option.bind_eq_some_iff.mp hf
        refine r_virtual (dGet dX9_isGiftFine (j := 15) rfl) L9_201 M150 rfl rfl (Nat.le_of_ble_eq_true rfl) (oX9_isGivenNameFine eq6) (cX9_isGivenNameFine X N (d + 0) v0 v1 q2.1 q2.2 q6 eq6) ?_
        by_cases c7 : pRet .boolean q6.1 = true
        · rw [if_pos c7] at hf
          cases hf
          exact r_iret (dGet dX9_isGiftFine (j := 16) rfl) rfl c7
        · rw [if_neg c7] at hf; cases hf
      rw [if_neg c3] at hf
      by_cases c4 : v2 = 34
      · rw [if_pos c4] at hf
        refine r_lookup (off := 41) (dGet dX9_isGiftFine (j := 11) rfl) (by rw [c4]; decide) rfl ?_
        refine r_aload_n (dGet dX9_isGiftFine (j := 17) rfl) nv0 rfl ?_
        refine r_iload_n (dGet dX9_isGiftFine (j := 18) rfl) rfl ?_
        refine r_aload_n (dGet dX9_isGiftFine (j := 19) rfl) nv0 rfl ?_
        refine r_iload_n (dGet dX9_isGiftFine (j := 20) rfl) rfl ?_
        refine r_aload_n (dGet dX9_isGiftFine (j := 21) rfl) nv0 rfl ?_
        obtain ⟨q8, eq8, hf⟩ := Option.bind_eq_some_iff.mp hf
        refine r_virtual (dGet dX9_isGiftFine (j := 22) rfl) L9_173 M140 rfl rfl (Nat.le_of_ble_eq_true rfl) (oX9_pop eq8) (cX9_pop X N (d + 3) v0 q2.2 q8 eq8) ?_
        refine r_bipush (dGet dX9_isGiftFine (j := 23) rfl) kB_35 ?_
        obtain ⟨q9, eq9, hf⟩ := Option.bind_eq_some_iff.mp hf
        refine r_virtual (dGet dX9_isGiftFine (j := 24) rfl) L9_155 M136 rfl rfl (Nat.le_of_ble_eq_true rfl) (oX9_fieldType eq9) (cX9_fieldType X N (d + 1) v0 v1 q8.1 (35 : Int32) q8.2 q9 eq9) ?_
        obtain ⟨q10, eq10, hf⟩ := Option.bind_eq_some_iff.mp hf
        refine r_virtual (dGet dX9_isGiftFine (j := 25) rfl) L9_204 M151 rfl rfl (Nat.le_of_ble_eq_true rfl) (oX9_fits eq10) (cX9_fits X N (d + 1) v0 q2.1 q9.1 q9.2 q10 eq10) ?_
        by_cases c11 : pRet .boolean q10.1 = true
        · rw [if_pos c11] at hf
          cases hf
          exact r_iret (dGet dX9_isGiftFine (j := 26) rfl) rfl c11
        · rw [if_neg c11] at hf; cases hf
      rw [if_neg c4] at hf
      by_cases c5 : v2 = 36
      · rw [if_pos c5] at hf
        refine r_lookup (off := 58) (dGet dX9_isGiftFine (j := 11) rfl) (by rw [c5]; decide) rfl ?_
        refine r_iload_n (dGet dX9_isGiftFine (j := 27) rfl) rfl ?_
        refine r_iconst (dGet dX9_isGiftFine (j := 28) rfl) kI_m1 ?_
        by_cases c12 : q2.1 = (-1 : Int32)
        · rw [if_pos c12] at hf
          refine r_icmp_ne_f (dGet dX9_isGiftFine (j := 29) rfl) rfl c12 ?_
          refine r_aload_n (dGet dX9_isGiftFine (j := 30) rfl) nv0 rfl ?_
          obtain ⟨q13, eq13, hf⟩ := Option.bind_eq_some_iff.mp hf
          refine r_virtual (dGet dX9_isGiftFine (j := 31) rfl) L9_173 M140 rfl rfl (Nat.le_of_ble_eq_true rfl) (oX9_pop eq13) (cX9_pop X N (d + 3) v0 q2.2 q13 eq13) ?_
          refine r_iconst (dGet dX9_isGiftFine (j := 32) rfl) kI_m1 ?_
          by_cases c14 : q13.1 = (-1 : Int32)
          · rw [if_pos c14] at hf
            refine r_icmp_ne_f (dGet dX9_isGiftFine (j := 33) rfl) rfl c14 ?_
            refine r_aload_n (dGet dX9_isGiftFine (j := 34) rfl) nv0 rfl ?_
            obtain ⟨q15, eq15, hf⟩ := Option.bind_eq_some_iff.mp hf
            refine r_virtual (dGet dX9_isGiftFine (j := 35) rfl) L9_173 M140 rfl rfl (Nat.le_of_ble_eq_true rfl) (oX9_pop eq15) (cX9_pop X N (d + 3) v0 q13.2 q15 eq15) ?_
            refine r_bipush (dGet dX9_isGiftFine (j := 36) rfl) kB_m3 ?_
            by_cases c16 : q15.1 = (-3 : Int32)
            · rw [if_pos c16] at hf
              refine r_icmp_ne_f (dGet dX9_isGiftFine (j := 37) rfl) rfl c16 ?_
              refine r_iconst (dGet dX9_isGiftFine (j := 38) rfl) kI_1 ?_
              refine r_goto (dGet dX9_isGiftFine (j := 39) rfl) rfl ?_
              cases hf
              exact r_iret (dGet dX9_isGiftFine (j := 41) rfl) rfl (by decide)
            · rw [if_neg c16] at hf
              refine r_icmp_ne_t (dGet dX9_isGiftFine (j := 37) rfl) rfl c16 ?_
              refine r_iconst (dGet dX9_isGiftFine (j := 40) rfl) kI_0 ?_
              cases hf
              exact r_iret (dGet dX9_isGiftFine (j := 41) rfl) rfl (by decide)
          · rw [if_neg c14] at hf
            refine r_icmp_ne_t (dGet dX9_isGiftFine (j := 33) rfl) rfl c14 ?_
            refine r_iconst (dGet dX9_isGiftFine (j := 40) rfl) kI_0 ?_
            cases hf
            exact r_iret (dGet dX9_isGiftFine (j := 41) rfl) rfl (by decide)
        · rw [if_neg c12] at hf
          refine r_icmp_ne_t (dGet dX9_isGiftFine (j := 29) rfl) rfl c12 ?_
          refine r_iconst (dGet dX9_isGiftFine (j := 40) rfl) kI_0 ?_
          cases hf
          exact r_iret (dGet dX9_isGiftFine (j := 41) rfl) rfl (by decide)
      rw [if_neg c5] at hf
      refine r_lookup (dGet dX9_isGiftFine (j := 11) rfl) (pLookup_out (cs := [31, 34, 36]) (by decide) (by decide) (List.forall_mem_cons.mpr ⟨c3, List.forall_mem_cons.mpr ⟨c4, List.forall_mem_cons.mpr ⟨c5, fun _ h => absurd h List.not_mem_nil⟩⟩⟩)) rfl ?_
      refine r_aload_n (dGet dX9_isGiftFine (j := 42) rfl) nv0 rfl ?_
      refine r_iload_n (dGet dX9_isGiftFine (j := 43) rfl) rfl ?_
      refine r_aload_n (dGet dX9_isGiftFine (j := 44) rfl) nv0 rfl ?_
      refine r_iload_n (dGet dX9_isGiftFine (j := 45) rfl) rfl ?_
      obtain ⟨q17, eq17, hf⟩ := Option.bind_eq_some_iff.mp hf
      refine r_virtual (dGet dX9_isGiftFine (j := 46) rfl) L9_207 M152 rfl rfl (Nat.le_of_ble_eq_true rfl) (oX9_variableType eq17) (cX9_variableType X N (d + 2) v0 v1 q2.2 q17 eq17) ?_
      obtain ⟨q18, eq18, hf⟩ := Option.bind_eq_some_iff.mp hf
      refine r_virtual (dGet dX9_isGiftFine (j := 47) rfl) L9_204 M151 rfl rfl (Nat.le_of_ble_eq_true rfl) (oX9_fits eq18) (cX9_fits X N (d + 1) v0 q2.1 q17.1 q17.2 q18 eq18) ?_
      by_cases c19 : q18.1 = 0
      · rw [if_pos c19] at hf
        refine r_if_eq_t (dGet dX9_isGiftFine (j := 48) rfl) rfl c19 ?_
        refine r_iconst (dGet dX9_isGiftFine (j := 56) rfl) kI_0 ?_
        cases hf
        exact r_iret (dGet dX9_isGiftFine (j := 57) rfl) rfl (by decide)
      · rw [if_neg c19] at hf
        refine r_if_eq_f (dGet dX9_isGiftFine (j := 48) rfl) rfl c19 ?_
        refine r_aload_n (dGet dX9_isGiftFine (j := 49) rfl) nv0 rfl ?_
        refine r_iload_n (dGet dX9_isGiftFine (j := 50) rfl) rfl ?_
        refine r_iconst (dGet dX9_isGiftFine (j := 51) rfl) kI_1 ?_
        obtain ⟨q20, eq20, hf⟩ := Option.bind_eq_some_iff.mp hf
        refine r_virtual (dGet dX9_isGiftFine (j := 52) rfl) L9_210 M153 rfl rfl (Nat.le_of_ble_eq_true rfl) (oX9_tell eq20) (cX9_tell X N (d + 1) v0 v1 (1 : Int32) q18.2 q20 eq20) ?_
        by_cases c21 : q20.1 = 0
        · rw [if_pos c21] at hf
          refine r_if_eq_t (dGet dX9_isGiftFine (j := 53) rfl) rfl c21 ?_
          refine r_iconst (dGet dX9_isGiftFine (j := 56) rfl) kI_0 ?_
          cases hf
          exact r_iret (dGet dX9_isGiftFine (j := 57) rfl) rfl (by decide)
        · rw [if_neg c21] at hf
          refine r_if_eq_f (dGet dX9_isGiftFine (j := 53) rfl) rfl c21 ?_
          refine r_iconst (dGet dX9_isGiftFine (j := 54) rfl) kI_1 ?_
          refine r_goto (dGet dX9_isGiftFine (j := 55) rfl) rfl ?_
          cases hf
          exact r_iret (dGet dX9_isGiftFine (j := 57) rfl) rfl (by decide)
  · rw [if_neg hc] at hf; cases hf
def eX9_classNamed : List (Nat × Instr × Nat) := [(0, .aload_n 0, 1), (1, .getfield 17, 3), (4, .getfield 149, 3), (7, .iload_n 1, 1), (8, .aload_n 0, 1), (9, .getfield 7, 3), (12, .aload_n 0, 1), (13, .getfield 17, 3), (16, .getfield 149, 3), (19, .iload_n 1, 1), (20, .iaload, 1), (21, .invokevirtual 185, 3), (24, .iastore, 1), (25, .aload_n 0, 1), (26, .getfield 17, 3), (29, .getfield 149, 3), (32, .iload_n 1, 1), (33, .iaload, 1), (34, .ireturn, 1)]
theorem dX9_classNamed : dChk (pCd 5104) eX9_classNamed = true := by decide +kernel
def fX9_classNamed (N : Nat) (v0 : Nat) (v1 : Int32) (h : pH) : Option (Int32 × pH) := if isO h v0 9 = true then (
  (getR h v0 9 2).bind fun t1 =>
  (getR h t1 2 1).bind fun t2 =>
  (getR h v0 9 0).bind fun t3 =>
  (getR h v0 9 2).bind fun t4 =>
  (getR h t4 2 1).bind fun t5 =>
  (ldI h t5 v1).bind fun t6 =>
  (fX1_find N t3 t6 h).bind fun q7 =>
  (stI q7.2 t2 v1 q7.1).bind fun h8 =>
  (getR h8 v0 9 2).bind fun t9 =>
  (getR h8 t9 2 1).bind fun t10 =>
  (ldI h8 t10 v1).bind fun t11 =>
  some (t11, h8)) else none
theorem oX9_classNamed {N : Nat} {v0 : Nat} {v1 : Int32} {h : pH} {q : Int32 × pH} (hf : fX9_classNamed N v0 v1 h = some q) : isO h v0 9 = true := by
  unfold fX9_classNamed at hf
  by_cases hc : isO h v0 9 = true
  · exact hc
  · rw [if_neg hc] at hf; cases hf
theorem cX9_classNamed (X : pX) (N d : Nat) (v0 : Nat) (v1 : Int32) (h : pH) (q : Int32 × pH) (hf : fX9_classNamed N v0 v1 h = some q) : Calls X (d + 1) 141 [.ref v0, .int v1] h (some (.int q.1), q.2, 0, 0) := by
  refine Calls.of M141 (Nat.le_of_ble_eq_true rfl) ?_
  show Run X (d + 1) 9 false (pCd 5104) 2 (some .int) 0 [(0, .ref v0), (1, .int v1)] [] h 0 0 (some (.int q.1), q.2, 0, 0)
  unfold fX9_classNamed at hf
  by_cases hc : isO h v0 9 = true
  · rw [if_pos hc] at hf
    have nv0 : ¬ v0 = 4 := isO_ne hc
    refine r_aload_n (dGet dX9_classNamed (j := 0) rfl) nv0 rfl ?_
    obtain ⟨t1, et1, hf⟩ := Option.bind_eq_some_iff.mp hf
    refine r_getR (dGet dX9_classNamed (j := 1) rfl) F9_17 et1 ?_
    obtain ⟨t2, et2, hf⟩ := Option.bind_eq_some_iff.mp hf
    refine r_getR (dGet dX9_classNamed (j := 2) rfl) F9_149 et2 ?_
    refine r_iload_n (dGet dX9_classNamed (j := 3) rfl) rfl ?_
    refine r_aload_n (dGet dX9_classNamed (j := 4) rfl) nv0 rfl ?_
    obtain ⟨t3, et3, hf⟩ := Option.bind_eq_some_iff.mp hf
    refine r_getR (dGet dX9_classNamed (j := 5) rfl) F9_7 et3 ?_
    refine r_aload_n (dGet dX9_classNamed (j := 6) rfl) nv0 rfl ?_
    obtain ⟨t4, et4, hf⟩ := Option.bind_eq_some_iff.mp hf
    refine r_getR (dGet dX9_classNamed (j := 7) rfl) F9_17 et4 ?_
    obtain ⟨t5, et5, hf⟩ := Option.bind_eq_some_iff.mp hf
    refine r_getR (dGet dX9_classNamed (j := 8) rfl) F9_149 et5 ?_
    refine r_iload_n (dGet dX9_classNamed (j := 9) rfl) rfl ?_
    obtain ⟨t6, et6, hf⟩ := Option.bind_eq_some_iff.mp hf
    refine r_iald (dGet dX9_classNamed (j := 10) rfl) et6 ?_
    obtain ⟨q7, eq7, hf⟩ := Option.bind_eq_some_iff.mp hf
    refine r_virtual (dGet dX9_classNamed (j := 11) rfl) L9_185 M107 rfl rfl (Nat.le_of_ble_eq_true rfl) (oX1_find eq7) (cX1_find X N (d + 0) t3 t6 h q7 eq7) ?_
    obtain ⟨h8, eh8, hf⟩ := Option.bind_eq_some_iff.mp hf
    refine r_iast (dGet dX9_classNamed (j := 12) rfl) eh8 ?_
    refine r_aload_n (dGet dX9_classNamed (j := 13) rfl) nv0 rfl ?_
    obtain ⟨t9, et9, hf⟩ := Option.bind_eq_some_iff.mp hf
    refine r_getR (dGet dX9_classNamed (j := 14) rfl) F9_17 et9 ?_
    obtain ⟨t10, et10, hf⟩ := Option.bind_eq_some_iff.mp hf
    refine r_getR (dGet dX9_classNamed (j := 15) rfl) F9_149 et10 ?_
    refine r_iload_n (dGet dX9_classNamed (j := 16) rfl) rfl ?_
    obtain ⟨t11, et11, hf⟩ := Option.bind_eq_some_iff.mp hf
    refine r_iald (dGet dX9_classNamed (j := 17) rfl) et11 ?_
    cases hf
    exact r_iret (dGet dX9_classNamed (j := 18) rfl) rfl rfl
  · rw [if_neg hc] at hf; cases hf
def eX9_isDotFine : List (Nat × Instr × Nat) := [(0, .aload_n 0, 1), (1, .invokevirtual 173, 3), (4, .istore_n 2, 1), (5, .iload_n 2, 1), (6, .bipush (-3), 2), (8, .if_icmp .ne 34, 3), (11, .aload_n 0, 1), (12, .getfield 17, 3), (15, .getfield 149, 3), (18, .iload_n 1, 1), (19, .iaload, 1), (20, .bipush 28, 2), (22, .if_icmp .ne 20, 3), (25, .aload_n 0, 1), (26, .getfield 17, 3), (29, .getfield 67, 3), (32, .iload_n 1, 1), (33, .bipush 11, 2), (35, .iastore, 1), (36, .aload_n 0, 1), (37, .iconst (-1), 1), (38, .invokevirtual 143, 3), (41, .ireturn, 1), (42, .aload_n 0, 1), (43, .aload_n 0, 1), (44, .iload_n 1, 1), (45, .iload_n 2, 1), (46, .bipush 10, 2), (48, .invokevirtual 155, 3), (51, .invokevirtual 143, 3), (54, .ireturn, 1)]
theorem dX9_isDotFine : dChk (pCd 5096) eX9_isDotFine = true := by decide +kernel
def fX9_isDotFine_42 (N : Nat) (v0 : Nat) (v1 : Int32) (v2 : Int32) (h : pH) : Option (Int32 × pH) :=
  (fX9_fieldType N v0 v1 v2 (10 : Int32) h).bind fun q1 =>
  (fX9_push N v0 q1.1 q1.2).bind fun q2 =>
  if pRet .boolean q2.1 = true then some (q2.1, q2.2) else none
theorem lX9_isDotFine_42 (X : pX) (N d : Nat)  (v0 : Nat) (v1 : Int32) (v2 : Int32) (h : pH) (q : Int32 × pH) (hf : fX9_isDotFine_42 N v0 v1 v2 h = some q) (nv0 : ¬ v0 = 4) : Run X (d + 3) 9 false (pCd 5096) 3 (some .boolean) 42 [(0, .ref v0), (1, .int v1), (2, .int v2)] [] h 0 0 (some (.int q.1), q.2, 0, 0) := by
  unfold fX9_isDotFine_42 at hf
  refine r_aload_n (dGet dX9_isDotFine (j := 23) rfl) nv0 rfl ?_
  refine r_aload_n (dGet dX9_isDotFine (j := 24) rfl) nv0 rfl ?_
  refine r_iload_n (dGet dX9_isDotFine (j := 25) rfl) rfl ?_
  refine r_iload_n (dGet dX9_isDotFine (j := 26) rfl) rfl ?_
  refine r_bipush (dGet dX9_isDotFine (j := 27) rfl) kB_10 ?_
  obtain ⟨q1, eq1, hf⟩ := Option.bind_eq_some_iff.mp hf
  refine r_virtual (dGet dX9_isDotFine (j := 28) rfl) L9_155 M136 rfl rfl (Nat.le_of_ble_eq_true rfl) (oX9_fieldType eq1) (cX9_fieldType X N (d + 0) v0 v1 v2 (10 : Int32) h q1 eq1) ?_
  obtain ⟨q2, eq2, hf⟩ := Option.bind_eq_some_iff.mp hf
  refine r_virtual (dGet dX9_isDotFine (j := 29) rfl) L9_143 M133 rfl rfl (Nat.le_of_ble_eq_true rfl) (oX9_push eq2) (cX9_push X N (d + 1) v0 q1.1 q1.2 q2 eq2) ?_
  by_cases c3 : pRet .boolean q2.1 = true
  · rw [if_pos c3] at hf
    cases hf
    exact r_iret (dGet dX9_isDotFine (j := 30) rfl) rfl c3
  · rw [if_neg c3] at hf; cases hf
def fX9_isDotFine (N : Nat) (v0 : Nat) (v1 : Int32) (h : pH) : Option (Int32 × pH) := if isO h v0 9 = true then (
  (fX9_pop N v0 h).bind fun q4 =>
  if q4.1 = (-3 : Int32) then (
  (getR q4.2 v0 9 2).bind fun t6 =>
  (getR q4.2 t6 2 1).bind fun t7 =>
  (ldI q4.2 t7 v1).bind fun t8 =>
  if t8 = (28 : Int32) then (
  (getR q4.2 v0 9 2).bind fun t10 =>
  (getR q4.2 t10 2 0).bind fun t11 =>
  (stI q4.2 t11 v1 (11 : Int32)).bind fun h12 =>
  (fX9_push N v0 (-1 : Int32) h12).bind fun q13 =>
  if pRet .boolean q13.1 = true then some (q13.1, q13.2) else none) else (
  fX9_isDotFine_42 N v0 v1 q4.1 q4.2)) else (
  fX9_isDotFine_42 N v0 v1 q4.1 q4.2)) else none
theorem oX9_isDotFine {N : Nat} {v0 : Nat} {v1 : Int32} {h : pH} {q : Int32 × pH} (hf : fX9_isDotFine N v0 v1 h = some q) : isO h v0 9 = true := by
  unfold fX9_isDotFine at hf
  by_cases hc : isO h v0 9 = true
  · exact hc
  · rw [if_neg hc] at hf; cases hf
theorem cX9_isDotFine (X : pX) (N d : Nat) (v0 : Nat) (v1 : Int32) (h : pH) (q : Int32 × pH) (hf : fX9_isDotFine N v0 v1 h = some q) : Calls X (d + 3) 139 [.ref v0, .int v1] h (some (.int q.1), q.2, 0, 0) := by
  refine Calls.of M139 (Nat.le_of_ble_eq_true rfl) ?_
  show Run X (d + 3) 9 false (pCd 5096) 3 (some .boolean) 0 [(0, .ref v0), (1, .int v1)] [] h 0 0 (some (.int q.1), q.2, 0, 0)
  unfold fX9_isDotFine at hf
  by_cases hc : isO h v0 9 = true
  · rw [if_pos hc] at hf
    have nv0 : ¬ v0 = 4 := isO_ne hc
    refine r_aload_n (dGet dX9_isDotFine (j := 0) rfl) nv0 rfl ?_
    obtain ⟨q4, eq4, hf⟩ := Option.bind_eq_some_iff.mp hf
    refine r_virtual (dGet dX9_isDotFine (j := 1) rfl) L9_173 M140 rfl rfl (Nat.le_of_ble_eq_true rfl) (oX9_pop eq4) (cX9_pop X N (d + 2) v0 h q4 eq4) ?_
    refine r_istore_n (lv' := [(2, .int q4.1), (0, .ref v0), (1, .int v1)]) (dGet dX9_isDotFine (j := 2) rfl) (by decide) rfl ?_
    refine r_iload_n (dGet dX9_isDotFine (j := 3) rfl) rfl ?_
    refine r_bipush (dGet dX9_isDotFine (j := 4) rfl) kB_m3 ?_
    by_cases c5 : q4.1 = (-3 : Int32)
    · rw [if_pos c5] at hf
      refine r_icmp_ne_f (dGet dX9_isDotFine (j := 5) rfl) rfl c5 ?_
      refine r_aload_n (dGet dX9_isDotFine (j := 6) rfl) nv0 rfl ?_
      obtain ⟨t6, et6, hf⟩ := Option.bind_eq_some_iff.mp hf
      refine r_getR (dGet dX9_isDotFine (j := 7) rfl) F9_17 et6 ?_
      obtain ⟨t7, et7, hf⟩ := Option.bind_eq_some_iff.mp hf
      refine r_getR (dGet dX9_isDotFine (j := 8) rfl) F9_149 et7 ?_
      refine r_iload_n (dGet dX9_isDotFine (j := 9) rfl) rfl ?_
      obtain ⟨t8, et8, hf⟩ := Option.bind_eq_some_iff.mp hf
      refine r_iald (dGet dX9_isDotFine (j := 10) rfl) et8 ?_
      refine r_bipush (dGet dX9_isDotFine (j := 11) rfl) kB_28 ?_
      by_cases c9 : t8 = (28 : Int32)
      · rw [if_pos c9] at hf
        refine r_icmp_ne_f (dGet dX9_isDotFine (j := 12) rfl) rfl c9 ?_
        refine r_aload_n (dGet dX9_isDotFine (j := 13) rfl) nv0 rfl ?_
        obtain ⟨t10, et10, hf⟩ := Option.bind_eq_some_iff.mp hf
        refine r_getR (dGet dX9_isDotFine (j := 14) rfl) F9_17 et10 ?_
        obtain ⟨t11, et11, hf⟩ := Option.bind_eq_some_iff.mp hf
        refine r_getR (dGet dX9_isDotFine (j := 15) rfl) F9_67 et11 ?_
        refine r_iload_n (dGet dX9_isDotFine (j := 16) rfl) rfl ?_
        refine r_bipush (dGet dX9_isDotFine (j := 17) rfl) kB_11 ?_
        obtain ⟨h12, eh12, hf⟩ := Option.bind_eq_some_iff.mp hf
        refine r_iast (dGet dX9_isDotFine (j := 18) rfl) eh12 ?_
        refine r_aload_n (dGet dX9_isDotFine (j := 19) rfl) nv0 rfl ?_
        refine r_iconst (dGet dX9_isDotFine (j := 20) rfl) kI_m1 ?_
        obtain ⟨q13, eq13, hf⟩ := Option.bind_eq_some_iff.mp hf
        refine r_virtual (dGet dX9_isDotFine (j := 21) rfl) L9_143 M133 rfl rfl (Nat.le_of_ble_eq_true rfl) (oX9_push eq13) (cX9_push X N (d + 1) v0 (-1 : Int32) h12 q13 eq13) ?_
        by_cases c14 : pRet .boolean q13.1 = true
        · rw [if_pos c14] at hf
          cases hf
          exact r_iret (dGet dX9_isDotFine (j := 22) rfl) rfl c14
        · rw [if_neg c14] at hf; cases hf
      · rw [if_neg c9] at hf
        refine r_icmp_ne_t (dGet dX9_isDotFine (j := 12) rfl) rfl c9 ?_
        refine Run.weak [(0, .ref v0), (1, .int v1), (2, .int q4.1)] (by simp) (by simp [pNd]) ?_
        exact lX9_isDotFine_42 X N d v0 v1 q4.1 q4.2 q hf nv0
    · rw [if_neg c5] at hf
      refine r_icmp_ne_t (dGet dX9_isDotFine (j := 5) rfl) rfl c5 ?_
      refine Run.weak [(0, .ref v0), (1, .int v1), (2, .int q4.1)] (by simp) (by simp [pNd]) ?_
      exact lX9_isDotFine_42 X N d v0 v1 q4.1 q4.2 q hf nv0
  · rw [if_neg hc] at hf; cases hf
def eX9_isObject : List (Nat × Instr × Nat) := [(0, .iload_n 0, 1), (1, .ifCond .ge 9, 3), (4, .iload_n 0, 1), (5, .bipush (-5), 2), (7, .if_icmp .ne 7, 3), (10, .iconst 1, 1), (11, .goto 4, 3), (14, .iconst 0, 1), (15, .ireturn, 1)]
theorem dX9_isObject : dChk (pCd 5108) eX9_isObject = true := by decide +kernel
def fX9_isObject (N : Nat) (v0 : Int32) (h : pH) : Option (Int32 × pH) :=
  if 0 ≤ v0 then (
  some ((1 : Int32), h)) else (
  if v0 = (-5 : Int32) then (
  some ((1 : Int32), h)) else (
  some ((0 : Int32), h)))
theorem cX9_isObject (X : pX) (N d : Nat) (v0 : Int32) (h : pH) (q : Int32 × pH) (hf : fX9_isObject N v0 h = some q) : Calls X (d + 0) 142 [.int v0] h (some (.int q.1), q.2, 0, 0) := by
  refine Calls.of M142 (Nat.le_of_ble_eq_true rfl) ?_
  show Run X (d + 0) 9 false (pCd 5108) 1 (some .boolean) 0 [(0, .int v0)] [] h 0 0 (some (.int q.1), q.2, 0, 0)
  unfold fX9_isObject at hf
  refine r_iload_n (dGet dX9_isObject (j := 0) rfl) rfl ?_
  by_cases c1 : 0 ≤ v0
  · rw [if_pos c1] at hf
    refine r_if_ge_t (dGet dX9_isObject (j := 1) rfl) rfl c1 ?_
    refine r_iconst (dGet dX9_isObject (j := 5) rfl) kI_1 ?_
    refine r_goto (dGet dX9_isObject (j := 6) rfl) rfl ?_
    cases hf
    exact r_iret (dGet dX9_isObject (j := 8) rfl) rfl (by decide)
  · rw [if_neg c1] at hf
    refine r_if_ge_f (dGet dX9_isObject (j := 1) rfl) rfl c1 ?_
    refine r_iload_n (dGet dX9_isObject (j := 2) rfl) rfl ?_
    refine r_bipush (dGet dX9_isObject (j := 3) rfl) kB_m5 ?_
    by_cases c2 : v0 = (-5 : Int32)
    · rw [if_pos c2] at hf
      refine r_icmp_ne_f (dGet dX9_isObject (j := 4) rfl) rfl c2 ?_
      refine r_iconst (dGet dX9_isObject (j := 5) rfl) kI_1 ?_
      refine r_goto (dGet dX9_isObject (j := 6) rfl) rfl ?_
      cases hf
      exact r_iret (dGet dX9_isObject (j := 8) rfl) rfl (by decide)
    · rw [if_neg c2] at hf
      refine r_icmp_ne_t (dGet dX9_isObject (j := 4) rfl) rfl c2 ?_
      refine r_iconst (dGet dX9_isObject (j := 7) rfl) kI_0 ?_
      cases hf
      exact r_iret (dGet dX9_isObject (j := 8) rfl) rfl (by decide)
def eX9_isPartFine : List (Nat × Instr × Nat) := [(0, .iload_n 2, 1), (1, .tableswitch 141 9 15 #[43, 141, 141, 49, 80, 90, 113], 43), (44, .aload_n 0, 1), (45, .iload_n 1, 1), (46, .invokevirtual 170, 3), (49, .ireturn, 1), (50, .aload_n 0, 1), (51, .invokevirtual 173, 3), (54, .iconst (-1), 1), (55, .if_icmp .ne 24, 3), (58, .aload_n 0, 1), (59, .invokevirtual 173, 3), (62, .bipush (-3), 2), (64, .if_icmp .ne 15, 3), (67, .aload_n 0, 1), (68, .iconst (-1), 1), (69, .invokevirtual 143, 3), (72, .ifCond .eq 7, 3), (75, .iconst 1, 1), (76, .goto 4, 3), (79, .iconst 0, 1), (80, .ireturn, 1), (81, .aload_n 0, 1), (82, .aload_n 0, 1), (83, .iload_n 1, 1), (84, .invokevirtual 177, 3), (87, .invokevirtual 143, 3), (90, .ireturn, 1), (91, .aload_n 0, 1), (92, .invokevirtual 173, 3), (95, .iconst (-1), 1), (96, .if_icmp .ne 16, 3), (99, .aload_n 0, 1), (100, .bipush (-3), 2), (102, .invokevirtual 143, 3), (105, .ifCond .eq 7, 3), (108, .iconst 1, 1), (109, .goto 4, 3), (112, .iconst 0, 1), (113, .ireturn, 1), (114, .aload_n 0, 1), (115, .invokevirtual 173, 3), (118, .invokestatic 180, 3), (121, .ifCond .eq 19, 3), (124, .aload_n 0, 1), (125, .aload_n 0, 1), (126, .iload_n 1, 1), (127, .invokevirtual 177, 3), (130, .invokevirtual 143, 3), (133, .ifCond .eq 7, 3), (136, .iconst 1, 1), (137, .goto 4, 3), (140, .iconst 0, 1), (141, .ireturn, 1), (142, .aload_n 0, 1), (143, .invokevirtual 173, 3), (146, .invokestatic 180, 3), (149, .ifCond .eq 24, 3), (152, .aload_n 0, 1), (153, .iload_n 1, 1), (154, .invokevirtual 177, 3), (157, .ifCond .lt 16, 3), (160, .aload_n 0, 1), (161, .bipush (-2), 2), (163, .invokevirtual 143, 3), (166, .ifCond .eq 7, 3), (169, .iconst 1, 1), (170, .goto 4, 3), (173, .iconst 0, 1), (174, .ireturn, 1)]
theorem dX9_isPartFine : dChk (pCd 5092) eX9_isPartFine = true := by decide +kernel
def fX9_isPartFine_142 (N : Nat) (v0 : Nat) (v1 : Int32) (h : pH) : Option (Int32 × pH) :=
  (fX9_pop N v0 h).bind fun q1 =>
  (fX9_isObject N q1.1 q1.2).bind fun q2 =>
  if q2.1 = 0 then (
  some ((0 : Int32), q2.2)) else (
  (fX9_classNamed N v0 v1 q2.2).bind fun q4 =>
  if q4.1 < 0 then (
  some ((0 : Int32), q4.2)) else (
  (fX9_push N v0 (-2 : Int32) q4.2).bind fun q6 =>
  if q6.1 = 0 then (
  some ((0 : Int32), q6.2)) else (
  some ((1 : Int32), q6.2))))
theorem lX9_isPartFine_142 (X : pX) (N d : Nat)  (v0 : Nat) (v1 : Int32) (h : pH) (q : Int32 × pH) (hf : fX9_isPartFine_142 N v0 v1 h = some q) (nv0 : ¬ v0 = 4) : Run X (d + 4) 9 false (pCd 5092) 3 (some .boolean) 142 [(0, .ref v0), (1, .int v1)] [] h 0 0 (some (.int q.1), q.2, 0, 0) := by
  unfold fX9_isPartFine_142 at hf
  refine r_aload_n (dGet dX9_isPartFine (j := 54) rfl) nv0 rfl ?_
  obtain ⟨q1, eq1, hf⟩ := Option.bind_eq_some_iff.mp hf
  refine r_virtual (dGet dX9_isPartFine (j := 55) rfl) L9_173 M140 rfl rfl (Nat.le_of_ble_eq_true rfl) (oX9_pop eq1) (cX9_pop X N (d + 3) v0 h q1 eq1) ?_
  obtain ⟨q2, eq2, hf⟩ := Option.bind_eq_some_iff.mp hf
  refine r_static (dGet dX9_isPartFine (j := 56) rfl) (by decide +kernel) (by decide +kernel) L9_180 M142 rfl rfl (Nat.le_of_ble_eq_true rfl) (cX9_isObject X N (d + 3) q1.1 q1.2 q2 eq2) ?_
  by_cases c3 : q2.1 = 0
  · rw [if_pos c3] at hf
    refine r_if_eq_t (dGet dX9_isPartFine (j := 57) rfl) rfl c3 ?_
    refine r_iconst (dGet dX9_isPartFine (j := 68) rfl) kI_0 ?_
    cases hf
    exact r_iret (dGet dX9_isPartFine (j := 69) rfl) rfl (by decide)
  · rw [if_neg c3] at hf
    refine r_if_eq_f (dGet dX9_isPartFine (j := 57) rfl) rfl c3 ?_
    refine r_aload_n (dGet dX9_isPartFine (j := 58) rfl) nv0 rfl ?_
    refine r_iload_n (dGet dX9_isPartFine (j := 59) rfl) rfl ?_
    obtain ⟨q4, eq4, hf⟩ := Option.bind_eq_some_iff.mp hf
    refine r_virtual (dGet dX9_isPartFine (j := 60) rfl) L9_177 M141 rfl rfl (Nat.le_of_ble_eq_true rfl) (oX9_classNamed eq4) (cX9_classNamed X N (d + 2) v0 v1 q2.2 q4 eq4) ?_
    by_cases c5 : q4.1 < 0
    · rw [if_pos c5] at hf
      refine r_if_lt_t (dGet dX9_isPartFine (j := 61) rfl) rfl c5 ?_
      refine r_iconst (dGet dX9_isPartFine (j := 68) rfl) kI_0 ?_
      cases hf
      exact r_iret (dGet dX9_isPartFine (j := 69) rfl) rfl (by decide)
    · rw [if_neg c5] at hf
      refine r_if_lt_f (dGet dX9_isPartFine (j := 61) rfl) rfl c5 ?_
      refine r_aload_n (dGet dX9_isPartFine (j := 62) rfl) nv0 rfl ?_
      refine r_bipush (dGet dX9_isPartFine (j := 63) rfl) kB_m2 ?_
      obtain ⟨q6, eq6, hf⟩ := Option.bind_eq_some_iff.mp hf
      refine r_virtual (dGet dX9_isPartFine (j := 64) rfl) L9_143 M133 rfl rfl (Nat.le_of_ble_eq_true rfl) (oX9_push eq6) (cX9_push X N (d + 2) v0 (-2 : Int32) q4.2 q6 eq6) ?_
      by_cases c7 : q6.1 = 0
      · rw [if_pos c7] at hf
        refine r_if_eq_t (dGet dX9_isPartFine (j := 65) rfl) rfl c7 ?_
        refine r_iconst (dGet dX9_isPartFine (j := 68) rfl) kI_0 ?_
        cases hf
        exact r_iret (dGet dX9_isPartFine (j := 69) rfl) rfl (by decide)
      · rw [if_neg c7] at hf
        refine r_if_eq_f (dGet dX9_isPartFine (j := 65) rfl) rfl c7 ?_
        refine r_iconst (dGet dX9_isPartFine (j := 66) rfl) kI_1 ?_
        refine r_goto (dGet dX9_isPartFine (j := 67) rfl) rfl ?_
        cases hf
        exact r_iret (dGet dX9_isPartFine (j := 69) rfl) rfl (by decide)
def fX9_isPartFine (N : Nat) (v0 : Nat) (v1 : Int32) (v2 : Int32) (h : pH) : Option (Int32 × pH) := if isO h v0 9 = true then (
  if v2 = 9 then (
  (fX9_isDotFine N v0 v1 h).bind fun q15 =>
  if pRet .boolean q15.1 = true then some (q15.1, q15.2) else none) else
  if v2 = 10 then (
  fX9_isPartFine_142 N v0 v1 h) else
  if v2 = 11 then (
  fX9_isPartFine_142 N v0 v1 h) else
  if v2 = 12 then (
  (fX9_pop N v0 h).bind fun q17 =>
  if q17.1 = (-1 : Int32) then (
  (fX9_pop N v0 q17.2).bind fun q19 =>
  if q19.1 = (-3 : Int32) then (
  (fX9_push N v0 (-1 : Int32) q19.2).bind fun q21 =>
  if q21.1 = 0 then (
  some ((0 : Int32), q21.2)) else (
  some ((1 : Int32), q21.2))) else (
  some ((0 : Int32), q19.2))) else (
  some ((0 : Int32), q17.2))) else
  if v2 = 13 then (
  (fX9_classNamed N v0 v1 h).bind fun q23 =>
  (fX9_push N v0 q23.1 q23.2).bind fun q24 =>
  if pRet .boolean q24.1 = true then some (q24.1, q24.2) else none) else
  if v2 = 14 then (
  (fX9_pop N v0 h).bind fun q26 =>
  if q26.1 = (-1 : Int32) then (
  (fX9_push N v0 (-3 : Int32) q26.2).bind fun q28 =>
  if q28.1 = 0 then (
  some ((0 : Int32), q28.2)) else (
  some ((1 : Int32), q28.2))) else (
  some ((0 : Int32), q26.2))) else
  if v2 = 15 then (
  (fX9_pop N v0 h).bind fun q30 =>
  (fX9_isObject N q30.1 q30.2).bind fun q31 =>
  if q31.1 = 0 then (
  some ((0 : Int32), q31.2)) else (
  (fX9_classNamed N v0 v1 q31.2).bind fun q33 =>
  (fX9_push N v0 q33.1 q33.2).bind fun q34 =>
  if q34.1 = 0 then (
  some ((0 : Int32), q34.2)) else (
  some ((1 : Int32), q34.2)))) else
  fX9_isPartFine_142 N v0 v1 h) else none
theorem oX9_isPartFine {N : Nat} {v0 : Nat} {v1 : Int32} {v2 : Int32} {h : pH} {q : Int32 × pH} (hf : fX9_isPartFine N v0 v1 v2 h = some q) : isO h v0 9 = true := by
  unfold fX9_isPartFine at hf
  by_cases hc : isO h v0 9 = true
  · exact hc
  · rw [if_neg hc] at hf; cases hf
theorem cX9_isPartFine (X : pX) (N d : Nat) (v0 : Nat) (v1 : Int32) (v2 : Int32) (h : pH) (q : Int32 × pH) (hf : fX9_isPartFine N v0 v1 v2 h = some q) : Calls X (d + 4) 138 [.ref v0, .int v1, .int v2] h (some (.int q.1), q.2, 0, 0) := by
  refine Calls.of M138 (Nat.le_of_ble_eq_true rfl) ?_
  show Run X (d + 4) 9 false (pCd 5092) 3 (some .boolean) 0 [(0, .ref v0), (1, .int v1), (2, .int v2)] [] h 0 0 (some (.int q.1), q.2, 0, 0)
  unfold fX9_isPartFine at hf
  by_cases hc : isO h v0 9 = true
  · rw [if_pos hc] at hf
    have nv0 : ¬ v0 = 4 := isO_ne hc
    refine r_iload_n (dGet dX9_isPartFine (j := 0) rfl) rfl ?_
    by_cases c8 : v2 = 9
    · rw [if_pos c8] at hf
      refine r_table (off := 43) (dGet dX9_isPartFine (j := 1) rfl) (by rw [c8]; decide) rfl ?_
      refine r_aload_n (dGet dX9_isPartFine (j := 2) rfl) nv0 rfl ?_
      refine r_iload_n (dGet dX9_isPartFine (j := 3) rfl) rfl ?_
      obtain ⟨q15, eq15, hf⟩ := Option.bind_eq_some_iff.mp hf
      refine r_virtual (dGet dX9_isPartFine (j := 4) rfl) L9_170 M139 rfl rfl (Nat.le_of_ble_eq_true rfl) (oX9_isDotFine eq15) (cX9_isDotFine X N (d + 0) v0 v1 h q15 eq15) ?_
      by_cases c16 : pRet .boolean q15.1 = true
      · rw [if_pos c16] at hf
        cases hf
        exact r_iret (dGet dX9_isPartFine (j := 5) rfl) rfl c16
      · rw [if_neg c16] at hf; cases hf
    rw [if_neg c8] at hf
    by_cases c9 : v2 = 10
    · rw [if_pos c9] at hf
      refine r_table (off := 141) (dGet dX9_isPartFine (j := 1) rfl) (by rw [c9]; decide) rfl ?_
      refine Run.weak [(0, .ref v0), (1, .int v1)] (by simp) (by simp [pNd]) ?_
      exact lX9_isPartFine_142 X N d v0 v1 h q hf nv0
    rw [if_neg c9] at hf
    by_cases c10 : v2 = 11
    · rw [if_pos c10] at hf
      refine r_table (off := 141) (dGet dX9_isPartFine (j := 1) rfl) (by rw [c10]; decide) rfl ?_
      refine Run.weak [(0, .ref v0), (1, .int v1)] (by simp) (by simp [pNd]) ?_
      exact lX9_isPartFine_142 X N d v0 v1 h q hf nv0
    rw [if_neg c10] at hf
    by_cases c11 : v2 = 12
    · rw [if_pos c11] at hf
      refine r_table (off := 49) (dGet dX9_isPartFine (j := 1) rfl) (by rw [c11]; decide) rfl ?_
      refine r_aload_n (dGet dX9_isPartFine (j := 6) rfl) nv0 rfl ?_
      obtain ⟨q17, eq17, hf⟩ := Option.bind_eq_some_iff.mp hf
      refine r_virtual (dGet dX9_isPartFine (j := 7) rfl) L9_173 M140 rfl rfl (Nat.le_of_ble_eq_true rfl) (oX9_pop eq17) (cX9_pop X N (d + 3) v0 h q17 eq17) ?_
      refine r_iconst (dGet dX9_isPartFine (j := 8) rfl) kI_m1 ?_
      by_cases c18 : q17.1 = (-1 : Int32)
      · rw [if_pos c18] at hf
        refine r_icmp_ne_f (dGet dX9_isPartFine (j := 9) rfl) rfl c18 ?_
        refine r_aload_n (dGet dX9_isPartFine (j := 10) rfl) nv0 rfl ?_
        obtain ⟨q19, eq19, hf⟩ := Option.bind_eq_some_iff.mp hf
        refine r_virtual (dGet dX9_isPartFine (j := 11) rfl) L9_173 M140 rfl rfl (Nat.le_of_ble_eq_true rfl) (oX9_pop eq19) (cX9_pop X N (d + 3) v0 q17.2 q19 eq19) ?_
        refine r_bipush (dGet dX9_isPartFine (j := 12) rfl) kB_m3 ?_
        by_cases c20 : q19.1 = (-3 : Int32)
        · rw [if_pos c20] at hf
          refine r_icmp_ne_f (dGet dX9_isPartFine (j := 13) rfl) rfl c20 ?_
          refine r_aload_n (dGet dX9_isPartFine (j := 14) rfl) nv0 rfl ?_
          refine r_iconst (dGet dX9_isPartFine (j := 15) rfl) kI_m1 ?_
          obtain ⟨q21, eq21, hf⟩ := Option.bind_eq_some_iff.mp hf
          refine r_virtual (dGet dX9_isPartFine (j := 16) rfl) L9_143 M133 rfl rfl (Nat.le_of_ble_eq_true rfl) (oX9_push eq21) (cX9_push X N (d + 2) v0 (-1 : Int32) q19.2 q21 eq21) ?_
          by_cases c22 : q21.1 = 0
          · rw [if_pos c22] at hf
            refine r_if_eq_t (dGet dX9_isPartFine (j := 17) rfl) rfl c22 ?_
            refine r_iconst (dGet dX9_isPartFine (j := 20) rfl) kI_0 ?_
            cases hf
            exact r_iret (dGet dX9_isPartFine (j := 21) rfl) rfl (by decide)
          · rw [if_neg c22] at hf
            refine r_if_eq_f (dGet dX9_isPartFine (j := 17) rfl) rfl c22 ?_
            refine r_iconst (dGet dX9_isPartFine (j := 18) rfl) kI_1 ?_
            refine r_goto (dGet dX9_isPartFine (j := 19) rfl) rfl ?_
            cases hf
            exact r_iret (dGet dX9_isPartFine (j := 21) rfl) rfl (by decide)
        · rw [if_neg c20] at hf
          refine r_icmp_ne_t (dGet dX9_isPartFine (j := 13) rfl) rfl c20 ?_
          refine r_iconst (dGet dX9_isPartFine (j := 20) rfl) kI_0 ?_
          cases hf
          exact r_iret (dGet dX9_isPartFine (j := 21) rfl) rfl (by decide)
      · rw [if_neg c18] at hf
        refine r_icmp_ne_t (dGet dX9_isPartFine (j := 9) rfl) rfl c18 ?_
        refine r_iconst (dGet dX9_isPartFine (j := 20) rfl) kI_0 ?_
        cases hf
        exact r_iret (dGet dX9_isPartFine (j := 21) rfl) rfl (by decide)
    rw [if_neg c11] at hf
    by_cases c12 : v2 = 13
    · rw [if_pos c12] at hf
      refine r_table (off := 80) (dGet dX9_isPartFine (j := 1) rfl) (by rw [c12]; decide) rfl ?_
      refine r_aload_n (dGet dX9_isPartFine (j := 22) rfl) nv0 rfl ?_
      refine r_aload_n (dGet dX9_isPartFine (j := 23) rfl) nv0 rfl ?_
      refine r_iload_n (dGet dX9_isPartFine (j := 24) rfl) rfl ?_
      obtain ⟨q23, eq23, hf⟩ := Option.bind_eq_some_iff.mp hf
      refine r_virtual (dGet dX9_isPartFine (j := 25) rfl) L9_177 M141 rfl rfl (Nat.le_of_ble_eq_true rfl) (oX9_classNamed eq23) (cX9_classNamed X N (d + 2) v0 v1 h q23 eq23) ?_
      obtain ⟨q24, eq24, hf⟩ := Option.bind_eq_some_iff.mp hf
      refine r_virtual (dGet dX9_isPartFine (j := 26) rfl) L9_143 M133 rfl rfl (Nat.le_of_ble_eq_true rfl) (oX9_push eq24) (cX9_push X N (d + 2) v0 q23.1 q23.2 q24 eq24) ?_
      by_cases c25 : pRet .boolean q24.1 = true
      · rw [if_pos c25] at hf
        cases hf
        exact r_iret (dGet dX9_isPartFine (j := 27) rfl) rfl c25
      · rw [if_neg c25] at hf; cases hf
    rw [if_neg c12] at hf
    by_cases c13 : v2 = 14
    · rw [if_pos c13] at hf
      refine r_table (off := 90) (dGet dX9_isPartFine (j := 1) rfl) (by rw [c13]; decide) rfl ?_
      refine r_aload_n (dGet dX9_isPartFine (j := 28) rfl) nv0 rfl ?_
      obtain ⟨q26, eq26, hf⟩ := Option.bind_eq_some_iff.mp hf
      refine r_virtual (dGet dX9_isPartFine (j := 29) rfl) L9_173 M140 rfl rfl (Nat.le_of_ble_eq_true rfl) (oX9_pop eq26) (cX9_pop X N (d + 3) v0 h q26 eq26) ?_
      refine r_iconst (dGet dX9_isPartFine (j := 30) rfl) kI_m1 ?_
      by_cases c27 : q26.1 = (-1 : Int32)
      · rw [if_pos c27] at hf
        refine r_icmp_ne_f (dGet dX9_isPartFine (j := 31) rfl) rfl c27 ?_
        refine r_aload_n (dGet dX9_isPartFine (j := 32) rfl) nv0 rfl ?_
        refine r_bipush (dGet dX9_isPartFine (j := 33) rfl) kB_m3 ?_
        obtain ⟨q28, eq28, hf⟩ := Option.bind_eq_some_iff.mp hf
        refine r_virtual (dGet dX9_isPartFine (j := 34) rfl) L9_143 M133 rfl rfl (Nat.le_of_ble_eq_true rfl) (oX9_push eq28) (cX9_push X N (d + 2) v0 (-3 : Int32) q26.2 q28 eq28) ?_
        by_cases c29 : q28.1 = 0
        · rw [if_pos c29] at hf
          refine r_if_eq_t (dGet dX9_isPartFine (j := 35) rfl) rfl c29 ?_
          refine r_iconst (dGet dX9_isPartFine (j := 38) rfl) kI_0 ?_
          cases hf
          exact r_iret (dGet dX9_isPartFine (j := 39) rfl) rfl (by decide)
        · rw [if_neg c29] at hf
          refine r_if_eq_f (dGet dX9_isPartFine (j := 35) rfl) rfl c29 ?_
          refine r_iconst (dGet dX9_isPartFine (j := 36) rfl) kI_1 ?_
          refine r_goto (dGet dX9_isPartFine (j := 37) rfl) rfl ?_
          cases hf
          exact r_iret (dGet dX9_isPartFine (j := 39) rfl) rfl (by decide)
      · rw [if_neg c27] at hf
        refine r_icmp_ne_t (dGet dX9_isPartFine (j := 31) rfl) rfl c27 ?_
        refine r_iconst (dGet dX9_isPartFine (j := 38) rfl) kI_0 ?_
        cases hf
        exact r_iret (dGet dX9_isPartFine (j := 39) rfl) rfl (by decide)
    rw [if_neg c13] at hf
    by_cases c14 : v2 = 15
    · rw [if_pos c14] at hf
      refine r_table (off := 113) (dGet dX9_isPartFine (j := 1) rfl) (by rw [c14]; decide) rfl ?_
      refine r_aload_n (dGet dX9_isPartFine (j := 40) rfl) nv0 rfl ?_
      obtain ⟨q30, eq30, hf⟩ := Option.bind_eq_some_iff.mp hf
      refine r_virtual (dGet dX9_isPartFine (j := 41) rfl) L9_173 M140 rfl rfl (Nat.le_of_ble_eq_true rfl) (oX9_pop eq30) (cX9_pop X N (d + 3) v0 h q30 eq30) ?_
      obtain ⟨q31, eq31, hf⟩ := Option.bind_eq_some_iff.mp hf
      refine r_static (dGet dX9_isPartFine (j := 42) rfl) (by decide +kernel) (by decide +kernel) L9_180 M142 rfl rfl (Nat.le_of_ble_eq_true rfl) (cX9_isObject X N (d + 3) q30.1 q30.2 q31 eq31) ?_
      by_cases c32 : q31.1 = 0
      · rw [if_pos c32] at hf
        refine r_if_eq_t (dGet dX9_isPartFine (j := 43) rfl) rfl c32 ?_
        refine r_iconst (dGet dX9_isPartFine (j := 52) rfl) kI_0 ?_
        cases hf
        exact r_iret (dGet dX9_isPartFine (j := 53) rfl) rfl (by decide)
      · rw [if_neg c32] at hf
        refine r_if_eq_f (dGet dX9_isPartFine (j := 43) rfl) rfl c32 ?_
        refine r_aload_n (dGet dX9_isPartFine (j := 44) rfl) nv0 rfl ?_
        refine r_aload_n (dGet dX9_isPartFine (j := 45) rfl) nv0 rfl ?_
        refine r_iload_n (dGet dX9_isPartFine (j := 46) rfl) rfl ?_
        obtain ⟨q33, eq33, hf⟩ := Option.bind_eq_some_iff.mp hf
        refine r_virtual (dGet dX9_isPartFine (j := 47) rfl) L9_177 M141 rfl rfl (Nat.le_of_ble_eq_true rfl) (oX9_classNamed eq33) (cX9_classNamed X N (d + 2) v0 v1 q31.2 q33 eq33) ?_
        obtain ⟨q34, eq34, hf⟩ := Option.bind_eq_some_iff.mp hf
        refine r_virtual (dGet dX9_isPartFine (j := 48) rfl) L9_143 M133 rfl rfl (Nat.le_of_ble_eq_true rfl) (oX9_push eq34) (cX9_push X N (d + 2) v0 q33.1 q33.2 q34 eq34) ?_
        by_cases c35 : q34.1 = 0
        · rw [if_pos c35] at hf
          refine r_if_eq_t (dGet dX9_isPartFine (j := 49) rfl) rfl c35 ?_
          refine r_iconst (dGet dX9_isPartFine (j := 52) rfl) kI_0 ?_
          cases hf
          exact r_iret (dGet dX9_isPartFine (j := 53) rfl) rfl (by decide)
        · rw [if_neg c35] at hf
          refine r_if_eq_f (dGet dX9_isPartFine (j := 49) rfl) rfl c35 ?_
          refine r_iconst (dGet dX9_isPartFine (j := 50) rfl) kI_1 ?_
          refine r_goto (dGet dX9_isPartFine (j := 51) rfl) rfl ?_
          cases hf
          exact r_iret (dGet dX9_isPartFine (j := 53) rfl) rfl (by decide)
    rw [if_neg c14] at hf
    refine r_table (dGet dX9_isPartFine (j := 1) rfl) (pTable_out (cs := [9, 10, 11, 12, 13, 14, 15]) (by decide) (by decide) (by decide) (List.forall_mem_cons.mpr ⟨c8, List.forall_mem_cons.mpr ⟨c9, List.forall_mem_cons.mpr ⟨c10, List.forall_mem_cons.mpr ⟨c11, List.forall_mem_cons.mpr ⟨c12, List.forall_mem_cons.mpr ⟨c13, List.forall_mem_cons.mpr ⟨c14, fun _ h => absurd h List.not_mem_nil⟩⟩⟩⟩⟩⟩⟩)) rfl ?_
    refine Run.weak [(0, .ref v0), (1, .int v1)] (by simp) (by simp [pNd]) ?_
    exact lX9_isPartFine_142 X N d v0 v1 h q hf nv0
  · rw [if_neg hc] at hf; cases hf
def eX9_isReference : List (Nat × Instr × Nat) := [(0, .iload_n 0, 1), (1, .invokestatic 180, 3), (4, .ifCond .ne 9, 3), (7, .iload_n 0, 1), (8, .bipush (-3), 2), (10, .if_icmp .ne 7, 3), (13, .iconst 1, 1), (14, .goto 4, 3), (17, .iconst 0, 1), (18, .ireturn, 1)]
theorem dX9_isReference : dChk (pCd 5119) eX9_isReference = true := by decide +kernel
def fX9_isReference (N : Nat) (v0 : Int32) (h : pH) : Option (Int32 × pH) :=
  (fX9_isObject N v0 h).bind fun q1 =>
  if q1.1 = 0 then (
  if v0 = (-3 : Int32) then (
  some ((1 : Int32), q1.2)) else (
  some ((0 : Int32), q1.2))) else (
  some ((1 : Int32), q1.2))
theorem cX9_isReference (X : pX) (N d : Nat) (v0 : Int32) (h : pH) (q : Int32 × pH) (hf : fX9_isReference N v0 h = some q) : Calls X (d + 1) 145 [.int v0] h (some (.int q.1), q.2, 0, 0) := by
  refine Calls.of M145 (Nat.le_of_ble_eq_true rfl) ?_
  show Run X (d + 1) 9 false (pCd 5119) 1 (some .boolean) 0 [(0, .int v0)] [] h 0 0 (some (.int q.1), q.2, 0, 0)
  unfold fX9_isReference at hf
  refine r_iload_n (dGet dX9_isReference (j := 0) rfl) rfl ?_
  obtain ⟨q1, eq1, hf⟩ := Option.bind_eq_some_iff.mp hf
  refine r_static (dGet dX9_isReference (j := 1) rfl) (by decide +kernel) (by decide +kernel) L9_180 M142 rfl rfl (Nat.le_of_ble_eq_true rfl) (cX9_isObject X N (d + 0) v0 h q1 eq1) ?_
  by_cases c2 : q1.1 = 0
  · rw [if_pos c2] at hf
    refine r_if_ne_f (dGet dX9_isReference (j := 2) rfl) rfl c2 ?_
    refine r_iload_n (dGet dX9_isReference (j := 3) rfl) rfl ?_
    refine r_bipush (dGet dX9_isReference (j := 4) rfl) kB_m3 ?_
    by_cases c3 : v0 = (-3 : Int32)
    · rw [if_pos c3] at hf
      refine r_icmp_ne_f (dGet dX9_isReference (j := 5) rfl) rfl c3 ?_
      refine r_iconst (dGet dX9_isReference (j := 6) rfl) kI_1 ?_
      refine r_goto (dGet dX9_isReference (j := 7) rfl) rfl ?_
      cases hf
      exact r_iret (dGet dX9_isReference (j := 9) rfl) rfl (by decide)
    · rw [if_neg c3] at hf
      refine r_icmp_ne_t (dGet dX9_isReference (j := 5) rfl) rfl c3 ?_
      refine r_iconst (dGet dX9_isReference (j := 8) rfl) kI_0 ?_
      cases hf
      exact r_iret (dGet dX9_isReference (j := 9) rfl) rfl (by decide)
  · rw [if_neg c2] at hf
    refine r_if_ne_t (dGet dX9_isReference (j := 2) rfl) rfl c2 ?_
    refine r_iconst (dGet dX9_isReference (j := 6) rfl) kI_1 ?_
    refine r_goto (dGet dX9_isReference (j := 7) rfl) rfl ?_
    cases hf
    exact r_iret (dGet dX9_isReference (j := 9) rfl) rfl (by decide)
def eX9_areComparable : List (Nat × Instr × Nat) := [(0, .iload_n 2, 1), (1, .iconst (-1), 1), (2, .if_icmp .eq 9, 3), (5, .iload_n 2, 1), (6, .bipush (-2), 2), (8, .if_icmp .ne 14, 3), (11, .iload_n 2, 1), (12, .iload_n 1, 1), (13, .if_icmp .ne 7, 3), (16, .iconst 1, 1), (17, .goto 4, 3), (20, .iconst 0, 1), (21, .ireturn, 1), (22, .iload_n 2, 1), (23, .invokestatic 192, 3), (26, .ifCond .eq 38, 3), (29, .iload_n 1, 1), (30, .invokestatic 192, 3), (33, .ifCond .eq 31, 3), (36, .aload_n 0, 1), (37, .getfield 7, 3), (40, .iload_n 2, 1), (41, .iload_n 1, 1), (42, .invokevirtual 195, 3), (45, .ifCond .ne 15, 3), (48, .aload_n 0, 1), (49, .getfield 7, 3), (52, .iload_n 1, 1), (53, .iload_n 2, 1), (54, .invokevirtual 195, 3), (57, .ifCond .eq 7, 3), (60, .iconst 1, 1), (61, .goto 4, 3), (64, .iconst 0, 1), (65, .ireturn, 1)]
theorem dX9_areComparable : dChk (pCd 5116) eX9_areComparable = true := by decide +kernel
def fX9_areComparable_11 (N : Nat) (v1 : Int32) (v2 : Int32) (h : pH) : Option (Int32 × pH) :=
  if v2 = v1 then (
  some ((1 : Int32), h)) else (
  some ((0 : Int32), h))
theorem lX9_areComparable_11 (X : pX) (N d : Nat)  (v1 : Int32) (v2 : Int32) (h : pH) (q : Int32 × pH) (hf : fX9_areComparable_11 N v1 v2 h = some q) : Run X (d + 2) 9 false (pCd 5116) 3 (some .boolean) 11 [(1, .int v1), (2, .int v2)] [] h 0 0 (some (.int q.1), q.2, 0, 0) := by
  unfold fX9_areComparable_11 at hf
  refine r_iload_n (dGet dX9_areComparable (j := 6) rfl) rfl ?_
  refine r_iload_n (dGet dX9_areComparable (j := 7) rfl) rfl ?_
  by_cases c1 : v2 = v1
  · rw [if_pos c1] at hf
    refine r_icmp_ne_f (dGet dX9_areComparable (j := 8) rfl) rfl c1 ?_
    refine r_iconst (dGet dX9_areComparable (j := 9) rfl) kI_1 ?_
    refine r_goto (dGet dX9_areComparable (j := 10) rfl) rfl ?_
    cases hf
    exact r_iret (dGet dX9_areComparable (j := 12) rfl) rfl (by decide)
  · rw [if_neg c1] at hf
    refine r_icmp_ne_t (dGet dX9_areComparable (j := 8) rfl) rfl c1 ?_
    refine r_iconst (dGet dX9_areComparable (j := 11) rfl) kI_0 ?_
    cases hf
    exact r_iret (dGet dX9_areComparable (j := 12) rfl) rfl (by decide)
def fX9_areComparable (N : Nat) (v0 : Nat) (v1 : Int32) (v2 : Int32) (h : pH) : Option (Int32 × pH) := if isO h v0 9 = true then (
  if v2 = (-1 : Int32) then (
  fX9_areComparable_11 N v1 v2 h) else (
  if v2 = (-2 : Int32) then (
  fX9_areComparable_11 N v1 v2 h) else (
  (fX9_isReference N v2 h).bind fun q4 =>
  if q4.1 = 0 then (
  some ((0 : Int32), q4.2)) else (
  (fX9_isReference N v1 q4.2).bind fun q6 =>
  if q6.1 = 0 then (
  some ((0 : Int32), q6.2)) else (
  (getR q6.2 v0 9 0).bind fun t8 =>
  (fX1_isSub N t8 v2 v1 q6.2).bind fun q9 =>
  if q9.1 = 0 then (
  (getR q9.2 v0 9 0).bind fun t11 =>
  (fX1_isSub N t11 v1 v2 q9.2).bind fun q12 =>
  if q12.1 = 0 then (
  some ((0 : Int32), q12.2)) else (
  some ((1 : Int32), q12.2))) else (
  some ((1 : Int32), q9.2))))))) else none
theorem oX9_areComparable {N : Nat} {v0 : Nat} {v1 : Int32} {v2 : Int32} {h : pH} {q : Int32 × pH} (hf : fX9_areComparable N v0 v1 v2 h = some q) : isO h v0 9 = true := by
  unfold fX9_areComparable at hf
  by_cases hc : isO h v0 9 = true
  · exact hc
  · rw [if_neg hc] at hf; cases hf
theorem cX9_areComparable (X : pX) (N d : Nat) (v0 : Nat) (v1 : Int32) (v2 : Int32) (h : pH) (q : Int32 × pH) (hf : fX9_areComparable N v0 v1 v2 h = some q) : Calls X (d + 2) 144 [.ref v0, .int v1, .int v2] h (some (.int q.1), q.2, 0, 0) := by
  refine Calls.of M144 (Nat.le_of_ble_eq_true rfl) ?_
  show Run X (d + 2) 9 false (pCd 5116) 3 (some .boolean) 0 [(0, .ref v0), (1, .int v1), (2, .int v2)] [] h 0 0 (some (.int q.1), q.2, 0, 0)
  unfold fX9_areComparable at hf
  by_cases hc : isO h v0 9 = true
  · rw [if_pos hc] at hf
    have nv0 : ¬ v0 = 4 := isO_ne hc
    refine r_iload_n (dGet dX9_areComparable (j := 0) rfl) rfl ?_
    refine r_iconst (dGet dX9_areComparable (j := 1) rfl) kI_m1 ?_
    by_cases c2 : v2 = (-1 : Int32)
    · rw [if_pos c2] at hf
      refine r_icmp_eq_t (dGet dX9_areComparable (j := 2) rfl) rfl c2 ?_
      refine Run.weak [(1, .int v1), (2, .int v2)] (by simp) (by simp [pNd]) ?_
      exact lX9_areComparable_11 X N d v1 v2 h q hf 
    · rw [if_neg c2] at hf
      refine r_icmp_eq_f (dGet dX9_areComparable (j := 2) rfl) rfl c2 ?_
      refine r_iload_n (dGet dX9_areComparable (j := 3) rfl) rfl ?_
      refine r_bipush (dGet dX9_areComparable (j := 4) rfl) kB_m2 ?_
      by_cases c3 : v2 = (-2 : Int32)
      · rw [if_pos c3] at hf
        refine r_icmp_ne_f (dGet dX9_areComparable (j := 5) rfl) rfl c3 ?_
        refine Run.weak [(1, .int v1), (2, .int v2)] (by simp) (by simp [pNd]) ?_
        exact lX9_areComparable_11 X N d v1 v2 h q hf 
      · rw [if_neg c3] at hf
        refine r_icmp_ne_t (dGet dX9_areComparable (j := 5) rfl) rfl c3 ?_
        refine r_iload_n (dGet dX9_areComparable (j := 13) rfl) rfl ?_
        obtain ⟨q4, eq4, hf⟩ := Option.bind_eq_some_iff.mp hf
        refine r_static (dGet dX9_areComparable (j := 14) rfl) (by decide +kernel) (by decide +kernel) L9_192 M145 rfl rfl (Nat.le_of_ble_eq_true rfl) (cX9_isReference X N (d + 0) v2 h q4 eq4) ?_
        by_cases c5 : q4.1 = 0
        · rw [if_pos c5] at hf
          refine r_if_eq_t (dGet dX9_areComparable (j := 15) rfl) rfl c5 ?_
          refine r_iconst (dGet dX9_areComparable (j := 33) rfl) kI_0 ?_
          cases hf
          exact r_iret (dGet dX9_areComparable (j := 34) rfl) rfl (by decide)
        · rw [if_neg c5] at hf
          refine r_if_eq_f (dGet dX9_areComparable (j := 15) rfl) rfl c5 ?_
          refine r_iload_n (dGet dX9_areComparable (j := 16) rfl) rfl ?_
          obtain ⟨q6, eq6, hf⟩ := Option.bind_eq_some_iff.mp hf
          refine r_static (dGet dX9_areComparable (j := 17) rfl) (by decide +kernel) (by decide +kernel) L9_192 M145 rfl rfl (Nat.le_of_ble_eq_true rfl) (cX9_isReference X N (d + 0) v1 q4.2 q6 eq6) ?_
          by_cases c7 : q6.1 = 0
          · rw [if_pos c7] at hf
            refine r_if_eq_t (dGet dX9_areComparable (j := 18) rfl) rfl c7 ?_
            refine r_iconst (dGet dX9_areComparable (j := 33) rfl) kI_0 ?_
            cases hf
            exact r_iret (dGet dX9_areComparable (j := 34) rfl) rfl (by decide)
          · rw [if_neg c7] at hf
            refine r_if_eq_f (dGet dX9_areComparable (j := 18) rfl) rfl c7 ?_
            refine r_aload_n (dGet dX9_areComparable (j := 19) rfl) nv0 rfl ?_
            obtain ⟨t8, et8, hf⟩ := Option.bind_eq_some_iff.mp hf
            refine r_getR (dGet dX9_areComparable (j := 20) rfl) F9_7 et8 ?_
            refine r_iload_n (dGet dX9_areComparable (j := 21) rfl) rfl ?_
            refine r_iload_n (dGet dX9_areComparable (j := 22) rfl) rfl ?_
            obtain ⟨q9, eq9, hf⟩ := Option.bind_eq_some_iff.mp hf
            refine r_virtual (dGet dX9_areComparable (j := 23) rfl) L9_195 M146 rfl rfl (Nat.le_of_ble_eq_true rfl) (oX1_isSub eq9) (cX1_isSub X N (d + 0) t8 v2 v1 q6.2 q9 eq9) ?_
            by_cases c10 : q9.1 = 0
            · rw [if_pos c10] at hf
              refine r_if_ne_f (dGet dX9_areComparable (j := 24) rfl) rfl c10 ?_
              refine r_aload_n (dGet dX9_areComparable (j := 25) rfl) nv0 rfl ?_
              obtain ⟨t11, et11, hf⟩ := Option.bind_eq_some_iff.mp hf
              refine r_getR (dGet dX9_areComparable (j := 26) rfl) F9_7 et11 ?_
              refine r_iload_n (dGet dX9_areComparable (j := 27) rfl) rfl ?_
              refine r_iload_n (dGet dX9_areComparable (j := 28) rfl) rfl ?_
              obtain ⟨q12, eq12, hf⟩ := Option.bind_eq_some_iff.mp hf
              refine r_virtual (dGet dX9_areComparable (j := 29) rfl) L9_195 M146 rfl rfl (Nat.le_of_ble_eq_true rfl) (oX1_isSub eq12) (cX1_isSub X N (d + 0) t11 v1 v2 q9.2 q12 eq12) ?_
              by_cases c13 : q12.1 = 0
              · rw [if_pos c13] at hf
                refine r_if_eq_t (dGet dX9_areComparable (j := 30) rfl) rfl c13 ?_
                refine r_iconst (dGet dX9_areComparable (j := 33) rfl) kI_0 ?_
                cases hf
                exact r_iret (dGet dX9_areComparable (j := 34) rfl) rfl (by decide)
              · rw [if_neg c13] at hf
                refine r_if_eq_f (dGet dX9_areComparable (j := 30) rfl) rfl c13 ?_
                refine r_iconst (dGet dX9_areComparable (j := 31) rfl) kI_1 ?_
                refine r_goto (dGet dX9_areComparable (j := 32) rfl) rfl ?_
                cases hf
                exact r_iret (dGet dX9_areComparable (j := 34) rfl) rfl (by decide)
            · rw [if_neg c10] at hf
              refine r_if_ne_t (dGet dX9_areComparable (j := 24) rfl) rfl c10 ?_
              refine r_iconst (dGet dX9_areComparable (j := 31) rfl) kI_1 ?_
              refine r_goto (dGet dX9_areComparable (j := 32) rfl) rfl ?_
              cases hf
              exact r_iret (dGet dX9_areComparable (j := 34) rfl) rfl (by decide)
  · rw [if_neg hc] at hf; cases hf
def eX9_areNumbers : List (Nat × Instr × Nat) := [(0, .iload_n 1, 1), (1, .iconst (-1), 1), (2, .if_icmp .ne 12, 3), (5, .iload_n 0, 1), (6, .iconst (-1), 1), (7, .if_icmp .ne 7, 3), (10, .iconst 1, 1), (11, .goto 4, 3), (14, .iconst 0, 1), (15, .ireturn, 1)]
theorem dX9_areNumbers : dChk (pCd 5127) eX9_areNumbers = true := by decide +kernel
def fX9_areNumbers (N : Nat) (v0 : Int32) (v1 : Int32) (h : pH) : Option (Int32 × pH) :=
  if v1 = (-1 : Int32) then (
  if v0 = (-1 : Int32) then (
  some ((1 : Int32), h)) else (
  some ((0 : Int32), h))) else (
  some ((0 : Int32), h))
theorem cX9_areNumbers (X : pX) (N d : Nat) (v0 : Int32) (v1 : Int32) (h : pH) (q : Int32 × pH) (hf : fX9_areNumbers N v0 v1 h = some q) : Calls X (d + 0) 147 [.int v0, .int v1] h (some (.int q.1), q.2, 0, 0) := by
  refine Calls.of M147 (Nat.le_of_ble_eq_true rfl) ?_
  show Run X (d + 0) 9 false (pCd 5127) 2 (some .boolean) 0 [(0, .int v0), (1, .int v1)] [] h 0 0 (some (.int q.1), q.2, 0, 0)
  unfold fX9_areNumbers at hf
  refine r_iload_n (dGet dX9_areNumbers (j := 0) rfl) rfl ?_
  refine r_iconst (dGet dX9_areNumbers (j := 1) rfl) kI_m1 ?_
  by_cases c1 : v1 = (-1 : Int32)
  · rw [if_pos c1] at hf
    refine r_icmp_ne_f (dGet dX9_areNumbers (j := 2) rfl) rfl c1 ?_
    refine r_iload_n (dGet dX9_areNumbers (j := 3) rfl) rfl ?_
    refine r_iconst (dGet dX9_areNumbers (j := 4) rfl) kI_m1 ?_
    by_cases c2 : v0 = (-1 : Int32)
    · rw [if_pos c2] at hf
      refine r_icmp_ne_f (dGet dX9_areNumbers (j := 5) rfl) rfl c2 ?_
      refine r_iconst (dGet dX9_areNumbers (j := 6) rfl) kI_1 ?_
      refine r_goto (dGet dX9_areNumbers (j := 7) rfl) rfl ?_
      cases hf
      exact r_iret (dGet dX9_areNumbers (j := 9) rfl) rfl (by decide)
    · rw [if_neg c2] at hf
      refine r_icmp_ne_t (dGet dX9_areNumbers (j := 5) rfl) rfl c2 ?_
      refine r_iconst (dGet dX9_areNumbers (j := 8) rfl) kI_0 ?_
      cases hf
      exact r_iret (dGet dX9_areNumbers (j := 9) rfl) rfl (by decide)
  · rw [if_neg c1] at hf
    refine r_icmp_ne_t (dGet dX9_areNumbers (j := 2) rfl) rfl c1 ?_
    refine r_iconst (dGet dX9_areNumbers (j := 8) rfl) kI_0 ?_
    cases hf
    exact r_iret (dGet dX9_areNumbers (j := 9) rfl) rfl (by decide)
def eX9_isSignFine : List (Nat × Instr × Nat) := [(0, .iload_n 1, 1), (1, .tableswitch 187 17 29 #[67, 89, 187, 187, 187, 187, 187, 158, 158, 128, 128, 113, 113], 67), (68, .aload_n 0, 1), (69, .invokevirtual 173, 3), (72, .iconst (-1), 1), (73, .if_icmp .ne 15, 3), (76, .aload_n 0, 1), (77, .iconst (-1), 1), (78, .invokevirtual 143, 3), (81, .ifCond .eq 7, 3), (84, .iconst 1, 1), (85, .goto 4, 3), (88, .iconst 0, 1), (89, .ireturn, 1), (90, .aload_n 0, 1), (91, .invokevirtual 173, 3), (94, .bipush (-2), 2), (96, .if_icmp .ne 16, 3), (99, .aload_n 0, 1), (100, .bipush (-2), 2), (102, .invokevirtual 143, 3), (105, .ifCond .eq 7, 3), (108, .iconst 1, 1), (109, .goto 4, 3), (112, .iconst 0, 1), (113, .ireturn, 1), (114, .aload_n 0, 1), (115, .invokevirtual 173, 3), (118, .bipush (-2), 2), (120, .if_icmp .ne 7, 3), (123, .iconst 1, 1), (124, .goto 4, 3), (127, .iconst 0, 1), (128, .ireturn, 1), (129, .aload_n 0, 1), (130, .aload_n 0, 1), (131, .invokevirtual 173, 3), (134, .aload_n 0, 1), (135, .invokevirtual 173, 3), (138, .invokevirtual 186, 3), (141, .ifCond .eq 16, 3), (144, .aload_n 0, 1), (145, .bipush (-2), 2), (147, .invokevirtual 143, 3), (150, .ifCond .eq 7, 3), (153, .iconst 1, 1), (154, .goto 4, 3), (157, .iconst 0, 1), (158, .ireturn, 1), (159, .aload_n 0, 1), (160, .invokevirtual 173, 3), (163, .aload_n 0, 1), (164, .invokevirtual 173, 3), (167, .invokestatic 189, 3), (170, .ifCond .eq 16, 3), (173, .aload_n 0, 1), (174, .bipush (-2), 2), (176, .invokevirtual 143, 3), (179, .ifCond .eq 7, 3), (182, .iconst 1, 1), (183, .goto 4, 3), (186, .iconst 0, 1), (187, .ireturn, 1), (188, .aload_n 0, 1), (189, .invokevirtual 173, 3), (192, .aload_n 0, 1), (193, .invokevirtual 173, 3), (196, .invokestatic 189, 3), (199, .ifCond .eq 15, 3), (202, .aload_n 0, 1), (203, .iconst (-1), 1), (204, .invokevirtual 143, 3), (207, .ifCond .eq 7, 3), (210, .iconst 1, 1), (211, .goto 4, 3), (214, .iconst 0, 1), (215, .ireturn, 1)]
theorem dX9_isSignFine : dChk (pCd 5112) eX9_isSignFine = true := by decide +kernel
def fX9_isSignFine_188 (N : Nat) (v0 : Nat) (h : pH) : Option (Int32 × pH) :=
  (fX9_pop N v0 h).bind fun q1 =>
  (fX9_pop N v0 q1.2).bind fun q2 =>
  (fX9_areNumbers N q1.1 q2.1 q2.2).bind fun q3 =>
  if q3.1 = 0 then (
  some ((0 : Int32), q3.2)) else (
  (fX9_push N v0 (-1 : Int32) q3.2).bind fun q5 =>
  if q5.1 = 0 then (
  some ((0 : Int32), q5.2)) else (
  some ((1 : Int32), q5.2)))
theorem lX9_isSignFine_188 (X : pX) (N d : Nat)  (v0 : Nat) (h : pH) (q : Int32 × pH) (hf : fX9_isSignFine_188 N v0 h = some q) (nv0 : ¬ v0 = 4) : Run X (d + 3) 9 false (pCd 5112) 2 (some .boolean) 188 [(0, .ref v0)] [] h 0 0 (some (.int q.1), q.2, 0, 0) := by
  unfold fX9_isSignFine_188 at hf
  refine r_aload_n (dGet dX9_isSignFine (j := 63) rfl) nv0 rfl ?_
  obtain ⟨q1, eq1, hf⟩ := Option.bind_eq_some_iff.mp hf
  refine r_virtual (dGet dX9_isSignFine (j := 64) rfl) L9_173 M140 rfl rfl (Nat.le_of_ble_eq_true rfl) (oX9_pop eq1) (cX9_pop X N (d + 2) v0 h q1 eq1) ?_
  refine r_aload_n (dGet dX9_isSignFine (j := 65) rfl) nv0 rfl ?_
  obtain ⟨q2, eq2, hf⟩ := Option.bind_eq_some_iff.mp hf
  refine r_virtual (dGet dX9_isSignFine (j := 66) rfl) L9_173 M140 rfl rfl (Nat.le_of_ble_eq_true rfl) (oX9_pop eq2) (cX9_pop X N (d + 2) v0 q1.2 q2 eq2) ?_
  obtain ⟨q3, eq3, hf⟩ := Option.bind_eq_some_iff.mp hf
  refine r_static (dGet dX9_isSignFine (j := 67) rfl) (by decide +kernel) (by decide +kernel) L9_189 M147 rfl rfl (Nat.le_of_ble_eq_true rfl) (cX9_areNumbers X N (d + 2) q1.1 q2.1 q2.2 q3 eq3) ?_
  by_cases c4 : q3.1 = 0
  · rw [if_pos c4] at hf
    refine r_if_eq_t (dGet dX9_isSignFine (j := 68) rfl) rfl c4 ?_
    refine r_iconst (dGet dX9_isSignFine (j := 75) rfl) kI_0 ?_
    cases hf
    exact r_iret (dGet dX9_isSignFine (j := 76) rfl) rfl (by decide)
  · rw [if_neg c4] at hf
    refine r_if_eq_f (dGet dX9_isSignFine (j := 68) rfl) rfl c4 ?_
    refine r_aload_n (dGet dX9_isSignFine (j := 69) rfl) nv0 rfl ?_
    refine r_iconst (dGet dX9_isSignFine (j := 70) rfl) kI_m1 ?_
    obtain ⟨q5, eq5, hf⟩ := Option.bind_eq_some_iff.mp hf
    refine r_virtual (dGet dX9_isSignFine (j := 71) rfl) L9_143 M133 rfl rfl (Nat.le_of_ble_eq_true rfl) (oX9_push eq5) (cX9_push X N (d + 1) v0 (-1 : Int32) q3.2 q5 eq5) ?_
    by_cases c6 : q5.1 = 0
    · rw [if_pos c6] at hf
      refine r_if_eq_t (dGet dX9_isSignFine (j := 72) rfl) rfl c6 ?_
      refine r_iconst (dGet dX9_isSignFine (j := 75) rfl) kI_0 ?_
      cases hf
      exact r_iret (dGet dX9_isSignFine (j := 76) rfl) rfl (by decide)
    · rw [if_neg c6] at hf
      refine r_if_eq_f (dGet dX9_isSignFine (j := 72) rfl) rfl c6 ?_
      refine r_iconst (dGet dX9_isSignFine (j := 73) rfl) kI_1 ?_
      refine r_goto (dGet dX9_isSignFine (j := 74) rfl) rfl ?_
      cases hf
      exact r_iret (dGet dX9_isSignFine (j := 76) rfl) rfl (by decide)
def fX9_isSignFine_159 (N : Nat) (v0 : Nat) (h : pH) : Option (Int32 × pH) :=
  (fX9_pop N v0 h).bind fun q7 =>
  (fX9_pop N v0 q7.2).bind fun q8 =>
  (fX9_areNumbers N q7.1 q8.1 q8.2).bind fun q9 =>
  if q9.1 = 0 then (
  some ((0 : Int32), q9.2)) else (
  (fX9_push N v0 (-2 : Int32) q9.2).bind fun q11 =>
  if q11.1 = 0 then (
  some ((0 : Int32), q11.2)) else (
  some ((1 : Int32), q11.2)))
theorem lX9_isSignFine_159 (X : pX) (N d : Nat)  (v0 : Nat) (h : pH) (q : Int32 × pH) (hf : fX9_isSignFine_159 N v0 h = some q) (nv0 : ¬ v0 = 4) : Run X (d + 3) 9 false (pCd 5112) 2 (some .boolean) 159 [(0, .ref v0)] [] h 0 0 (some (.int q.1), q.2, 0, 0) := by
  unfold fX9_isSignFine_159 at hf
  refine r_aload_n (dGet dX9_isSignFine (j := 49) rfl) nv0 rfl ?_
  obtain ⟨q7, eq7, hf⟩ := Option.bind_eq_some_iff.mp hf
  refine r_virtual (dGet dX9_isSignFine (j := 50) rfl) L9_173 M140 rfl rfl (Nat.le_of_ble_eq_true rfl) (oX9_pop eq7) (cX9_pop X N (d + 2) v0 h q7 eq7) ?_
  refine r_aload_n (dGet dX9_isSignFine (j := 51) rfl) nv0 rfl ?_
  obtain ⟨q8, eq8, hf⟩ := Option.bind_eq_some_iff.mp hf
  refine r_virtual (dGet dX9_isSignFine (j := 52) rfl) L9_173 M140 rfl rfl (Nat.le_of_ble_eq_true rfl) (oX9_pop eq8) (cX9_pop X N (d + 2) v0 q7.2 q8 eq8) ?_
  obtain ⟨q9, eq9, hf⟩ := Option.bind_eq_some_iff.mp hf
  refine r_static (dGet dX9_isSignFine (j := 53) rfl) (by decide +kernel) (by decide +kernel) L9_189 M147 rfl rfl (Nat.le_of_ble_eq_true rfl) (cX9_areNumbers X N (d + 2) q7.1 q8.1 q8.2 q9 eq9) ?_
  by_cases c10 : q9.1 = 0
  · rw [if_pos c10] at hf
    refine r_if_eq_t (dGet dX9_isSignFine (j := 54) rfl) rfl c10 ?_
    refine r_iconst (dGet dX9_isSignFine (j := 61) rfl) kI_0 ?_
    cases hf
    exact r_iret (dGet dX9_isSignFine (j := 62) rfl) rfl (by decide)
  · rw [if_neg c10] at hf
    refine r_if_eq_f (dGet dX9_isSignFine (j := 54) rfl) rfl c10 ?_
    refine r_aload_n (dGet dX9_isSignFine (j := 55) rfl) nv0 rfl ?_
    refine r_bipush (dGet dX9_isSignFine (j := 56) rfl) kB_m2 ?_
    obtain ⟨q11, eq11, hf⟩ := Option.bind_eq_some_iff.mp hf
    refine r_virtual (dGet dX9_isSignFine (j := 57) rfl) L9_143 M133 rfl rfl (Nat.le_of_ble_eq_true rfl) (oX9_push eq11) (cX9_push X N (d + 1) v0 (-2 : Int32) q9.2 q11 eq11) ?_
    by_cases c12 : q11.1 = 0
    · rw [if_pos c12] at hf
      refine r_if_eq_t (dGet dX9_isSignFine (j := 58) rfl) rfl c12 ?_
      refine r_iconst (dGet dX9_isSignFine (j := 61) rfl) kI_0 ?_
      cases hf
      exact r_iret (dGet dX9_isSignFine (j := 62) rfl) rfl (by decide)
    · rw [if_neg c12] at hf
      refine r_if_eq_f (dGet dX9_isSignFine (j := 58) rfl) rfl c12 ?_
      refine r_iconst (dGet dX9_isSignFine (j := 59) rfl) kI_1 ?_
      refine r_goto (dGet dX9_isSignFine (j := 60) rfl) rfl ?_
      cases hf
      exact r_iret (dGet dX9_isSignFine (j := 62) rfl) rfl (by decide)
def fX9_isSignFine_129 (N : Nat) (v0 : Nat) (h : pH) : Option (Int32 × pH) :=
  (fX9_pop N v0 h).bind fun q13 =>
  (fX9_pop N v0 q13.2).bind fun q14 =>
  (fX9_areComparable N v0 q13.1 q14.1 q14.2).bind fun q15 =>
  if q15.1 = 0 then (
  some ((0 : Int32), q15.2)) else (
  (fX9_push N v0 (-2 : Int32) q15.2).bind fun q17 =>
  if q17.1 = 0 then (
  some ((0 : Int32), q17.2)) else (
  some ((1 : Int32), q17.2)))
theorem lX9_isSignFine_129 (X : pX) (N d : Nat)  (v0 : Nat) (h : pH) (q : Int32 × pH) (hf : fX9_isSignFine_129 N v0 h = some q) (nv0 : ¬ v0 = 4) : Run X (d + 3) 9 false (pCd 5112) 2 (some .boolean) 129 [(0, .ref v0)] [] h 0 0 (some (.int q.1), q.2, 0, 0) := by
  unfold fX9_isSignFine_129 at hf
  refine r_aload_n (dGet dX9_isSignFine (j := 34) rfl) nv0 rfl ?_
  refine r_aload_n (dGet dX9_isSignFine (j := 35) rfl) nv0 rfl ?_
  obtain ⟨q13, eq13, hf⟩ := Option.bind_eq_some_iff.mp hf
  refine r_virtual (dGet dX9_isSignFine (j := 36) rfl) L9_173 M140 rfl rfl (Nat.le_of_ble_eq_true rfl) (oX9_pop eq13) (cX9_pop X N (d + 2) v0 h q13 eq13) ?_
  refine r_aload_n (dGet dX9_isSignFine (j := 37) rfl) nv0 rfl ?_
  obtain ⟨q14, eq14, hf⟩ := Option.bind_eq_some_iff.mp hf
  refine r_virtual (dGet dX9_isSignFine (j := 38) rfl) L9_173 M140 rfl rfl (Nat.le_of_ble_eq_true rfl) (oX9_pop eq14) (cX9_pop X N (d + 2) v0 q13.2 q14 eq14) ?_
  obtain ⟨q15, eq15, hf⟩ := Option.bind_eq_some_iff.mp hf
  refine r_virtual (dGet dX9_isSignFine (j := 39) rfl) L9_186 M144 rfl rfl (Nat.le_of_ble_eq_true rfl) (oX9_areComparable eq15) (cX9_areComparable X N (d + 0) v0 q13.1 q14.1 q14.2 q15 eq15) ?_
  by_cases c16 : q15.1 = 0
  · rw [if_pos c16] at hf
    refine r_if_eq_t (dGet dX9_isSignFine (j := 40) rfl) rfl c16 ?_
    refine r_iconst (dGet dX9_isSignFine (j := 47) rfl) kI_0 ?_
    cases hf
    exact r_iret (dGet dX9_isSignFine (j := 48) rfl) rfl (by decide)
  · rw [if_neg c16] at hf
    refine r_if_eq_f (dGet dX9_isSignFine (j := 40) rfl) rfl c16 ?_
    refine r_aload_n (dGet dX9_isSignFine (j := 41) rfl) nv0 rfl ?_
    refine r_bipush (dGet dX9_isSignFine (j := 42) rfl) kB_m2 ?_
    obtain ⟨q17, eq17, hf⟩ := Option.bind_eq_some_iff.mp hf
    refine r_virtual (dGet dX9_isSignFine (j := 43) rfl) L9_143 M133 rfl rfl (Nat.le_of_ble_eq_true rfl) (oX9_push eq17) (cX9_push X N (d + 1) v0 (-2 : Int32) q15.2 q17 eq17) ?_
    by_cases c18 : q17.1 = 0
    · rw [if_pos c18] at hf
      refine r_if_eq_t (dGet dX9_isSignFine (j := 44) rfl) rfl c18 ?_
      refine r_iconst (dGet dX9_isSignFine (j := 47) rfl) kI_0 ?_
      cases hf
      exact r_iret (dGet dX9_isSignFine (j := 48) rfl) rfl (by decide)
    · rw [if_neg c18] at hf
      refine r_if_eq_f (dGet dX9_isSignFine (j := 44) rfl) rfl c18 ?_
      refine r_iconst (dGet dX9_isSignFine (j := 45) rfl) kI_1 ?_
      refine r_goto (dGet dX9_isSignFine (j := 46) rfl) rfl ?_
      cases hf
      exact r_iret (dGet dX9_isSignFine (j := 48) rfl) rfl (by decide)
def fX9_isSignFine_114 (N : Nat) (v0 : Nat) (h : pH) : Option (Int32 × pH) :=
  (fX9_pop N v0 h).bind fun q19 =>
  if q19.1 = (-2 : Int32) then (
  some ((1 : Int32), q19.2)) else (
  some ((0 : Int32), q19.2))
theorem lX9_isSignFine_114 (X : pX) (N d : Nat)  (v0 : Nat) (h : pH) (q : Int32 × pH) (hf : fX9_isSignFine_114 N v0 h = some q) (nv0 : ¬ v0 = 4) : Run X (d + 3) 9 false (pCd 5112) 2 (some .boolean) 114 [(0, .ref v0)] [] h 0 0 (some (.int q.1), q.2, 0, 0) := by
  unfold fX9_isSignFine_114 at hf
  refine r_aload_n (dGet dX9_isSignFine (j := 26) rfl) nv0 rfl ?_
  obtain ⟨q19, eq19, hf⟩ := Option.bind_eq_some_iff.mp hf
  refine r_virtual (dGet dX9_isSignFine (j := 27) rfl) L9_173 M140 rfl rfl (Nat.le_of_ble_eq_true rfl) (oX9_pop eq19) (cX9_pop X N (d + 2) v0 h q19 eq19) ?_
  refine r_bipush (dGet dX9_isSignFine (j := 28) rfl) kB_m2 ?_
  by_cases c20 : q19.1 = (-2 : Int32)
  · rw [if_pos c20] at hf
    refine r_icmp_ne_f (dGet dX9_isSignFine (j := 29) rfl) rfl c20 ?_
    refine r_iconst (dGet dX9_isSignFine (j := 30) rfl) kI_1 ?_
    refine r_goto (dGet dX9_isSignFine (j := 31) rfl) rfl ?_
    cases hf
    exact r_iret (dGet dX9_isSignFine (j := 33) rfl) rfl (by decide)
  · rw [if_neg c20] at hf
    refine r_icmp_ne_t (dGet dX9_isSignFine (j := 29) rfl) rfl c20 ?_
    refine r_iconst (dGet dX9_isSignFine (j := 32) rfl) kI_0 ?_
    cases hf
    exact r_iret (dGet dX9_isSignFine (j := 33) rfl) rfl (by decide)
def fX9_isSignFine (N : Nat) (v0 : Nat) (v1 : Int32) (h : pH) : Option (Int32 × pH) := if isO h v0 9 = true then (
  if v1 = 17 then (
  (fX9_pop N v0 h).bind fun q34 =>
  if q34.1 = (-1 : Int32) then (
  (fX9_push N v0 (-1 : Int32) q34.2).bind fun q36 =>
  if q36.1 = 0 then (
  some ((0 : Int32), q36.2)) else (
  some ((1 : Int32), q36.2))) else (
  some ((0 : Int32), q34.2))) else
  if v1 = 18 then (
  (fX9_pop N v0 h).bind fun q38 =>
  if q38.1 = (-2 : Int32) then (
  (fX9_push N v0 (-2 : Int32) q38.2).bind fun q40 =>
  if q40.1 = 0 then (
  some ((0 : Int32), q40.2)) else (
  some ((1 : Int32), q40.2))) else (
  some ((0 : Int32), q38.2))) else
  if v1 = 19 then (
  fX9_isSignFine_188 N v0 h) else
  if v1 = 20 then (
  fX9_isSignFine_188 N v0 h) else
  if v1 = 21 then (
  fX9_isSignFine_188 N v0 h) else
  if v1 = 22 then (
  fX9_isSignFine_188 N v0 h) else
  if v1 = 23 then (
  fX9_isSignFine_188 N v0 h) else
  if v1 = 24 then (
  fX9_isSignFine_159 N v0 h) else
  if v1 = 25 then (
  fX9_isSignFine_159 N v0 h) else
  if v1 = 26 then (
  fX9_isSignFine_129 N v0 h) else
  if v1 = 27 then (
  fX9_isSignFine_129 N v0 h) else
  if v1 = 28 then (
  fX9_isSignFine_114 N v0 h) else
  if v1 = 29 then (
  fX9_isSignFine_114 N v0 h) else
  fX9_isSignFine_188 N v0 h) else none
theorem oX9_isSignFine {N : Nat} {v0 : Nat} {v1 : Int32} {h : pH} {q : Int32 × pH} (hf : fX9_isSignFine N v0 v1 h = some q) : isO h v0 9 = true := by
  unfold fX9_isSignFine at hf
  by_cases hc : isO h v0 9 = true
  · exact hc
  · rw [if_neg hc] at hf; cases hf
theorem cX9_isSignFine (X : pX) (N d : Nat) (v0 : Nat) (v1 : Int32) (h : pH) (q : Int32 × pH) (hf : fX9_isSignFine N v0 v1 h = some q) : Calls X (d + 3) 143 [.ref v0, .int v1] h (some (.int q.1), q.2, 0, 0) := by
  refine Calls.of M143 (Nat.le_of_ble_eq_true rfl) ?_
  show Run X (d + 3) 9 false (pCd 5112) 2 (some .boolean) 0 [(0, .ref v0), (1, .int v1)] [] h 0 0 (some (.int q.1), q.2, 0, 0)
  unfold fX9_isSignFine at hf
  by_cases hc : isO h v0 9 = true
  · rw [if_pos hc] at hf
    have nv0 : ¬ v0 = 4 := isO_ne hc
    refine r_iload_n (dGet dX9_isSignFine (j := 0) rfl) rfl ?_
    by_cases c21 : v1 = 17
    · rw [if_pos c21] at hf
      refine r_table (off := 67) (dGet dX9_isSignFine (j := 1) rfl) (by rw [c21]; decide) rfl ?_
      refine r_aload_n (dGet dX9_isSignFine (j := 2) rfl) nv0 rfl ?_
      obtain ⟨q34, eq34, hf⟩ := Option.bind_eq_some_iff.mp hf
      refine r_virtual (dGet dX9_isSignFine (j := 3) rfl) L9_173 M140 rfl rfl (Nat.le_of_ble_eq_true rfl) (oX9_pop eq34) (cX9_pop X N (d + 2) v0 h q34 eq34) ?_
      refine r_iconst (dGet dX9_isSignFine (j := 4) rfl) kI_m1 ?_
      by_cases c35 : q34.1 = (-1 : Int32)
      · rw [if_pos c35] at hf
        refine r_icmp_ne_f (dGet dX9_isSignFine (j := 5) rfl) rfl c35 ?_
        refine r_aload_n (dGet dX9_isSignFine (j := 6) rfl) nv0 rfl ?_
        refine r_iconst (dGet dX9_isSignFine (j := 7) rfl) kI_m1 ?_
        obtain ⟨q36, eq36, hf⟩ := Option.bind_eq_some_iff.mp hf
        refine r_virtual (dGet dX9_isSignFine (j := 8) rfl) L9_143 M133 rfl rfl (Nat.le_of_ble_eq_true rfl) (oX9_push eq36) (cX9_push X N (d + 1) v0 (-1 : Int32) q34.2 q36 eq36) ?_
        by_cases c37 : q36.1 = 0
        · rw [if_pos c37] at hf
          refine r_if_eq_t (dGet dX9_isSignFine (j := 9) rfl) rfl c37 ?_
          refine r_iconst (dGet dX9_isSignFine (j := 12) rfl) kI_0 ?_
          cases hf
          exact r_iret (dGet dX9_isSignFine (j := 13) rfl) rfl (by decide)
        · rw [if_neg c37] at hf
          refine r_if_eq_f (dGet dX9_isSignFine (j := 9) rfl) rfl c37 ?_
          refine r_iconst (dGet dX9_isSignFine (j := 10) rfl) kI_1 ?_
          refine r_goto (dGet dX9_isSignFine (j := 11) rfl) rfl ?_
          cases hf
          exact r_iret (dGet dX9_isSignFine (j := 13) rfl) rfl (by decide)
      · rw [if_neg c35] at hf
        refine r_icmp_ne_t (dGet dX9_isSignFine (j := 5) rfl) rfl c35 ?_
        refine r_iconst (dGet dX9_isSignFine (j := 12) rfl) kI_0 ?_
        cases hf
        exact r_iret (dGet dX9_isSignFine (j := 13) rfl) rfl (by decide)
    rw [if_neg c21] at hf
    by_cases c22 : v1 = 18
    · rw [if_pos c22] at hf
      refine r_table (off := 89) (dGet dX9_isSignFine (j := 1) rfl) (by rw [c22]; decide) rfl ?_
      refine r_aload_n (dGet dX9_isSignFine (j := 14) rfl) nv0 rfl ?_
      obtain ⟨q38, eq38, hf⟩ := Option.bind_eq_some_iff.mp hf
      refine r_virtual (dGet dX9_isSignFine (j := 15) rfl) L9_173 M140 rfl rfl (Nat.le_of_ble_eq_true rfl) (oX9_pop eq38) (cX9_pop X N (d + 2) v0 h q38 eq38) ?_
      refine r_bipush (dGet dX9_isSignFine (j := 16) rfl) kB_m2 ?_
      by_cases c39 : q38.1 = (-2 : Int32)
      · rw [if_pos c39] at hf
        refine r_icmp_ne_f (dGet dX9_isSignFine (j := 17) rfl) rfl c39 ?_
        refine r_aload_n (dGet dX9_isSignFine (j := 18) rfl) nv0 rfl ?_
        refine r_bipush (dGet dX9_isSignFine (j := 19) rfl) kB_m2 ?_
        obtain ⟨q40, eq40, hf⟩ := Option.bind_eq_some_iff.mp hf
        refine r_virtual (dGet dX9_isSignFine (j := 20) rfl) L9_143 M133 rfl rfl (Nat.le_of_ble_eq_true rfl) (oX9_push eq40) (cX9_push X N (d + 1) v0 (-2 : Int32) q38.2 q40 eq40) ?_
        by_cases c41 : q40.1 = 0
        · rw [if_pos c41] at hf
          refine r_if_eq_t (dGet dX9_isSignFine (j := 21) rfl) rfl c41 ?_
          refine r_iconst (dGet dX9_isSignFine (j := 24) rfl) kI_0 ?_
          cases hf
          exact r_iret (dGet dX9_isSignFine (j := 25) rfl) rfl (by decide)
        · rw [if_neg c41] at hf
          refine r_if_eq_f (dGet dX9_isSignFine (j := 21) rfl) rfl c41 ?_
          refine r_iconst (dGet dX9_isSignFine (j := 22) rfl) kI_1 ?_
          refine r_goto (dGet dX9_isSignFine (j := 23) rfl) rfl ?_
          cases hf
          exact r_iret (dGet dX9_isSignFine (j := 25) rfl) rfl (by decide)
      · rw [if_neg c39] at hf
        refine r_icmp_ne_t (dGet dX9_isSignFine (j := 17) rfl) rfl c39 ?_
        refine r_iconst (dGet dX9_isSignFine (j := 24) rfl) kI_0 ?_
        cases hf
        exact r_iret (dGet dX9_isSignFine (j := 25) rfl) rfl (by decide)
    rw [if_neg c22] at hf
    by_cases c23 : v1 = 19
    · rw [if_pos c23] at hf
      refine r_table (off := 187) (dGet dX9_isSignFine (j := 1) rfl) (by rw [c23]; decide) rfl ?_
      refine Run.weak [(0, .ref v0)] (by simp) (by simp [pNd]) ?_
      exact lX9_isSignFine_188 X N d v0 h q hf nv0
    rw [if_neg c23] at hf
    by_cases c24 : v1 = 20
    · rw [if_pos c24] at hf
      refine r_table (off := 187) (dGet dX9_isSignFine (j := 1) rfl) (by rw [c24]; decide) rfl ?_
      refine Run.weak [(0, .ref v0)] (by simp) (by simp [pNd]) ?_
      exact lX9_isSignFine_188 X N d v0 h q hf nv0
    rw [if_neg c24] at hf
    by_cases c25 : v1 = 21
    · rw [if_pos c25] at hf
      refine r_table (off := 187) (dGet dX9_isSignFine (j := 1) rfl) (by rw [c25]; decide) rfl ?_
      refine Run.weak [(0, .ref v0)] (by simp) (by simp [pNd]) ?_
      exact lX9_isSignFine_188 X N d v0 h q hf nv0
    rw [if_neg c25] at hf
    by_cases c26 : v1 = 22
    · rw [if_pos c26] at hf
      refine r_table (off := 187) (dGet dX9_isSignFine (j := 1) rfl) (by rw [c26]; decide) rfl ?_
      refine Run.weak [(0, .ref v0)] (by simp) (by simp [pNd]) ?_
      exact lX9_isSignFine_188 X N d v0 h q hf nv0
    rw [if_neg c26] at hf
    by_cases c27 : v1 = 23
    · rw [if_pos c27] at hf
      refine r_table (off := 187) (dGet dX9_isSignFine (j := 1) rfl) (by rw [c27]; decide) rfl ?_
      refine Run.weak [(0, .ref v0)] (by simp) (by simp [pNd]) ?_
      exact lX9_isSignFine_188 X N d v0 h q hf nv0
    rw [if_neg c27] at hf
    by_cases c28 : v1 = 24
    · rw [if_pos c28] at hf
      refine r_table (off := 158) (dGet dX9_isSignFine (j := 1) rfl) (by rw [c28]; decide) rfl ?_
      refine Run.weak [(0, .ref v0)] (by simp) (by simp [pNd]) ?_
      exact lX9_isSignFine_159 X N d v0 h q hf nv0
    rw [if_neg c28] at hf
    by_cases c29 : v1 = 25
    · rw [if_pos c29] at hf
      refine r_table (off := 158) (dGet dX9_isSignFine (j := 1) rfl) (by rw [c29]; decide) rfl ?_
      refine Run.weak [(0, .ref v0)] (by simp) (by simp [pNd]) ?_
      exact lX9_isSignFine_159 X N d v0 h q hf nv0
    rw [if_neg c29] at hf
    by_cases c30 : v1 = 26
    · rw [if_pos c30] at hf
      refine r_table (off := 128) (dGet dX9_isSignFine (j := 1) rfl) (by rw [c30]; decide) rfl ?_
      refine Run.weak [(0, .ref v0)] (by simp) (by simp [pNd]) ?_
      exact lX9_isSignFine_129 X N d v0 h q hf nv0
    rw [if_neg c30] at hf
    by_cases c31 : v1 = 27
    · rw [if_pos c31] at hf
      refine r_table (off := 128) (dGet dX9_isSignFine (j := 1) rfl) (by rw [c31]; decide) rfl ?_
      refine Run.weak [(0, .ref v0)] (by simp) (by simp [pNd]) ?_
      exact lX9_isSignFine_129 X N d v0 h q hf nv0
    rw [if_neg c31] at hf
    by_cases c32 : v1 = 28
    · rw [if_pos c32] at hf
      refine r_table (off := 113) (dGet dX9_isSignFine (j := 1) rfl) (by rw [c32]; decide) rfl ?_
      refine Run.weak [(0, .ref v0)] (by simp) (by simp [pNd]) ?_
      exact lX9_isSignFine_114 X N d v0 h q hf nv0
    rw [if_neg c32] at hf
    by_cases c33 : v1 = 29
    · rw [if_pos c33] at hf
      refine r_table (off := 113) (dGet dX9_isSignFine (j := 1) rfl) (by rw [c33]; decide) rfl ?_
      refine Run.weak [(0, .ref v0)] (by simp) (by simp [pNd]) ?_
      exact lX9_isSignFine_114 X N d v0 h q hf nv0
    rw [if_neg c33] at hf
    refine r_table (dGet dX9_isSignFine (j := 1) rfl) (pTable_out (cs := [17, 18, 19, 20, 21, 22, 23, 24, 25, 26, 27, 28, 29]) (by decide) (by decide) (by decide) (List.forall_mem_cons.mpr ⟨c21, List.forall_mem_cons.mpr ⟨c22, List.forall_mem_cons.mpr ⟨c23, List.forall_mem_cons.mpr ⟨c24, List.forall_mem_cons.mpr ⟨c25, List.forall_mem_cons.mpr ⟨c26, List.forall_mem_cons.mpr ⟨c27, List.forall_mem_cons.mpr ⟨c28, List.forall_mem_cons.mpr ⟨c29, List.forall_mem_cons.mpr ⟨c30, List.forall_mem_cons.mpr ⟨c31, List.forall_mem_cons.mpr ⟨c32, List.forall_mem_cons.mpr ⟨c33, fun _ h => absurd h List.not_mem_nil⟩⟩⟩⟩⟩⟩⟩⟩⟩⟩⟩⟩⟩)) rfl ?_
    refine Run.weak [(0, .ref v0)] (by simp) (by simp [pNd]) ?_
    exact lX9_isSignFine_188 X N d v0 h q hf nv0
  · rw [if_neg hc] at hf; cases hf
def eX9_isCatchFine : List (Nat × Instr × Nat) := [(0, .aload_n 0, 1), (1, .getfield 24, 3), (4, .invokevirtual 227, 3), (7, .aload_n 0, 1), (8, .iload_n 1, 1), (9, .invokevirtual 177, 3), (12, .ifCond .lt 23, 3), (15, .aload_n 0, 1), (16, .getfield 24, 3), (19, .aload_n 0, 1), (20, .getfield 17, 3), (23, .getfield 214, 3), (26, .iload_n 1, 1), (27, .iaload, 1), (28, .invokevirtual 152, 3), (31, .iconst (-1), 1), (32, .if_icmp .eq 5, 3), (35, .iconst 0, 1), (36, .ireturn, 1), (37, .aload_n 0, 1), (38, .getfield 17, 3), (41, .getfield 214, 3), (44, .iload_n 1, 1), (45, .aload_n 0, 1), (46, .getfield 24, 3), (49, .aload_n 0, 1), (50, .getfield 17, 3), (53, .getfield 214, 3), (56, .iload_n 1, 1), (57, .iaload, 1), (58, .aload_n 0, 1), (59, .getfield 17, 3), (62, .getfield 149, 3), (65, .iload_n 1, 1), (66, .iaload, 1), (67, .iconst 1, 1), (68, .invokevirtual 114, 3), (71, .iastore, 1), (72, .iconst 1, 1), (73, .ireturn, 1)]
theorem dX9_isCatchFine : dChk (pCd 5191) eX9_isCatchFine = true := by decide +kernel
def fX9_isCatchFine (N : Nat) (v0 : Nat) (v1 : Int32) (h : pH) : Option (Int32 × pH) := if isO h v0 9 = true then (
  (getR h v0 9 3).bind fun t1 =>
  (fX8_turn N t1 h).bind fun h2 =>
  (fX9_classNamed N v0 v1 h2).bind fun q3 =>
  if q3.1 < 0 then (
  some ((0 : Int32), q3.2)) else (
  (getR q3.2 v0 9 3).bind fun t5 =>
  (getR q3.2 v0 9 2).bind fun t6 =>
  (getR q3.2 t6 2 2).bind fun t7 =>
  (ldI q3.2 t7 v1).bind fun t8 =>
  (fX8_find N t5 t8 q3.2).bind fun q9 =>
  if q9.1 = (-1 : Int32) then (
  (getR q9.2 v0 9 2).bind fun t11 =>
  (getR q9.2 t11 2 2).bind fun t12 =>
  (getR q9.2 v0 9 3).bind fun t13 =>
  (getR q9.2 v0 9 2).bind fun t14 =>
  (getR q9.2 t14 2 2).bind fun t15 =>
  (ldI q9.2 t15 v1).bind fun t16 =>
  (getR q9.2 v0 9 2).bind fun t17 =>
  (getR q9.2 t17 2 1).bind fun t18 =>
  (ldI q9.2 t18 v1).bind fun t19 =>
  (fX8_add N t13 t16 t19 (1 : Int32) q9.2).bind fun q20 =>
  (stI q20.2 t12 v1 q20.1).bind fun h21 =>
  some ((1 : Int32), h21)) else (
  some ((0 : Int32), q9.2)))) else none
theorem oX9_isCatchFine {N : Nat} {v0 : Nat} {v1 : Int32} {h : pH} {q : Int32 × pH} (hf : fX9_isCatchFine N v0 v1 h = some q) : isO h v0 9 = true := by
  unfold fX9_isCatchFine at hf
  by_cases hc : isO h v0 9 = true
  · exact hc
  · rw [if_neg hc] at hf; cases hf
theorem cX9_isCatchFine (X : pX) (N d : Nat) (v0 : Nat) (v1 : Int32) (h : pH) (q : Int32 × pH) (hf : fX9_isCatchFine N v0 v1 h = some q) : Calls X (d + 3) 162 [.ref v0, .int v1] h (some (.int q.1), q.2, 0, 0) := by
  refine Calls.of M162 (Nat.le_of_ble_eq_true rfl) ?_
  show Run X (d + 3) 9 false (pCd 5191) 2 (some .boolean) 0 [(0, .ref v0), (1, .int v1)] [] h 0 0 (some (.int q.1), q.2, 0, 0)
  unfold fX9_isCatchFine at hf
  by_cases hc : isO h v0 9 = true
  · rw [if_pos hc] at hf
    have nv0 : ¬ v0 = 4 := isO_ne hc
    refine r_aload_n (dGet dX9_isCatchFine (j := 0) rfl) nv0 rfl ?_
    obtain ⟨t1, et1, hf⟩ := Option.bind_eq_some_iff.mp hf
    refine r_getR (dGet dX9_isCatchFine (j := 1) rfl) F9_24 et1 ?_
    obtain ⟨h2, eh2, hf⟩ := Option.bind_eq_some_iff.mp hf
    refine r_virtual (dGet dX9_isCatchFine (j := 2) rfl) L9_227 M158 rfl rfl (Nat.le_of_ble_eq_true rfl) (oX8_turn eh2) (cX8_turn X N (d + 0) t1 h h2 eh2) ?_
    refine r_aload_n (dGet dX9_isCatchFine (j := 3) rfl) nv0 rfl ?_
    refine r_iload_n (dGet dX9_isCatchFine (j := 4) rfl) rfl ?_
    obtain ⟨q3, eq3, hf⟩ := Option.bind_eq_some_iff.mp hf
    refine r_virtual (dGet dX9_isCatchFine (j := 5) rfl) L9_177 M141 rfl rfl (Nat.le_of_ble_eq_true rfl) (oX9_classNamed eq3) (cX9_classNamed X N (d + 1) v0 v1 h2 q3 eq3) ?_
    by_cases c4 : q3.1 < 0
    · rw [if_pos c4] at hf
      refine r_if_lt_t (dGet dX9_isCatchFine (j := 6) rfl) rfl c4 ?_
      refine r_iconst (dGet dX9_isCatchFine (j := 17) rfl) kI_0 ?_
      cases hf
      exact r_iret (dGet dX9_isCatchFine (j := 18) rfl) rfl (by decide)
    · rw [if_neg c4] at hf
      refine r_if_lt_f (dGet dX9_isCatchFine (j := 6) rfl) rfl c4 ?_
      refine r_aload_n (dGet dX9_isCatchFine (j := 7) rfl) nv0 rfl ?_
      obtain ⟨t5, et5, hf⟩ := Option.bind_eq_some_iff.mp hf
      refine r_getR (dGet dX9_isCatchFine (j := 8) rfl) F9_24 et5 ?_
      refine r_aload_n (dGet dX9_isCatchFine (j := 9) rfl) nv0 rfl ?_
      obtain ⟨t6, et6, hf⟩ := Option.bind_eq_some_iff.mp hf
      refine r_getR (dGet dX9_isCatchFine (j := 10) rfl) F9_17 et6 ?_
      obtain ⟨t7, et7, hf⟩ := Option.bind_eq_some_iff.mp hf
      refine r_getR (dGet dX9_isCatchFine (j := 11) rfl) F9_214 et7 ?_
      refine r_iload_n (dGet dX9_isCatchFine (j := 12) rfl) rfl ?_
      obtain ⟨t8, et8, hf⟩ := Option.bind_eq_some_iff.mp hf
      refine r_iald (dGet dX9_isCatchFine (j := 13) rfl) et8 ?_
      obtain ⟨q9, eq9, hf⟩ := Option.bind_eq_some_iff.mp hf
      refine r_virtual (dGet dX9_isCatchFine (j := 14) rfl) L9_152 M135 rfl rfl (Nat.le_of_ble_eq_true rfl) (oX8_find eq9) (cX8_find X N (d + 2) t5 t8 q3.2 q9 eq9) ?_
      refine r_iconst (dGet dX9_isCatchFine (j := 15) rfl) kI_m1 ?_
      by_cases c10 : q9.1 = (-1 : Int32)
      · rw [if_pos c10] at hf
        refine r_icmp_eq_t (dGet dX9_isCatchFine (j := 16) rfl) rfl c10 ?_
        refine r_aload_n (dGet dX9_isCatchFine (j := 19) rfl) nv0 rfl ?_
        obtain ⟨t11, et11, hf⟩ := Option.bind_eq_some_iff.mp hf
        refine r_getR (dGet dX9_isCatchFine (j := 20) rfl) F9_17 et11 ?_
        obtain ⟨t12, et12, hf⟩ := Option.bind_eq_some_iff.mp hf
        refine r_getR (dGet dX9_isCatchFine (j := 21) rfl) F9_214 et12 ?_
        refine r_iload_n (dGet dX9_isCatchFine (j := 22) rfl) rfl ?_
        refine r_aload_n (dGet dX9_isCatchFine (j := 23) rfl) nv0 rfl ?_
        obtain ⟨t13, et13, hf⟩ := Option.bind_eq_some_iff.mp hf
        refine r_getR (dGet dX9_isCatchFine (j := 24) rfl) F9_24 et13 ?_
        refine r_aload_n (dGet dX9_isCatchFine (j := 25) rfl) nv0 rfl ?_
        obtain ⟨t14, et14, hf⟩ := Option.bind_eq_some_iff.mp hf
        refine r_getR (dGet dX9_isCatchFine (j := 26) rfl) F9_17 et14 ?_
        obtain ⟨t15, et15, hf⟩ := Option.bind_eq_some_iff.mp hf
        refine r_getR (dGet dX9_isCatchFine (j := 27) rfl) F9_214 et15 ?_
        refine r_iload_n (dGet dX9_isCatchFine (j := 28) rfl) rfl ?_
        obtain ⟨t16, et16, hf⟩ := Option.bind_eq_some_iff.mp hf
        refine r_iald (dGet dX9_isCatchFine (j := 29) rfl) et16 ?_
        refine r_aload_n (dGet dX9_isCatchFine (j := 30) rfl) nv0 rfl ?_
        obtain ⟨t17, et17, hf⟩ := Option.bind_eq_some_iff.mp hf
        refine r_getR (dGet dX9_isCatchFine (j := 31) rfl) F9_17 et17 ?_
        obtain ⟨t18, et18, hf⟩ := Option.bind_eq_some_iff.mp hf
        refine r_getR (dGet dX9_isCatchFine (j := 32) rfl) F9_149 et18 ?_
        refine r_iload_n (dGet dX9_isCatchFine (j := 33) rfl) rfl ?_
        obtain ⟨t19, et19, hf⟩ := Option.bind_eq_some_iff.mp hf
        refine r_iald (dGet dX9_isCatchFine (j := 34) rfl) et19 ?_
        refine r_iconst (dGet dX9_isCatchFine (j := 35) rfl) kI_1 ?_
        obtain ⟨q20, eq20, hf⟩ := Option.bind_eq_some_iff.mp hf
        refine r_virtual (dGet dX9_isCatchFine (j := 36) rfl) L9_114 M128 rfl rfl (Nat.le_of_ble_eq_true rfl) (oX8_add eq20) (cX8_add X N (d + 1) t13 t16 t19 (1 : Int32) q9.2 q20 eq20) ?_
        obtain ⟨h21, eh21, hf⟩ := Option.bind_eq_some_iff.mp hf
        refine r_iast (dGet dX9_isCatchFine (j := 37) rfl) eh21 ?_
        refine r_iconst (dGet dX9_isCatchFine (j := 38) rfl) kI_1 ?_
        cases hf
        exact r_iret (dGet dX9_isCatchFine (j := 39) rfl) rfl (by decide)
      · rw [if_neg c10] at hf
        refine r_icmp_eq_f (dGet dX9_isCatchFine (j := 16) rfl) rfl c10 ?_
        refine r_iconst (dGet dX9_isCatchFine (j := 17) rfl) kI_0 ?_
        cases hf
        exact r_iret (dGet dX9_isCatchFine (j := 18) rfl) rfl (by decide)
  · rw [if_neg hc] at hf; cases hf
def eX9_isSilentFine : List (Nat × Instr × Nat) := [(0, .iload_n 2, 1), (1, .tableswitch 148 50 60 #[59, 68, 92, 99, 106, 115, 124, 115, 133, 142, 124], 59), (60, .aload_n 0, 1), (61, .aload_n 0, 1), (62, .getfield 89, 3), (65, .invokevirtual 143, 3), (68, .ireturn, 1), (69, .aload_n 0, 1), (70, .invokevirtual 173, 3), (73, .bipush (-2), 2), (75, .if_icmp .ne 16, 3), (78, .aload_n 0, 1), (79, .bipush (-2), 2), (81, .invokevirtual 143, 3), (84, .ifCond .eq 7, 3), (87, .iconst 1, 1), (88, .goto 4, 3), (91, .iconst 0, 1), (92, .ireturn, 1), (93, .aload_n 0, 1), (94, .invokevirtual 173, 3), (97, .pop, 1), (98, .iconst 1, 1), (99, .ireturn, 1), (100, .aload_n 0, 1), (101, .iload_n 1, 1), (102, .iconst 0, 1), (103, .invokevirtual 210, 3), (106, .ireturn, 1), (107, .aload_n 0, 1), (108, .getfield 24, 3), (111, .invokevirtual 227, 3), (114, .iconst 1, 1), (115, .ireturn, 1), (116, .aload_n 0, 1), (117, .getfield 24, 3), (120, .invokevirtual 230, 3), (123, .iconst 1, 1), (124, .ireturn, 1), (125, .aload_n 0, 1), (126, .getfield 24, 3), (129, .invokevirtual 233, 3), (132, .iconst 1, 1), (133, .ireturn, 1), (134, .aload_n 0, 1), (135, .getfield 24, 3), (138, .invokevirtual 221, 3), (141, .iconst 1, 1), (142, .ireturn, 1), (143, .aload_n 0, 1), (144, .iload_n 1, 1), (145, .invokevirtual 236, 3), (148, .ireturn, 1), (149, .aload_n 0, 1), (150, .getfield 95, 3), (153, .bipush (-4), 2), (155, .if_icmp .eq 13, 3), (158, .aload_n 0, 1), (159, .getfield 24, 3), (162, .getfield 239, 3), (165, .ifCond .eq 7, 3), (168, .iconst 1, 1), (169, .goto 4, 3), (172, .iconst 0, 1), (173, .ireturn, 1)]
theorem dX9_isSilentFine : dChk (pCd 5171) eX9_isSilentFine = true := by decide +kernel
def fX9_isSilentFine_125 (N : Nat) (v0 : Nat) (h : pH) : Option (Int32 × pH) :=
  (getR h v0 9 3).bind fun t1 =>
  (fX8_merge N t1 h).bind fun h2 =>
  some ((1 : Int32), h2)
theorem lX9_isSilentFine_125 (X : pX) (N d : Nat)  (v0 : Nat) (h : pH) (q : Int32 × pH) (hf : fX9_isSilentFine_125 N v0 h = some q) (nv0 : ¬ v0 = 4) : Run X (d + 4) 9 false (pCd 5171) 3 (some .boolean) 125 [(0, .ref v0)] [] h 0 0 (some (.int q.1), q.2, 0, 0) := by
  unfold fX9_isSilentFine_125 at hf
  refine r_aload_n (dGet dX9_isSilentFine (j := 39) rfl) nv0 rfl ?_
  obtain ⟨t1, et1, hf⟩ := Option.bind_eq_some_iff.mp hf
  refine r_getR (dGet dX9_isSilentFine (j := 40) rfl) F9_24 et1 ?_
  obtain ⟨h2, eh2, hf⟩ := Option.bind_eq_some_iff.mp hf
  refine r_virtual (dGet dX9_isSilentFine (j := 41) rfl) L9_233 M161 rfl rfl (Nat.le_of_ble_eq_true rfl) (oX8_merge eh2) (cX8_merge X N (d + 2) t1 h h2 eh2) ?_
  refine r_iconst (dGet dX9_isSilentFine (j := 42) rfl) kI_1 ?_
  cases hf
  exact r_iret (dGet dX9_isSilentFine (j := 43) rfl) rfl (by decide)
def fX9_isSilentFine_116 (N : Nat) (v0 : Nat) (h : pH) : Option (Int32 × pH) :=
  (getR h v0 9 3).bind fun t3 =>
  (fX8_leave N t3 h).bind fun h4 =>
  some ((1 : Int32), h4)
theorem lX9_isSilentFine_116 (X : pX) (N d : Nat)  (v0 : Nat) (h : pH) (q : Int32 × pH) (hf : fX9_isSilentFine_116 N v0 h = some q) (nv0 : ¬ v0 = 4) : Run X (d + 4) 9 false (pCd 5171) 3 (some .boolean) 116 [(0, .ref v0)] [] h 0 0 (some (.int q.1), q.2, 0, 0) := by
  unfold fX9_isSilentFine_116 at hf
  refine r_aload_n (dGet dX9_isSilentFine (j := 34) rfl) nv0 rfl ?_
  obtain ⟨t3, et3, hf⟩ := Option.bind_eq_some_iff.mp hf
  refine r_getR (dGet dX9_isSilentFine (j := 35) rfl) F9_24 et3 ?_
  obtain ⟨h4, eh4, hf⟩ := Option.bind_eq_some_iff.mp hf
  refine r_virtual (dGet dX9_isSilentFine (j := 36) rfl) L9_230 M160 rfl rfl (Nat.le_of_ble_eq_true rfl) (oX8_leave eh4) (cX8_leave X N (d + 1) t3 h h4 eh4) ?_
  refine r_iconst (dGet dX9_isSilentFine (j := 37) rfl) kI_1 ?_
  cases hf
  exact r_iret (dGet dX9_isSilentFine (j := 38) rfl) rfl (by decide)
def fX9_isSilentFine (N : Nat) (v0 : Nat) (v1 : Int32) (v2 : Int32) (h : pH) : Option (Int32 × pH) := if isO h v0 9 = true then (
  if v2 = 50 then (
  (getI h v0 9 7).bind fun t16 =>
  (fX9_push N v0 t16 h).bind fun q17 =>
  if pRet .boolean q17.1 = true then some (q17.1, q17.2) else none) else
  if v2 = 51 then (
  (fX9_pop N v0 h).bind fun q19 =>
  if q19.1 = (-2 : Int32) then (
  (fX9_push N v0 (-2 : Int32) q19.2).bind fun q21 =>
  if q21.1 = 0 then (
  some ((0 : Int32), q21.2)) else (
  some ((1 : Int32), q21.2))) else (
  some ((0 : Int32), q19.2))) else
  if v2 = 52 then (
  (fX9_pop N v0 h).bind fun q23 =>
  some ((1 : Int32), q23.2)) else
  if v2 = 53 then (
  (fX9_tell N v0 v1 (0 : Int32) h).bind fun q24 =>
  if pRet .boolean q24.1 = true then some (q24.1, q24.2) else none) else
  if v2 = 54 then (
  (getR h v0 9 3).bind fun t26 =>
  (fX8_turn N t26 h).bind fun h27 =>
  some ((1 : Int32), h27)) else
  if v2 = 55 then (
  fX9_isSilentFine_116 N v0 h) else
  if v2 = 56 then (
  fX9_isSilentFine_125 N v0 h) else
  if v2 = 57 then (
  fX9_isSilentFine_116 N v0 h) else
  if v2 = 58 then (
  (getR h v0 9 3).bind fun t28 =>
  (fX8_open N t28 h).bind fun h29 =>
  some ((1 : Int32), h29)) else
  if v2 = 59 then (
  (fX9_isCatchFine N v0 v1 h).bind fun q30 =>
  if pRet .boolean q30.1 = true then some (q30.1, q30.2) else none) else
  if v2 = 60 then (
  fX9_isSilentFine_125 N v0 h) else
  (getI h v0 9 8).bind fun t32 =>
  if t32 = (-4 : Int32) then (
  some ((1 : Int32), h)) else (
  (getR h v0 9 3).bind fun t34 =>
  (getI h t34 8 5).bind fun t35 =>
  if t35 = 0 then (
  some ((0 : Int32), h)) else (
  some ((1 : Int32), h)))) else none
theorem oX9_isSilentFine {N : Nat} {v0 : Nat} {v1 : Int32} {v2 : Int32} {h : pH} {q : Int32 × pH} (hf : fX9_isSilentFine N v0 v1 v2 h = some q) : isO h v0 9 = true := by
  unfold fX9_isSilentFine at hf
  by_cases hc : isO h v0 9 = true
  · exact hc
  · rw [if_neg hc] at hf; cases hf
theorem cX9_isSilentFine (X : pX) (N d : Nat) (v0 : Nat) (v1 : Int32) (v2 : Int32) (h : pH) (q : Int32 × pH) (hf : fX9_isSilentFine N v0 v1 v2 h = some q) : Calls X (d + 4) 157 [.ref v0, .int v1, .int v2] h (some (.int q.1), q.2, 0, 0) := by
  refine Calls.of M157 (Nat.le_of_ble_eq_true rfl) ?_
  show Run X (d + 4) 9 false (pCd 5171) 3 (some .boolean) 0 [(0, .ref v0), (1, .int v1), (2, .int v2)] [] h 0 0 (some (.int q.1), q.2, 0, 0)
  unfold fX9_isSilentFine at hf
  by_cases hc : isO h v0 9 = true
  · rw [if_pos hc] at hf
    have nv0 : ¬ v0 = 4 := isO_ne hc
    refine r_iload_n (dGet dX9_isSilentFine (j := 0) rfl) rfl ?_
    by_cases c5 : v2 = 50
    · rw [if_pos c5] at hf
      refine r_table (off := 59) (dGet dX9_isSilentFine (j := 1) rfl) (by rw [c5]; decide) rfl ?_
      refine r_aload_n (dGet dX9_isSilentFine (j := 2) rfl) nv0 rfl ?_
      refine r_aload_n (dGet dX9_isSilentFine (j := 3) rfl) nv0 rfl ?_
      obtain ⟨t16, et16, hf⟩ := Option.bind_eq_some_iff.mp hf
      refine r_getI (dGet dX9_isSilentFine (j := 4) rfl) F9_89 et16 ?_
      obtain ⟨q17, eq17, hf⟩ := Option.bind_eq_some_iff.mp hf
      refine r_virtual (dGet dX9_isSilentFine (j := 5) rfl) L9_143 M133 rfl rfl (Nat.le_of_ble_eq_true rfl) (oX9_push eq17) (cX9_push X N (d + 2) v0 t16 h q17 eq17) ?_
      by_cases c18 : pRet .boolean q17.1 = true
      · rw [if_pos c18] at hf
        cases hf
        exact r_iret (dGet dX9_isSilentFine (j := 6) rfl) rfl c18
      · rw [if_neg c18] at hf; cases hf
    rw [if_neg c5] at hf
    by_cases c6 : v2 = 51
    · rw [if_pos c6] at hf
      refine r_table (off := 68) (dGet dX9_isSilentFine (j := 1) rfl) (by rw [c6]; decide) rfl ?_
      refine r_aload_n (dGet dX9_isSilentFine (j := 7) rfl) nv0 rfl ?_
      obtain ⟨q19, eq19, hf⟩ := Option.bind_eq_some_iff.mp hf
      refine r_virtual (dGet dX9_isSilentFine (j := 8) rfl) L9_173 M140 rfl rfl (Nat.le_of_ble_eq_true rfl) (oX9_pop eq19) (cX9_pop X N (d + 3) v0 h q19 eq19) ?_
      refine r_bipush (dGet dX9_isSilentFine (j := 9) rfl) kB_m2 ?_
      by_cases c20 : q19.1 = (-2 : Int32)
      · rw [if_pos c20] at hf
        refine r_icmp_ne_f (dGet dX9_isSilentFine (j := 10) rfl) rfl c20 ?_
        refine r_aload_n (dGet dX9_isSilentFine (j := 11) rfl) nv0 rfl ?_
        refine r_bipush (dGet dX9_isSilentFine (j := 12) rfl) kB_m2 ?_
        obtain ⟨q21, eq21, hf⟩ := Option.bind_eq_some_iff.mp hf
        refine r_virtual (dGet dX9_isSilentFine (j := 13) rfl) L9_143 M133 rfl rfl (Nat.le_of_ble_eq_true rfl) (oX9_push eq21) (cX9_push X N (d + 2) v0 (-2 : Int32) q19.2 q21 eq21) ?_
        by_cases c22 : q21.1 = 0
        · rw [if_pos c22] at hf
          refine r_if_eq_t (dGet dX9_isSilentFine (j := 14) rfl) rfl c22 ?_
          refine r_iconst (dGet dX9_isSilentFine (j := 17) rfl) kI_0 ?_
          cases hf
          exact r_iret (dGet dX9_isSilentFine (j := 18) rfl) rfl (by decide)
        · rw [if_neg c22] at hf
          refine r_if_eq_f (dGet dX9_isSilentFine (j := 14) rfl) rfl c22 ?_
          refine r_iconst (dGet dX9_isSilentFine (j := 15) rfl) kI_1 ?_
          refine r_goto (dGet dX9_isSilentFine (j := 16) rfl) rfl ?_
          cases hf
          exact r_iret (dGet dX9_isSilentFine (j := 18) rfl) rfl (by decide)
      · rw [if_neg c20] at hf
        refine r_icmp_ne_t (dGet dX9_isSilentFine (j := 10) rfl) rfl c20 ?_
        refine r_iconst (dGet dX9_isSilentFine (j := 17) rfl) kI_0 ?_
        cases hf
        exact r_iret (dGet dX9_isSilentFine (j := 18) rfl) rfl (by decide)
    rw [if_neg c6] at hf
    by_cases c7 : v2 = 52
    · rw [if_pos c7] at hf
      refine r_table (off := 92) (dGet dX9_isSilentFine (j := 1) rfl) (by rw [c7]; decide) rfl ?_
      refine r_aload_n (dGet dX9_isSilentFine (j := 19) rfl) nv0 rfl ?_
      obtain ⟨q23, eq23, hf⟩ := Option.bind_eq_some_iff.mp hf
      refine r_virtual (dGet dX9_isSilentFine (j := 20) rfl) L9_173 M140 rfl rfl (Nat.le_of_ble_eq_true rfl) (oX9_pop eq23) (cX9_pop X N (d + 3) v0 h q23 eq23) ?_
      refine r_pop (dGet dX9_isSilentFine (j := 21) rfl) rfl ?_
      refine r_iconst (dGet dX9_isSilentFine (j := 22) rfl) kI_1 ?_
      cases hf
      exact r_iret (dGet dX9_isSilentFine (j := 23) rfl) rfl (by decide)
    rw [if_neg c7] at hf
    by_cases c8 : v2 = 53
    · rw [if_pos c8] at hf
      refine r_table (off := 99) (dGet dX9_isSilentFine (j := 1) rfl) (by rw [c8]; decide) rfl ?_
      refine r_aload_n (dGet dX9_isSilentFine (j := 24) rfl) nv0 rfl ?_
      refine r_iload_n (dGet dX9_isSilentFine (j := 25) rfl) rfl ?_
      refine r_iconst (dGet dX9_isSilentFine (j := 26) rfl) kI_0 ?_
      obtain ⟨q24, eq24, hf⟩ := Option.bind_eq_some_iff.mp hf
      refine r_virtual (dGet dX9_isSilentFine (j := 27) rfl) L9_210 M153 rfl rfl (Nat.le_of_ble_eq_true rfl) (oX9_tell eq24) (cX9_tell X N (d + 1) v0 v1 (0 : Int32) h q24 eq24) ?_
      by_cases c25 : pRet .boolean q24.1 = true
      · rw [if_pos c25] at hf
        cases hf
        exact r_iret (dGet dX9_isSilentFine (j := 28) rfl) rfl c25
      · rw [if_neg c25] at hf; cases hf
    rw [if_neg c8] at hf
    by_cases c9 : v2 = 54
    · rw [if_pos c9] at hf
      refine r_table (off := 106) (dGet dX9_isSilentFine (j := 1) rfl) (by rw [c9]; decide) rfl ?_
      refine r_aload_n (dGet dX9_isSilentFine (j := 29) rfl) nv0 rfl ?_
      obtain ⟨t26, et26, hf⟩ := Option.bind_eq_some_iff.mp hf
      refine r_getR (dGet dX9_isSilentFine (j := 30) rfl) F9_24 et26 ?_
      obtain ⟨h27, eh27, hf⟩ := Option.bind_eq_some_iff.mp hf
      refine r_virtual (dGet dX9_isSilentFine (j := 31) rfl) L9_227 M158 rfl rfl (Nat.le_of_ble_eq_true rfl) (oX8_turn eh27) (cX8_turn X N (d + 1) t26 h h27 eh27) ?_
      refine r_iconst (dGet dX9_isSilentFine (j := 32) rfl) kI_1 ?_
      cases hf
      exact r_iret (dGet dX9_isSilentFine (j := 33) rfl) rfl (by decide)
    rw [if_neg c9] at hf
    by_cases c10 : v2 = 55
    · rw [if_pos c10] at hf
      refine r_table (off := 115) (dGet dX9_isSilentFine (j := 1) rfl) (by rw [c10]; decide) rfl ?_
      refine Run.weak [(0, .ref v0)] (by simp) (by simp [pNd]) ?_
      exact lX9_isSilentFine_116 X N d v0 h q hf nv0
    rw [if_neg c10] at hf
    by_cases c11 : v2 = 56
    · rw [if_pos c11] at hf
      refine r_table (off := 124) (dGet dX9_isSilentFine (j := 1) rfl) (by rw [c11]; decide) rfl ?_
      refine Run.weak [(0, .ref v0)] (by simp) (by simp [pNd]) ?_
      exact lX9_isSilentFine_125 X N d v0 h q hf nv0
    rw [if_neg c11] at hf
    by_cases c12 : v2 = 57
    · rw [if_pos c12] at hf
      refine r_table (off := 115) (dGet dX9_isSilentFine (j := 1) rfl) (by rw [c12]; decide) rfl ?_
      refine Run.weak [(0, .ref v0)] (by simp) (by simp [pNd]) ?_
      exact lX9_isSilentFine_116 X N d v0 h q hf nv0
    rw [if_neg c12] at hf
    by_cases c13 : v2 = 58
    · rw [if_pos c13] at hf
      refine r_table (off := 133) (dGet dX9_isSilentFine (j := 1) rfl) (by rw [c13]; decide) rfl ?_
      refine r_aload_n (dGet dX9_isSilentFine (j := 44) rfl) nv0 rfl ?_
      obtain ⟨t28, et28, hf⟩ := Option.bind_eq_some_iff.mp hf
      refine r_getR (dGet dX9_isSilentFine (j := 45) rfl) F9_24 et28 ?_
      obtain ⟨h29, eh29, hf⟩ := Option.bind_eq_some_iff.mp hf
      refine r_virtual (dGet dX9_isSilentFine (j := 46) rfl) L9_221 M155 rfl rfl (Nat.le_of_ble_eq_true rfl) (oX8_open eh29) (cX8_open X N (d + 2) t28 h h29 eh29) ?_
      refine r_iconst (dGet dX9_isSilentFine (j := 47) rfl) kI_1 ?_
      cases hf
      exact r_iret (dGet dX9_isSilentFine (j := 48) rfl) rfl (by decide)
    rw [if_neg c13] at hf
    by_cases c14 : v2 = 59
    · rw [if_pos c14] at hf
      refine r_table (off := 142) (dGet dX9_isSilentFine (j := 1) rfl) (by rw [c14]; decide) rfl ?_
      refine r_aload_n (dGet dX9_isSilentFine (j := 49) rfl) nv0 rfl ?_
      refine r_iload_n (dGet dX9_isSilentFine (j := 50) rfl) rfl ?_
      obtain ⟨q30, eq30, hf⟩ := Option.bind_eq_some_iff.mp hf
      refine r_virtual (dGet dX9_isSilentFine (j := 51) rfl) L9_236 M162 rfl rfl (Nat.le_of_ble_eq_true rfl) (oX9_isCatchFine eq30) (cX9_isCatchFine X N (d + 0) v0 v1 h q30 eq30) ?_
      by_cases c31 : pRet .boolean q30.1 = true
      · rw [if_pos c31] at hf
        cases hf
        exact r_iret (dGet dX9_isSilentFine (j := 52) rfl) rfl c31
      · rw [if_neg c31] at hf; cases hf
    rw [if_neg c14] at hf
    by_cases c15 : v2 = 60
    · rw [if_pos c15] at hf
      refine r_table (off := 124) (dGet dX9_isSilentFine (j := 1) rfl) (by rw [c15]; decide) rfl ?_
      refine Run.weak [(0, .ref v0)] (by simp) (by simp [pNd]) ?_
      exact lX9_isSilentFine_125 X N d v0 h q hf nv0
    rw [if_neg c15] at hf
    refine r_table (dGet dX9_isSilentFine (j := 1) rfl) (pTable_out (cs := [50, 51, 52, 53, 54, 55, 56, 57, 58, 59, 60]) (by decide) (by decide) (by decide) (List.forall_mem_cons.mpr ⟨c5, List.forall_mem_cons.mpr ⟨c6, List.forall_mem_cons.mpr ⟨c7, List.forall_mem_cons.mpr ⟨c8, List.forall_mem_cons.mpr ⟨c9, List.forall_mem_cons.mpr ⟨c10, List.forall_mem_cons.mpr ⟨c11, List.forall_mem_cons.mpr ⟨c12, List.forall_mem_cons.mpr ⟨c13, List.forall_mem_cons.mpr ⟨c14, List.forall_mem_cons.mpr ⟨c15, fun _ h => absurd h List.not_mem_nil⟩⟩⟩⟩⟩⟩⟩⟩⟩⟩⟩)) rfl ?_
    refine r_aload_n (dGet dX9_isSilentFine (j := 53) rfl) nv0 rfl ?_
    obtain ⟨t32, et32, hf⟩ := Option.bind_eq_some_iff.mp hf
    refine r_getI (dGet dX9_isSilentFine (j := 54) rfl) F9_95 et32 ?_
    refine r_bipush (dGet dX9_isSilentFine (j := 55) rfl) kB_m4 ?_
    by_cases c33 : t32 = (-4 : Int32)
    · rw [if_pos c33] at hf
      refine r_icmp_eq_t (dGet dX9_isSilentFine (j := 56) rfl) rfl c33 ?_
      refine r_iconst (dGet dX9_isSilentFine (j := 61) rfl) kI_1 ?_
      refine r_goto (dGet dX9_isSilentFine (j := 62) rfl) rfl ?_
      cases hf
      exact r_iret (dGet dX9_isSilentFine (j := 64) rfl) rfl (by decide)
    · rw [if_neg c33] at hf
      refine r_icmp_eq_f (dGet dX9_isSilentFine (j := 56) rfl) rfl c33 ?_
      refine r_aload_n (dGet dX9_isSilentFine (j := 57) rfl) nv0 rfl ?_
      obtain ⟨t34, et34, hf⟩ := Option.bind_eq_some_iff.mp hf
      refine r_getR (dGet dX9_isSilentFine (j := 58) rfl) F9_24 et34 ?_
      obtain ⟨t35, et35, hf⟩ := Option.bind_eq_some_iff.mp hf
      refine r_getI (dGet dX9_isSilentFine (j := 59) rfl) F9_239 et35 ?_
      by_cases c36 : t35 = 0
      · rw [if_pos c36] at hf
        refine r_if_eq_t (dGet dX9_isSilentFine (j := 60) rfl) rfl c36 ?_
        refine r_iconst (dGet dX9_isSilentFine (j := 63) rfl) kI_0 ?_
        cases hf
        exact r_iret (dGet dX9_isSilentFine (j := 64) rfl) rfl (by decide)
      · rw [if_neg c36] at hf
        refine r_if_eq_f (dGet dX9_isSilentFine (j := 60) rfl) rfl c36 ?_
        refine r_iconst (dGet dX9_isSilentFine (j := 61) rfl) kI_1 ?_
        refine r_goto (dGet dX9_isSilentFine (j := 62) rfl) rfl ?_
        cases hf
        exact r_iret (dGet dX9_isSilentFine (j := 64) rfl) rfl (by decide)
  · rw [if_neg hc] at hf; cases hf
def eX9_isNameFine : List (Nat × Instr × Nat) := [(0, .aload_n 0, 1), (1, .getfield 24, 3), (4, .aload_n 0, 1), (5, .getfield 17, 3), (8, .getfield 149, 3), (11, .iload_n 1, 1), (12, .iaload, 1), (13, .invokevirtual 152, 3), (16, .istore_n 2, 1), (17, .iload_n 2, 1), (18, .iconst (-1), 1), (19, .if_icmp .ne 19, 3), (22, .aload_n 0, 1), (23, .aload_n 0, 1), (24, .iload_n 1, 1), (25, .aload_n 0, 1), (26, .getfield 89, 3), (29, .bipush 8, 2), (31, .invokevirtual 155, 3), (34, .invokevirtual 143, 3), (37, .ireturn, 1), (38, .aload_n 0, 1), (39, .getfield 17, 3), (42, .getfield 67, 3), (45, .iload_n 1, 1), (46, .bipush 7, 2), (48, .iastore, 1), (49, .aload_n 0, 1), (50, .getfield 17, 3), (53, .getfield 149, 3), (56, .iload_n 1, 1), (57, .iload_n 2, 1), (58, .iastore, 1), (59, .aload_n 0, 1), (60, .getfield 24, 3), (63, .iload_n 2, 1), (64, .invokevirtual 159, 3), (67, .ifCond .eq 23, 3), (70, .aload_n 0, 1), (71, .aload_n 0, 1), (72, .getfield 24, 3), (75, .getfield 162, 3), (78, .iload_n 2, 1), (79, .iaload, 1), (80, .invokevirtual 143, 3), (83, .ifCond .eq 7, 3), (86, .iconst 1, 1), (87, .goto 4, 3), (90, .iconst 0, 1), (91, .ireturn, 1)]
theorem dX9_isNameFine : dChk (pCd 5075) eX9_isNameFine = true := by decide +kernel
def fX9_isNameFine (N : Nat) (v0 : Nat) (v1 : Int32) (h : pH) : Option (Int32 × pH) := if isO h v0 9 = true then (
  (getR h v0 9 3).bind fun t1 =>
  (getR h v0 9 2).bind fun t2 =>
  (getR h t2 2 1).bind fun t3 =>
  (ldI h t3 v1).bind fun t4 =>
  (fX8_find N t1 t4 h).bind fun q5 =>
  if q5.1 = (-1 : Int32) then (
  (getI q5.2 v0 9 7).bind fun t21 =>
  (fX9_fieldType N v0 v1 t21 (8 : Int32) q5.2).bind fun q22 =>
  (fX9_push N v0 q22.1 q22.2).bind fun q23 =>
  if pRet .boolean q23.1 = true then some (q23.1, q23.2) else none) else (
  (getR q5.2 v0 9 2).bind fun t7 =>
  (getR q5.2 t7 2 0).bind fun t8 =>
  (stI q5.2 t8 v1 (7 : Int32)).bind fun h9 =>
  (getR h9 v0 9 2).bind fun t10 =>
  (getR h9 t10 2 1).bind fun t11 =>
  (stI h9 t11 v1 q5.1).bind fun h12 =>
  (getR h12 v0 9 3).bind fun t13 =>
  (fX8_isSet N t13 q5.1 h12).bind fun q14 =>
  if q14.1 = 0 then (
  some ((0 : Int32), q14.2)) else (
  (getR q14.2 v0 9 3).bind fun t16 =>
  (getR q14.2 t16 8 1).bind fun t17 =>
  (ldI q14.2 t17 q5.1).bind fun t18 =>
  (fX9_push N v0 t18 q14.2).bind fun q19 =>
  if q19.1 = 0 then (
  some ((0 : Int32), q19.2)) else (
  some ((1 : Int32), q19.2))))) else none
theorem oX9_isNameFine {N : Nat} {v0 : Nat} {v1 : Int32} {h : pH} {q : Int32 × pH} (hf : fX9_isNameFine N v0 v1 h = some q) : isO h v0 9 = true := by
  unfold fX9_isNameFine at hf
  by_cases hc : isO h v0 9 = true
  · exact hc
  · rw [if_neg hc] at hf; cases hf
theorem cX9_isNameFine (X : pX) (N d : Nat) (v0 : Nat) (v1 : Int32) (h : pH) (q : Int32 × pH) (hf : fX9_isNameFine N v0 v1 h = some q) : Calls X (d + 3) 134 [.ref v0, .int v1] h (some (.int q.1), q.2, 0, 0) := by
  refine Calls.of M134 (Nat.le_of_ble_eq_true rfl) ?_
  show Run X (d + 3) 9 false (pCd 5075) 3 (some .boolean) 0 [(0, .ref v0), (1, .int v1)] [] h 0 0 (some (.int q.1), q.2, 0, 0)
  unfold fX9_isNameFine at hf
  by_cases hc : isO h v0 9 = true
  · rw [if_pos hc] at hf
    have nv0 : ¬ v0 = 4 := isO_ne hc
    refine r_aload_n (dGet dX9_isNameFine (j := 0) rfl) nv0 rfl ?_
    obtain ⟨t1, et1, hf⟩ := Option.bind_eq_some_iff.mp hf
    refine r_getR (dGet dX9_isNameFine (j := 1) rfl) F9_24 et1 ?_
    refine r_aload_n (dGet dX9_isNameFine (j := 2) rfl) nv0 rfl ?_
    obtain ⟨t2, et2, hf⟩ := Option.bind_eq_some_iff.mp hf
    refine r_getR (dGet dX9_isNameFine (j := 3) rfl) F9_17 et2 ?_
    obtain ⟨t3, et3, hf⟩ := Option.bind_eq_some_iff.mp hf
    refine r_getR (dGet dX9_isNameFine (j := 4) rfl) F9_149 et3 ?_
    refine r_iload_n (dGet dX9_isNameFine (j := 5) rfl) rfl ?_
    obtain ⟨t4, et4, hf⟩ := Option.bind_eq_some_iff.mp hf
    refine r_iald (dGet dX9_isNameFine (j := 6) rfl) et4 ?_
    obtain ⟨q5, eq5, hf⟩ := Option.bind_eq_some_iff.mp hf
    refine r_virtual (dGet dX9_isNameFine (j := 7) rfl) L9_152 M135 rfl rfl (Nat.le_of_ble_eq_true rfl) (oX8_find eq5) (cX8_find X N (d + 2) t1 t4 h q5 eq5) ?_
    refine r_istore_n (lv' := [(2, .int q5.1), (0, .ref v0), (1, .int v1)]) (dGet dX9_isNameFine (j := 8) rfl) (by decide) rfl ?_
    refine r_iload_n (dGet dX9_isNameFine (j := 9) rfl) rfl ?_
    refine r_iconst (dGet dX9_isNameFine (j := 10) rfl) kI_m1 ?_
    by_cases c6 : q5.1 = (-1 : Int32)
    · rw [if_pos c6] at hf
      refine r_icmp_ne_f (dGet dX9_isNameFine (j := 11) rfl) rfl c6 ?_
      refine r_aload_n (dGet dX9_isNameFine (j := 12) rfl) nv0 rfl ?_
      refine r_aload_n (dGet dX9_isNameFine (j := 13) rfl) nv0 rfl ?_
      refine r_iload_n (dGet dX9_isNameFine (j := 14) rfl) rfl ?_
      refine r_aload_n (dGet dX9_isNameFine (j := 15) rfl) nv0 rfl ?_
      obtain ⟨t21, et21, hf⟩ := Option.bind_eq_some_iff.mp hf
      refine r_getI (dGet dX9_isNameFine (j := 16) rfl) F9_89 et21 ?_
      refine r_bipush (dGet dX9_isNameFine (j := 17) rfl) kB_8 ?_
      obtain ⟨q22, eq22, hf⟩ := Option.bind_eq_some_iff.mp hf
      refine r_virtual (dGet dX9_isNameFine (j := 18) rfl) L9_155 M136 rfl rfl (Nat.le_of_ble_eq_true rfl) (oX9_fieldType eq22) (cX9_fieldType X N (d + 0) v0 v1 t21 (8 : Int32) q5.2 q22 eq22) ?_
      obtain ⟨q23, eq23, hf⟩ := Option.bind_eq_some_iff.mp hf
      refine r_virtual (dGet dX9_isNameFine (j := 19) rfl) L9_143 M133 rfl rfl (Nat.le_of_ble_eq_true rfl) (oX9_push eq23) (cX9_push X N (d + 1) v0 q22.1 q22.2 q23 eq23) ?_
      by_cases c24 : pRet .boolean q23.1 = true
      · rw [if_pos c24] at hf
        cases hf
        exact r_iret (dGet dX9_isNameFine (j := 20) rfl) rfl c24
      · rw [if_neg c24] at hf; cases hf
    · rw [if_neg c6] at hf
      refine r_icmp_ne_t (dGet dX9_isNameFine (j := 11) rfl) rfl c6 ?_
      refine r_aload_n (dGet dX9_isNameFine (j := 21) rfl) nv0 rfl ?_
      obtain ⟨t7, et7, hf⟩ := Option.bind_eq_some_iff.mp hf
      refine r_getR (dGet dX9_isNameFine (j := 22) rfl) F9_17 et7 ?_
      obtain ⟨t8, et8, hf⟩ := Option.bind_eq_some_iff.mp hf
      refine r_getR (dGet dX9_isNameFine (j := 23) rfl) F9_67 et8 ?_
      refine r_iload_n (dGet dX9_isNameFine (j := 24) rfl) rfl ?_
      refine r_bipush (dGet dX9_isNameFine (j := 25) rfl) kB_7 ?_
      obtain ⟨h9, eh9, hf⟩ := Option.bind_eq_some_iff.mp hf
      refine r_iast (dGet dX9_isNameFine (j := 26) rfl) eh9 ?_
      refine r_aload_n (dGet dX9_isNameFine (j := 27) rfl) nv0 rfl ?_
      obtain ⟨t10, et10, hf⟩ := Option.bind_eq_some_iff.mp hf
      refine r_getR (dGet dX9_isNameFine (j := 28) rfl) F9_17 et10 ?_
      obtain ⟨t11, et11, hf⟩ := Option.bind_eq_some_iff.mp hf
      refine r_getR (dGet dX9_isNameFine (j := 29) rfl) F9_149 et11 ?_
      refine r_iload_n (dGet dX9_isNameFine (j := 30) rfl) rfl ?_
      refine r_iload_n (dGet dX9_isNameFine (j := 31) rfl) rfl ?_
      obtain ⟨h12, eh12, hf⟩ := Option.bind_eq_some_iff.mp hf
      refine r_iast (dGet dX9_isNameFine (j := 32) rfl) eh12 ?_
      refine r_aload_n (dGet dX9_isNameFine (j := 33) rfl) nv0 rfl ?_
      obtain ⟨t13, et13, hf⟩ := Option.bind_eq_some_iff.mp hf
      refine r_getR (dGet dX9_isNameFine (j := 34) rfl) F9_24 et13 ?_
      refine r_iload_n (dGet dX9_isNameFine (j := 35) rfl) rfl ?_
      obtain ⟨q14, eq14, hf⟩ := Option.bind_eq_some_iff.mp hf
      refine r_virtual (dGet dX9_isNameFine (j := 36) rfl) L9_159 M137 rfl rfl (Nat.le_of_ble_eq_true rfl) (oX8_isSet eq14) (cX8_isSet X N (d + 2) t13 q5.1 h12 q14 eq14) ?_
      by_cases c15 : q14.1 = 0
      · rw [if_pos c15] at hf
        refine r_if_eq_t (dGet dX9_isNameFine (j := 37) rfl) rfl c15 ?_
        refine r_iconst (dGet dX9_isNameFine (j := 48) rfl) kI_0 ?_
        cases hf
        exact r_iret (dGet dX9_isNameFine (j := 49) rfl) rfl (by decide)
      · rw [if_neg c15] at hf
        refine r_if_eq_f (dGet dX9_isNameFine (j := 37) rfl) rfl c15 ?_
        refine r_aload_n (dGet dX9_isNameFine (j := 38) rfl) nv0 rfl ?_
        refine r_aload_n (dGet dX9_isNameFine (j := 39) rfl) nv0 rfl ?_
        obtain ⟨t16, et16, hf⟩ := Option.bind_eq_some_iff.mp hf
        refine r_getR (dGet dX9_isNameFine (j := 40) rfl) F9_24 et16 ?_
        obtain ⟨t17, et17, hf⟩ := Option.bind_eq_some_iff.mp hf
        refine r_getR (dGet dX9_isNameFine (j := 41) rfl) F9_162 et17 ?_
        refine r_iload_n (dGet dX9_isNameFine (j := 42) rfl) rfl ?_
        obtain ⟨t18, et18, hf⟩ := Option.bind_eq_some_iff.mp hf
        refine r_iald (dGet dX9_isNameFine (j := 43) rfl) et18 ?_
        obtain ⟨q19, eq19, hf⟩ := Option.bind_eq_some_iff.mp hf
        refine r_virtual (dGet dX9_isNameFine (j := 44) rfl) L9_143 M133 rfl rfl (Nat.le_of_ble_eq_true rfl) (oX9_push eq19) (cX9_push X N (d + 1) v0 t18 q14.2 q19 eq19) ?_
        by_cases c20 : q19.1 = 0
        · rw [if_pos c20] at hf
          refine r_if_eq_t (dGet dX9_isNameFine (j := 45) rfl) rfl c20 ?_
          refine r_iconst (dGet dX9_isNameFine (j := 48) rfl) kI_0 ?_
          cases hf
          exact r_iret (dGet dX9_isNameFine (j := 49) rfl) rfl (by decide)
        · rw [if_neg c20] at hf
          refine r_if_eq_f (dGet dX9_isNameFine (j := 45) rfl) rfl c20 ?_
          refine r_iconst (dGet dX9_isNameFine (j := 46) rfl) kI_1 ?_
          refine r_goto (dGet dX9_isNameFine (j := 47) rfl) rfl ?_
          cases hf
          exact r_iret (dGet dX9_isNameFine (j := 49) rfl) rfl (by decide)
  · rw [if_neg hc] at hf; cases hf
def eX9_isValueFine : List (Nat × Instr × Nat) := [(0, .iload_n 2, 1), (1, .tableswitch 64 1 5 #[35, 41, 48, 55, 35], 35), (36, .aload_n 0, 1), (37, .iconst (-1), 1), (38, .invokevirtual 143, 3), (41, .ireturn, 1), (42, .aload_n 0, 1), (43, .bipush (-2), 2), (45, .invokevirtual 143, 3), (48, .ireturn, 1), (49, .aload_n 0, 1), (50, .bipush (-5), 2), (52, .invokevirtual 143, 3), (55, .ireturn, 1), (56, .aload_n 0, 1), (57, .aload_n 0, 1), (58, .getfield 89, 3), (61, .invokevirtual 143, 3), (64, .ireturn, 1), (65, .aload_n 0, 1), (66, .iload_n 1, 1), (67, .invokevirtual 146, 3), (70, .ireturn, 1)]
theorem dX9_isValueFine : dChk (pCd 5066) eX9_isValueFine = true := by decide +kernel
def fX9_isValueFine_36 (N : Nat) (v0 : Nat) (h : pH) : Option (Int32 × pH) :=
  (fX9_push N v0 (-1 : Int32) h).bind fun q1 =>
  if pRet .boolean q1.1 = true then some (q1.1, q1.2) else none
theorem lX9_isValueFine_36 (X : pX) (N d : Nat)  (v0 : Nat) (h : pH) (q : Int32 × pH) (hf : fX9_isValueFine_36 N v0 h = some q) (nv0 : ¬ v0 = 4) : Run X (d + 4) 9 false (pCd 5066) 3 (some .boolean) 36 [(0, .ref v0)] [] h 0 0 (some (.int q.1), q.2, 0, 0) := by
  unfold fX9_isValueFine_36 at hf
  refine r_aload_n (dGet dX9_isValueFine (j := 2) rfl) nv0 rfl ?_
  refine r_iconst (dGet dX9_isValueFine (j := 3) rfl) kI_m1 ?_
  obtain ⟨q1, eq1, hf⟩ := Option.bind_eq_some_iff.mp hf
  refine r_virtual (dGet dX9_isValueFine (j := 4) rfl) L9_143 M133 rfl rfl (Nat.le_of_ble_eq_true rfl) (oX9_push eq1) (cX9_push X N (d + 2) v0 (-1 : Int32) h q1 eq1) ?_
  by_cases c2 : pRet .boolean q1.1 = true
  · rw [if_pos c2] at hf
    cases hf
    exact r_iret (dGet dX9_isValueFine (j := 5) rfl) rfl c2
  · rw [if_neg c2] at hf; cases hf
def fX9_isValueFine (N : Nat) (v0 : Nat) (v1 : Int32) (v2 : Int32) (h : pH) : Option (Int32 × pH) := if isO h v0 9 = true then (
  if v2 = 1 then (
  fX9_isValueFine_36 N v0 h) else
  if v2 = 2 then (
  (fX9_push N v0 (-2 : Int32) h).bind fun q8 =>
  if pRet .boolean q8.1 = true then some (q8.1, q8.2) else none) else
  if v2 = 3 then (
  (fX9_push N v0 (-5 : Int32) h).bind fun q10 =>
  if pRet .boolean q10.1 = true then some (q10.1, q10.2) else none) else
  if v2 = 4 then (
  (getI h v0 9 7).bind fun t12 =>
  (fX9_push N v0 t12 h).bind fun q13 =>
  if pRet .boolean q13.1 = true then some (q13.1, q13.2) else none) else
  if v2 = 5 then (
  fX9_isValueFine_36 N v0 h) else
  (fX9_isNameFine N v0 v1 h).bind fun q15 =>
  if pRet .boolean q15.1 = true then some (q15.1, q15.2) else none) else none
theorem oX9_isValueFine {N : Nat} {v0 : Nat} {v1 : Int32} {v2 : Int32} {h : pH} {q : Int32 × pH} (hf : fX9_isValueFine N v0 v1 v2 h = some q) : isO h v0 9 = true := by
  unfold fX9_isValueFine at hf
  by_cases hc : isO h v0 9 = true
  · exact hc
  · rw [if_neg hc] at hf; cases hf
theorem cX9_isValueFine (X : pX) (N d : Nat) (v0 : Nat) (v1 : Int32) (v2 : Int32) (h : pH) (q : Int32 × pH) (hf : fX9_isValueFine N v0 v1 v2 h = some q) : Calls X (d + 4) 132 [.ref v0, .int v1, .int v2] h (some (.int q.1), q.2, 0, 0) := by
  refine Calls.of M132 (Nat.le_of_ble_eq_true rfl) ?_
  show Run X (d + 4) 9 false (pCd 5066) 3 (some .boolean) 0 [(0, .ref v0), (1, .int v1), (2, .int v2)] [] h 0 0 (some (.int q.1), q.2, 0, 0)
  unfold fX9_isValueFine at hf
  by_cases hc : isO h v0 9 = true
  · rw [if_pos hc] at hf
    have nv0 : ¬ v0 = 4 := isO_ne hc
    refine r_iload_n (dGet dX9_isValueFine (j := 0) rfl) rfl ?_
    by_cases c3 : v2 = 1
    · rw [if_pos c3] at hf
      refine r_table (off := 35) (dGet dX9_isValueFine (j := 1) rfl) (by rw [c3]; decide) rfl ?_
      refine Run.weak [(0, .ref v0)] (by simp) (by simp [pNd]) ?_
      exact lX9_isValueFine_36 X N d v0 h q hf nv0
    rw [if_neg c3] at hf
    by_cases c4 : v2 = 2
    · rw [if_pos c4] at hf
      refine r_table (off := 41) (dGet dX9_isValueFine (j := 1) rfl) (by rw [c4]; decide) rfl ?_
      refine r_aload_n (dGet dX9_isValueFine (j := 6) rfl) nv0 rfl ?_
      refine r_bipush (dGet dX9_isValueFine (j := 7) rfl) kB_m2 ?_
      obtain ⟨q8, eq8, hf⟩ := Option.bind_eq_some_iff.mp hf
      refine r_virtual (dGet dX9_isValueFine (j := 8) rfl) L9_143 M133 rfl rfl (Nat.le_of_ble_eq_true rfl) (oX9_push eq8) (cX9_push X N (d + 2) v0 (-2 : Int32) h q8 eq8) ?_
      by_cases c9 : pRet .boolean q8.1 = true
      · rw [if_pos c9] at hf
        cases hf
        exact r_iret (dGet dX9_isValueFine (j := 9) rfl) rfl c9
      · rw [if_neg c9] at hf; cases hf
    rw [if_neg c4] at hf
    by_cases c5 : v2 = 3
    · rw [if_pos c5] at hf
      refine r_table (off := 48) (dGet dX9_isValueFine (j := 1) rfl) (by rw [c5]; decide) rfl ?_
      refine r_aload_n (dGet dX9_isValueFine (j := 10) rfl) nv0 rfl ?_
      refine r_bipush (dGet dX9_isValueFine (j := 11) rfl) kB_m5 ?_
      obtain ⟨q10, eq10, hf⟩ := Option.bind_eq_some_iff.mp hf
      refine r_virtual (dGet dX9_isValueFine (j := 12) rfl) L9_143 M133 rfl rfl (Nat.le_of_ble_eq_true rfl) (oX9_push eq10) (cX9_push X N (d + 2) v0 (-5 : Int32) h q10 eq10) ?_
      by_cases c11 : pRet .boolean q10.1 = true
      · rw [if_pos c11] at hf
        cases hf
        exact r_iret (dGet dX9_isValueFine (j := 13) rfl) rfl c11
      · rw [if_neg c11] at hf; cases hf
    rw [if_neg c5] at hf
    by_cases c6 : v2 = 4
    · rw [if_pos c6] at hf
      refine r_table (off := 55) (dGet dX9_isValueFine (j := 1) rfl) (by rw [c6]; decide) rfl ?_
      refine r_aload_n (dGet dX9_isValueFine (j := 14) rfl) nv0 rfl ?_
      refine r_aload_n (dGet dX9_isValueFine (j := 15) rfl) nv0 rfl ?_
      obtain ⟨t12, et12, hf⟩ := Option.bind_eq_some_iff.mp hf
      refine r_getI (dGet dX9_isValueFine (j := 16) rfl) F9_89 et12 ?_
      obtain ⟨q13, eq13, hf⟩ := Option.bind_eq_some_iff.mp hf
      refine r_virtual (dGet dX9_isValueFine (j := 17) rfl) L9_143 M133 rfl rfl (Nat.le_of_ble_eq_true rfl) (oX9_push eq13) (cX9_push X N (d + 2) v0 t12 h q13 eq13) ?_
      by_cases c14 : pRet .boolean q13.1 = true
      · rw [if_pos c14] at hf
        cases hf
        exact r_iret (dGet dX9_isValueFine (j := 18) rfl) rfl c14
      · rw [if_neg c14] at hf; cases hf
    rw [if_neg c6] at hf
    by_cases c7 : v2 = 5
    · rw [if_pos c7] at hf
      refine r_table (off := 35) (dGet dX9_isValueFine (j := 1) rfl) (by rw [c7]; decide) rfl ?_
      refine Run.weak [(0, .ref v0)] (by simp) (by simp [pNd]) ?_
      exact lX9_isValueFine_36 X N d v0 h q hf nv0
    rw [if_neg c7] at hf
    refine r_table (dGet dX9_isValueFine (j := 1) rfl) (pTable_out (cs := [1, 2, 3, 4, 5]) (by decide) (by decide) (by decide) (List.forall_mem_cons.mpr ⟨c3, List.forall_mem_cons.mpr ⟨c4, List.forall_mem_cons.mpr ⟨c5, List.forall_mem_cons.mpr ⟨c6, List.forall_mem_cons.mpr ⟨c7, fun _ h => absurd h List.not_mem_nil⟩⟩⟩⟩⟩)) rfl ?_
    refine r_aload_n (dGet dX9_isValueFine (j := 19) rfl) nv0 rfl ?_
    refine r_iload_n (dGet dX9_isValueFine (j := 20) rfl) rfl ?_
    obtain ⟨q15, eq15, hf⟩ := Option.bind_eq_some_iff.mp hf
    refine r_virtual (dGet dX9_isValueFine (j := 21) rfl) L9_146 M134 rfl rfl (Nat.le_of_ble_eq_true rfl) (oX9_isNameFine eq15) (cX9_isNameFine X N (d + 0) v0 v1 h q15 eq15) ?_
    by_cases c16 : pRet .boolean q15.1 = true
    · rw [if_pos c16] at hf
      cases hf
      exact r_iret (dGet dX9_isValueFine (j := 22) rfl) rfl c16
    · rw [if_neg c16] at hf; cases hf
  · rw [if_neg hc] at hf; cases hf
def eX9_isWorkFine : List (Nat × Instr × Nat) := [(0, .iload_n 1, 1), (1, .tableswitch 139 38 42 #[35, 35, 57, 79, 119], 35), (36, .aload_n 0, 1), (37, .getfield 24, 3), (40, .invokevirtual 221, 3), (43, .aload_n 0, 1), (44, .invokevirtual 173, 3), (47, .bipush (-2), 2), (49, .if_icmp .ne 7, 3), (52, .iconst 1, 1), (53, .goto 4, 3), (56, .iconst 0, 1), (57, .ireturn, 1), (58, .aload_n 0, 1), (59, .getfield 24, 3), (62, .invokevirtual 224, 3), (65, .aload_n 0, 1), (66, .getfield 95, 3), (69, .bipush (-4), 2), (71, .if_icmp .ne 7, 3), (74, .iconst 1, 1), (75, .goto 4, 3), (78, .iconst 0, 1), (79, .ireturn, 1), (80, .aload_n 0, 1), (81, .getfield 24, 3), (84, .invokevirtual 224, 3), (87, .aload_n 0, 1), (88, .getfield 95, 3), (91, .bipush (-4), 2), (93, .if_icmp .eq 25, 3), (96, .aload_n 0, 1), (97, .getfield 7, 3), (100, .aload_n 0, 1), (101, .invokevirtual 173, 3), (104, .aload_n 0, 1), (105, .getfield 95, 3), (108, .invokevirtual 195, 3), (111, .ifCond .eq 7, 3), (114, .iconst 1, 1), (115, .goto 4, 3), (118, .iconst 0, 1), (119, .ireturn, 1), (120, .aload_n 0, 1), (121, .getfield 24, 3), (124, .invokevirtual 224, 3), (127, .aload_n 0, 1), (128, .invokevirtual 173, 3), (131, .ifCond .lt 7, 3), (134, .iconst 1, 1), (135, .goto 4, 3), (138, .iconst 0, 1), (139, .ireturn, 1), (140, .aload_n 0, 1), (141, .invokevirtual 173, 3), (144, .istore_n 2, 1), (145, .iload_n 2, 1), (146, .iconst (-1), 1), (147, .if_icmp .eq 9, 3), (150, .iload_n 2, 1), (151, .bipush (-2), 2), (153, .if_icmp .ne 7, 3), (156, .iconst 1, 1), (157, .goto 4, 3), (160, .iconst 0, 1), (161, .ireturn, 1)]
theorem dX9_isWorkFine : dChk (pCd 5156) eX9_isWorkFine = true := by decide +kernel
def fX9_isWorkFine_36 (N : Nat) (v0 : Nat) (h : pH) : Option (Int32 × pH) :=
  (getR h v0 9 3).bind fun t1 =>
  (fX8_open N t1 h).bind fun h2 =>
  (fX9_pop N v0 h2).bind fun q3 =>
  if q3.1 = (-2 : Int32) then (
  some ((1 : Int32), q3.2)) else (
  some ((0 : Int32), q3.2))
theorem lX9_isWorkFine_36 (X : pX) (N d : Nat)  (v0 : Nat) (h : pH) (q : Int32 × pH) (hf : fX9_isWorkFine_36 N v0 h = some q) (nv0 : ¬ v0 = 4) : Run X (d + 2) 9 false (pCd 5156) 3 (some .boolean) 36 [(0, .ref v0)] [] h 0 0 (some (.int q.1), q.2, 0, 0) := by
  unfold fX9_isWorkFine_36 at hf
  refine r_aload_n (dGet dX9_isWorkFine (j := 2) rfl) nv0 rfl ?_
  obtain ⟨t1, et1, hf⟩ := Option.bind_eq_some_iff.mp hf
  refine r_getR (dGet dX9_isWorkFine (j := 3) rfl) F9_24 et1 ?_
  obtain ⟨h2, eh2, hf⟩ := Option.bind_eq_some_iff.mp hf
  refine r_virtual (dGet dX9_isWorkFine (j := 4) rfl) L9_221 M155 rfl rfl (Nat.le_of_ble_eq_true rfl) (oX8_open eh2) (cX8_open X N (d + 0) t1 h h2 eh2) ?_
  refine r_aload_n (dGet dX9_isWorkFine (j := 5) rfl) nv0 rfl ?_
  obtain ⟨q3, eq3, hf⟩ := Option.bind_eq_some_iff.mp hf
  refine r_virtual (dGet dX9_isWorkFine (j := 6) rfl) L9_173 M140 rfl rfl (Nat.le_of_ble_eq_true rfl) (oX9_pop eq3) (cX9_pop X N (d + 1) v0 h2 q3 eq3) ?_
  refine r_bipush (dGet dX9_isWorkFine (j := 7) rfl) kB_m2 ?_
  by_cases c4 : q3.1 = (-2 : Int32)
  · rw [if_pos c4] at hf
    refine r_icmp_ne_f (dGet dX9_isWorkFine (j := 8) rfl) rfl c4 ?_
    refine r_iconst (dGet dX9_isWorkFine (j := 9) rfl) kI_1 ?_
    refine r_goto (dGet dX9_isWorkFine (j := 10) rfl) rfl ?_
    cases hf
    exact r_iret (dGet dX9_isWorkFine (j := 12) rfl) rfl (by decide)
  · rw [if_neg c4] at hf
    refine r_icmp_ne_t (dGet dX9_isWorkFine (j := 8) rfl) rfl c4 ?_
    refine r_iconst (dGet dX9_isWorkFine (j := 11) rfl) kI_0 ?_
    cases hf
    exact r_iret (dGet dX9_isWorkFine (j := 12) rfl) rfl (by decide)
def fX9_isWorkFine (N : Nat) (v0 : Nat) (v1 : Int32) (h : pH) : Option (Int32 × pH) := if isO h v0 9 = true then (
  if v1 = 38 then (
  fX9_isWorkFine_36 N v0 h) else
  if v1 = 39 then (
  fX9_isWorkFine_36 N v0 h) else
  if v1 = 40 then (
  (getR h v0 9 3).bind fun t10 =>
  (fX8_stop N t10 h).bind fun h11 =>
  (getI h11 v0 9 8).bind fun t12 =>
  if t12 = (-4 : Int32) then (
  some ((1 : Int32), h11)) else (
  some ((0 : Int32), h11))) else
  if v1 = 41 then (
  (getR h v0 9 3).bind fun t14 =>
  (fX8_stop N t14 h).bind fun h15 =>
  (getI h15 v0 9 8).bind fun t16 =>
  if t16 = (-4 : Int32) then (
  some ((0 : Int32), h15)) else (
  (getR h15 v0 9 0).bind fun t18 =>
  (fX9_pop N v0 h15).bind fun q19 =>
  (getI q19.2 v0 9 8).bind fun t20 =>
  (fX1_isSub N t18 q19.1 t20 q19.2).bind fun q21 =>
  if q21.1 = 0 then (
  some ((0 : Int32), q21.2)) else (
  some ((1 : Int32), q21.2)))) else
  if v1 = 42 then (
  (getR h v0 9 3).bind fun t23 =>
  (fX8_stop N t23 h).bind fun h24 =>
  (fX9_pop N v0 h24).bind fun q25 =>
  if q25.1 < 0 then (
  some ((0 : Int32), q25.2)) else (
  some ((1 : Int32), q25.2))) else
  (fX9_pop N v0 h).bind fun q27 =>
  if q27.1 = (-1 : Int32) then (
  some ((1 : Int32), q27.2)) else (
  if q27.1 = (-2 : Int32) then (
  some ((1 : Int32), q27.2)) else (
  some ((0 : Int32), q27.2)))) else none
theorem oX9_isWorkFine {N : Nat} {v0 : Nat} {v1 : Int32} {h : pH} {q : Int32 × pH} (hf : fX9_isWorkFine N v0 v1 h = some q) : isO h v0 9 = true := by
  unfold fX9_isWorkFine at hf
  by_cases hc : isO h v0 9 = true
  · exact hc
  · rw [if_neg hc] at hf; cases hf
theorem cX9_isWorkFine (X : pX) (N d : Nat) (v0 : Nat) (v1 : Int32) (h : pH) (q : Int32 × pH) (hf : fX9_isWorkFine N v0 v1 h = some q) : Calls X (d + 2) 154 [.ref v0, .int v1] h (some (.int q.1), q.2, 0, 0) := by
  refine Calls.of M154 (Nat.le_of_ble_eq_true rfl) ?_
  show Run X (d + 2) 9 false (pCd 5156) 3 (some .boolean) 0 [(0, .ref v0), (1, .int v1)] [] h 0 0 (some (.int q.1), q.2, 0, 0)
  unfold fX9_isWorkFine at hf
  by_cases hc : isO h v0 9 = true
  · rw [if_pos hc] at hf
    have nv0 : ¬ v0 = 4 := isO_ne hc
    refine r_iload_n (dGet dX9_isWorkFine (j := 0) rfl) rfl ?_
    by_cases c5 : v1 = 38
    · rw [if_pos c5] at hf
      refine r_table (off := 35) (dGet dX9_isWorkFine (j := 1) rfl) (by rw [c5]; decide) rfl ?_
      refine Run.weak [(0, .ref v0)] (by simp) (by simp [pNd]) ?_
      exact lX9_isWorkFine_36 X N d v0 h q hf nv0
    rw [if_neg c5] at hf
    by_cases c6 : v1 = 39
    · rw [if_pos c6] at hf
      refine r_table (off := 35) (dGet dX9_isWorkFine (j := 1) rfl) (by rw [c6]; decide) rfl ?_
      refine Run.weak [(0, .ref v0)] (by simp) (by simp [pNd]) ?_
      exact lX9_isWorkFine_36 X N d v0 h q hf nv0
    rw [if_neg c6] at hf
    by_cases c7 : v1 = 40
    · rw [if_pos c7] at hf
      refine r_table (off := 57) (dGet dX9_isWorkFine (j := 1) rfl) (by rw [c7]; decide) rfl ?_
      refine r_aload_n (dGet dX9_isWorkFine (j := 13) rfl) nv0 rfl ?_
      obtain ⟨t10, et10, hf⟩ := Option.bind_eq_some_iff.mp hf
      refine r_getR (dGet dX9_isWorkFine (j := 14) rfl) F9_24 et10 ?_
      obtain ⟨h11, eh11, hf⟩ := Option.bind_eq_some_iff.mp hf
      refine r_virtual (dGet dX9_isWorkFine (j := 15) rfl) L9_224 M156 rfl rfl (Nat.le_of_ble_eq_true rfl) (oX8_stop eh11) (cX8_stop X N (d + 1) t10 h h11 eh11) ?_
      refine r_aload_n (dGet dX9_isWorkFine (j := 16) rfl) nv0 rfl ?_
      obtain ⟨t12, et12, hf⟩ := Option.bind_eq_some_iff.mp hf
      refine r_getI (dGet dX9_isWorkFine (j := 17) rfl) F9_95 et12 ?_
      refine r_bipush (dGet dX9_isWorkFine (j := 18) rfl) kB_m4 ?_
      by_cases c13 : t12 = (-4 : Int32)
      · rw [if_pos c13] at hf
        refine r_icmp_ne_f (dGet dX9_isWorkFine (j := 19) rfl) rfl c13 ?_
        refine r_iconst (dGet dX9_isWorkFine (j := 20) rfl) kI_1 ?_
        refine r_goto (dGet dX9_isWorkFine (j := 21) rfl) rfl ?_
        cases hf
        exact r_iret (dGet dX9_isWorkFine (j := 23) rfl) rfl (by decide)
      · rw [if_neg c13] at hf
        refine r_icmp_ne_t (dGet dX9_isWorkFine (j := 19) rfl) rfl c13 ?_
        refine r_iconst (dGet dX9_isWorkFine (j := 22) rfl) kI_0 ?_
        cases hf
        exact r_iret (dGet dX9_isWorkFine (j := 23) rfl) rfl (by decide)
    rw [if_neg c7] at hf
    by_cases c8 : v1 = 41
    · rw [if_pos c8] at hf
      refine r_table (off := 79) (dGet dX9_isWorkFine (j := 1) rfl) (by rw [c8]; decide) rfl ?_
      refine r_aload_n (dGet dX9_isWorkFine (j := 24) rfl) nv0 rfl ?_
      obtain ⟨t14, et14, hf⟩ := Option.bind_eq_some_iff.mp hf
      refine r_getR (dGet dX9_isWorkFine (j := 25) rfl) F9_24 et14 ?_
      obtain ⟨h15, eh15, hf⟩ := Option.bind_eq_some_iff.mp hf
      refine r_virtual (dGet dX9_isWorkFine (j := 26) rfl) L9_224 M156 rfl rfl (Nat.le_of_ble_eq_true rfl) (oX8_stop eh15) (cX8_stop X N (d + 1) t14 h h15 eh15) ?_
      refine r_aload_n (dGet dX9_isWorkFine (j := 27) rfl) nv0 rfl ?_
      obtain ⟨t16, et16, hf⟩ := Option.bind_eq_some_iff.mp hf
      refine r_getI (dGet dX9_isWorkFine (j := 28) rfl) F9_95 et16 ?_
      refine r_bipush (dGet dX9_isWorkFine (j := 29) rfl) kB_m4 ?_
      by_cases c17 : t16 = (-4 : Int32)
      · rw [if_pos c17] at hf
        refine r_icmp_eq_t (dGet dX9_isWorkFine (j := 30) rfl) rfl c17 ?_
        refine r_iconst (dGet dX9_isWorkFine (j := 41) rfl) kI_0 ?_
        cases hf
        exact r_iret (dGet dX9_isWorkFine (j := 42) rfl) rfl (by decide)
      · rw [if_neg c17] at hf
        refine r_icmp_eq_f (dGet dX9_isWorkFine (j := 30) rfl) rfl c17 ?_
        refine r_aload_n (dGet dX9_isWorkFine (j := 31) rfl) nv0 rfl ?_
        obtain ⟨t18, et18, hf⟩ := Option.bind_eq_some_iff.mp hf
        refine r_getR (dGet dX9_isWorkFine (j := 32) rfl) F9_7 et18 ?_
        refine r_aload_n (dGet dX9_isWorkFine (j := 33) rfl) nv0 rfl ?_
        obtain ⟨q19, eq19, hf⟩ := Option.bind_eq_some_iff.mp hf
        refine r_virtual (dGet dX9_isWorkFine (j := 34) rfl) L9_173 M140 rfl rfl (Nat.le_of_ble_eq_true rfl) (oX9_pop eq19) (cX9_pop X N (d + 1) v0 h15 q19 eq19) ?_
        refine r_aload_n (dGet dX9_isWorkFine (j := 35) rfl) nv0 rfl ?_
        obtain ⟨t20, et20, hf⟩ := Option.bind_eq_some_iff.mp hf
        refine r_getI (dGet dX9_isWorkFine (j := 36) rfl) F9_95 et20 ?_
        obtain ⟨q21, eq21, hf⟩ := Option.bind_eq_some_iff.mp hf
        refine r_virtual (dGet dX9_isWorkFine (j := 37) rfl) L9_195 M146 rfl rfl (Nat.le_of_ble_eq_true rfl) (oX1_isSub eq21) (cX1_isSub X N (d + 0) t18 q19.1 t20 q19.2 q21 eq21) ?_
        by_cases c22 : q21.1 = 0
        · rw [if_pos c22] at hf
          refine r_if_eq_t (dGet dX9_isWorkFine (j := 38) rfl) rfl c22 ?_
          refine r_iconst (dGet dX9_isWorkFine (j := 41) rfl) kI_0 ?_
          cases hf
          exact r_iret (dGet dX9_isWorkFine (j := 42) rfl) rfl (by decide)
        · rw [if_neg c22] at hf
          refine r_if_eq_f (dGet dX9_isWorkFine (j := 38) rfl) rfl c22 ?_
          refine r_iconst (dGet dX9_isWorkFine (j := 39) rfl) kI_1 ?_
          refine r_goto (dGet dX9_isWorkFine (j := 40) rfl) rfl ?_
          cases hf
          exact r_iret (dGet dX9_isWorkFine (j := 42) rfl) rfl (by decide)
    rw [if_neg c8] at hf
    by_cases c9 : v1 = 42
    · rw [if_pos c9] at hf
      refine r_table (off := 119) (dGet dX9_isWorkFine (j := 1) rfl) (by rw [c9]; decide) rfl ?_
      refine r_aload_n (dGet dX9_isWorkFine (j := 43) rfl) nv0 rfl ?_
      obtain ⟨t23, et23, hf⟩ := Option.bind_eq_some_iff.mp hf
      refine r_getR (dGet dX9_isWorkFine (j := 44) rfl) F9_24 et23 ?_
      obtain ⟨h24, eh24, hf⟩ := Option.bind_eq_some_iff.mp hf
      refine r_virtual (dGet dX9_isWorkFine (j := 45) rfl) L9_224 M156 rfl rfl (Nat.le_of_ble_eq_true rfl) (oX8_stop eh24) (cX8_stop X N (d + 1) t23 h h24 eh24) ?_
      refine r_aload_n (dGet dX9_isWorkFine (j := 46) rfl) nv0 rfl ?_
      obtain ⟨q25, eq25, hf⟩ := Option.bind_eq_some_iff.mp hf
      refine r_virtual (dGet dX9_isWorkFine (j := 47) rfl) L9_173 M140 rfl rfl (Nat.le_of_ble_eq_true rfl) (oX9_pop eq25) (cX9_pop X N (d + 1) v0 h24 q25 eq25) ?_
      by_cases c26 : q25.1 < 0
      · rw [if_pos c26] at hf
        refine r_if_lt_t (dGet dX9_isWorkFine (j := 48) rfl) rfl c26 ?_
        refine r_iconst (dGet dX9_isWorkFine (j := 51) rfl) kI_0 ?_
        cases hf
        exact r_iret (dGet dX9_isWorkFine (j := 52) rfl) rfl (by decide)
      · rw [if_neg c26] at hf
        refine r_if_lt_f (dGet dX9_isWorkFine (j := 48) rfl) rfl c26 ?_
        refine r_iconst (dGet dX9_isWorkFine (j := 49) rfl) kI_1 ?_
        refine r_goto (dGet dX9_isWorkFine (j := 50) rfl) rfl ?_
        cases hf
        exact r_iret (dGet dX9_isWorkFine (j := 52) rfl) rfl (by decide)
    rw [if_neg c9] at hf
    refine r_table (dGet dX9_isWorkFine (j := 1) rfl) (pTable_out (cs := [38, 39, 40, 41, 42]) (by decide) (by decide) (by decide) (List.forall_mem_cons.mpr ⟨c5, List.forall_mem_cons.mpr ⟨c6, List.forall_mem_cons.mpr ⟨c7, List.forall_mem_cons.mpr ⟨c8, List.forall_mem_cons.mpr ⟨c9, fun _ h => absurd h List.not_mem_nil⟩⟩⟩⟩⟩)) rfl ?_
    refine r_aload_n (dGet dX9_isWorkFine (j := 53) rfl) nv0 rfl ?_
    obtain ⟨q27, eq27, hf⟩ := Option.bind_eq_some_iff.mp hf
    refine r_virtual (dGet dX9_isWorkFine (j := 54) rfl) L9_173 M140 rfl rfl (Nat.le_of_ble_eq_true rfl) (oX9_pop eq27) (cX9_pop X N (d + 1) v0 h q27 eq27) ?_
    refine r_istore_n (lv' := [(2, .int q27.1), (0, .ref v0), (1, .int v1)]) (dGet dX9_isWorkFine (j := 55) rfl) (by decide) rfl ?_
    refine r_iload_n (dGet dX9_isWorkFine (j := 56) rfl) rfl ?_
    refine r_iconst (dGet dX9_isWorkFine (j := 57) rfl) kI_m1 ?_
    by_cases c28 : q27.1 = (-1 : Int32)
    · rw [if_pos c28] at hf
      refine r_icmp_eq_t (dGet dX9_isWorkFine (j := 58) rfl) rfl c28 ?_
      refine r_iconst (dGet dX9_isWorkFine (j := 62) rfl) kI_1 ?_
      refine r_goto (dGet dX9_isWorkFine (j := 63) rfl) rfl ?_
      cases hf
      exact r_iret (dGet dX9_isWorkFine (j := 65) rfl) rfl (by decide)
    · rw [if_neg c28] at hf
      refine r_icmp_eq_f (dGet dX9_isWorkFine (j := 58) rfl) rfl c28 ?_
      refine r_iload_n (dGet dX9_isWorkFine (j := 59) rfl) rfl ?_
      refine r_bipush (dGet dX9_isWorkFine (j := 60) rfl) kB_m2 ?_
      by_cases c29 : q27.1 = (-2 : Int32)
      · rw [if_pos c29] at hf
        refine r_icmp_ne_f (dGet dX9_isWorkFine (j := 61) rfl) rfl c29 ?_
        refine r_iconst (dGet dX9_isWorkFine (j := 62) rfl) kI_1 ?_
        refine r_goto (dGet dX9_isWorkFine (j := 63) rfl) rfl ?_
        cases hf
        exact r_iret (dGet dX9_isWorkFine (j := 65) rfl) rfl (by decide)
      · rw [if_neg c29] at hf
        refine r_icmp_ne_t (dGet dX9_isWorkFine (j := 61) rfl) rfl c29 ?_
        refine r_iconst (dGet dX9_isWorkFine (j := 64) rfl) kI_0 ?_
        cases hf
        exact r_iret (dGet dX9_isWorkFine (j := 65) rfl) rfl (by decide)
  · rw [if_neg hc] at hf; cases hf
def eX9_isFine : List (Nat × Instr × Nat) := [(0, .iload_n 2, 1), (1, .bipush 8, 2), (3, .if_icmp .gt 10, 3), (6, .aload_n 0, 1), (7, .iload_n 1, 1), (8, .iload_n 2, 1), (9, .invokevirtual 119, 3), (12, .ireturn, 1), (13, .iload_n 2, 1), (14, .bipush 16, 2), (16, .if_icmp .gt 10, 3), (19, .aload_n 0, 1), (20, .iload_n 1, 1), (21, .iload_n 2, 1), (22, .invokevirtual 122, 3), (25, .ireturn, 1), (26, .iload_n 2, 1), (27, .bipush 29, 2), (29, .if_icmp .gt 9, 3), (32, .aload_n 0, 1), (33, .iload_n 2, 1), (34, .invokevirtual 125, 3), (37, .ireturn, 1), (38, .iload_n 2, 1), (39, .bipush 37, 2), (41, .if_icmp .gt 10, 3), (44, .aload_n 0, 1), (45, .iload_n 1, 1), (46, .iload_n 2, 1), (47, .invokevirtual 129, 3), (50, .ireturn, 1), (51, .iload_n 2, 1), (52, .bipush 43, 2), (54, .if_icmp .gt 9, 3), (57, .aload_n 0, 1), (58, .iload_n 2, 1), (59, .invokevirtual 132, 3), (62, .ireturn, 1), (63, .aload_n 0, 1), (64, .iload_n 1, 1), (65, .iload_n 2, 1), (66, .invokevirtual 135, 3), (69, .ireturn, 1)]
theorem dX9_isFine : dChk (pCd 5062) eX9_isFine = true := by decide +kernel
def fX9_isFine (N : Nat) (v0 : Nat) (v1 : Int32) (v2 : Int32) (h : pH) : Option (Int32 × pH) := if isO h v0 9 = true then (
  if (8 : Int32) < v2 then (
  if (16 : Int32) < v2 then (
  if (29 : Int32) < v2 then (
  if (37 : Int32) < v2 then (
  if (43 : Int32) < v2 then (
  (fX9_isSilentFine N v0 v1 v2 h).bind fun q6 =>
  if pRet .boolean q6.1 = true then some (q6.1, q6.2) else none) else (
  (fX9_isWorkFine N v0 v2 h).bind fun q8 =>
  if pRet .boolean q8.1 = true then some (q8.1, q8.2) else none)) else (
  (fX9_isGiftFine N v0 v1 v2 h).bind fun q10 =>
  if pRet .boolean q10.1 = true then some (q10.1, q10.2) else none)) else (
  (fX9_isSignFine N v0 v2 h).bind fun q12 =>
  if pRet .boolean q12.1 = true then some (q12.1, q12.2) else none)) else (
  (fX9_isPartFine N v0 v1 v2 h).bind fun q14 =>
  if pRet .boolean q14.1 = true then some (q14.1, q14.2) else none)) else (
  (fX9_isValueFine N v0 v1 v2 h).bind fun q16 =>
  if pRet .boolean q16.1 = true then some (q16.1, q16.2) else none)) else none
theorem oX9_isFine {N : Nat} {v0 : Nat} {v1 : Int32} {v2 : Int32} {h : pH} {q : Int32 × pH} (hf : fX9_isFine N v0 v1 v2 h = some q) : isO h v0 9 = true := by
  unfold fX9_isFine at hf
  by_cases hc : isO h v0 9 = true
  · exact hc
  · rw [if_neg hc] at hf; cases hf
theorem cX9_isFine (X : pX) (N d : Nat) (v0 : Nat) (v1 : Int32) (v2 : Int32) (h : pH) (q : Int32 × pH) (hf : fX9_isFine N v0 v1 v2 h = some q) : Calls X (d + 5) 131 [.ref v0, .int v1, .int v2] h (some (.int q.1), q.2, 0, 0) := by
  refine Calls.of M131 (Nat.le_of_ble_eq_true rfl) ?_
  show Run X (d + 5) 9 false (pCd 5062) 3 (some .boolean) 0 [(0, .ref v0), (1, .int v1), (2, .int v2)] [] h 0 0 (some (.int q.1), q.2, 0, 0)
  unfold fX9_isFine at hf
  by_cases hc : isO h v0 9 = true
  · rw [if_pos hc] at hf
    have nv0 : ¬ v0 = 4 := isO_ne hc
    refine r_iload_n (dGet dX9_isFine (j := 0) rfl) rfl ?_
    refine r_bipush (dGet dX9_isFine (j := 1) rfl) kB_8 ?_
    by_cases c1 : (8 : Int32) < v2
    · rw [if_pos c1] at hf
      refine r_icmp_gt_t (dGet dX9_isFine (j := 2) rfl) rfl c1 ?_
      refine r_iload_n (dGet dX9_isFine (j := 8) rfl) rfl ?_
      refine r_bipush (dGet dX9_isFine (j := 9) rfl) kB_16 ?_
      by_cases c2 : (16 : Int32) < v2
      · rw [if_pos c2] at hf
        refine r_icmp_gt_t (dGet dX9_isFine (j := 10) rfl) rfl c2 ?_
        refine r_iload_n (dGet dX9_isFine (j := 16) rfl) rfl ?_
        refine r_bipush (dGet dX9_isFine (j := 17) rfl) kB_29 ?_
        by_cases c3 : (29 : Int32) < v2
        · rw [if_pos c3] at hf
          refine r_icmp_gt_t (dGet dX9_isFine (j := 18) rfl) rfl c3 ?_
          refine r_iload_n (dGet dX9_isFine (j := 23) rfl) rfl ?_
          refine r_bipush (dGet dX9_isFine (j := 24) rfl) kB_37 ?_
          by_cases c4 : (37 : Int32) < v2
          · rw [if_pos c4] at hf
            refine r_icmp_gt_t (dGet dX9_isFine (j := 25) rfl) rfl c4 ?_
            refine r_iload_n (dGet dX9_isFine (j := 31) rfl) rfl ?_
            refine r_bipush (dGet dX9_isFine (j := 32) rfl) kB_43 ?_
            by_cases c5 : (43 : Int32) < v2
            · rw [if_pos c5] at hf
              refine r_icmp_gt_t (dGet dX9_isFine (j := 33) rfl) rfl c5 ?_
              refine r_aload_n (dGet dX9_isFine (j := 38) rfl) nv0 rfl ?_
              refine r_iload_n (dGet dX9_isFine (j := 39) rfl) rfl ?_
              refine r_iload_n (dGet dX9_isFine (j := 40) rfl) rfl ?_
              obtain ⟨q6, eq6, hf⟩ := Option.bind_eq_some_iff.mp hf
              refine r_virtual (dGet dX9_isFine (j := 41) rfl) L9_135 M157 rfl rfl (Nat.le_of_ble_eq_true rfl) (oX9_isSilentFine eq6) (cX9_isSilentFine X N (d + 0) v0 v1 v2 h q6 eq6) ?_
              by_cases c7 : pRet .boolean q6.1 = true
              · rw [if_pos c7] at hf
                cases hf
                exact r_iret (dGet dX9_isFine (j := 42) rfl) rfl c7
              · rw [if_neg c7] at hf; cases hf
            · rw [if_neg c5] at hf
              refine r_icmp_gt_f (dGet dX9_isFine (j := 33) rfl) rfl c5 ?_
              refine r_aload_n (dGet dX9_isFine (j := 34) rfl) nv0 rfl ?_
              refine r_iload_n (dGet dX9_isFine (j := 35) rfl) rfl ?_
              obtain ⟨q8, eq8, hf⟩ := Option.bind_eq_some_iff.mp hf
              refine r_virtual (dGet dX9_isFine (j := 36) rfl) L9_132 M154 rfl rfl (Nat.le_of_ble_eq_true rfl) (oX9_isWorkFine eq8) (cX9_isWorkFine X N (d + 2) v0 v2 h q8 eq8) ?_
              by_cases c9 : pRet .boolean q8.1 = true
              · rw [if_pos c9] at hf
                cases hf
                exact r_iret (dGet dX9_isFine (j := 37) rfl) rfl c9
              · rw [if_neg c9] at hf; cases hf
          · rw [if_neg c4] at hf
            refine r_icmp_gt_f (dGet dX9_isFine (j := 25) rfl) rfl c4 ?_
            refine r_aload_n (dGet dX9_isFine (j := 26) rfl) nv0 rfl ?_
            refine r_iload_n (dGet dX9_isFine (j := 27) rfl) rfl ?_
            refine r_iload_n (dGet dX9_isFine (j := 28) rfl) rfl ?_
            obtain ⟨q10, eq10, hf⟩ := Option.bind_eq_some_iff.mp hf
            refine r_virtual (dGet dX9_isFine (j := 29) rfl) L9_129 M148 rfl rfl (Nat.le_of_ble_eq_true rfl) (oX9_isGiftFine eq10) (cX9_isGiftFine X N (d + 0) v0 v1 v2 h q10 eq10) ?_
            by_cases c11 : pRet .boolean q10.1 = true
            · rw [if_pos c11] at hf
              cases hf
              exact r_iret (dGet dX9_isFine (j := 30) rfl) rfl c11
            · rw [if_neg c11] at hf; cases hf
        · rw [if_neg c3] at hf
          refine r_icmp_gt_f (dGet dX9_isFine (j := 18) rfl) rfl c3 ?_
          refine r_aload_n (dGet dX9_isFine (j := 19) rfl) nv0 rfl ?_
          refine r_iload_n (dGet dX9_isFine (j := 20) rfl) rfl ?_
          obtain ⟨q12, eq12, hf⟩ := Option.bind_eq_some_iff.mp hf
          refine r_virtual (dGet dX9_isFine (j := 21) rfl) L9_125 M143 rfl rfl (Nat.le_of_ble_eq_true rfl) (oX9_isSignFine eq12) (cX9_isSignFine X N (d + 1) v0 v2 h q12 eq12) ?_
          by_cases c13 : pRet .boolean q12.1 = true
          · rw [if_pos c13] at hf
            cases hf
            exact r_iret (dGet dX9_isFine (j := 22) rfl) rfl c13
          · rw [if_neg c13] at hf; cases hf
      · rw [if_neg c2] at hf
        refine r_icmp_gt_f (dGet dX9_isFine (j := 10) rfl) rfl c2 ?_
        refine r_aload_n (dGet dX9_isFine (j := 11) rfl) nv0 rfl ?_
        refine r_iload_n (dGet dX9_isFine (j := 12) rfl) rfl ?_
        refine r_iload_n (dGet dX9_isFine (j := 13) rfl) rfl ?_
        obtain ⟨q14, eq14, hf⟩ := Option.bind_eq_some_iff.mp hf
        refine r_virtual (dGet dX9_isFine (j := 14) rfl) L9_122 M138 rfl rfl (Nat.le_of_ble_eq_true rfl) (oX9_isPartFine eq14) (cX9_isPartFine X N (d + 0) v0 v1 v2 h q14 eq14) ?_
        by_cases c15 : pRet .boolean q14.1 = true
        · rw [if_pos c15] at hf
          cases hf
          exact r_iret (dGet dX9_isFine (j := 15) rfl) rfl c15
        · rw [if_neg c15] at hf; cases hf
    · rw [if_neg c1] at hf
      refine r_icmp_gt_f (dGet dX9_isFine (j := 2) rfl) rfl c1 ?_
      refine r_aload_n (dGet dX9_isFine (j := 3) rfl) nv0 rfl ?_
      refine r_iload_n (dGet dX9_isFine (j := 4) rfl) rfl ?_
      refine r_iload_n (dGet dX9_isFine (j := 5) rfl) rfl ?_
      obtain ⟨q16, eq16, hf⟩ := Option.bind_eq_some_iff.mp hf
      refine r_virtual (dGet dX9_isFine (j := 6) rfl) L9_119 M132 rfl rfl (Nat.le_of_ble_eq_true rfl) (oX9_isValueFine eq16) (cX9_isValueFine X N (d + 0) v0 v1 v2 h q16 eq16) ?_
      by_cases c17 : pRet .boolean q16.1 = true
      · rw [if_pos c17] at hf
        cases hf
        exact r_iret (dGet dX9_isFine (j := 7) rfl) rfl c17
      · rw [if_neg c17] at hf; cases hf
  · rw [if_neg hc] at hf; cases hf
def eX9_check : List (Nat × Instr × Nat) := [(0, .iconst 5, 1), (1, .istore_n 1, 1), (2, .iload_n 1, 1), (3, .aload_n 0, 1), (4, .getfield 7, 3), (7, .getfield 36, 3), (10, .if_icmp .ge 169, 3), (13, .aload_n 0, 1), (14, .getfield 7, 3), (17, .getfield 40, 3), (20, .iload_n 1, 1), (21, .iaload, 1), (22, .istore_n 2, 1), (23, .iload_n 2, 1), (24, .aload_n 0, 1), (25, .getfield 7, 3), (28, .getfield 43, 3), (31, .iload_n 1, 1), (32, .iaload, 1), (33, .if_icmp .ge 140, 3), (36, .aload_n 0, 1), (37, .getfield 13, 3), (40, .getfield 46, 3), (43, .iload_n 2, 1), (44, .baload, 1), (45, .ifCond .eq 122, 3), (48, .aload_n 0, 1), (49, .iload_n 1, 1), (50, .iload_n 2, 1), (51, .invokevirtual 52, 3), (54, .aload_n 0, 1), (55, .aload_n 0, 1), (56, .getfield 13, 3), (59, .getfield 56, 3), (62, .iload_n 2, 1), (63, .iaload, 1), (64, .invokevirtual 59, 3), (67, .istore_n 3, 1), (68, .aload_n 0, 1), (69, .getfield 13, 3), (72, .getfield 56, 3), (75, .iload_n 2, 1), (76, .iaload, 1), (77, .istore 4, 2), (79, .iload 4, 2), (81, .iload_n 3, 1), (82, .if_icmp .gt 56, 3), (85, .aload_n 0, 1), (86, .getfield 17, 3), (89, .getfield 63, 3), (92, .iload 4, 2), (94, .aload_n 0, 1), (95, .getfield 24, 3), (98, .getfield 66, 3), (101, .iastore, 1), (102, .aload_n 0, 1), (103, .iload 4, 2), (105, .aload_n 0, 1), (106, .getfield 17, 3), (109, .getfield 67, 3), (112, .iload 4, 2), (114, .iaload, 1), (115, .invokevirtual 70, 3), (118, .ifCond .ne 14, 3), (121, .aload_n 0, 1), (122, .getfield 17, 3), (125, .getfield 74, 3), (128, .iload 4, 2), (130, .iaload, 1), (131, .ireturn, 1), (132, .iinc 4 1, 3), (135, .goto (-56), 3), (138, .aload_n 0, 1), (139, .getfield 13, 3), (142, .getfield 77, 3), (145, .iload_n 2, 1), (146, .aload_n 0, 1), (147, .getfield 24, 3), (150, .getfield 80, 3), (153, .iastore, 1), (154, .aload_n 0, 1), (155, .getfield 13, 3), (158, .getfield 83, 3), (161, .iload_n 2, 1), (162, .aload_n 0, 1), (163, .getfield 86, 3), (166, .iastore, 1), (167, .iinc 2 1, 3), (170, .goto (-147), 3), (173, .iinc 1 1, 3), (176, .goto (-174), 3), (179, .iconst (-1), 1), (180, .ireturn, 1)]
theorem dX9_check : dChk (pCd 5035) eX9_check = true := by decide +kernel
def fX9_check_167 (N : Nat) (k2 : Nat → Int32 → pH → Option (Int32 × pH)) (k23 : Nat → Int32 → Int32 → pH → Option (Int32 × pH)) (v0 : Nat) (v1 : Int32) (v2 : Int32) (h : pH) : Option (Int32 × pH) :=
  k23 v0 v1 (v2 + (1 : Int32)) h
theorem lX9_check_167 (X : pX) (N d : Nat)  (k2 : Nat → Int32 → pH → Option (Int32 × pH)) (K2 : ∀ (w0 : Nat) (w1 : Int32) (h : pH) (q : Int32 × pH), k2 w0 w1 h = some q → ¬ w0 = 4 → Run X (d + 6) 9 false (pCd 5035) 5 (some .int) 2 [(0, .ref w0), (1, .int w1)] [] h 0 0 (some (.int q.1), q.2, 0, 0)) (k23 : Nat → Int32 → Int32 → pH → Option (Int32 × pH)) (K23 : ∀ (w0 : Nat) (w1 : Int32) (w2 : Int32) (h : pH) (q : Int32 × pH), k23 w0 w1 w2 h = some q → ¬ w0 = 4 → Run X (d + 6) 9 false (pCd 5035) 5 (some .int) 23 [(0, .ref w0), (1, .int w1), (2, .int w2)] [] h 0 0 (some (.int q.1), q.2, 0, 0)) (v0 : Nat) (v1 : Int32) (v2 : Int32) (h : pH) (q : Int32 × pH) (hf : fX9_check_167 N k2 k23 v0 v1 v2 h = some q) (nv0 : ¬ v0 = 4) : Run X (d + 6) 9 false (pCd 5035) 5 (some .int) 167 [(0, .ref v0), (1, .int v1), (2, .int v2)] [] h 0 0 (some (.int q.1), q.2, 0, 0) := by
  unfold fX9_check_167 at hf
  refine r_iinc (lv' := [(2, .int (v2 + (1 : Int32))), (0, .ref v0), (1, .int v1)]) (dGet dX9_check (j := 87) rfl) rfl (by decide) kI_1 rfl ?_
  refine r_goto (dGet dX9_check (j := 88) rfl) rfl ?_
  refine Run.weak [(0, .ref v0), (1, .int v1), (2, .int (v2 + (1 : Int32)))] (by simp) (by simp [pNd]) ?_
  exact K23 v0 v1 (v2 + (1 : Int32)) h q hf nv0
def fX9_check_79 (N : Nat) (k2 : Nat → Int32 → pH → Option (Int32 × pH)) (k23 : Nat → Int32 → Int32 → pH → Option (Int32 × pH)) : Nat → Nat → Int32 → Int32 → Int32 → Int32 → pH → Option (Int32 × pH)
  | 0, _, _, _, _, _, _ => none
  | n + 1, v0, v1, v2, v3, v4, h => if v3 < v4 then (
  (getR h v0 9 1).bind fun t2 =>
  (getR h t2 6 9).bind fun t3 =>
  (getR h v0 9 3).bind fun t4 =>
  (getI h t4 8 3).bind fun t5 =>
  (stI h t3 v2 t5).bind fun h6 =>
  (getR h6 v0 9 1).bind fun t7 =>
  (getR h6 t7 6 10).bind fun t8 =>
  (getI h6 v0 9 6).bind fun t9 =>
  (stI h6 t8 v2 t9).bind fun h10 =>
  fX9_check_167 N k2 k23 v0 v1 v2 h10) else (
  (getR h v0 9 2).bind fun t11 =>
  (getR h t11 2 5).bind fun t12 =>
  (getR h v0 9 3).bind fun t13 =>
  (getI h t13 8 2).bind fun t14 =>
  (stI h t12 v4 t14).bind fun h15 =>
  (getR h15 v0 9 2).bind fun t16 =>
  (getR h15 t16 2 0).bind fun t17 =>
  (ldI h15 t17 v4).bind fun t18 =>
  (fX9_isFine N v0 v4 t18 h15).bind fun q19 =>
  if q19.1 = 0 then (
  (getR q19.2 v0 9 2).bind fun t21 =>
  (getR q19.2 t21 2 4).bind fun t22 =>
  (ldI q19.2 t22 v4).bind fun t23 =>
  some (t23, q19.2)) else (
  fX9_check_79 N k2 k23 n v0 v1 v2 v3 (v4 + (1 : Int32)) q19.2))
theorem lX9_check_79 (X : pX) (N d : Nat)  (k2 : Nat → Int32 → pH → Option (Int32 × pH)) (K2 : ∀ (w0 : Nat) (w1 : Int32) (h : pH) (q : Int32 × pH), k2 w0 w1 h = some q → ¬ w0 = 4 → Run X (d + 6) 9 false (pCd 5035) 5 (some .int) 2 [(0, .ref w0), (1, .int w1)] [] h 0 0 (some (.int q.1), q.2, 0, 0)) (k23 : Nat → Int32 → Int32 → pH → Option (Int32 × pH)) (K23 : ∀ (w0 : Nat) (w1 : Int32) (w2 : Int32) (h : pH) (q : Int32 × pH), k23 w0 w1 w2 h = some q → ¬ w0 = 4 → Run X (d + 6) 9 false (pCd 5035) 5 (some .int) 23 [(0, .ref w0), (1, .int w1), (2, .int w2)] [] h 0 0 (some (.int q.1), q.2, 0, 0)) : ∀ (n : Nat) (v0 : Nat) (v1 : Int32) (v2 : Int32) (v3 : Int32) (v4 : Int32) (h : pH) (q : Int32 × pH), fX9_check_79 N k2 k23 n v0 v1 v2 v3 v4 h = some q → ¬ v0 = 4 → Run X (d + 6) 9 false (pCd 5035) 5 (some .int) 79 [(0, .ref v0), (1, .int v1), (2, .int v2), (3, .int v3), (4, .int v4)] [] h 0 0 (some (.int q.1), q.2, 0, 0) := by
  intro n
  induction n with
  | zero => intro v0 v1 v2 v3 v4 h q hf; cases hf
  | succ n ih =>
    intro v0 v1 v2 v3 v4 h q hf nv0
    unfold fX9_check_79 at hf
    refine r_iload (dGet dX9_check (j := 44) rfl) rfl ?_
    refine r_iload_n (dGet dX9_check (j := 45) rfl) rfl ?_
    by_cases c1 : v3 < v4
    · rw [if_pos c1] at hf
      refine r_icmp_gt_t (dGet dX9_check (j := 46) rfl) rfl c1 ?_
      refine r_aload_n (dGet dX9_check (j := 72) rfl) nv0 rfl ?_
      obtain ⟨t2, et2, hf⟩ := Option.bind_eq_some_iff.mp hf
      refine r_getR (dGet dX9_check (j := 73) rfl) F9_13 et2 ?_
      obtain ⟨t3, et3, hf⟩ := Option.bind_eq_some_iff.mp hf
      refine r_getR (dGet dX9_check (j := 74) rfl) F9_77 et3 ?_
      refine r_iload_n (dGet dX9_check (j := 75) rfl) rfl ?_
      refine r_aload_n (dGet dX9_check (j := 76) rfl) nv0 rfl ?_
      obtain ⟨t4, et4, hf⟩ := Option.bind_eq_some_iff.mp hf
      refine r_getR (dGet dX9_check (j := 77) rfl) F9_24 et4 ?_
      obtain ⟨t5, et5, hf⟩ := Option.bind_eq_some_iff.mp hf
      refine r_getI (dGet dX9_check (j := 78) rfl) F9_80 et5 ?_
      obtain ⟨h6, eh6, hf⟩ := Option.bind_eq_some_iff.mp hf
      refine r_iast (dGet dX9_check (j := 79) rfl) eh6 ?_
      refine r_aload_n (dGet dX9_check (j := 80) rfl) nv0 rfl ?_
      obtain ⟨t7, et7, hf⟩ := Option.bind_eq_some_iff.mp hf
      refine r_getR (dGet dX9_check (j := 81) rfl) F9_13 et7 ?_
      obtain ⟨t8, et8, hf⟩ := Option.bind_eq_some_iff.mp hf
      refine r_getR (dGet dX9_check (j := 82) rfl) F9_83 et8 ?_
      refine r_iload_n (dGet dX9_check (j := 83) rfl) rfl ?_
      refine r_aload_n (dGet dX9_check (j := 84) rfl) nv0 rfl ?_
      obtain ⟨t9, et9, hf⟩ := Option.bind_eq_some_iff.mp hf
      refine r_getI (dGet dX9_check (j := 85) rfl) F9_86 et9 ?_
      obtain ⟨h10, eh10, hf⟩ := Option.bind_eq_some_iff.mp hf
      refine r_iast (dGet dX9_check (j := 86) rfl) eh10 ?_
      refine Run.weak [(0, .ref v0), (1, .int v1), (2, .int v2)] (by simp) (by simp [pNd]) ?_
      exact lX9_check_167 X N d k2 K2 k23 K23 v0 v1 v2 h10 q hf nv0
    · rw [if_neg c1] at hf
      refine r_icmp_gt_f (dGet dX9_check (j := 46) rfl) rfl c1 ?_
      refine r_aload_n (dGet dX9_check (j := 47) rfl) nv0 rfl ?_
      obtain ⟨t11, et11, hf⟩ := Option.bind_eq_some_iff.mp hf
      refine r_getR (dGet dX9_check (j := 48) rfl) F9_17 et11 ?_
      obtain ⟨t12, et12, hf⟩ := Option.bind_eq_some_iff.mp hf
      refine r_getR (dGet dX9_check (j := 49) rfl) F9_63 et12 ?_
      refine r_iload (dGet dX9_check (j := 50) rfl) rfl ?_
      refine r_aload_n (dGet dX9_check (j := 51) rfl) nv0 rfl ?_
      obtain ⟨t13, et13, hf⟩ := Option.bind_eq_some_iff.mp hf
      refine r_getR (dGet dX9_check (j := 52) rfl) F9_24 et13 ?_
      obtain ⟨t14, et14, hf⟩ := Option.bind_eq_some_iff.mp hf
      refine r_getI (dGet dX9_check (j := 53) rfl) F9_66 et14 ?_
      obtain ⟨h15, eh15, hf⟩ := Option.bind_eq_some_iff.mp hf
      refine r_iast (dGet dX9_check (j := 54) rfl) eh15 ?_
      refine r_aload_n (dGet dX9_check (j := 55) rfl) nv0 rfl ?_
      refine r_iload (dGet dX9_check (j := 56) rfl) rfl ?_
      refine r_aload_n (dGet dX9_check (j := 57) rfl) nv0 rfl ?_
      obtain ⟨t16, et16, hf⟩ := Option.bind_eq_some_iff.mp hf
      refine r_getR (dGet dX9_check (j := 58) rfl) F9_17 et16 ?_
      obtain ⟨t17, et17, hf⟩ := Option.bind_eq_some_iff.mp hf
      refine r_getR (dGet dX9_check (j := 59) rfl) F9_67 et17 ?_
      refine r_iload (dGet dX9_check (j := 60) rfl) rfl ?_
      obtain ⟨t18, et18, hf⟩ := Option.bind_eq_some_iff.mp hf
      refine r_iald (dGet dX9_check (j := 61) rfl) et18 ?_
      obtain ⟨q19, eq19, hf⟩ := Option.bind_eq_some_iff.mp hf
      refine r_virtual (dGet dX9_check (j := 62) rfl) L9_70 M131 rfl rfl (Nat.le_of_ble_eq_true rfl) (oX9_isFine eq19) (cX9_isFine X N (d + 0) v0 v4 t18 h15 q19 eq19) ?_
      by_cases c20 : q19.1 = 0
      · rw [if_pos c20] at hf
        refine r_if_ne_f (dGet dX9_check (j := 63) rfl) rfl c20 ?_
        refine r_aload_n (dGet dX9_check (j := 64) rfl) nv0 rfl ?_
        obtain ⟨t21, et21, hf⟩ := Option.bind_eq_some_iff.mp hf
        refine r_getR (dGet dX9_check (j := 65) rfl) F9_17 et21 ?_
        obtain ⟨t22, et22, hf⟩ := Option.bind_eq_some_iff.mp hf
        refine r_getR (dGet dX9_check (j := 66) rfl) F9_74 et22 ?_
        refine r_iload (dGet dX9_check (j := 67) rfl) rfl ?_
        obtain ⟨t23, et23, hf⟩ := Option.bind_eq_some_iff.mp hf
        refine r_iald (dGet dX9_check (j := 68) rfl) et23 ?_
        cases hf
        exact r_iret (dGet dX9_check (j := 69) rfl) rfl rfl
      · rw [if_neg c20] at hf
        refine r_if_ne_t (dGet dX9_check (j := 63) rfl) rfl c20 ?_
        refine r_iinc (lv' := [(4, .int (v4 + (1 : Int32))), (0, .ref v0), (1, .int v1), (2, .int v2), (3, .int v3)]) (dGet dX9_check (j := 70) rfl) rfl (by decide) kI_1 rfl ?_
        refine r_goto (dGet dX9_check (j := 71) rfl) rfl ?_
        refine Run.weak [(0, .ref v0), (1, .int v1), (2, .int v2), (3, .int v3), (4, .int (v4 + (1 : Int32)))] (by simp) (by simp [pNd]) ?_
        exact ih v0 v1 v2 v3 (v4 + (1 : Int32)) q19.2 q hf nv0
def fX9_check_23 (N : Nat) (k2 : Nat → Int32 → pH → Option (Int32 × pH)) : Nat → Nat → Int32 → Int32 → pH → Option (Int32 × pH)
  | 0, _, _, _, _ => none
  | n + 1, v0, v1, v2, h => (getR h v0 9 0).bind fun t24 =>
  (getR h t24 1 5).bind fun t25 =>
  (ldI h t25 v1).bind fun t26 =>
  if t26 ≤ v2 then (
  k2 v0 (v1 + (1 : Int32)) h) else (
  (getR h v0 9 1).bind fun t28 =>
  (getR h t28 6 4).bind fun t29 =>
  (ldZ h t29 v2).bind fun t30 =>
  if t30 = 0 then (
  fX9_check_167 N k2 (fX9_check_23 N k2 n) v0 v1 v2 h) else (
  (fX9_enter N v0 v1 v2 h).bind fun h32 =>
  (getR h32 v0 9 1).bind fun t33 =>
  (getR h32 t33 6 8).bind fun t34 =>
  (ldI h32 t34 v2).bind fun t35 =>
  (fX9_codeEnd N v0 t35 h32).bind fun q36 =>
  (getR q36.2 v0 9 1).bind fun t37 =>
  (getR q36.2 t37 6 8).bind fun t38 =>
  (ldI q36.2 t38 v2).bind fun t39 =>
  fX9_check_79 N k2 (fX9_check_23 N k2 n) N v0 v1 v2 q36.1 t39 q36.2))
theorem lX9_check_23 (X : pX) (N d : Nat)  (k2 : Nat → Int32 → pH → Option (Int32 × pH)) (K2 : ∀ (w0 : Nat) (w1 : Int32) (h : pH) (q : Int32 × pH), k2 w0 w1 h = some q → ¬ w0 = 4 → Run X (d + 6) 9 false (pCd 5035) 5 (some .int) 2 [(0, .ref w0), (1, .int w1)] [] h 0 0 (some (.int q.1), q.2, 0, 0)) : ∀ (n : Nat) (v0 : Nat) (v1 : Int32) (v2 : Int32) (h : pH) (q : Int32 × pH), fX9_check_23 N k2 n v0 v1 v2 h = some q → ¬ v0 = 4 → Run X (d + 6) 9 false (pCd 5035) 5 (some .int) 23 [(0, .ref v0), (1, .int v1), (2, .int v2)] [] h 0 0 (some (.int q.1), q.2, 0, 0) := by
  intro n
  induction n with
  | zero => intro v0 v1 v2 h q hf; cases hf
  | succ n ih =>
    intro v0 v1 v2 h q hf nv0
    unfold fX9_check_23 at hf
    refine r_iload_n (dGet dX9_check (j := 13) rfl) rfl ?_
    refine r_aload_n (dGet dX9_check (j := 14) rfl) nv0 rfl ?_
    obtain ⟨t24, et24, hf⟩ := Option.bind_eq_some_iff.mp hf
    refine r_getR (dGet dX9_check (j := 15) rfl) F9_7 et24 ?_
    obtain ⟨t25, et25, hf⟩ := Option.bind_eq_some_iff.mp hf
    refine r_getR (dGet dX9_check (j := 16) rfl) F9_43 et25 ?_
    refine r_iload_n (dGet dX9_check (j := 17) rfl) rfl ?_
    obtain ⟨t26, et26, hf⟩ := Option.bind_eq_some_iff.mp hf
    refine r_iald (dGet dX9_check (j := 18) rfl) et26 ?_
    by_cases c27 : t26 ≤ v2
    · rw [if_pos c27] at hf
      refine r_icmp_ge_t (dGet dX9_check (j := 19) rfl) rfl c27 ?_
      refine r_iinc (lv' := [(1, .int (v1 + (1 : Int32))), (0, .ref v0), (2, .int v2)]) (dGet dX9_check (j := 89) rfl) rfl (by decide) kI_1 rfl ?_
      refine r_goto (dGet dX9_check (j := 90) rfl) rfl ?_
      refine Run.weak [(0, .ref v0), (1, .int (v1 + (1 : Int32)))] (by simp) (by simp [pNd]) ?_
      exact K2 v0 (v1 + (1 : Int32)) h q hf nv0
    · rw [if_neg c27] at hf
      refine r_icmp_ge_f (dGet dX9_check (j := 19) rfl) rfl c27 ?_
      refine r_aload_n (dGet dX9_check (j := 20) rfl) nv0 rfl ?_
      obtain ⟨t28, et28, hf⟩ := Option.bind_eq_some_iff.mp hf
      refine r_getR (dGet dX9_check (j := 21) rfl) F9_13 et28 ?_
      obtain ⟨t29, et29, hf⟩ := Option.bind_eq_some_iff.mp hf
      refine r_getR (dGet dX9_check (j := 22) rfl) F9_46 et29 ?_
      refine r_iload_n (dGet dX9_check (j := 23) rfl) rfl ?_
      obtain ⟨t30, et30, hf⟩ := Option.bind_eq_some_iff.mp hf
      refine r_zald (dGet dX9_check (j := 24) rfl) et30 ?_
      by_cases c31 : t30 = 0
      · rw [if_pos c31] at hf
        refine r_if_eq_t (dGet dX9_check (j := 25) rfl) rfl c31 ?_
        exact lX9_check_167 X N d k2 K2 (fX9_check_23 N k2 n) ih v0 v1 v2 h q hf nv0
      · rw [if_neg c31] at hf
        refine r_if_eq_f (dGet dX9_check (j := 25) rfl) rfl c31 ?_
        refine r_aload_n (dGet dX9_check (j := 26) rfl) nv0 rfl ?_
        refine r_iload_n (dGet dX9_check (j := 27) rfl) rfl ?_
        refine r_iload_n (dGet dX9_check (j := 28) rfl) rfl ?_
        obtain ⟨h32, eh32, hf⟩ := Option.bind_eq_some_iff.mp hf
        refine r_virtual (dGet dX9_check (j := 29) rfl) L9_52 M126 rfl rfl (Nat.le_of_ble_eq_true rfl) (oX9_enter eh32) (cX9_enter X N (d + 3) v0 v1 v2 h h32 eh32) ?_
        refine r_aload_n (dGet dX9_check (j := 30) rfl) nv0 rfl ?_
        refine r_aload_n (dGet dX9_check (j := 31) rfl) nv0 rfl ?_
        obtain ⟨t33, et33, hf⟩ := Option.bind_eq_some_iff.mp hf
        refine r_getR (dGet dX9_check (j := 32) rfl) F9_13 et33 ?_
        obtain ⟨t34, et34, hf⟩ := Option.bind_eq_some_iff.mp hf
        refine r_getR (dGet dX9_check (j := 33) rfl) F9_56 et34 ?_
        refine r_iload_n (dGet dX9_check (j := 34) rfl) rfl ?_
        obtain ⟨t35, et35, hf⟩ := Option.bind_eq_some_iff.mp hf
        refine r_iald (dGet dX9_check (j := 35) rfl) et35 ?_
        obtain ⟨q36, eq36, hf⟩ := Option.bind_eq_some_iff.mp hf
        refine r_virtual (dGet dX9_check (j := 36) rfl) L9_59 M130 rfl rfl (Nat.le_of_ble_eq_true rfl) (oX9_codeEnd eq36) (cX9_codeEnd X N (d + 5) v0 t35 h32 q36 eq36) ?_
        refine r_istore_n (lv' := [(3, .int q36.1), (0, .ref v0), (1, .int v1), (2, .int v2)]) (dGet dX9_check (j := 37) rfl) (by decide) rfl ?_
        refine r_aload_n (dGet dX9_check (j := 38) rfl) nv0 rfl ?_
        obtain ⟨t37, et37, hf⟩ := Option.bind_eq_some_iff.mp hf
        refine r_getR (dGet dX9_check (j := 39) rfl) F9_13 et37 ?_
        obtain ⟨t38, et38, hf⟩ := Option.bind_eq_some_iff.mp hf
        refine r_getR (dGet dX9_check (j := 40) rfl) F9_56 et38 ?_
        refine r_iload_n (dGet dX9_check (j := 41) rfl) rfl ?_
        obtain ⟨t39, et39, hf⟩ := Option.bind_eq_some_iff.mp hf
        refine r_iald (dGet dX9_check (j := 42) rfl) et39 ?_
        refine r_istore (lv' := [(4, .int t39), (3, .int q36.1), (0, .ref v0), (1, .int v1), (2, .int v2)]) (dGet dX9_check (j := 43) rfl) (by decide) rfl ?_
        refine Run.weak [(0, .ref v0), (1, .int v1), (2, .int v2), (3, .int q36.1), (4, .int t39)] (by simp) (by simp [pNd]) ?_
        exact lX9_check_79 X N d k2 K2 (fX9_check_23 N k2 n) ih N v0 v1 v2 q36.1 t39 q36.2 q hf nv0
def fX9_check_2 (N : Nat) : Nat → Nat → Int32 → pH → Option (Int32 × pH)
  | 0, _, _, _ => none
  | n + 1, v0, v1, h => (getR h v0 9 0).bind fun t40 =>
  (getI h t40 1 7).bind fun t41 =>
  if t41 ≤ v1 then (
  some ((-1 : Int32), h)) else (
  (getR h v0 9 0).bind fun t43 =>
  (getR h t43 1 4).bind fun t44 =>
  (ldI h t44 v1).bind fun t45 =>
  fX9_check_23 N (fX9_check_2 N n) N v0 v1 t45 h)
theorem lX9_check_2 (X : pX) (N d : Nat)  : ∀ (n : Nat) (v0 : Nat) (v1 : Int32) (h : pH) (q : Int32 × pH), fX9_check_2 N n v0 v1 h = some q → ¬ v0 = 4 → Run X (d + 6) 9 false (pCd 5035) 5 (some .int) 2 [(0, .ref v0), (1, .int v1)] [] h 0 0 (some (.int q.1), q.2, 0, 0) := by
  intro n
  induction n with
  | zero => intro v0 v1 h q hf; cases hf
  | succ n ih =>
    intro v0 v1 h q hf nv0
    unfold fX9_check_2 at hf
    refine r_iload_n (dGet dX9_check (j := 2) rfl) rfl ?_
    refine r_aload_n (dGet dX9_check (j := 3) rfl) nv0 rfl ?_
    obtain ⟨t40, et40, hf⟩ := Option.bind_eq_some_iff.mp hf
    refine r_getR (dGet dX9_check (j := 4) rfl) F9_7 et40 ?_
    obtain ⟨t41, et41, hf⟩ := Option.bind_eq_some_iff.mp hf
    refine r_getI (dGet dX9_check (j := 5) rfl) F9_36 et41 ?_
    by_cases c42 : t41 ≤ v1
    · rw [if_pos c42] at hf
      refine r_icmp_ge_t (dGet dX9_check (j := 6) rfl) rfl c42 ?_
      refine r_iconst (dGet dX9_check (j := 91) rfl) kI_m1 ?_
      cases hf
      exact r_iret (dGet dX9_check (j := 92) rfl) rfl rfl
    · rw [if_neg c42] at hf
      refine r_icmp_ge_f (dGet dX9_check (j := 6) rfl) rfl c42 ?_
      refine r_aload_n (dGet dX9_check (j := 7) rfl) nv0 rfl ?_
      obtain ⟨t43, et43, hf⟩ := Option.bind_eq_some_iff.mp hf
      refine r_getR (dGet dX9_check (j := 8) rfl) F9_7 et43 ?_
      obtain ⟨t44, et44, hf⟩ := Option.bind_eq_some_iff.mp hf
      refine r_getR (dGet dX9_check (j := 9) rfl) F9_40 et44 ?_
      refine r_iload_n (dGet dX9_check (j := 10) rfl) rfl ?_
      obtain ⟨t45, et45, hf⟩ := Option.bind_eq_some_iff.mp hf
      refine r_iald (dGet dX9_check (j := 11) rfl) et45 ?_
      refine r_istore_n (lv' := [(2, .int t45), (0, .ref v0), (1, .int v1)]) (dGet dX9_check (j := 12) rfl) (by decide) rfl ?_
      refine Run.weak [(0, .ref v0), (1, .int v1), (2, .int t45)] (by simp) (by simp [pNd]) ?_
      exact lX9_check_23 X N d (fX9_check_2 N n) ih N v0 v1 t45 h q hf nv0
def fX9_check (N : Nat) (v0 : Nat) (h : pH) : Option (Int32 × pH) := if isO h v0 9 = true then (
  fX9_check_2 N N v0 (5 : Int32) h) else none
theorem oX9_check {N : Nat} {v0 : Nat} {h : pH} {q : Int32 × pH} (hf : fX9_check N v0 h = some q) : isO h v0 9 = true := by
  unfold fX9_check at hf
  by_cases hc : isO h v0 9 = true
  · exact hc
  · rw [if_neg hc] at hf; cases hf
theorem cX9_check (X : pX) (N d : Nat) (v0 : Nat) (h : pH) (q : Int32 × pH) (hf : fX9_check N v0 h = some q) : Calls X (d + 6) 125 [.ref v0] h (some (.int q.1), q.2, 0, 0) := by
  refine Calls.of M125 (Nat.le_of_ble_eq_true rfl) ?_
  show Run X (d + 6) 9 false (pCd 5035) 5 (some .int) 0 [(0, .ref v0)] [] h 0 0 (some (.int q.1), q.2, 0, 0)
  unfold fX9_check at hf
  by_cases hc : isO h v0 9 = true
  · rw [if_pos hc] at hf
    have nv0 : ¬ v0 = 4 := isO_ne hc
    refine r_iconst (dGet dX9_check (j := 0) rfl) kI_5 ?_
    refine r_istore_n (lv' := [(1, .int (5 : Int32)), (0, .ref v0)]) (dGet dX9_check (j := 1) rfl) (by decide) rfl ?_
    refine Run.weak [(0, .ref v0), (1, .int (5 : Int32))] (by simp) (by simp [pNd]) ?_
    exact lX9_check_2 X N d N v0 (5 : Int32) h q hf nv0
  · rw [if_neg hc] at hf; cases hf
