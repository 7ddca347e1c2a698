def eX1_parentOf : List (Nat × Instr × Nat) := [(0, .iload_n 1, 1), (1, .ifCond .lt 20, 3), (4, .iload_n 1, 1), (5, .aload_n 0, 1), (6, .getfield 31, 3), (9, .if_icmp .ge 12, 3), (12, .aload_n 0, 1), (13, .getfield 19, 3), (16, .iload_n 1, 1), (17, .iaload, 1), (18, .goto 4, 3), (21, .iconst (-1), 1), (22, .ireturn, 1)]
theorem dX1_parentOf : dChk (pCd 4208) eX1_parentOf = true := by decide +kernel
def fX1_parentOf (N : Nat) (v0 : Nat) (v1 : Int32) (h : pH) : Option (Int32 × pH) := if isO h v0 1 = true then (
  if v1 < 0 then (
  some ((-1 : Int32), h)) else (
  (getI h v0 1 7).bind fun t2 =>
  if t2 ≤ v1 then (
  some ((-1 : Int32), h)) else (
  (getR h v0 1 3).bind fun t4 =>
  (ldI h t4 v1).bind fun t5 =>
  some (t5, h)))) else none
theorem oX1_parentOf {N : Nat} {v0 : Nat} {v1 : Int32} {h : pH} {q : Int32 × pH} (hf : fX1_parentOf N v0 v1 h = some q) : isO h v0 1 = true := by
  unfold fX1_parentOf at hf
  by_cases hc : isO h v0 1 = true
  · exact hc
  · rw [if_neg hc] at hf; cases hf
theorem cX1_parentOf (X : pX) (N d : Nat) (v0 : Nat) (v1 : Int32) (h : pH) (q : Int32 × pH) (hf : fX1_parentOf N v0 v1 h = some q) : Calls X (d + 0) 109 [.ref v0, .int v1] h (some (.int q.1), q.2, 0, 0) := by
  refine Calls.of M109 (Nat.le_of_ble_eq_true rfl) ?_
  show Run X (d + 0) 1 false (pCd 4208) 2 (some .int) 0 [(0, .ref v0), (1, .int v1)] [] h 0 0 (some (.int q.1), q.2, 0, 0)
  unfold fX1_parentOf at hf
  by_cases hc : isO h v0 1 = true
  · rw [if_pos hc] at hf
    have nv0 : ¬ v0 = 4 := isO_ne hc
    refine r_iload_n (dGet dX1_parentOf (j := 0) rfl) rfl ?_
    by_cases c1 : v1 < 0
    · rw [if_pos c1] at hf
      refine r_if_lt_t (dGet dX1_parentOf (j := 1) rfl) rfl c1 ?_
      refine r_iconst (dGet dX1_parentOf (j := 11) rfl) kI_m1 ?_
      cases hf
      exact r_iret (dGet dX1_parentOf (j := 12) rfl) rfl rfl
    · rw [if_neg c1] at hf
      refine r_if_lt_f (dGet dX1_parentOf (j := 1) rfl) rfl c1 ?_
      refine r_iload_n (dGet dX1_parentOf (j := 2) rfl) rfl ?_
      refine r_aload_n (dGet dX1_parentOf (j := 3) rfl) nv0 rfl ?_
      obtain ⟨t2, et2, hf⟩ := Option.bind_eq_some_iff.mp hf
      refine r_getI (dGet dX1_parentOf (j := 4) rfl) F1_31 et2 ?_
      by_cases c3 : t2 ≤ v1
      · rw [if_pos c3] at hf
        refine r_icmp_ge_t (dGet dX1_parentOf (j := 5) rfl) rfl c3 ?_
        refine r_iconst (dGet dX1_parentOf (j := 11) rfl) kI_m1 ?_
        cases hf
        exact r_iret (dGet dX1_parentOf (j := 12) rfl) rfl rfl
      · rw [if_neg c3] at hf
        refine r_icmp_ge_f (dGet dX1_parentOf (j := 5) rfl) rfl c3 ?_
        refine r_aload_n (dGet dX1_parentOf (j := 6) rfl) nv0 rfl ?_
        obtain ⟨t4, et4, hf⟩ := Option.bind_eq_some_iff.mp hf
        refine r_getR (dGet dX1_parentOf (j := 7) rfl) F1_19 et4 ?_
        refine r_iload_n (dGet dX1_parentOf (j := 8) rfl) rfl ?_
        obtain ⟨t5, et5, hf⟩ := Option.bind_eq_some_iff.mp hf
        refine r_iald (dGet dX1_parentOf (j := 9) rfl) et5 ?_
        refine r_goto (dGet dX1_parentOf (j := 10) rfl) rfl ?_
        cases hf
        exact r_iret (dGet dX1_parentOf (j := 12) rfl) rfl rfl
  · rw [if_neg hc] at hf; cases hf
def eX1_find : List (Nat × Instr × Nat) := [(0, .iconst 0, 1), (1, .istore_n 2, 1), (2, .iload_n 2, 1), (3, .aload_n 0, 1), (4, .getfield 31, 3), (7, .if_icmp .ge 21, 3), (10, .aload_n 0, 1), (11, .getfield 9, 3), (14, .iload_n 2, 1), (15, .iaload, 1), (16, .iload_n 1, 1), (17, .if_icmp .ne 5, 3), (20, .iload_n 2, 1), (21, .ireturn, 1), (22, .iinc 2 1, 3), (25, .goto (-23), 3), (28, .bipush (-6), 2), (30, .ireturn, 1)]
theorem dX1_find : dChk (pCd 4200) eX1_find = true := by decide +kernel
def fX1_find_2 (N : Nat) : Nat → Nat → Int32 → Int32 → pH → Option (Int32 × pH)
  | 0, _, _, _, _ => none
  | n + 1, v0, v1, v2, h => (getI h v0 1 7).bind fun t1 =>
  if t1 ≤ v2 then (
  some ((-6 : Int32), h)) else (
  (getR h v0 1 0).bind fun t3 =>
  (ldI h t3 v2).bind fun t4 =>
  if t4 = v1 then (
  some (v2, h)) else (
  fX1_find_2 N n v0 v1 (v2 + (1 : Int32)) h))
theorem lX1_find_2 (X : pX) (N d : Nat)  : ∀ (n : Nat) (v0 : Nat) (v1 : Int32) (v2 : Int32) (h : pH) (q : Int32 × pH), fX1_find_2 N n v0 v1 v2 h = some q → ¬ v0 = 4 → Run X (d + 0) 1 false (pCd 4200) 3 (some .int) 2 [(0, .ref v0), (1, .int v1), (2, .int v2)] [] h 0 0 (some (.int q.1), q.2, 0, 0) := by
  intro n
  induction n with
  | zero => intro v0 v1 v2 h q hf; cases hf
  | succ n ih =>
    intro v0 v1 v2 h q hf nv0
    unfold fX1_find_2 at hf
    refine r_iload_n (dGet dX1_find (j := 2) rfl) rfl ?_
    refine r_aload_n (dGet dX1_find (j := 3) rfl) nv0 rfl ?_
    obtain ⟨t1, et1, hf⟩ := Option.bind_eq_some_iff.mp hf
    refine r_getI (dGet dX1_find (j := 4) rfl) F1_31 et1 ?_
    by_cases c2 : t1 ≤ v2
    · rw [if_pos c2] at hf
      refine r_icmp_ge_t (dGet dX1_find (j := 5) rfl) rfl c2 ?_
      refine r_bipush (dGet dX1_find (j := 16) rfl) kB_m6 ?_
      cases hf
      exact r_iret (dGet dX1_find (j := 17) rfl) rfl rfl
    · rw [if_neg c2] at hf
      refine r_icmp_ge_f (dGet dX1_find (j := 5) rfl) rfl c2 ?_
      refine r_aload_n (dGet dX1_find (j := 6) rfl) nv0 rfl ?_
      obtain ⟨t3, et3, hf⟩ := Option.bind_eq_some_iff.mp hf
      refine r_getR (dGet dX1_find (j := 7) rfl) F1_9 et3 ?_
      refine r_iload_n (dGet dX1_find (j := 8) rfl) rfl ?_
      obtain ⟨t4, et4, hf⟩ := Option.bind_eq_some_iff.mp hf
      refine r_iald (dGet dX1_find (j := 9) rfl) et4 ?_
      refine r_iload_n (dGet dX1_find (j := 10) rfl) rfl ?_
      by_cases c5 : t4 = v1
      · rw [if_pos c5] at hf
        refine r_icmp_ne_f (dGet dX1_find (j := 11) rfl) rfl c5 ?_
        refine r_iload_n (dGet dX1_find (j := 12) rfl) rfl ?_
        cases hf
        exact r_iret (dGet dX1_find (j := 13) rfl) rfl rfl
      · rw [if_neg c5] at hf
        refine r_icmp_ne_t (dGet dX1_find (j := 11) rfl) rfl c5 ?_
        refine r_iinc (lv' := [(2, .int (v2 + (1 : Int32))), (0, .ref v0), (1, .int v1)]) (dGet dX1_find (j := 14) rfl) rfl (by decide) kI_1 rfl ?_
        refine r_goto (dGet dX1_find (j := 15) rfl) rfl ?_
        refine Run.weak [(0, .ref v0), (1, .int v1), (2, .int (v2 + (1 : Int32)))] (by simp) (by simp [pNd]) ?_
        exact ih v0 v1 (v2 + (1 : Int32)) h q hf nv0
def fX1_find (N : Nat) (v0 : Nat) (v1 : Int32) (h : pH) : Option (Int32 × pH) := if isO h v0 1 = true then (
  fX1_find_2 N N v0 v1 (0 : Int32) h) else none
theorem oX1_find {N : Nat} {v0 : Nat} {v1 : Int32} {h : pH} {q : Int32 × pH} (hf : fX1_find N v0 v1 h = some q) : isO h v0 1 = true := by
  unfold fX1_find at hf
  by_cases hc : isO h v0 1 = true
  · exact hc
  · rw [if_neg hc] at hf; cases hf
theorem cX1_find (X : pX) (N d : Nat) (v0 : Nat) (v1 : Int32) (h : pH) (q : Int32 × pH) (hf : fX1_find N v0 v1 h = some q) : Calls X (d + 0) 107 [.ref v0, .int v1] h (some (.int q.1), q.2, 0, 0) := by
  refine Calls.of M107 (Nat.le_of_ble_eq_true rfl) ?_
  show Run X (d + 0) 1 false (pCd 4200) 3 (some .int) 0 [(0, .ref v0), (1, .int v1)] [] h 0 0 (some (.int q.1), q.2, 0, 0)
  unfold fX1_find at hf
  by_cases hc : isO h v0 1 = true
  · rw [if_pos hc] at hf
    have nv0 : ¬ v0 = 4 := isO_ne hc
    refine r_iconst (dGet dX1_find (j := 0) rfl) kI_0 ?_
    refine r_istore_n (lv' := [(2, .int (0 : Int32)), (0, .ref v0), (1, .int v1)]) (dGet dX1_find (j := 1) rfl) (by decide) rfl ?_
    refine Run.weak [(0, .ref v0), (1, .int v1), (2, .int (0 : Int32))] (by simp) (by simp [pNd]) ?_
    exact lX1_find_2 X N d N v0 v1 (0 : Int32) h q hf nv0
  · rw [if_neg hc] at hf; cases hf
def eX3_cellsUsed : List (Nat × Instr × Nat) := [(0, .aload_n 0, 1), (1, .getfield 20, 3), (4, .bipush 6, 2), (6, .isub, 1), (7, .ireturn, 1)]
theorem dX3_cellsUsed : dChk (pCd 6107) eX3_cellsUsed = true := by decide +kernel
def fX3_cellsUsed (N : Nat) (v0 : Nat) (h : pH) : Option (Int32 × pH) := if isO h v0 3 = true then (
  (getI h v0 3 2).bind fun t1 =>
  some ((t1 - (6 : Int32)), h)) else none
theorem oX3_cellsUsed {N : Nat} {v0 : Nat} {h : pH} {q : Int32 × pH} (hf : fX3_cellsUsed N v0 h = some q) : isO h v0 3 = true := by
  unfold fX3_cellsUsed at hf
  by_cases hc : isO h v0 3 = true
  · exact hc
  · rw [if_neg hc] at hf; cases hf
theorem cX3_cellsUsed (X : pX) (N d : Nat) (v0 : Nat) (h : pH) (q : Int32 × pH) (hf : fX3_cellsUsed N v0 h = some q) : Calls X (d + 0) 197 [.ref v0] h (some (.int q.1), q.2, 0, 0) := by
  refine Calls.of M197 (Nat.le_of_ble_eq_true rfl) ?_
  show Run X (d + 0) 3 false (pCd 6107) 1 (some .int) 0 [(0, .ref v0)] [] h 0 0 (some (.int q.1), q.2, 0, 0)
  unfold fX3_cellsUsed at hf
  by_cases hc : isO h v0 3 = true
  · rw [if_pos hc] at hf
    have nv0 : ¬ v0 = 4 := isO_ne hc
    refine r_aload_n (dGet dX3_cellsUsed (j := 0) rfl) nv0 rfl ?_
    obtain ⟨t1, et1, hf⟩ := Option.bind_eq_some_iff.mp hf
    refine r_getI (dGet dX3_cellsUsed (j := 1) rfl) F3_20 et1 ?_
    refine r_bipush (dGet dX3_cellsUsed (j := 2) rfl) kB_6 ?_
    refine r_isub (dGet dX3_cellsUsed (j := 3) rfl) ?_
    cases hf
    exact r_iret (dGet dX3_cellsUsed (j := 4) rfl) rfl rfl
  · rw [if_neg hc] at hf; cases hf
def eX3_beginMoving : List (Nat × Instr × Nat) := [(0, .aload_n 0, 1), (1, .getfield 13, 3), (4, .astore_n 1, 1), (5, .aload_n 0, 1), (6, .aload_n 0, 1), (7, .getfield 17, 3), (10, .putfield 13, 3), (13, .aload_n 0, 1), (14, .aload_n 1, 1), (15, .putfield 17, 3), (18, .aload_n 0, 1), (19, .bipush 6, 2), (21, .putfield 20, 3), (24, .return_, 1)]
theorem dX3_beginMoving : dChk (pCd 6115) eX3_beginMoving = true := by decide +kernel
def fX3_beginMoving (N : Nat) (v0 : Nat) (h : pH) : Option (pH) := if isO h v0 3 = true then (
  (getR h v0 3 0).bind fun t1 =>
  if t1 = 4 then none else
  (getR h v0 3 1).bind fun t2 =>
  (putR h v0 3 0 t2).bind fun h3 =>
  (putR h3 v0 3 1 t1).bind fun h4 =>
  (putI h4 v0 3 2 (6 : Int32)).bind fun h5 =>
  some h5) else none
theorem oX3_beginMoving {N : Nat} {v0 : Nat} {h : pH} {q : pH} (hf : fX3_beginMoving N v0 h = some q) : isO h v0 3 = true := by
  unfold fX3_beginMoving at hf
  by_cases hc : isO h v0 3 = true
  · exact hc
  · rw [if_neg hc] at hf; cases hf
theorem cX3_beginMoving (X : pX) (N d : Nat) (v0 : Nat) (h : pH) (q : pH) (hf : fX3_beginMoving N v0 h = some q) : Calls X (d + 0) 199 [.ref v0] h (none, q, 0, 0) := by
  refine Calls.of M199 (Nat.le_of_ble_eq_true rfl) ?_
  show Run X (d + 0) 3 false (pCd 6115) 2 none 0 [(0, .ref v0)] [] h 0 0 (none, q, 0, 0)
  unfold fX3_beginMoving at hf
  by_cases hc : isO h v0 3 = true
  · rw [if_pos hc] at hf
    have nv0 : ¬ v0 = 4 := isO_ne hc
    refine r_aload_n (dGet dX3_beginMoving (j := 0) rfl) nv0 rfl ?_
    obtain ⟨t1, et1, hf⟩ := Option.bind_eq_some_iff.mp hf
    refine r_getR (dGet dX3_beginMoving (j := 1) rfl) F3_13 et1 ?_
    by_cases nt1 : t1 = 4
    · rw [if_pos nt1] at hf; cases hf
    rw [if_neg nt1] at hf
    refine r_astore_n (lv' := [(1, .ref t1), (0, .ref v0)]) (dGet dX3_beginMoving (j := 2) rfl) nt1 (by decide) rfl ?_
    refine r_aload_n (dGet dX3_beginMoving (j := 3) rfl) nv0 rfl ?_
    refine r_aload_n (dGet dX3_beginMoving (j := 4) rfl) nv0 rfl ?_
    obtain ⟨t2, et2, hf⟩ := Option.bind_eq_some_iff.mp hf
    refine r_getR (dGet dX3_beginMoving (j := 5) rfl) F3_17 et2 ?_
    obtain ⟨h3, eh3, hf⟩ := Option.bind_eq_some_iff.mp hf
    refine r_putR (dGet dX3_beginMoving (j := 6) rfl) F3_13 rfl rfl eh3 ?_
    refine r_aload_n (dGet dX3_beginMoving (j := 7) rfl) nv0 rfl ?_
    refine r_aload_n (dGet dX3_beginMoving (j := 8) rfl) nt1 rfl ?_
    obtain ⟨h4, eh4, hf⟩ := Option.bind_eq_some_iff.mp hf
    refine r_putR (dGet dX3_beginMoving (j := 9) rfl) F3_17 rfl rfl eh4 ?_
    refine r_aload_n (dGet dX3_beginMoving (j := 10) rfl) nv0 rfl ?_
    refine r_bipush (dGet dX3_beginMoving (j := 11) rfl) kB_6 ?_
    obtain ⟨h5, eh5, hf⟩ := Option.bind_eq_some_iff.mp hf
    refine r_putI (dGet dX3_beginMoving (j := 12) rfl) F3_20 rfl rfl eh5 ?_
    cases hf
    exact r_vret (dGet dX3_beginMoving (j := 13) rfl) rfl
  · rw [if_neg hc] at hf; cases hf
def eX3_moved : List (Nat × Instr × Nat) := [(0, .lload_n 1, 1), (1, .l2i, 1), (2, .istore_n 3, 1), (3, .lload_n 1, 1), (4, .ldc2_w 33, 3), (7, .land, 1), (8, .lconst 0, 1), (9, .lcmp, 1), (10, .ifCond .eq 16, 3), (13, .iload_n 3, 1), (14, .bipush 6, 2), (16, .if_icmp .lt 10, 3), (19, .iload_n 3, 1), (20, .sipush 10005, 3), (23, .if_icmp .lt 5, 3), (26, .lload_n 1, 1), (27, .lreturn, 1), (28, .aload_n 0, 1), (29, .getfield 17, 3), (32, .iload_n 3, 1), (33, .laload, 1), (34, .ldc2_w 55, 3), (37, .lcmp, 1), (38, .ifCond .ne 12, 3), (41, .aload_n 0, 1), (42, .getfield 17, 3), (45, .iload_n 3, 1), (46, .iconst 1, 1), (47, .iadd, 1), (48, .laload, 1), (49, .lreturn, 1), (50, .iconst 2, 1), (51, .aload_n 0, 1), (52, .getfield 17, 3), (55, .iload_n 3, 1), (56, .iconst 1, 1), (57, .iadd, 1), (58, .laload, 1), (59, .l2i, 1), (60, .iadd, 1), (61, .istore 4, 2), (63, .iload 4, 2), (65, .iconst 2, 1), (66, .if_icmp .lt 26, 3), (69, .iload 4, 2), (71, .sipush 10006, 3), (74, .iload_n 3, 1), (75, .isub, 1), (76, .if_icmp .gt 16, 3), (79, .iload 4, 2), (81, .sipush 10006, 3), (84, .aload_n 0, 1), (85, .getfield 20, 3), (88, .isub, 1), (89, .if_icmp .le 5, 3), (92, .lload_n 1, 1), (93, .lreturn, 1), (94, .aload_n 0, 1), (95, .getfield 17, 3), (98, .iload_n 3, 1), (99, .aload_n 0, 1), (100, .getfield 13, 3), (103, .aload_n 0, 1), (104, .getfield 20, 3), (107, .iload 4, 2), (109, .invokestatic 57, 3), (112, .ldc2_w 33, 3), (115, .aload_n 0, 1), (116, .getfield 20, 3), (119, .i2l, 1), (120, .lor, 1), (121, .lstore 5, 2), (123, .aload_n 0, 1), (124, .dup, 1), (125, .getfield 20, 3), (128, .iload 4, 2), (130, .iadd, 1), (131, .putfield 20, 3), (134, .aload_n 0, 1), (135, .getfield 17, 3), (138, .iload_n 3, 1), (139, .ldc2_w 55, 3), (142, .lastore, 1), (143, .aload_n 0, 1), (144, .getfield 17, 3), (147, .iload_n 3, 1), (148, .iconst 1, 1), (149, .iadd, 1), (150, .lload 5, 2), (152, .lastore, 1), (153, .lload 5, 2), (155, .lreturn, 1)]
theorem dX3_moved : dChk (pCd 6119) eX3_moved = true := by decide +kernel
def fX3_moved (N : Nat) (v0 : Nat) (v1 : Int64) (h : pH) : Option (Int64 × pH) := if isO h v0 3 = true then (
  if (lg_cmp (v1 &&& (4294967296 : Int64)) (0 : Int64)) = 0 then (
  some (v1, h)) else (
  if (v1.toInt32) < (6 : Int32) then (
  some (v1, h)) else (
  if (v1.toInt32) < (10005 : Int32) then (
  (getR h v0 3 1).bind fun t4 =>
  (ldJ h t4 (v1.toInt32)).bind fun t5 =>
  if (lg_cmp t5 (-2 : Int64)) = 0 then (
  (getR h v0 3 1).bind fun t24 =>
  (ldJ h t24 ((v1.toInt32) + (1 : Int32))).bind fun t25 =>
  some (t25, h)) else (
  (getR h v0 3 1).bind fun t7 =>
  (ldJ h t7 ((v1.toInt32) + (1 : Int32))).bind fun t8 =>
  if ((2 : Int32) + (t8.toInt32)) < (2 : Int32) then (
  some (v1, h)) else (
  if ((10006 : Int32) - (v1.toInt32)) < ((2 : Int32) + (t8.toInt32)) then (
  some (v1, h)) else (
  (getI h v0 3 2).bind fun t11 =>
  if ((2 : Int32) + (t8.toInt32)) ≤ ((10006 : Int32) - t11) then (
  (getR h v0 3 1).bind fun t13 =>
  (getR h v0 3 0).bind fun t14 =>
  (getI h v0 3 2).bind fun t15 =>
  (copyA h t13 (v1.toInt32) t14 t15 ((2 : Int32) + (t8.toInt32))).bind fun h16 =>
  (getI h16 v0 3 2).bind fun t17 =>
  (getI h16 v0 3 2).bind fun t18 =>
  (putI h16 v0 3 2 (t18 + ((2 : Int32) + (t8.toInt32)))).bind fun h19 =>
  (getR h19 v0 3 1).bind fun t20 =>
  (stJ h19 t20 (v1.toInt32) (-2 : Int64)).bind fun h21 =>
  (getR h21 v0 3 1).bind fun t22 =>
  (stJ h21 t22 ((v1.toInt32) + (1 : Int32)) ((4294967296 : Int64) ||| (t17.toInt64))).bind fun h23 =>
  some (((4294967296 : Int64) ||| (t17.toInt64)), h23)) else (
  some (v1, h)))))) else (
  some (v1, h))))) else none
theorem oX3_moved {N : Nat} {v0 : Nat} {v1 : Int64} {h : pH} {q : Int64 × pH} (hf : fX3_moved N v0 v1 h = some q) : isO h v0 3 = true := by
  unfold fX3_moved at hf
  by_cases hc : isO h v0 3 = true
  · exact hc
  · rw [if_neg hc] at hf; cases hf
theorem cX3_moved (X : pX) (N d : Nat) (v0 : Nat) (v1 : Int64) (h : pH) (q : Int64 × pH) (hf : fX3_moved N v0 v1 h = some q) : Calls X (d + 1) 200 [.ref v0, .long v1] h (some (.long q.1), q.2, 0, 0) := by
  refine Calls.of M200 (Nat.le_of_ble_eq_true rfl) ?_
  show Run X (d + 1) 3 false (pCd 6119) 7 (some .long) 0 [(0, .ref v0), (1, .long v1)] [] h 0 0 (some (.long q.1), q.2, 0, 0)
  unfold fX3_moved at hf
  by_cases hc : isO h v0 3 = true
  · rw [if_pos hc] at hf
    have nv0 : ¬ v0 = 4 := isO_ne hc
    refine r_lload_n (dGet dX3_moved (j := 0) rfl) rfl ?_
    refine r_l2i (dGet dX3_moved (j := 1) rfl) ?_
    refine r_istore_n (lv' := [(3, .int (v1.toInt32)), (0, .ref v0), (1, .long v1)]) (dGet dX3_moved (j := 2) rfl) (by decide) rfl ?_
    refine r_lload_n (dGet dX3_moved (j := 3) rfl) rfl ?_
    refine r_ldc2 (v := 4294967296) (dGet dX3_moved (j := 4) rfl) (by decide +kernel : pFind pKl 3 33 = some (4294967296, 5239)) ?_
    refine r_land (dGet dX3_moved (j := 5) rfl) ?_
    refine r_lconst (v := 0) (dGet dX3_moved (j := 6) rfl) rfl ?_
    refine r_lcmp (dGet dX3_moved (j := 7) rfl) ?_
    by_cases c1 : (lg_cmp (v1 &&& (4294967296 : Int64)) (0 : Int64)) = 0
    · rw [if_pos c1] at hf
      refine r_if_eq_t (dGet dX3_moved (j := 8) rfl) rfl c1 ?_
      refine r_lload_n (dGet dX3_moved (j := 15) rfl) rfl ?_
      cases hf
      exact r_lret (dGet dX3_moved (j := 16) rfl) rfl
    · rw [if_neg c1] at hf
      refine r_if_eq_f (dGet dX3_moved (j := 8) rfl) rfl c1 ?_
      refine r_iload_n (dGet dX3_moved (j := 9) rfl) rfl ?_
      refine r_bipush (dGet dX3_moved (j := 10) rfl) kB_6 ?_
      by_cases c2 : (v1.toInt32) < (6 : Int32)
      · rw [if_pos c2] at hf
        refine r_icmp_lt_t (dGet dX3_moved (j := 11) rfl) rfl c2 ?_
        refine r_lload_n (dGet dX3_moved (j := 15) rfl) rfl ?_
        cases hf
        exact r_lret (dGet dX3_moved (j := 16) rfl) rfl
      · rw [if_neg c2] at hf
        refine r_icmp_lt_f (dGet dX3_moved (j := 11) rfl) rfl c2 ?_
        refine r_iload_n (dGet dX3_moved (j := 12) rfl) rfl ?_
        refine r_sipush (dGet dX3_moved (j := 13) rfl) kS_10005 ?_
        by_cases c3 : (v1.toInt32) < (10005 : Int32)
        · rw [if_pos c3] at hf
          refine r_icmp_lt_t (dGet dX3_moved (j := 14) rfl) rfl c3 ?_
          refine r_aload_n (dGet dX3_moved (j := 17) rfl) nv0 rfl ?_
          obtain ⟨t4, et4, hf⟩ := Option.bind_eq_some_iff.mp hf
          refine r_getR (dGet dX3_moved (j := 18) rfl) F3_17 et4 ?_
          refine r_iload_n (dGet dX3_moved (j := 19) rfl) rfl ?_
          obtain ⟨t5, et5, hf⟩ := Option.bind_eq_some_iff.mp hf
          refine r_lald (dGet dX3_moved (j := 20) rfl) et5 ?_
          refine r_ldc2 (v := (-2)) (dGet dX3_moved (j := 21) rfl) (by decide +kernel : pFind pKl 3 55 = some (-2, 6120)) ?_
          refine r_lcmp (dGet dX3_moved (j := 22) rfl) ?_
          by_cases c6 : (lg_cmp t5 (-2 : Int64)) = 0
          · rw [if_pos c6] at hf
            refine r_if_ne_f (dGet dX3_moved (j := 23) rfl) rfl c6 ?_
            refine r_aload_n (dGet dX3_moved (j := 24) rfl) nv0 rfl ?_
            obtain ⟨t24, et24, hf⟩ := Option.bind_eq_some_iff.mp hf
            refine r_getR (dGet dX3_moved (j := 25) rfl) F3_17 et24 ?_
            refine r_iload_n (dGet dX3_moved (j := 26) rfl) rfl ?_
            refine r_iconst (dGet dX3_moved (j := 27) rfl) kI_1 ?_
            refine r_iadd (dGet dX3_moved (j := 28) rfl) ?_
            obtain ⟨t25, et25, hf⟩ := Option.bind_eq_some_iff.mp hf
            refine r_lald (dGet dX3_moved (j := 29) rfl) et25 ?_
            cases hf
            exact r_lret (dGet dX3_moved (j := 30) rfl) rfl
          · rw [if_neg c6] at hf
            refine r_if_ne_t (dGet dX3_moved (j := 23) rfl) rfl c6 ?_
            refine r_iconst (dGet dX3_moved (j := 31) rfl) kI_2 ?_
            refine r_aload_n (dGet dX3_moved (j := 32) rfl) nv0 rfl ?_
            obtain ⟨t7, et7, hf⟩ := Option.bind_eq_some_iff.mp hf
            refine r_getR (dGet dX3_moved (j := 33) rfl) F3_17 et7 ?_
            refine r_iload_n (dGet dX3_moved (j := 34) rfl) rfl ?_
            refine r_iconst (dGet dX3_moved (j := 35) rfl) kI_1 ?_
            refine r_iadd (dGet dX3_moved (j := 36) rfl) ?_
            obtain ⟨t8, et8, hf⟩ := Option.bind_eq_some_iff.mp hf
            refine r_lald (dGet dX3_moved (j := 37) rfl) et8 ?_
            refine r_l2i (dGet dX3_moved (j := 38) rfl) ?_
            refine r_iadd (dGet dX3_moved (j := 39) rfl) ?_
            refine r_istore (lv' := [(4, .int ((2 : Int32) + (t8.toInt32))), (3, .int (v1.toInt32)), (0, .ref v0), (1, .long v1)]) (dGet dX3_moved (j := 40) rfl) (by decide) rfl ?_
            refine r_iload (dGet dX3_moved (j := 41) rfl) rfl ?_
            refine r_iconst (dGet dX3_moved (j := 42) rfl) kI_2 ?_
            by_cases c9 : ((2 : Int32) + (t8.toInt32)) < (2 : Int32)
            · rw [if_pos c9] at hf
              refine r_icmp_lt_t (dGet dX3_moved (j := 43) rfl) rfl c9 ?_
              refine r_lload_n (dGet dX3_moved (j := 55) rfl) rfl ?_
              cases hf
              exact r_lret (dGet dX3_moved (j := 56) rfl) rfl
            · rw [if_neg c9] at hf
              refine r_icmp_lt_f (dGet dX3_moved (j := 43) rfl) rfl c9 ?_
              refine r_iload (dGet dX3_moved (j := 44) rfl) rfl ?_
              refine r_sipush (dGet dX3_moved (j := 45) rfl) kS_10006 ?_
              refine r_iload_n (dGet dX3_moved (j := 46) rfl) rfl ?_
              refine r_isub (dGet dX3_moved (j := 47) rfl) ?_
              by_cases c10 : ((10006 : Int32) - (v1.toInt32)) < ((2 : Int32) + (t8.toInt32))
              · rw [if_pos c10] at hf
                refine r_icmp_gt_t (dGet dX3_moved (j := 48) rfl) rfl c10 ?_
                refine r_lload_n (dGet dX3_moved (j := 55) rfl) rfl ?_
                cases hf
                exact r_lret (dGet dX3_moved (j := 56) rfl) rfl
              · rw [if_neg c10] at hf
                refine r_icmp_gt_f (dGet dX3_moved (j := 48) rfl) rfl c10 ?_
                refine r_iload (dGet dX3_moved (j := 49) rfl) rfl ?_
                refine r_sipush (dGet dX3_moved (j := 50) rfl) kS_10006 ?_
                refine r_aload_n (dGet dX3_moved (j := 51) rfl) nv0 rfl ?_
                obtain ⟨t11, et11, hf⟩ := Option.bind_eq_some_iff.mp hf
                refine r_getI (dGet dX3_moved (j := 52) rfl) F3_20 et11 ?_
                refine r_isub (dGet dX3_moved (j := 53) rfl) ?_
                by_cases c12 : ((2 : Int32) + (t8.toInt32)) ≤ ((10006 : Int32) - t11)
                · rw [if_pos c12] at hf
                  refine r_icmp_le_t (dGet dX3_moved (j := 54) rfl) rfl c12 ?_
                  refine r_aload_n (dGet dX3_moved (j := 57) rfl) nv0 rfl ?_
                  obtain ⟨t13, et13, hf⟩ := Option.bind_eq_some_iff.mp hf
                  refine r_getR (dGet dX3_moved (j := 58) rfl) F3_17 et13 ?_
                  refine r_iload_n (dGet dX3_moved (j := 59) rfl) rfl ?_
                  refine r_aload_n (dGet dX3_moved (j := 60) rfl) nv0 rfl ?_
                  obtain ⟨t14, et14, hf⟩ := Option.bind_eq_some_iff.mp hf
                  refine r_getR (dGet dX3_moved (j := 61) rfl) F3_13 et14 ?_
                  refine r_aload_n (dGet dX3_moved (j := 62) rfl) nv0 rfl ?_
                  obtain ⟨t15, et15, hf⟩ := Option.bind_eq_some_iff.mp hf
                  refine r_getI (dGet dX3_moved (j := 63) rfl) F3_20 et15 ?_
                  refine r_iload (dGet dX3_moved (j := 64) rfl) rfl ?_
                  obtain ⟨h16, eh16, hf⟩ := Option.bind_eq_some_iff.mp hf
                  refine r_copy (dGet dX3_moved (j := 65) rfl) (by decide +kernel : pFind pAc 3 57 = some 6121) (Nat.le_of_ble_eq_true rfl) eh16 ?_
                  refine r_ldc2 (v := 4294967296) (dGet dX3_moved (j := 66) rfl) (by decide +kernel : pFind pKl 3 33 = some (4294967296, 5239)) ?_
                  refine r_aload_n (dGet dX3_moved (j := 67) rfl) nv0 rfl ?_
                  obtain ⟨t17, et17, hf⟩ := Option.bind_eq_some_iff.mp hf
                  refine r_getI (dGet dX3_moved (j := 68) rfl) F3_20 et17 ?_
                  refine r_i2l (dGet dX3_moved (j := 69) rfl) ?_
                  refine r_lor (dGet dX3_moved (j := 70) rfl) ?_
                  refine r_lstore (lv' := [(5, .long ((4294967296 : Int64) ||| (t17.toInt64))), (4, .int ((2 : Int32) + (t8.toInt32))), (3, .int (v1.toInt32)), (0, .ref v0), (1, .long v1)]) (dGet dX3_moved (j := 71) rfl) (by decide) rfl ?_
                  refine r_aload_n (dGet dX3_moved (j := 72) rfl) nv0 rfl ?_
                  refine r_dup (dGet dX3_moved (j := 73) rfl) rfl ?_
                  obtain ⟨t18, et18, hf⟩ := Option.bind_eq_some_iff.mp hf
                  refine r_getI (dGet dX3_moved (j := 74) rfl) F3_20 et18 ?_
                  refine r_iload (dGet dX3_moved (j := 75) rfl) rfl ?_
                  refine r_iadd (dGet dX3_moved (j := 76) rfl) ?_
                  obtain ⟨h19, eh19, hf⟩ := Option.bind_eq_some_iff.mp hf
                  refine r_putI (dGet dX3_moved (j := 77) rfl) F3_20 rfl rfl eh19 ?_
                  refine r_aload_n (dGet dX3_moved (j := 78) rfl) nv0 rfl ?_
                  obtain ⟨t20, et20, hf⟩ := Option.bind_eq_some_iff.mp hf
                  refine r_getR (dGet dX3_moved (j := 79) rfl) F3_17 et20 ?_
                  refine r_iload_n (dGet dX3_moved (j := 80) rfl) rfl ?_
                  refine r_ldc2 (v := (-2)) (dGet dX3_moved (j := 81) rfl) (by decide +kernel : pFind pKl 3 55 = some (-2, 6120)) ?_
                  obtain ⟨h21, eh21, hf⟩ := Option.bind_eq_some_iff.mp hf
                  refine r_last (dGet dX3_moved (j := 82) rfl) eh21 ?_
                  refine r_aload_n (dGet dX3_moved (j := 83) rfl) nv0 rfl ?_
                  obtain ⟨t22, et22, hf⟩ := Option.bind_eq_some_iff.mp hf
                  refine r_getR (dGet dX3_moved (j := 84) rfl) F3_17 et22 ?_
                  refine r_iload_n (dGet dX3_moved (j := 85) rfl) rfl ?_
                  refine r_iconst (dGet dX3_moved (j := 86) rfl) kI_1 ?_
                  refine r_iadd (dGet dX3_moved (j := 87) rfl) ?_
                  refine r_lload (dGet dX3_moved (j := 88) rfl) rfl ?_
                  obtain ⟨h23, eh23, hf⟩ := Option.bind_eq_some_iff.mp hf
                  refine r_last (dGet dX3_moved (j := 89) rfl) eh23 ?_
                  refine r_lload (dGet dX3_moved (j := 90) rfl) rfl ?_
                  cases hf
                  exact r_lret (dGet dX3_moved (j := 91) rfl) rfl
                · rw [if_neg c12] at hf
                  refine r_icmp_le_f (dGet dX3_moved (j := 54) rfl) rfl c12 ?_
                  refine r_lload_n (dGet dX3_moved (j := 55) rfl) rfl ?_
                  cases hf
                  exact r_lret (dGet dX3_moved (j := 56) rfl) rfl
        · rw [if_neg c3] at hf
          refine r_icmp_lt_f (dGet dX3_moved (j := 14) rfl) rfl c3 ?_
          refine r_lload_n (dGet dX3_moved (j := 15) rfl) rfl ?_
          cases hf
          exact r_lret (dGet dX3_moved (j := 16) rfl) rfl
  · rw [if_neg hc] at hf; cases hf
def eX3_finishMoving : List (Nat × Instr × Nat) := [(0, .bipush 6, 2), (2, .istore_n 1, 1), (3, .iconst 0, 1), (4, .istore_n 2, 1), (5, .iload_n 2, 1), (6, .sipush 10006, 3), (9, .if_icmp .ge 81, 3), (12, .iload_n 1, 1), (13, .aload_n 0, 1), (14, .getfield 20, 3), (17, .if_icmp .ge 73, 3), (20, .iload_n 1, 1), (21, .iconst 2, 1), (22, .iadd, 1), (23, .aload_n 0, 1), (24, .getfield 13, 3), (27, .iload_n 1, 1), (28, .iconst 1, 1), (29, .iadd, 1), (30, .laload, 1), (31, .l2i, 1), (32, .iadd, 1), (33, .istore_n 3, 1), (34, .aload_n 0, 1), (35, .getfield 13, 3), (38, .iload_n 1, 1), (39, .laload, 1), (40, .ldc2_w 63, 3), (43, .lcmp, 1), (44, .ifCond .eq 38, 3), (47, .iload_n 1, 1), (48, .iconst 2, 1), (49, .iadd, 1), (50, .istore 4, 2), (52, .iload 4, 2), (54, .iload_n 3, 1), (55, .if_icmp .ge 27, 3), (58, .aload_n 0, 1), (59, .getfield 13, 3), (62, .iload 4, 2), (64, .aload_n 0, 1), (65, .aload_n 0, 1), (66, .getfield 13, 3), (69, .iload 4, 2), (71, .laload, 1), (72, .invokevirtual 65, 3), (75, .lastore, 1), (76, .iinc 4 1, 3), (79, .goto (-27), 3), (82, .iload_n 3, 1), (83, .istore_n 1, 1), (84, .iinc 2 1, 3), (87, .goto (-82), 3), (90, .return_, 1)]
theorem dX3_finishMoving : dChk (pCd 6125) eX3_finishMoving = true := by decide +kernel
def fX3_finishMoving_82 (N : Nat) (k5 : Nat → Int32 → Int32 → pH → Option (pH)) (v0 : Nat) (v2 : Int32) (v3 : Int32) (h : pH) : Option (pH) :=
  k5 v0 v3 (v2 + (1 : Int32)) h
theorem lX3_finishMoving_82 (X : pX) (N d : Nat)  (k5 : Nat → Int32 → Int32 → pH → Option (pH)) (K5 : ∀ (w0 : Nat) (w1 : Int32) (w2 : Int32) (h : pH) (q : pH), k5 w0 w1 w2 h = some q → ¬ w0 = 4 → Run X (d + 2) 3 false (pCd 6125) 5 none 5 [(0, .ref w0), (1, .int w1), (2, .int w2)] [] h 0 0 (none, q, 0, 0)) (v0 : Nat) (v2 : Int32) (v3 : Int32) (h : pH) (q : pH) (hf : fX3_finishMoving_82 N k5 v0 v2 v3 h = some q) (nv0 : ¬ v0 = 4) : Run X (d + 2) 3 false (pCd 6125) 5 none 82 [(0, .ref v0), (2, .int v2), (3, .int v3)] [] h 0 0 (none, q, 0, 0) := by
  unfold fX3_finishMoving_82 at hf
  refine r_iload_n (dGet dX3_finishMoving (j := 49) rfl) rfl ?_
  refine r_istore_n (lv' := [(1, .int v3), (0, .ref v0), (2, .int v2), (3, .int v3)]) (dGet dX3_finishMoving (j := 50) rfl) (by decide) rfl ?_
  refine r_iinc (lv' := [(2, .int (v2 + (1 : Int32))), (1, .int v3), (0, .ref v0), (3, .int v3)]) (dGet dX3_finishMoving (j := 51) rfl) rfl (by decide) kI_1 rfl ?_
  refine r_goto (dGet dX3_finishMoving (j := 52) rfl) rfl ?_
  refine Run.weak [(0, .ref v0), (1, .int v3), (2, .int (v2 + (1 : Int32)))] (by simp) (by simp [pNd]) ?_
  exact K5 v0 v3 (v2 + (1 : Int32)) h q hf nv0
def fX3_finishMoving_52 (N : Nat) (k5 : Nat → Int32 → Int32 → pH → Option (pH)) : Nat → Nat → Int32 → Int32 → Int32 → pH → Option (pH)
  | 0, _, _, _, _, _ => none
  | n + 1, v0, v2, v3, v4, h => if v3 ≤ v4 then (
  fX3_finishMoving_82 N k5 v0 v2 v3 h) else (
  (getR h v0 3 0).bind fun t2 =>
  (getR h v0 3 0).bind fun t3 =>
  (ldJ h t3 v4).bind fun t4 =>
  (fX3_moved N v0 t4 h).bind fun q5 =>
  (stJ q5.2 t2 v4 q5.1).bind fun h6 =>
  fX3_finishMoving_52 N k5 n v0 v2 v3 (v4 + (1 : Int32)) h6)
theorem lX3_finishMoving_52 (X : pX) (N d : Nat)  (k5 : Nat → Int32 → Int32 → pH → Option (pH)) (K5 : ∀ (w0 : Nat) (w1 : Int32) (w2 : Int32) (h : pH) (q : pH), k5 w0 w1 w2 h = some q → ¬ w0 = 4 → Run X (d + 2) 3 false (pCd 6125) 5 none 5 [(0, .ref w0), (1, .int w1), (2, .int w2)] [] h 0 0 (none, q, 0, 0)) : ∀ (n : Nat) (v0 : Nat) (v2 : Int32) (v3 : Int32) (v4 : Int32) (h : pH) (q : pH), fX3_finishMoving_52 N k5 n v0 v2 v3 v4 h = some q → ¬ v0 = 4 → Run X (d + 2) 3 false (pCd 6125) 5 none 52 [(0, .ref v0), (2, .int v2), (3, .int v3), (4, .int v4)] [] h 0 0 (none, q, 0, 0) := by
  intro n
  induction n with
  | zero => intro v0 v2 v3 v4 h q hf; cases hf
  | succ n ih =>
    intro v0 v2 v3 v4 h q hf nv0
    unfold fX3_finishMoving_52 at hf
    refine r_iload (dGet dX3_finishMoving (j := 34) rfl) rfl ?_
    refine r_iload_n (dGet dX3_finishMoving (j := 35) rfl) rfl ?_
    by_cases c1 : v3 ≤ v4
    · rw [if_pos c1] at hf
      refine r_icmp_ge_t (dGet dX3_finishMoving (j := 36) rfl) rfl c1 ?_
      refine Run.weak [(0, .ref v0), (2, .int v2), (3, .int v3)] (by simp) (by simp [pNd]) ?_
      exact lX3_finishMoving_82 X N d k5 K5 v0 v2 v3 h q hf nv0
    · rw [if_neg c1] at hf
      refine r_icmp_ge_f (dGet dX3_finishMoving (j := 36) rfl) rfl c1 ?_
      refine r_aload_n (dGet dX3_finishMoving (j := 37) rfl) nv0 rfl ?_
      obtain ⟨t2, et2, hf⟩ := Option.bind_eq_some_iff.mp hf
      refine r_getR (dGet dX3_finishMoving (j := 38) rfl) F3_13 et2 ?_
      refine r_iload (dGet dX3_finishMoving (j := 39) rfl) rfl ?_
      refine r_aload_n (dGet dX3_finishMoving (j := 40) rfl) nv0 rfl ?_
      refine r_aload_n (dGet dX3_finishMoving (j := 41) rfl) nv0 rfl ?_
      obtain ⟨t3, et3, hf⟩ := Option.bind_eq_some_iff.mp hf
      refine r_getR (dGet dX3_finishMoving (j := 42) rfl) F3_13 et3 ?_
      refine r_iload (dGet dX3_finishMoving (j := 43) rfl) rfl ?_
      obtain ⟨t4, et4, hf⟩ := Option.bind_eq_some_iff.mp hf
      refine r_lald (dGet dX3_finishMoving (j := 44) rfl) et4 ?_
      obtain ⟨q5, eq5, hf⟩ := Option.bind_eq_some_iff.mp hf
      refine r_virtual (dGet dX3_finishMoving (j := 45) rfl) L3_65 M200 rfl rfl (Nat.le_of_ble_eq_true rfl) (oX3_moved eq5) (cX3_moved X N (d + 0) v0 t4 h q5 eq5) ?_
      obtain ⟨h6, eh6, hf⟩ := Option.bind_eq_some_iff.mp hf
      refine r_last (dGet dX3_finishMoving (j := 46) rfl) eh6 ?_
      refine r_iinc (lv' := [(4, .int (v4 + (1 : Int32))), (0, .ref v0), (2, .int v2), (3, .int v3)]) (dGet dX3_finishMoving (j := 47) rfl) rfl (by decide) kI_1 rfl ?_
      refine r_goto (dGet dX3_finishMoving (j := 48) rfl) rfl ?_
      refine Run.weak [(0, .ref v0), (2, .int v2), (3, .int v3), (4, .int (v4 + (1 : Int32)))] (by simp) (by simp [pNd]) ?_
      exact ih v0 v2 v3 (v4 + (1 : Int32)) h6 q hf nv0
def fX3_finishMoving_5 (N : Nat) : Nat → Nat → Int32 → Int32 → pH → Option (pH)
  | 0, _, _, _, _ => none
  | n + 1, v0, v1, v2, h => if (10006 : Int32) ≤ v2 then (
  some h) else (
  (getI h v0 3 2).bind fun t8 =>
  if t8 ≤ v1 then (
  some h) else (
  (getR h v0 3 0).bind fun t10 =>
  (ldJ h t10 (v1 + (1 : Int32))).bind fun t11 =>
  (getR h v0 3 0).bind fun t12 =>
  (ldJ h t12 v1).bind fun t13 =>
  if (lg_cmp t13 (-1 : Int64)) = 0 then (
  fX3_finishMoving_82 N (fX3_finishMoving_5 N n) v0 v2 ((v1 + (2 : Int32)) + (t11.toInt32)) h) else (
  fX3_finishMoving_52 N (fX3_finishMoving_5 N n) N v0 v2 ((v1 + (2 : Int32)) + (t11.toInt32)) (v1 + (2 : Int32)) h)))
theorem lX3_finishMoving_5 (X : pX) (N d : Nat)  : ∀ (n : Nat) (v0 : Nat) (v1 : Int32) (v2 : Int32) (h : pH) (q : pH), fX3_finishMoving_5 N n v0 v1 v2 h = some q → ¬ v0 = 4 → Run X (d + 2) 3 false (pCd 6125) 5 none 5 [(0, .ref v0), (1, .int v1), (2, .int v2)] [] h 0 0 (none, q, 0, 0) := by
  intro n
  induction n with
  | zero => intro v0 v1 v2 h q hf; cases hf
  | succ n ih =>
    intro v0 v1 v2 h q hf nv0
    unfold fX3_finishMoving_5 at hf
    refine r_iload_n (dGet dX3_finishMoving (j := 4) rfl) rfl ?_
    refine r_sipush (dGet dX3_finishMoving (j := 5) rfl) kS_10006 ?_
    by_cases c7 : (10006 : Int32) ≤ v2
    · rw [if_pos c7] at hf
      refine r_icmp_ge_t (dGet dX3_finishMoving (j := 6) rfl) rfl c7 ?_
      cases hf
      exact r_vret (dGet dX3_finishMoving (j := 53) rfl) rfl
    · rw [if_neg c7] at hf
      refine r_icmp_ge_f (dGet dX3_finishMoving (j := 6) rfl) rfl c7 ?_
      refine r_iload_n (dGet dX3_finishMoving (j := 7) rfl) rfl ?_
      refine r_aload_n (dGet dX3_finishMoving (j := 8) rfl) nv0 rfl ?_
      obtain ⟨t8, et8, hf⟩ := Option.bind_eq_some_iff.mp hf
      refine r_getI (dGet dX3_finishMoving (j := 9) rfl) F3_20 et8 ?_
      by_cases c9 : t8 ≤ v1
      · rw [if_pos c9] at hf
        refine r_icmp_ge_t (dGet dX3_finishMoving (j := 10) rfl) rfl c9 ?_
        cases hf
        exact r_vret (dGet dX3_finishMoving (j := 53) rfl) rfl
      · rw [if_neg c9] at hf
        refine r_icmp_ge_f (dGet dX3_finishMoving (j := 10) rfl) rfl c9 ?_
        refine r_iload_n (dGet dX3_finishMoving (j := 11) rfl) rfl ?_
        refine r_iconst (dGet dX3_finishMoving (j := 12) rfl) kI_2 ?_
        refine r_iadd (dGet dX3_finishMoving (j := 13) rfl) ?_
        refine r_aload_n (dGet dX3_finishMoving (j := 14) rfl) nv0 rfl ?_
        obtain ⟨t10, et10, hf⟩ := Option.bind_eq_some_iff.mp hf
        refine r_getR (dGet dX3_finishMoving (j := 15) rfl) F3_13 et10 ?_
        refine r_iload_n (dGet dX3_finishMoving (j := 16) rfl) rfl ?_
        refine r_iconst (dGet dX3_finishMoving (j := 17) rfl) kI_1 ?_
        refine r_iadd (dGet dX3_finishMoving (j := 18) rfl) ?_
        obtain ⟨t11, et11, hf⟩ := Option.bind_eq_some_iff.mp hf
        refine r_lald (dGet dX3_finishMoving (j := 19) rfl) et11 ?_
        refine r_l2i (dGet dX3_finishMoving (j := 20) rfl) ?_
        refine r_iadd (dGet dX3_finishMoving (j := 21) rfl) ?_
        refine r_istore_n (lv' := [(3, .int ((v1 + (2 : Int32)) + (t11.toInt32))), (0, .ref v0), (1, .int v1), (2, .int v2)]) (dGet dX3_finishMoving (j := 22) rfl) (by decide) rfl ?_
        refine r_aload_n (dGet dX3_finishMoving (j := 23) rfl) nv0 rfl ?_
        obtain ⟨t12, et12, hf⟩ := Option.bind_eq_some_iff.mp hf
        refine r_getR (dGet dX3_finishMoving (j := 24) rfl) F3_13 et12 ?_
        refine r_iload_n (dGet dX3_finishMoving (j := 25) rfl) rfl ?_
        obtain ⟨t13, et13, hf⟩ := Option.bind_eq_some_iff.mp hf
        refine r_lald (dGet dX3_finishMoving (j := 26) rfl) et13 ?_
        refine r_ldc2 (v := (-1)) (dGet dX3_finishMoving (j := 27) rfl) (by decide +kernel : pFind pKl 3 63 = some (-1, 6126)) ?_
        refine r_lcmp (dGet dX3_finishMoving (j := 28) rfl) ?_
        by_cases c14 : (lg_cmp t13 (-1 : Int64)) = 0
        · rw [if_pos c14] at hf
          refine r_if_eq_t (dGet dX3_finishMoving (j := 29) rfl) rfl c14 ?_
          refine Run.weak [(0, .ref v0), (2, .int v2), (3, .int ((v1 + (2 : Int32)) + (t11.toInt32)))] (by simp) (by simp [pNd]) ?_
          exact lX3_finishMoving_82 X N d (fX3_finishMoving_5 N n) ih v0 v2 ((v1 + (2 : Int32)) + (t11.toInt32)) h q hf nv0
        · rw [if_neg c14] at hf
          refine r_if_eq_f (dGet dX3_finishMoving (j := 29) rfl) rfl c14 ?_
          refine r_iload_n (dGet dX3_finishMoving (j := 30) rfl) rfl ?_
          refine r_iconst (dGet dX3_finishMoving (j := 31) rfl) kI_2 ?_
          refine r_iadd (dGet dX3_finishMoving (j := 32) rfl) ?_
          refine r_istore (lv' := [(4, .int (v1 + (2 : Int32))), (3, .int ((v1 + (2 : Int32)) + (t11.toInt32))), (0, .ref v0), (1, .int v1), (2, .int v2)]) (dGet dX3_finishMoving (j := 33) rfl) (by decide) rfl ?_
          refine Run.weak [(0, .ref v0), (2, .int v2), (3, .int ((v1 + (2 : Int32)) + (t11.toInt32))), (4, .int (v1 + (2 : Int32)))] (by simp) (by simp [pNd]) ?_
          exact lX3_finishMoving_52 X N d (fX3_finishMoving_5 N n) ih N v0 v2 ((v1 + (2 : Int32)) + (t11.toInt32)) (v1 + (2 : Int32)) h q hf nv0
def fX3_finishMoving (N : Nat) (v0 : Nat) (h : pH) : Option (pH) := if isO h v0 3 = true then (
  fX3_finishMoving_5 N N v0 (6 : Int32) (0 : Int32) h) else none
theorem oX3_finishMoving {N : Nat} {v0 : Nat} {h : pH} {q : pH} (hf : fX3_finishMoving N v0 h = some q) : isO h v0 3 = true := by
  unfold fX3_finishMoving at hf
  by_cases hc : isO h v0 3 = true
  · exact hc
  · rw [if_neg hc] at hf; cases hf
theorem cX3_finishMoving (X : pX) (N d : Nat) (v0 : Nat) (h : pH) (q : pH) (hf : fX3_finishMoving N v0 h = some q) : Calls X (d + 2) 201 [.ref v0] h (none, q, 0, 0) := by
  refine Calls.of M201 (Nat.le_of_ble_eq_true rfl) ?_
  show Run X (d + 2) 3 false (pCd 6125) 5 none 0 [(0, .ref v0)] [] h 0 0 (none, q, 0, 0)
  unfold fX3_finishMoving at hf
  by_cases hc : isO h v0 3 = true
  · rw [if_pos hc] at hf
    have nv0 : ¬ v0 = 4 := isO_ne hc
    refine r_bipush (dGet dX3_finishMoving (j := 0) rfl) kB_6 ?_
    refine r_istore_n (lv' := [(1, .int (6 : Int32)), (0, .ref v0)]) (dGet dX3_finishMoving (j := 1) rfl) (by decide) rfl ?_
    refine r_iconst (dGet dX3_finishMoving (j := 2) rfl) kI_0 ?_
    refine r_istore_n (lv' := [(2, .int (0 : Int32)), (1, .int (6 : Int32)), (0, .ref v0)]) (dGet dX3_finishMoving (j := 3) rfl) (by decide) rfl ?_
    refine Run.weak [(0, .ref v0), (1, .int (6 : Int32)), (2, .int (0 : Int32))] (by simp) (by simp [pNd]) ?_
    exact lX3_finishMoving_5 X N d N v0 (6 : Int32) (0 : Int32) h q hf nv0
  · rw [if_neg hc] at hf; cases hf
def eX4_add : List (Nat × Instr × Nat) := [(0, .aload_n 0, 1), (1, .getfield 9, 3), (4, .aload_n 0, 1), (5, .getfield 13, 3), (8, .aload_n 0, 1), (9, .getfield 17, 3), (12, .iadd, 1), (13, .sipush 300, 3), (16, .irem, 1), (17, .iload_n 1, 1), (18, .iastore, 1), (19, .aload_n 0, 1), (20, .dup, 1), (21, .getfield 17, 3), (24, .iconst 1, 1), (25, .iadd, 1), (26, .putfield 17, 3), (29, .return_, 1)]
theorem dX4_add : dChk (pCd 5211) eX4_add = true := by decide +kernel
def fX4_add (N : Nat) (v0 : Nat) (v1 : Int32) (h : pH) : Option (pH) := if isO h v0 4 = true then (
  (getR h v0 4 0).bind fun t1 =>
  (getI h v0 4 1).bind fun t2 =>
  (getI h v0 4 2).bind fun t3 =>
  (stI h t1 ((t2 + t3) - (t2 + t3) / (300 : Int32) * (300 : Int32)) v1).bind fun h4 =>
  (getI h4 v0 4 2).bind fun t5 =>
  (putI h4 v0 4 2 (t5 + (1 : Int32))).bind fun h6 =>
  some h6) else none
theorem oX4_add {N : Nat} {v0 : Nat} {v1 : Int32} {h : pH} {q : pH} (hf : fX4_add N v0 v1 h = some q) : isO h v0 4 = true := by
  unfold fX4_add at hf
  by_cases hc : isO h v0 4 = true
  · exact hc
  · rw [if_neg hc] at hf; cases hf
theorem cX4_add (X : pX) (N d : Nat) (v0 : Nat) (v1 : Int32) (h : pH) (q : pH) (hf : fX4_add N v0 v1 h = some q) : Calls X (d + 0) 167 [.ref v0, .int v1] h (none, q, 0, 0) := by
  refine Calls.of M167 (Nat.le_of_ble_eq_true rfl) ?_
  show Run X (d + 0) 4 false (pCd 5211) 2 none 0 [(0, .ref v0), (1, .int v1)] [] h 0 0 (none, q, 0, 0)
  unfold fX4_add at hf
  by_cases hc : isO h v0 4 = true
  · rw [if_pos hc] at hf
    have nv0 : ¬ v0 = 4 := isO_ne hc
    refine r_aload_n (dGet dX4_add (j := 0) rfl) nv0 rfl ?_
    obtain ⟨t1, et1, hf⟩ := Option.bind_eq_some_iff.mp hf
    refine r_getR (dGet dX4_add (j := 1) rfl) F4_9 et1 ?_
    refine r_aload_n (dGet dX4_add (j := 2) rfl) nv0 rfl ?_
    obtain ⟨t2, et2, hf⟩ := Option.bind_eq_some_iff.mp hf
    refine r_getI (dGet dX4_add (j := 3) rfl) F4_13 et2 ?_
    refine r_aload_n (dGet dX4_add (j := 4) rfl) nv0 rfl ?_
    obtain ⟨t3, et3, hf⟩ := Option.bind_eq_some_iff.mp hf
    refine r_getI (dGet dX4_add (j := 5) rfl) F4_17 et3 ?_
    refine r_iadd (dGet dX4_add (j := 6) rfl) ?_
    refine r_sipush (dGet dX4_add (j := 7) rfl) kS_300 ?_
    refine r_irem (dGet dX4_add (j := 8) rfl) (by decide) ?_
    refine r_iload_n (dGet dX4_add (j := 9) rfl) rfl ?_
    obtain ⟨h4, eh4, hf⟩ := Option.bind_eq_some_iff.mp hf
    refine r_iast (dGet dX4_add (j := 10) rfl) eh4 ?_
    refine r_aload_n (dGet dX4_add (j := 11) rfl) nv0 rfl ?_
    refine r_dup (dGet dX4_add (j := 12) rfl) rfl ?_
    obtain ⟨t5, et5, hf⟩ := Option.bind_eq_some_iff.mp hf
    refine r_getI (dGet dX4_add (j := 13) rfl) F4_17 et5 ?_
    refine r_iconst (dGet dX4_add (j := 14) rfl) kI_1 ?_
    refine r_iadd (dGet dX4_add (j := 15) rfl) ?_
    obtain ⟨h6, eh6, hf⟩ := Option.bind_eq_some_iff.mp hf
    refine r_putI (dGet dX4_add (j := 16) rfl) F4_17 rfl rfl eh6 ?_
    cases hf
    exact r_vret (dGet dX4_add (j := 17) rfl) rfl
  · rw [if_neg hc] at hf; cases hf
def eX4_addThree : List (Nat × Instr × Nat) := [(0, .aload_n 0, 1), (1, .getfield 17, 3), (4, .sipush 297, 3), (7, .if_icmp .le 5, 3), (10, .iconst (-1), 1), (11, .ireturn, 1), (12, .aload_n 0, 1), (13, .iload_n 1, 1), (14, .invokevirtual 20, 3), (17, .aload_n 0, 1), (18, .iload_n 2, 1), (19, .invokevirtual 20, 3), (22, .aload_n 0, 1), (23, .iload_n 3, 1), (24, .invokevirtual 20, 3), (27, .aload_n 0, 1), (28, .getfield 17, 3), (31, .ireturn, 1)]
theorem dX4_addThree : dChk (pCd 5207) eX4_addThree = true := by decide +kernel
def fX4_addThree (N : Nat) (v0 : Nat) (v1 : Int32) (v2 : Int32) (v3 : Int32) (h : pH) : Option (Int32 × pH) := if isO h v0 4 = true then (
  (getI h v0 4 2).bind fun t1 =>
  if t1 ≤ (297 : Int32) then (
  (fX4_add N v0 v1 h).bind fun h3 =>
  (fX4_add N v0 v2 h3).bind fun h4 =>
  (fX4_add N v0 v3 h4).bind fun h5 =>
  (getI h5 v0 4 2).bind fun t6 =>
  some (t6, h5)) else (
  some ((-1 : Int32), h))) else none
theorem oX4_addThree {N : Nat} {v0 : Nat} {v1 : Int32} {v2 : Int32} {v3 : Int32} {h : pH} {q : Int32 × pH} (hf : fX4_addThree N v0 v1 v2 v3 h = some q) : isO h v0 4 = true := by
  unfold fX4_addThree at hf
  by_cases hc : isO h v0 4 = true
  · exact hc
  · rw [if_neg hc] at hf; cases hf
theorem cX4_addThree (X : pX) (N d : Nat) (v0 : Nat) (v1 : Int32) (v2 : Int32) (v3 : Int32) (h : pH) (q : Int32 × pH) (hf : fX4_addThree N v0 v1 v2 v3 h = some q) : Calls X (d + 1) 166 [.ref v0, .int v1, .int v2, .int v3] h (some (.int q.1), q.2, 0, 0) := by
  refine Calls.of M166 (Nat.le_of_ble_eq_true rfl) ?_
  show Run X (d + 1) 4 false (pCd 5207) 4 (some .int) 0 [(0, .ref v0), (1, .int v1), (2, .int v2), (3, .int v3)] [] h 0 0 (some (.int q.1), q.2, 0, 0)
  unfold fX4_addThree at hf
  by_cases hc : isO h v0 4 = true
  · rw [if_pos hc] at hf
    have nv0 : ¬ v0 = 4 := isO_ne hc
    refine r_aload_n (dGet dX4_addThree (j := 0) rfl) nv0 rfl ?_
    obtain ⟨t1, et1, hf⟩ := Option.bind_eq_some_iff.mp hf
    refine r_getI (dGet dX4_addThree (j := 1) rfl) F4_17 et1 ?_
    refine r_sipush (dGet dX4_addThree (j := 2) rfl) kS_297 ?_
    by_cases c2 : t1 ≤ (297 : Int32)
    · rw [if_pos c2] at hf
      refine r_icmp_le_t (dGet dX4_addThree (j := 3) rfl) rfl c2 ?_
      refine r_aload_n (dGet dX4_addThree (j := 6) rfl) nv0 rfl ?_
      refine r_iload_n (dGet dX4_addThree (j := 7) rfl) rfl ?_
      obtain ⟨h3, eh3, hf⟩ := Option.bind_eq_some_iff.mp hf
      refine r_virtual (dGet dX4_addThree (j := 8) rfl) L4_20 M167 rfl rfl (Nat.le_of_ble_eq_true rfl) (oX4_add eh3) (cX4_add X N (d + 0) v0 v1 h h3 eh3) ?_
      refine r_aload_n (dGet dX4_addThree (j := 9) rfl) nv0 rfl ?_
      refine r_iload_n (dGet dX4_addThree (j := 10) rfl) rfl ?_
      obtain ⟨h4, eh4, hf⟩ := Option.bind_eq_some_iff.mp hf
      refine r_virtual (dGet dX4_addThree (j := 11) rfl) L4_20 M167 rfl rfl (Nat.le_of_ble_eq_true rfl) (oX4_add eh4) (cX4_add X N (d + 0) v0 v2 h3 h4 eh4) ?_
      refine r_aload_n (dGet dX4_addThree (j := 12) rfl) nv0 rfl ?_
      refine r_iload_n (dGet dX4_addThree (j := 13) rfl) rfl ?_
      obtain ⟨h5, eh5, hf⟩ := Option.bind_eq_some_iff.mp hf
      refine r_virtual (dGet dX4_addThree (j := 14) rfl) L4_20 M167 rfl rfl (Nat.le_of_ble_eq_true rfl) (oX4_add eh5) (cX4_add X N (d + 0) v0 v3 h4 h5 eh5) ?_
      refine r_aload_n (dGet dX4_addThree (j := 15) rfl) nv0 rfl ?_
      obtain ⟨t6, et6, hf⟩ := Option.bind_eq_some_iff.mp hf
      refine r_getI (dGet dX4_addThree (j := 16) rfl) F4_17 et6 ?_
      cases hf
      exact r_iret (dGet dX4_addThree (j := 17) rfl) rfl rfl
    · rw [if_neg c2] at hf
      refine r_icmp_le_f (dGet dX4_addThree (j := 3) rfl) rfl c2 ?_
      refine r_iconst (dGet dX4_addThree (j := 4) rfl) kI_m1 ?_
      cases hf
      exact r_iret (dGet dX4_addThree (j := 5) rfl) rfl rfl
  · rw [if_neg hc] at hf; cases hf
def eX1_told : List (Nat × Instr × Nat) := [(0, .aload_n 0, 1), (1, .getfield 31, 3), (4, .iconst 5, 1), (5, .isub, 1), (6, .ireturn, 1)]
theorem dX1_told : dChk (pCd 5195) eX1_told = true := by decide +kernel
def fX1_told (N : Nat) (v0 : Nat) (h : pH) : Option (Int32 × pH) := if isO h v0 1 = true then (
  (getI h v0 1 7).bind fun t1 =>
  some ((t1 - (5 : Int32)), h)) else none
theorem oX1_told {N : Nat} {v0 : Nat} {h : pH} {q : Int32 × pH} (hf : fX1_told N v0 h = some q) : isO h v0 1 = true := by
  unfold fX1_told at hf
  by_cases hc : isO h v0 1 = true
  · exact hc
  · rw [if_neg hc] at hf; cases hf
theorem cX1_told (X : pX) (N d : Nat) (v0 : Nat) (h : pH) (q : Int32 × pH) (hf : fX1_told N v0 h = some q) : Calls X (d + 0) 163 [.ref v0] h (some (.int q.1), q.2, 0, 0) := by
  refine Calls.of M163 (Nat.le_of_ble_eq_true rfl) ?_
  show Run X (d + 0) 1 false (pCd 5195) 1 (some .int) 0 [(0, .ref v0)] [] h 0 0 (some (.int q.1), q.2, 0, 0)
  unfold fX1_told at hf
  by_cases hc : isO h v0 1 = true
  · rw [if_pos hc] at hf
    have nv0 : ¬ v0 = 4 := isO_ne hc
    refine r_aload_n (dGet dX1_told (j := 0) rfl) nv0 rfl ?_
    obtain ⟨t1, et1, hf⟩ := Option.bind_eq_some_iff.mp hf
    refine r_getI (dGet dX1_told (j := 1) rfl) F1_31 et1 ?_
    refine r_iconst (dGet dX1_told (j := 2) rfl) kI_5 ?_
    refine r_isub (dGet dX1_told (j := 3) rfl) ?_
    cases hf
    exact r_iret (dGet dX1_told (j := 4) rfl) rfl rfl
  · rw [if_neg hc] at hf; cases hf
def eX1_add : List (Nat × Instr × Nat) := [(0, .aload_n 0, 1), (1, .getfield 31, 3), (4, .sipush 400, 3), (7, .if_icmp .ge 85, 3), (10, .aload_n 0, 1), (11, .getfield 9, 3), (14, .aload_n 0, 1), (15, .getfield 31, 3), (18, .iload_n 1, 1), (19, .iastore, 1), (20, .aload_n 0, 1), (21, .getfield 13, 3), (24, .aload_n 0, 1), (25, .getfield 31, 3), (28, .iload_n 2, 1), (29, .iastore, 1), (30, .aload_n 0, 1), (31, .getfield 16, 3), (34, .aload_n 0, 1), (35, .getfield 31, 3), (38, .iload_n 3, 1), (39, .iastore, 1), (40, .aload_n 0, 1), (41, .getfield 19, 3), (44, .aload_n 0, 1), (45, .getfield 31, 3), (48, .iconst (-1), 1), (49, .iastore, 1), (50, .aload_n 0, 1), (51, .getfield 22, 3), (54, .aload_n 0, 1), (55, .getfield 31, 3), (58, .iload 4, 2), (60, .iastore, 1), (61, .aload_n 0, 1), (62, .getfield 25, 3), (65, .aload_n 0, 1), (66, .getfield 31, 3), (69, .iload 4, 2), (71, .iastore, 1), (72, .aload_n 0, 1), (73, .getfield 28, 3), (76, .aload_n 0, 1), (77, .getfield 31, 3), (80, .iconst 0, 1), (81, .iastore, 1), (82, .aload_n 0, 1), (83, .dup, 1), (84, .getfield 31, 3), (87, .iconst 1, 1), (88, .iadd, 1), (89, .putfield 31, 3), (92, .return_, 1)]
theorem dX1_add : dChk (pCd 4000) eX1_add = true := by decide +kernel
def fX1_add (N : Nat) (v0 : Nat) (v1 : Int32) (v2 : Int32) (v3 : Int32) (v4 : Int32) (h : pH) : Option (pH) := if isO h v0 1 = true then (
  (getI h v0 1 7).bind fun t1 =>
  if (400 : Int32) ≤ t1 then (
  some h) else (
  (getR h v0 1 0).bind fun t3 =>
  (getI h v0 1 7).bind fun t4 =>
  (stI h t3 t4 v1).bind fun h5 =>
  (getR h5 v0 1 1).bind fun t6 =>
  (getI h5 v0 1 7).bind fun t7 =>
  (stI h5 t6 t7 v2).bind fun h8 =>
  (getR h8 v0 1 2).bind fun t9 =>
  (getI h8 v0 1 7).bind fun t10 =>
  (stI h8 t9 t10 v3).bind fun h11 =>
  (getR h11 v0 1 3).bind fun t12 =>
  (getI h11 v0 1 7).bind fun t13 =>
  (stI h11 t12 t13 (-1 : Int32)).bind fun h14 =>
  (getR h14 v0 1 4).bind fun t15 =>
  (getI h14 v0 1 7).bind fun t16 =>
  (stI h14 t15 t16 v4).bind fun h17 =>
  (getR h17 v0 1 5).bind fun t18 =>
  (getI h17 v0 1 7).bind fun t19 =>
  (stI h17 t18 t19 v4).bind fun h20 =>
  (getR h20 v0 1 6).bind fun t21 =>
  (getI h20 v0 1 7).bind fun t22 =>
  (stI h20 t21 t22 (0 : Int32)).bind fun h23 =>
  (getI h23 v0 1 7).bind fun t24 =>
  (putI h23 v0 1 7 (t24 + (1 : Int32))).bind fun h25 =>
  some h25)) else none
theorem oX1_add {N : Nat} {v0 : Nat} {v1 : Int32} {v2 : Int32} {v3 : Int32} {v4 : Int32} {h : pH} {q : pH} (hf : fX1_add N v0 v1 v2 v3 v4 h = some q) : isO h v0 1 = true := by
  unfold fX1_add at hf
  by_cases hc : isO h v0 1 = true
  · exact hc
  · rw [if_neg hc] at hf; cases hf
theorem cX1_add (X : pX) (N d : Nat) (v0 : Nat) (v1 : Int32) (v2 : Int32) (v3 : Int32) (v4 : Int32) (h : pH) (q : pH) (hf : fX1_add N v0 v1 v2 v3 v4 h = some q) : Calls X (d + 0) 56 [.ref v0, .int v1, .int v2, .int v3, .int v4] h (none, q, 0, 0) := by
  refine Calls.of M56 (Nat.le_of_ble_eq_true rfl) ?_
  show Run X (d + 0) 1 false (pCd 4000) 5 none 0 [(0, .ref v0), (1, .int v1), (2, .int v2), (3, .int v3), (4, .int v4)] [] h 0 0 (none, q, 0, 0)
  unfold fX1_add at hf
  by_cases hc : isO h v0 1 = true
  · rw [if_pos hc] at hf
    have nv0 : ¬ v0 = 4 := isO_ne hc
    refine r_aload_n (dGet dX1_add (j := 0) rfl) nv0 rfl ?_
    obtain ⟨t1, et1, hf⟩ := Option.bind_eq_some_iff.mp hf
    refine r_getI (dGet dX1_add (j := 1) rfl) F1_31 et1 ?_
    refine r_sipush (dGet dX1_add (j := 2) rfl) kS_400 ?_
    by_cases c2 : (400 : Int32) ≤ t1
    · rw [if_pos c2] at hf
      refine r_icmp_ge_t (dGet dX1_add (j := 3) rfl) rfl c2 ?_
      cases hf
      exact r_vret (dGet dX1_add (j := 52) rfl) rfl
    · rw [if_neg c2] at hf
      refine r_icmp_ge_f (dGet dX1_add (j := 3) rfl) rfl c2 ?_
      refine r_aload_n (dGet dX1_add (j := 4) rfl) nv0 rfl ?_
      obtain ⟨t3, et3, hf⟩ := Option.bind_eq_some_iff.mp hf
      refine r_getR (dGet dX1_add (j := 5) rfl) F1_9 et3 ?_
      refine r_aload_n (dGet dX1_add (j := 6) rfl) nv0 rfl ?_
      obtain ⟨t4, et4, hf⟩ := Option.bind_eq_some_iff.mp hf
      refine r_getI (dGet dX1_add (j := 7) rfl) F1_31 et4 ?_
      refine r_iload_n (dGet dX1_add (j := 8) rfl) rfl ?_
      obtain ⟨h5, eh5, hf⟩ := Option.bind_eq_some_iff.mp hf
      refine r_iast (dGet dX1_add (j := 9) rfl) eh5 ?_
      refine r_aload_n (dGet dX1_add (j := 10) rfl) nv0 rfl ?_
      obtain ⟨t6, et6, hf⟩ := Option.bind_eq_some_iff.mp hf
      refine r_getR (dGet dX1_add (j := 11) rfl) F1_13 et6 ?_
      refine r_aload_n (dGet dX1_add (j := 12) rfl) nv0 rfl ?_
      obtain ⟨t7, et7, hf⟩ := Option.bind_eq_some_iff.mp hf
      refine r_getI (dGet dX1_add (j := 13) rfl) F1_31 et7 ?_
      refine r_iload_n (dGet dX1_add (j := 14) rfl) rfl ?_
      obtain ⟨h8, eh8, hf⟩ := Option.bind_eq_some_iff.mp hf
      refine r_iast (dGet dX1_add (j := 15) rfl) eh8 ?_
      refine r_aload_n (dGet dX1_add (j := 16) rfl) nv0 rfl ?_
      obtain ⟨t9, et9, hf⟩ := Option.bind_eq_some_iff.mp hf
      refine r_getR (dGet dX1_add (j := 17) rfl) F1_16 et9 ?_
      refine r_aload_n (dGet dX1_add (j := 18) rfl) nv0 rfl ?_
      obtain ⟨t10, et10, hf⟩ := Option.bind_eq_some_iff.mp hf
      refine r_getI (dGet dX1_add (j := 19) rfl) F1_31 et10 ?_
      refine r_iload_n (dGet dX1_add (j := 20) rfl) rfl ?_
      obtain ⟨h11, eh11, hf⟩ := Option.bind_eq_some_iff.mp hf
      refine r_iast (dGet dX1_add (j := 21) rfl) eh11 ?_
      refine r_aload_n (dGet dX1_add (j := 22) rfl) nv0 rfl ?_
      obtain ⟨t12, et12, hf⟩ := Option.bind_eq_some_iff.mp hf
      refine r_getR (dGet dX1_add (j := 23) rfl) F1_19 et12 ?_
      refine r_aload_n (dGet dX1_add (j := 24) rfl) nv0 rfl ?_
      obtain ⟨t13, et13, hf⟩ := Option.bind_eq_some_iff.mp hf
      refine r_getI (dGet dX1_add (j := 25) rfl) F1_31 et13 ?_
      refine r_iconst (dGet dX1_add (j := 26) rfl) kI_m1 ?_
      obtain ⟨h14, eh14, hf⟩ := Option.bind_eq_some_iff.mp hf
      refine r_iast (dGet dX1_add (j := 27) rfl) eh14 ?_
      refine r_aload_n (dGet dX1_add (j := 28) rfl) nv0 rfl ?_
      obtain ⟨t15, et15, hf⟩ := Option.bind_eq_some_iff.mp hf
      refine r_getR (dGet dX1_add (j := 29) rfl) F1_22 et15 ?_
      refine r_aload_n (dGet dX1_add (j := 30) rfl) nv0 rfl ?_
      obtain ⟨t16, et16, hf⟩ := Option.bind_eq_some_iff.mp hf
      refine r_getI (dGet dX1_add (j := 31) rfl) F1_31 et16 ?_
      refine r_iload (dGet dX1_add (j := 32) rfl) rfl ?_
      obtain ⟨h17, eh17, hf⟩ := Option.bind_eq_some_iff.mp hf
      refine r_iast (dGet dX1_add (j := 33) rfl) eh17 ?_
      refine r_aload_n (dGet dX1_add (j := 34) rfl) nv0 rfl ?_
      obtain ⟨t18, et18, hf⟩ := Option.bind_eq_some_iff.mp hf
      refine r_getR (dGet dX1_add (j := 35) rfl) F1_25 et18 ?_
      refine r_aload_n (dGet dX1_add (j := 36) rfl) nv0 rfl ?_
      obtain ⟨t19, et19, hf⟩ := Option.bind_eq_some_iff.mp hf
      refine r_getI (dGet dX1_add (j := 37) rfl) F1_31 et19 ?_
      refine r_iload (dGet dX1_add (j := 38) rfl) rfl ?_
      obtain ⟨h20, eh20, hf⟩ := Option.bind_eq_some_iff.mp hf
      refine r_iast (dGet dX1_add (j := 39) rfl) eh20 ?_
      refine r_aload_n (dGet dX1_add (j := 40) rfl) nv0 rfl ?_
      obtain ⟨t21, et21, hf⟩ := Option.bind_eq_some_iff.mp hf
      refine r_getR (dGet dX1_add (j := 41) rfl) F1_28 et21 ?_
      refine r_aload_n (dGet dX1_add (j := 42) rfl) nv0 rfl ?_
      obtain ⟨t22, et22, hf⟩ := Option.bind_eq_some_iff.mp hf
      refine r_getI (dGet dX1_add (j := 43) rfl) F1_31 et22 ?_
      refine r_iconst (dGet dX1_add (j := 44) rfl) kI_0 ?_
      obtain ⟨h23, eh23, hf⟩ := Option.bind_eq_some_iff.mp hf
      refine r_iast (dGet dX1_add (j := 45) rfl) eh23 ?_
      refine r_aload_n (dGet dX1_add (j := 46) rfl) nv0 rfl ?_
      refine r_dup (dGet dX1_add (j := 47) rfl) rfl ?_
      obtain ⟨t24, et24, hf⟩ := Option.bind_eq_some_iff.mp hf
      refine r_getI (dGet dX1_add (j := 48) rfl) F1_31 et24 ?_
      refine r_iconst (dGet dX1_add (j := 49) rfl) kI_1 ?_
      refine r_iadd (dGet dX1_add (j := 50) rfl) ?_
      obtain ⟨h25, eh25, hf⟩ := Option.bind_eq_some_iff.mp hf
      refine r_putI (dGet dX1_add (j := 51) rfl) F1_31 rfl rfl eh25 ?_
      cases hf
      exact r_vret (dGet dX1_add (j := 52) rfl) rfl
  · rw [if_neg hc] at hf; cases hf
def eX1_closeLast : List (Nat × Instr × Nat) := [(0, .aload_n 0, 1), (1, .getfield 31, 3), (4, .ifCond .le 15, 3), (7, .aload_n 0, 1), (8, .getfield 25, 3), (11, .aload_n 0, 1), (12, .getfield 31, 3), (15, .iconst 1, 1), (16, .isub, 1), (17, .iload_n 1, 1), (18, .iastore, 1), (19, .return_, 1)]
theorem dX1_closeLast : dChk (pCd 4188) eX1_closeLast = true := by decide +kernel
def fX1_closeLast (N : Nat) (v0 : Nat) (v1 : Int32) (h : pH) : Option (pH) := if isO h v0 1 = true then (
  (getI h v0 1 7).bind fun t1 =>
  if t1 ≤ 0 then (
  some h) else (
  (getR h v0 1 5).bind fun t3 =>
  (getI h v0 1 7).bind fun t4 =>
  (stI h t3 (t4 - (1 : Int32)) v1).bind fun h5 =>
  some h5)) else none
theorem oX1_closeLast {N : Nat} {v0 : Nat} {v1 : Int32} {h : pH} {q : pH} (hf : fX1_closeLast N v0 v1 h = some q) : isO h v0 1 = true := by
  unfold fX1_closeLast at hf
  by_cases hc : isO h v0 1 = true
  · exact hc
  · rw [if_neg hc] at hf; cases hf
theorem cX1_closeLast (X : pX) (N d : Nat) (v0 : Nat) (v1 : Int32) (h : pH) (q : pH) (hf : fX1_closeLast N v0 v1 h = some q) : Calls X (d + 0) 104 [.ref v0, .int v1] h (none, q, 0, 0) := by
  refine Calls.of M104 (Nat.le_of_ble_eq_true rfl) ?_
  show Run X (d + 0) 1 false (pCd 4188) 2 none 0 [(0, .ref v0), (1, .int v1)] [] h 0 0 (none, q, 0, 0)
  unfold fX1_closeLast at hf
  by_cases hc : isO h v0 1 = true
  · rw [if_pos hc] at hf
    have nv0 : ¬ v0 = 4 := isO_ne hc
    refine r_aload_n (dGet dX1_closeLast (j := 0) rfl) nv0 rfl ?_
    obtain ⟨t1, et1, hf⟩ := Option.bind_eq_some_iff.mp hf
    refine r_getI (dGet dX1_closeLast (j := 1) rfl) F1_31 et1 ?_
    by_cases c2 : t1 ≤ 0
    · rw [if_pos c2] at hf
      refine r_if_le_t (dGet dX1_closeLast (j := 2) rfl) rfl c2 ?_
      cases hf
      exact r_vret (dGet dX1_closeLast (j := 11) rfl) rfl
    · rw [if_neg c2] at hf
      refine r_if_le_f (dGet dX1_closeLast (j := 2) rfl) rfl c2 ?_
      refine r_aload_n (dGet dX1_closeLast (j := 3) rfl) nv0 rfl ?_
      obtain ⟨t3, et3, hf⟩ := Option.bind_eq_some_iff.mp hf
      refine r_getR (dGet dX1_closeLast (j := 4) rfl) F1_25 et3 ?_
      refine r_aload_n (dGet dX1_closeLast (j := 5) rfl) nv0 rfl ?_
      obtain ⟨t4, et4, hf⟩ := Option.bind_eq_some_iff.mp hf
      refine r_getI (dGet dX1_closeLast (j := 6) rfl) F1_31 et4 ?_
      refine r_iconst (dGet dX1_closeLast (j := 7) rfl) kI_1 ?_
      refine r_isub (dGet dX1_closeLast (j := 8) rfl) ?_
      refine r_iload_n (dGet dX1_closeLast (j := 9) rfl) rfl ?_
      obtain ⟨h5, eh5, hf⟩ := Option.bind_eq_some_iff.mp hf
      refine r_iast (dGet dX1_closeLast (j := 10) rfl) eh5 ?_
      cases hf
      exact r_vret (dGet dX1_closeLast (j := 11) rfl) rfl
  · rw [if_neg hc] at hf; cases hf
def eX1_clear : List (Nat × Instr × Nat) := [(0, .aload_n 0, 1), (1, .iconst 0, 1), (2, .putfield 31, 3), (5, .iconst 0, 1), (6, .istore_n 1, 1), (7, .iload_n 1, 1), (8, .iconst 5, 1), (9, .if_icmp .ge 20, 3), (12, .aload_n 0, 1), (13, .bipush 21, 2), (15, .iload_n 1, 1), (16, .iadd, 1), (17, .iconst 0, 1), (18, .iconst (-1), 1), (19, .iconst 0, 1), (20, .invokevirtual 37, 3), (23, .iinc 1 1, 3), (26, .goto (-19), 3), (29, .return_, 1)]
theorem dX1_clear : dChk (pCd 3236) eX1_clear = true := by decide +kernel
def fX1_clear_7 (N : Nat) : Nat → Nat → Int32 → pH → Option (pH)
  | 0, _, _, _ => none
  | n + 1, v0, v1, h => if (5 : Int32) ≤ v1 then (
  some h) else (
  (fX1_add N v0 ((21 : Int32) + v1) (0 : Int32) (-1 : Int32) (0 : Int32) h).bind fun h2 =>
  fX1_clear_7 N n v0 (v1 + (1 : Int32)) h2)
theorem lX1_clear_7 (X : pX) (N d : Nat)  : ∀ (n : Nat) (v0 : Nat) (v1 : Int32) (h : pH) (q : pH), fX1_clear_7 N n v0 v1 h = some q → ¬ v0 = 4 → Run X (d + 1) 1 false (pCd 3236) 2 none 7 [(0, .ref v0), (1, .int v1)] [] h 0 0 (none, q, 0, 0) := by
  intro n
  induction n with
  | zero => intro v0 v1 h q hf; cases hf
  | succ n ih =>
    intro v0 v1 h q hf nv0
    unfold fX1_clear_7 at hf
    refine r_iload_n (dGet dX1_clear (j := 5) rfl) rfl ?_
    refine r_iconst (dGet dX1_clear (j := 6) rfl) kI_5 ?_
    by_cases c1 : (5 : Int32) ≤ v1
    · rw [if_pos c1] at hf
      refine r_icmp_ge_t (dGet dX1_clear (j := 7) rfl) rfl c1 ?_
      cases hf
      exact r_vret (dGet dX1_clear (j := 18) rfl) rfl
    · rw [if_neg c1] at hf
      refine r_icmp_ge_f (dGet dX1_clear (j := 7) rfl) rfl c1 ?_
      refine r_aload_n (dGet dX1_clear (j := 8) rfl) nv0 rfl ?_
      refine r_bipush (dGet dX1_clear (j := 9) rfl) kB_21 ?_
      refine r_iload_n (dGet dX1_clear (j := 10) rfl) rfl ?_
      refine r_iadd (dGet dX1_clear (j := 11) rfl) ?_
      refine r_iconst (dGet dX1_clear (j := 12) rfl) kI_0 ?_
      refine r_iconst (dGet dX1_clear (j := 13) rfl) kI_m1 ?_
      refine r_iconst (dGet dX1_clear (j := 14) rfl) kI_0 ?_
      obtain ⟨h2, eh2, hf⟩ := Option.bind_eq_some_iff.mp hf
      refine r_virtual (dGet dX1_clear (j := 15) rfl) L1_37 M56 rfl rfl (Nat.le_of_ble_eq_true rfl) (oX1_add eh2) (cX1_add X N (d + 0) v0 ((21 : Int32) + v1) (0 : Int32) (-1 : Int32) (0 : Int32) h h2 eh2) ?_
      refine r_iinc (lv' := [(1, .int (v1 + (1 : Int32))), (0, .ref v0)]) (dGet dX1_clear (j := 16) rfl) rfl (by decide) kI_1 rfl ?_
      refine r_goto (dGet dX1_clear (j := 17) rfl) rfl ?_
      refine Run.weak [(0, .ref v0), (1, .int (v1 + (1 : Int32)))] (by simp) (by simp [pNd]) ?_
      exact ih v0 (v1 + (1 : Int32)) h2 q hf nv0
def fX1_clear (N : Nat) (v0 : Nat) (h : pH) : Option (pH) := if isO h v0 1 = true then (
  (putI h v0 1 7 (0 : Int32)).bind fun h3 =>
  fX1_clear_7 N N v0 (0 : Int32) h3) else none
theorem oX1_clear {N : Nat} {v0 : Nat} {h : pH} {q : pH} (hf : fX1_clear N v0 h = some q) : isO h v0 1 = true := by
  unfold fX1_clear at hf
  by_cases hc : isO h v0 1 = true
  · exact hc
  · rw [if_neg hc] at hf; cases hf
theorem cX1_clear (X : pX) (N d : Nat) (v0 : Nat) (h : pH) (q : pH) (hf : fX1_clear N v0 h = some q) : Calls X (d + 1) 55 [.ref v0] h (none, q, 0, 0) := by
  refine Calls.of M55 (Nat.le_of_ble_eq_true rfl) ?_
  show Run X (d + 1) 1 false (pCd 3236) 2 none 0 [(0, .ref v0)] [] h 0 0 (none, q, 0, 0)
  unfold fX1_clear at hf
  by_cases hc : isO h v0 1 = true
  · rw [if_pos hc] at hf
    have nv0 : ¬ v0 = 4 := isO_ne hc
    refine r_aload_n (dGet dX1_clear (j := 0) rfl) nv0 rfl ?_
    refine r_iconst (dGet dX1_clear (j := 1) rfl) kI_0 ?_
    obtain ⟨h3, eh3, hf⟩ := Option.bind_eq_some_iff.mp hf
    refine r_putI (dGet dX1_clear (j := 2) rfl) F1_31 rfl rfl eh3 ?_
    refine r_iconst (dGet dX1_clear (j := 3) rfl) kI_0 ?_
    refine r_istore_n (lv' := [(1, .int (0 : Int32)), (0, .ref v0)]) (dGet dX1_clear (j := 4) rfl) (by decide) rfl ?_
    refine Run.weak [(0, .ref v0), (1, .int (0 : Int32))] (by simp) (by simp [pNd]) ?_
    exact lX1_clear_7 X N d N v0 (0 : Int32) h3 q hf nv0
  · rw [if_neg hc] at hf; cases hf
def eX2_clear : List (Nat × Instr × Nat) := [(0, .aload_n 0, 1), (1, .iconst 0, 1), (2, .putfield 31, 3), (5, .aload_n 0, 1), (6, .iconst 0, 1), (7, .putfield 35, 3), (10, .aload_n 0, 1), (11, .iconst (-1), 1), (12, .putfield 38, 3), (15, .return_, 1)]
theorem dX2_clear : dChk (pCd 4008) eX2_clear = true := by decide +kernel
def fX2_clear (N : Nat) (v0 : Nat) (h : pH) : Option (pH) := if isO h v0 2 = true then (
  (putI h v0 2 7 (0 : Int32)).bind fun h1 =>
  (putI h1 v0 2 8 (0 : Int32)).bind fun h2 =>
  (putI h2 v0 2 9 (-1 : Int32)).bind fun h3 =>
  some h3) else none
theorem oX2_clear {N : Nat} {v0 : Nat} {h : pH} {q : pH} (hf : fX2_clear N v0 h = some q) : isO h v0 2 = true := by
  unfold fX2_clear at hf
  by_cases hc : isO h v0 2 = true
  · exact hc
  · rw [if_neg hc] at hf; cases hf
theorem cX2_clear (X : pX) (N d : Nat) (v0 : Nat) (h : pH) (q : pH) (hf : fX2_clear N v0 h = some q) : Calls X (d + 0) 58 [.ref v0] h (none, q, 0, 0) := by
  refine Calls.of M58 (Nat.le_of_ble_eq_true rfl) ?_
  show Run X (d + 0) 2 false (pCd 4008) 1 none 0 [(0, .ref v0)] [] h 0 0 (none, q, 0, 0)
  unfold fX2_clear at hf
  by_cases hc : isO h v0 2 = true
  · rw [if_pos hc] at hf
    have nv0 : ¬ v0 = 4 := isO_ne hc
    refine r_aload_n (dGet dX2_clear (j := 0) rfl) nv0 rfl ?_
    refine r_iconst (dGet dX2_clear (j := 1) rfl) kI_0 ?_
    obtain ⟨h1, eh1, hf⟩ := Option.bind_eq_some_iff.mp hf
    refine r_putI (dGet dX2_clear (j := 2) rfl) F2_31 rfl rfl eh1 ?_
    refine r_aload_n (dGet dX2_clear (j := 3) rfl) nv0 rfl ?_
    refine r_iconst (dGet dX2_clear (j := 4) rfl) kI_0 ?_
    obtain ⟨h2, eh2, hf⟩ := Option.bind_eq_some_iff.mp hf
    refine r_putI (dGet dX2_clear (j := 5) rfl) F2_35 rfl rfl eh2 ?_
    refine r_aload_n (dGet dX2_clear (j := 6) rfl) nv0 rfl ?_
    refine r_iconst (dGet dX2_clear (j := 7) rfl) kI_m1 ?_
    obtain ⟨h3, eh3, hf⟩ := Option.bind_eq_some_iff.mp hf
    refine r_putI (dGet dX2_clear (j := 8) rfl) F2_38 rfl rfl eh3 ?_
    cases hf
    exact r_vret (dGet dX2_clear (j := 9) rfl) rfl
  · rw [if_neg hc] at hf; cases hf
def eX2_emit : List (Nat × Instr × Nat) := [(0, .aload_n 0, 1), (1, .getfield 31, 3), (4, .sipush 3100, 3), (7, .if_icmp .lt 7, 3), (10, .sipush 3099, 3), (13, .ireturn, 1), (14, .aload_n 0, 1), (15, .getfield 9, 3), (18, .aload_n 0, 1), (19, .getfield 31, 3), (22, .iload_n 1, 1), (23, .iastore, 1), (24, .aload_n 0, 1), (25, .getfield 13, 3), (28, .aload_n 0, 1), (29, .getfield 31, 3), (32, .iload_n 2, 1), (33, .iastore, 1), (34, .aload_n 0, 1), (35, .getfield 16, 3), (38, .aload_n 0, 1), (39, .getfield 31, 3), (42, .iload_n 3, 1), (43, .iastore, 1), (44, .aload_n 0, 1), (45, .getfield 19, 3), (48, .aload_n 0, 1), (49, .getfield 31, 3), (52, .iconst 0, 1), (53, .iastore, 1), (54, .aload_n 0, 1), (55, .getfield 22, 3), (58, .aload_n 0, 1), (59, .getfield 31, 3), (62, .aload_n 0, 1), (63, .getfield 35, 3), (66, .iastore, 1), (67, .aload_n 0, 1), (68, .getfield 25, 3), (71, .aload_n 0, 1), (72, .getfield 31, 3), (75, .iconst 0, 1), (76, .iastore, 1), (77, .aload_n 0, 1), (78, .getfield 28, 3), (81, .aload_n 0, 1), (82, .getfield 31, 3), (85, .aload_n 0, 1), (86, .getfield 38, 3), (89, .iastore, 1), (90, .aload_n 0, 1), (91, .dup, 1), (92, .getfield 31, 3), (95, .iconst 1, 1), (96, .iadd, 1), (97, .putfield 31, 3), (100, .aload_n 0, 1), (101, .getfield 31, 3), (104, .iconst 1, 1), (105, .isub, 1), (106, .ireturn, 1)]
theorem dX2_emit : dChk (pCd 4101) eX2_emit = true := by decide +kernel
def fX2_emit (N : Nat) (v0 : Nat) (v1 : Int32) (v2 : Int32) (v3 : Int32) (h : pH) : Option (Int32 × pH) := if isO h v0 2 = true then (
  (getI h v0 2 7).bind fun t1 =>
  if t1 < (3100 : Int32) then (
  (getR h v0 2 0).bind fun t3 =>
  (getI h v0 2 7).bind fun t4 =>
  (stI h t3 t4 v1).bind fun h5 =>
  (getR h5 v0 2 1).bind fun t6 =>
  (getI h5 v0 2 7).bind fun t7 =>
  (stI h5 t6 t7 v2).bind fun h8 =>
  (getR h8 v0 2 2).bind fun t9 =>
  (getI h8 v0 2 7).bind fun t10 =>
  (stI h8 t9 t10 v3).bind fun h11 =>
  (getR h11 v0 2 3).bind fun t12 =>
  (getI h11 v0 2 7).bind fun t13 =>
  (stI h11 t12 t13 (0 : Int32)).bind fun h14 =>
  (getR h14 v0 2 4).bind fun t15 =>
  (getI h14 v0 2 7).bind fun t16 =>
  (getI h14 v0 2 8).bind fun t17 =>
  (stI h14 t15 t16 t17).bind fun h18 =>
  (getR h18 v0 2 5).bind fun t19 =>
  (getI h18 v0 2 7).bind fun t20 =>
  (stI h18 t19 t20 (0 : Int32)).bind fun h21 =>
  (getR h21 v0 2 6).bind fun t22 =>
  (getI h21 v0 2 7).bind fun t23 =>
  (getI h21 v0 2 9).bind fun t24 =>
  (stI h21 t22 t23 t24).bind fun h25 =>
  (getI h25 v0 2 7).bind fun t26 =>
  (putI h25 v0 2 7 (t26 + (1 : Int32))).bind fun h27 =>
  (getI h27 v0 2 7).bind fun t28 =>
  some ((t28 - (1 : Int32)), h27)) else (
  some ((3099 : Int32), h))) else none
theorem oX2_emit {N : Nat} {v0 : Nat} {v1 : Int32} {v2 : Int32} {v3 : Int32} {h : pH} {q : Int32 × pH} (hf : fX2_emit N v0 v1 v2 v3 h = some q) : isO h v0 2 = true := by
  unfold fX2_emit at hf
  by_cases hc : isO h v0 2 = true
  · exact hc
  · rw [if_neg hc] at hf; cases hf
theorem cX2_emit (X : pX) (N d : Nat) (v0 : Nat) (v1 : Int32) (v2 : Int32) (v3 : Int32) (h : pH) (q : Int32 × pH) (hf : fX2_emit N v0 v1 v2 v3 h = some q) : Calls X (d + 0) 81 [.ref v0, .int v1, .int v2, .int v3] h (some (.int q.1), q.2, 0, 0) := by
  refine Calls.of M81 (Nat.le_of_ble_eq_true rfl) ?_
  show Run X (d + 0) 2 false (pCd 4101) 4 (some .int) 0 [(0, .ref v0), (1, .int v1), (2, .int v2), (3, .int v3)] [] h 0 0 (some (.int q.1), q.2, 0, 0)
  unfold fX2_emit at hf
  by_cases hc : isO h v0 2 = true
  · rw [if_pos hc] at hf
    have nv0 : ¬ v0 = 4 := isO_ne hc
    refine r_aload_n (dGet dX2_emit (j := 0) rfl) nv0 rfl ?_
    obtain ⟨t1, et1, hf⟩ := Option.bind_eq_some_iff.mp hf
    refine r_getI (dGet dX2_emit (j := 1) rfl) F2_31 et1 ?_
    refine r_sipush (dGet dX2_emit (j := 2) rfl) kS_3100 ?_
    by_cases c2 : t1 < (3100 : Int32)
    · rw [if_pos c2] at hf
      refine r_icmp_lt_t (dGet dX2_emit (j := 3) rfl) rfl c2 ?_
      refine r_aload_n (dGet dX2_emit (j := 6) rfl) nv0 rfl ?_
      obtain ⟨t3, et3, hf⟩ := Option.bind_eq_some_iff.mp hf
      refine r_getR (dGet dX2_emit (j := 7) rfl) F2_9 et3 ?_
      refine r_aload_n (dGet dX2_emit (j := 8) rfl) nv0 rfl ?_
      obtain ⟨t4, et4, hf⟩ := Option.bind_eq_some_iff.mp hf
      refine r_getI (dGet dX2_emit (j := 9) rfl) F2_31 et4 ?_
      refine r_iload_n (dGet dX2_emit (j := 10) rfl) rfl ?_
      obtain ⟨h5, eh5, hf⟩ := Option.bind_eq_some_iff.mp hf
      refine r_iast (dGet dX2_emit (j := 11) rfl) eh5 ?_
      refine r_aload_n (dGet dX2_emit (j := 12) rfl) nv0 rfl ?_
      obtain ⟨t6, et6, hf⟩ := Option.bind_eq_some_iff.mp hf
      refine r_getR (dGet dX2_emit (j := 13) rfl) F2_13 et6 ?_
      refine r_aload_n (dGet dX2_emit (j := 14) rfl) nv0 rfl ?_
      obtain ⟨t7, et7, hf⟩ := Option.bind_eq_some_iff.mp hf
      refine r_getI (dGet dX2_emit (j := 15) rfl) F2_31 et7 ?_
      refine r_iload_n (dGet dX2_emit (j := 16) rfl) rfl ?_
      obtain ⟨h8, eh8, hf⟩ := Option.bind_eq_some_iff.mp hf
      refine r_iast (dGet dX2_emit (j := 17) rfl) eh8 ?_
      refine r_aload_n (dGet dX2_emit (j := 18) rfl) nv0 rfl ?_
      obtain ⟨t9, et9, hf⟩ := Option.bind_eq_some_iff.mp hf
      refine r_getR (dGet dX2_emit (j := 19) rfl) F2_16 et9 ?_
      refine r_aload_n (dGet dX2_emit (j := 20) rfl) nv0 rfl ?_
      obtain ⟨t10, et10, hf⟩ := Option.bind_eq_some_iff.mp hf
      refine r_getI (dGet dX2_emit (j := 21) rfl) F2_31 et10 ?_
      refine r_iload_n (dGet dX2_emit (j := 22) rfl) rfl ?_
      obtain ⟨h11, eh11, hf⟩ := Option.bind_eq_some_iff.mp hf
      refine r_iast (dGet dX2_emit (j := 23) rfl) eh11 ?_
      refine r_aload_n (dGet dX2_emit (j := 24) rfl) nv0 rfl ?_
      obtain ⟨t12, et12, hf⟩ := Option.bind_eq_some_iff.mp hf
      refine r_getR (dGet dX2_emit (j := 25) rfl) F2_19 et12 ?_
      refine r_aload_n (dGet dX2_emit (j := 26) rfl) nv0 rfl ?_
      obtain ⟨t13, et13, hf⟩ := Option.bind_eq_some_iff.mp hf
      refine r_getI (dGet dX2_emit (j := 27) rfl) F2_31 et13 ?_
      refine r_iconst (dGet dX2_emit (j := 28) rfl) kI_0 ?_
      obtain ⟨h14, eh14, hf⟩ := Option.bind_eq_some_iff.mp hf
      refine r_iast (dGet dX2_emit (j := 29) rfl) eh14 ?_
      refine r_aload_n (dGet dX2_emit (j := 30) rfl) nv0 rfl ?_
      obtain ⟨t15, et15, hf⟩ := Option.bind_eq_some_iff.mp hf
      refine r_getR (dGet dX2_emit (j := 31) rfl) F2_22 et15 ?_
      refine r_aload_n (dGet dX2_emit (j := 32) rfl) nv0 rfl ?_
      obtain ⟨t16, et16, hf⟩ := Option.bind_eq_some_iff.mp hf
      refine r_getI (dGet dX2_emit (j := 33) rfl) F2_31 et16 ?_
      refine r_aload_n (dGet dX2_emit (j := 34) rfl) nv0 rfl ?_
      obtain ⟨t17, et17, hf⟩ := Option.bind_eq_some_iff.mp hf
      refine r_getI (dGet dX2_emit (j := 35) rfl) F2_35 et17 ?_
      obtain ⟨h18, eh18, hf⟩ := Option.bind_eq_some_iff.mp hf
      refine r_iast (dGet dX2_emit (j := 36) rfl) eh18 ?_
      refine r_aload_n (dGet dX2_emit (j := 37) rfl) nv0 rfl ?_
      obtain ⟨t19, et19, hf⟩ := Option.bind_eq_some_iff.mp hf
      refine r_getR (dGet dX2_emit (j := 38) rfl) F2_25 et19 ?_
      refine r_aload_n (dGet dX2_emit (j := 39) rfl) nv0 rfl ?_
      obtain ⟨t20, et20, hf⟩ := Option.bind_eq_some_iff.mp hf
      refine r_getI (dGet dX2_emit (j := 40) rfl) F2_31 et20 ?_
      refine r_iconst (dGet dX2_emit (j := 41) rfl) kI_0 ?_
      obtain ⟨h21, eh21, hf⟩ := Option.bind_eq_some_iff.mp hf
      refine r_iast (dGet dX2_emit (j := 42) rfl) eh21 ?_
      refine r_aload_n (dGet dX2_emit (j := 43) rfl) nv0 rfl ?_
      obtain ⟨t22, et22, hf⟩ := Option.bind_eq_some_iff.mp hf
      refine r_getR (dGet dX2_emit (j := 44) rfl) F2_28 et22 ?_
      refine r_aload_n (dGet dX2_emit (j := 45) rfl) nv0 rfl ?_
      obtain ⟨t23, et23, hf⟩ := Option.bind_eq_some_iff.mp hf
      refine r_getI (dGet dX2_emit (j := 46) rfl) F2_31 et23 ?_
      refine r_aload_n (dGet dX2_emit (j := 47) rfl) nv0 rfl ?_
      obtain ⟨t24, et24, hf⟩ := Option.bind_eq_some_iff.mp hf
      refine r_getI (dGet dX2_emit (j := 48) rfl) F2_38 et24 ?_
      obtain ⟨h25, eh25, hf⟩ := Option.bind_eq_some_iff.mp hf
      refine r_iast (dGet dX2_emit (j := 49) rfl) eh25 ?_
      refine r_aload_n (dGet dX2_emit (j := 50) rfl) nv0 rfl ?_
      refine r_dup (dGet dX2_emit (j := 51) rfl) rfl ?_
      obtain ⟨t26, et26, hf⟩ := Option.bind_eq_some_iff.mp hf
      refine r_getI (dGet dX2_emit (j := 52) rfl) F2_31 et26 ?_
      refine r_iconst (dGet dX2_emit (j := 53) rfl) kI_1 ?_
      refine r_iadd (dGet dX2_emit (j := 54) rfl) ?_
      obtain ⟨h27, eh27, hf⟩ := Option.bind_eq_some_iff.mp hf
      refine r_putI (dGet dX2_emit (j := 55) rfl) F2_31 rfl rfl eh27 ?_
      refine r_aload_n (dGet dX2_emit (j := 56) rfl) nv0 rfl ?_
      obtain ⟨t28, et28, hf⟩ := Option.bind_eq_some_iff.mp hf
      refine r_getI (dGet dX2_emit (j := 57) rfl) F2_31 et28 ?_
      refine r_iconst (dGet dX2_emit (j := 58) rfl) kI_1 ?_
      refine r_isub (dGet dX2_emit (j := 59) rfl) ?_
      cases hf
      exact r_iret (dGet dX2_emit (j := 60) rfl) rfl rfl
    · rw [if_neg c2] at hf
      refine r_icmp_lt_f (dGet dX2_emit (j := 3) rfl) rfl c2 ?_
      refine r_sipush (dGet dX2_emit (j := 4) rfl) kS_3099 ?_
      cases hf
      exact r_iret (dGet dX2_emit (j := 5) rfl) rfl rfl
  · rw [if_neg hc] at hf; cases hf
def eX2_lastOp : List (Nat × Instr × Nat) := [(0, .aload_n 0, 1), (1, .getfield 31, 3), (4, .iload_n 1, 1), (5, .if_icmp .le 17, 3), (8, .aload_n 0, 1), (9, .getfield 9, 3), (12, .aload_n 0, 1), (13, .getfield 31, 3), (16, .iconst 1, 1), (17, .isub, 1), (18, .iaload, 1), (19, .goto 4, 3), (22, .iconst (-1), 1), (23, .ireturn, 1)]
theorem dX2_lastOp : dChk (pCd 4177) eX2_lastOp = true := by decide +kernel
def fX2_lastOp (N : Nat) (v0 : Nat) (v1 : Int32) (h : pH) : Option (Int32 × pH) := if isO h v0 2 = true then (
  (getI h v0 2 7).bind fun t1 =>
  if t1 ≤ v1 then (
  some ((-1 : Int32), h)) else (
  (getR h v0 2 0).bind fun t3 =>
  (getI h v0 2 7).bind fun t4 =>
  (ldI h t3 (t4 - (1 : Int32))).bind fun t5 =>
  some (t5, h))) else none
theorem oX2_lastOp {N : Nat} {v0 : Nat} {v1 : Int32} {h : pH} {q : Int32 × pH} (hf : fX2_lastOp N v0 v1 h = some q) : isO h v0 2 = true := by
  unfold fX2_lastOp at hf
  by_cases hc : isO h v0 2 = true
  · exact hc
  · rw [if_neg hc] at hf; cases hf
theorem cX2_lastOp (X : pX) (N d : Nat) (v0 : Nat) (v1 : Int32) (h : pH) (q : Int32 × pH) (hf : fX2_lastOp N v0 v1 h = some q) : Calls X (d + 0) 101 [.ref v0, .int v1] h (some (.int q.1), q.2, 0, 0) := by
  refine Calls.of M101 (Nat.le_of_ble_eq_true rfl) ?_
  show Run X (d + 0) 2 false (pCd 4177) 2 (some .int) 0 [(0, .ref v0), (1, .int v1)] [] h 0 0 (some (.int q.1), q.2, 0, 0)
  unfold fX2_lastOp at hf
  by_cases hc : isO h v0 2 = true
  · rw [if_pos hc] at hf
    have nv0 : ¬ v0 = 4 := isO_ne hc
    refine r_aload_n (dGet dX2_lastOp (j := 0) rfl) nv0 rfl ?_
    obtain ⟨t1, et1, hf⟩ := Option.bind_eq_some_iff.mp hf
    refine r_getI (dGet dX2_lastOp (j := 1) rfl) F2_31 et1 ?_
    refine r_iload_n (dGet dX2_lastOp (j := 2) rfl) rfl ?_
    by_cases c2 : t1 ≤ v1
    · rw [if_pos c2] at hf
      refine r_icmp_le_t (dGet dX2_lastOp (j := 3) rfl) rfl c2 ?_
      refine r_iconst (dGet dX2_lastOp (j := 12) rfl) kI_m1 ?_
      cases hf
      exact r_iret (dGet dX2_lastOp (j := 13) rfl) rfl rfl
    · rw [if_neg c2] at hf
      refine r_icmp_le_f (dGet dX2_lastOp (j := 3) rfl) rfl c2 ?_
      refine r_aload_n (dGet dX2_lastOp (j := 4) rfl) nv0 rfl ?_
      obtain ⟨t3, et3, hf⟩ := Option.bind_eq_some_iff.mp hf
      refine r_getR (dGet dX2_lastOp (j := 5) rfl) F2_9 et3 ?_
      refine r_aload_n (dGet dX2_lastOp (j := 6) rfl) nv0 rfl ?_
      obtain ⟨t4, et4, hf⟩ := Option.bind_eq_some_iff.mp hf
      refine r_getI (dGet dX2_lastOp (j := 7) rfl) F2_31 et4 ?_
      refine r_iconst (dGet dX2_lastOp (j := 8) rfl) kI_1 ?_
      refine r_isub (dGet dX2_lastOp (j := 9) rfl) ?_
      obtain ⟨t5, et5, hf⟩ := Option.bind_eq_some_iff.mp hf
      refine r_iald (dGet dX2_lastOp (j := 10) rfl) et5 ?_
      refine r_goto (dGet dX2_lastOp (j := 11) rfl) rfl ?_
      cases hf
      exact r_iret (dGet dX2_lastOp (j := 13) rfl) rfl rfl
  · rw [if_neg hc] at hf; cases hf
def eX2_takeBackLast : List (Nat × Instr × Nat) := [(0, .aload_n 0, 1), (1, .getfield 31, 3), (4, .ifCond .ne 5, 3), (7, .iconst (-1), 1), (8, .ireturn, 1), (9, .aload_n 0, 1), (10, .dup, 1), (11, .getfield 31, 3), (14, .iconst 1, 1), (15, .isub, 1), (16, .putfield 31, 3), (19, .aload_n 0, 1), (20, .getfield 13, 3), (23, .aload_n 0, 1), (24, .getfield 31, 3), (27, .iaload, 1), (28, .ireturn, 1)]
theorem dX2_takeBackLast : dChk (pCd 4184) eX2_takeBackLast = true := by decide +kernel
def fX2_takeBackLast (N : Nat) (v0 : Nat) (h : pH) : Option (Int32 × pH) := if isO h v0 2 = true then (
  (getI h v0 2 7).bind fun t1 =>
  if t1 = 0 then (
  some ((-1 : Int32), h)) else (
  (getI h v0 2 7).bind fun t3 =>
  (putI h v0 2 7 (t3 - (1 : Int32))).bind fun h4 =>
  (getR h4 v0 2 1).bind fun t5 =>
  (getI h4 v0 2 7).bind fun t6 =>
  (ldI h4 t5 t6).bind fun t7 =>
  some (t7, h4))) else none
theorem oX2_takeBackLast {N : Nat} {v0 : Nat} {h : pH} {q : Int32 × pH} (hf : fX2_takeBackLast N v0 h = some q) : isO h v0 2 = true := by
  unfold fX2_takeBackLast at hf
  by_cases hc : isO h v0 2 = true
  · exact hc
  · rw [if_neg hc] at hf; cases hf
theorem cX2_takeBackLast (X : pX) (N d : Nat) (v0 : Nat) (h : pH) (q : Int32 × pH) (hf : fX2_takeBackLast N v0 h = some q) : Calls X (d + 0) 103 [.ref v0] h (some (.int q.1), q.2, 0, 0) := by
  refine Calls.of M103 (Nat.le_of_ble_eq_true rfl) ?_
  show Run X (d + 0) 2 false (pCd 4184) 1 (some .int) 0 [(0, .ref v0)] [] h 0 0 (some (.int q.1), q.2, 0, 0)
  unfold fX2_takeBackLast at hf
  by_cases hc : isO h v0 2 = true
  · rw [if_pos hc] at hf
    have nv0 : ¬ v0 = 4 := isO_ne hc
    refine r_aload_n (dGet dX2_takeBackLast (j := 0) rfl) nv0 rfl ?_
    obtain ⟨t1, et1, hf⟩ := Option.bind_eq_some_iff.mp hf
    refine r_getI (dGet dX2_takeBackLast (j := 1) rfl) F2_31 et1 ?_
    by_cases c2 : t1 = 0
    · rw [if_pos c2] at hf
      refine r_if_ne_f (dGet dX2_takeBackLast (j := 2) rfl) rfl c2 ?_
      refine r_iconst (dGet dX2_takeBackLast (j := 3) rfl) kI_m1 ?_
      cases hf
      exact r_iret (dGet dX2_takeBackLast (j := 4) rfl) rfl rfl
    · rw [if_neg c2] at hf
      refine r_if_ne_t (dGet dX2_takeBackLast (j := 2) rfl) rfl c2 ?_
      refine r_aload_n (dGet dX2_takeBackLast (j := 5) rfl) nv0 rfl ?_
      refine r_dup (dGet dX2_takeBackLast (j := 6) rfl) rfl ?_
      obtain ⟨t3, et3, hf⟩ := Option.bind_eq_some_iff.mp hf
      refine r_getI (dGet dX2_takeBackLast (j := 7) rfl) F2_31 et3 ?_
      refine r_iconst (dGet dX2_takeBackLast (j := 8) rfl) kI_1 ?_
      refine r_isub (dGet dX2_takeBackLast (j := 9) rfl) ?_
      obtain ⟨h4, eh4, hf⟩ := Option.bind_eq_some_iff.mp hf
      refine r_putI (dGet dX2_takeBackLast (j := 10) rfl) F2_31 rfl rfl eh4 ?_
      refine r_aload_n (dGet dX2_takeBackLast (j := 11) rfl) nv0 rfl ?_
      obtain ⟨t5, et5, hf⟩ := Option.bind_eq_some_iff.mp hf
      refine r_getR (dGet dX2_takeBackLast (j := 12) rfl) F2_13 et5 ?_
      refine r_aload_n (dGet dX2_takeBackLast (j := 13) rfl) nv0 rfl ?_
      obtain ⟨t6, et6, hf⟩ := Option.bind_eq_some_iff.mp hf
      refine r_getI (dGet dX2_takeBackLast (j := 14) rfl) F2_31 et6 ?_
      obtain ⟨t7, et7, hf⟩ := Option.bind_eq_some_iff.mp hf
      refine r_iald (dGet dX2_takeBackLast (j := 15) rfl) et7 ?_
      cases hf
      exact r_iret (dGet dX2_takeBackLast (j := 16) rfl) rfl rfl
  · rw [if_neg hc] at hf; cases hf
def eX1_isSub : List (Nat × Instr × Nat) := [(0, .iload_n 1, 1), (1, .iload_n 2, 1), (2, .if_icmp .ne 5, 3), (5, .iconst 1, 1), (6, .ireturn, 1), (7, .iload_n 1, 1), (8, .bipush (-5), 2), (10, .if_icmp .ne 19, 3), (13, .iload_n 2, 1), (14, .ifCond .ge 9, 3), (17, .iload_n 2, 1), (18, .bipush (-3), 2), (20, .if_icmp .ne 7, 3), (23, .iconst 1, 1), (24, .goto 4, 3), (27, .iconst 0, 1), (28, .ireturn, 1), (29, .iload_n 1, 1), (30, .istore_n 3, 1), (31, .iconst 0, 1), (32, .istore 4, 2), (34, .iload 4, 2), (36, .aload_n 0, 1), (37, .getfield 31, 3), (40, .if_icmp .ge 26, 3), (43, .iload_n 3, 1), (44, .ifCond .lt 22, 3), (47, .iload_n 3, 1), (48, .iload_n 2, 1), (49, .if_icmp .ne 5, 3), (52, .iconst 1, 1), (53, .ireturn, 1), (54, .aload_n 0, 1), (55, .iload_n 3, 1), (56, .invokevirtual 41, 3), (59, .istore_n 3, 1), (60, .iinc 4 1, 3), (63, .goto (-29), 3), (66, .iconst 0, 1), (67, .ireturn, 1)]
theorem dX1_isSub : dChk (pCd 5123) eX1_isSub = true := by decide +kernel
def fX1_isSub_34 (N : Nat) : Nat → Nat → Int32 → Int32 → Int32 → pH → Option (Int32 × pH)
  | 0, _, _, _, _, _ => none
  | n + 1, v0, v2, v3, v4, h => (getI h v0 1 7).bind fun t1 =>
  if t1 ≤ v4 then (
  some ((0 : Int32), h)) else (
  if v3 < 0 then (
  some ((0 : Int32), h)) else (
  if v3 = v2 then (
  some ((1 : Int32), h)) else (
  (fX1_parentOf N v0 v3 h).bind fun q5 =>
  fX1_isSub_34 N n v0 v2 q5.1 (v4 + (1 : Int32)) q5.2)))
theorem lX1_isSub_34 (X : pX) (N d : Nat)  : ∀ (n : Nat) (v0 : Nat) (v2 : Int32) (v3 : Int32) (v4 : Int32) (h : pH) (q : Int32 × pH), fX1_isSub_34 N n v0 v2 v3 v4 h = some q → ¬ v0 = 4 → Run X (d + 1) 1 false (pCd 5123) 5 (some .boolean) 34 [(0, .ref v0), (2, .int v2), (3, .int v3), (4, .int v4)] [] h 0 0 (some (.int q.1), q.2, 0, 0) := by
  intro n
  induction n with
  | zero => intro v0 v2 v3 v4 h q hf; cases hf
  | succ n ih =>
    intro v0 v2 v3 v4 h q hf nv0
    unfold fX1_isSub_34 at hf
    refine r_iload (dGet dX1_isSub (j := 21) rfl) rfl ?_
    refine r_aload_n (dGet dX1_isSub (j := 22) rfl) nv0 rfl ?_
    obtain ⟨t1, et1, hf⟩ := Option.bind_eq_some_iff.mp hf
    refine r_getI (dGet dX1_isSub (j := 23) rfl) F1_31 et1 ?_
    by_cases c2 : t1 ≤ v4
    · rw [if_pos c2] at hf
      refine r_icmp_ge_t (dGet dX1_isSub (j := 24) rfl) rfl c2 ?_
      refine r_iconst (dGet dX1_isSub (j := 38) rfl) kI_0 ?_
      cases hf
      exact r_iret (dGet dX1_isSub (j := 39) rfl) rfl (by decide)
    · rw [if_neg c2] at hf
      refine r_icmp_ge_f (dGet dX1_isSub (j := 24) rfl) rfl c2 ?_
      refine r_iload_n (dGet dX1_isSub (j := 25) rfl) rfl ?_
      by_cases c3 : v3 < 0
      · rw [if_pos c3] at hf
        refine r_if_lt_t (dGet dX1_isSub (j := 26) rfl) rfl c3 ?_
        refine r_iconst (dGet dX1_isSub (j := 38) rfl) kI_0 ?_
        cases hf
        exact r_iret (dGet dX1_isSub (j := 39) rfl) rfl (by decide)
      · rw [if_neg c3] at hf
        refine r_if_lt_f (dGet dX1_isSub (j := 26) rfl) rfl c3 ?_
        refine r_iload_n (dGet dX1_isSub (j := 27) rfl) rfl ?_
        refine r_iload_n (dGet dX1_isSub (j := 28) rfl) rfl ?_
        by_cases c4 : v3 = v2
        · rw [if_pos c4] at hf
          refine r_icmp_ne_f (dGet dX1_isSub (j := 29) rfl) rfl c4 ?_
          refine r_iconst (dGet dX1_isSub (j := 30) rfl) kI_1 ?_
          cases hf
          exact r_iret (dGet dX1_isSub (j := 31) rfl) rfl (by decide)
        · rw [if_neg c4] at hf
          refine r_icmp_ne_t (dGet dX1_isSub (j := 29) rfl) rfl c4 ?_
          refine r_aload_n (dGet dX1_isSub (j := 32) rfl) nv0 rfl ?_
          refine r_iload_n (dGet dX1_isSub (j := 33) rfl) rfl ?_
          obtain ⟨q5, eq5, hf⟩ := Option.bind_eq_some_iff.mp hf
          refine r_virtual (dGet dX1_isSub (j := 34) rfl) L1_41 M109 rfl rfl (Nat.le_of_ble_eq_true rfl) (oX1_parentOf eq5) (cX1_parentOf X N (d + 0) v0 v3 h q5 eq5) ?_
          refine r_istore_n (lv' := [(3, .int q5.1), (0, .ref v0), (2, .int v2), (4, .int v4)]) (dGet dX1_isSub (j := 35) rfl) (by decide) rfl ?_
          refine r_iinc (lv' := [(4, .int (v4 + (1 : Int32))), (3, .int q5.1), (0, .ref v0), (2, .int v2)]) (dGet dX1_isSub (j := 36) rfl) rfl (by decide) kI_1 rfl ?_
          refine r_goto (dGet dX1_isSub (j := 37) rfl) rfl ?_
          refine Run.weak [(0, .ref v0), (2, .int v2), (3, .int q5.1), (4, .int (v4 + (1 : Int32)))] (by simp) (by simp [pNd]) ?_
          exact ih v0 v2 q5.1 (v4 + (1 : Int32)) q5.2 q hf nv0
def fX1_isSub (N : Nat) (v0 : Nat) (v1 : Int32) (v2 : Int32) (h : pH) : Option (Int32 × pH) := if isO h v0 1 = true then (
  if v1 = v2 then (
  some ((1 : Int32), h)) else (
  if v1 = (-5 : Int32) then (
  if 0 ≤ v2 then (
  some ((1 : Int32), h)) else (
  if v2 = (-3 : Int32) then (
  some ((1 : Int32), h)) else (
  some ((0 : Int32), h)))) else (
  fX1_isSub_34 N N v0 v2 v1 (0 : Int32) h))) else none
theorem oX1_isSub {N : Nat} {v0 : Nat} {v1 : Int32} {v2 : Int32} {h : pH} {q : Int32 × pH} (hf : fX1_isSub N v0 v1 v2 h = some q) : isO h v0 1 = true := by
  unfold fX1_isSub at hf
  by_cases hc : isO h v0 1 = true
  · exact hc
  · rw [if_neg hc] at hf; cases hf
theorem cX1_isSub (X : pX) (N d : Nat) (v0 : Nat) (v1 : Int32) (v2 : Int32) (h : pH) (q : Int32 × pH) (hf : fX1_isSub N v0 v1 v2 h = some q) : Calls X (d + 1) 146 [.ref v0, .int v1, .int v2] h (some (.int q.1), q.2, 0, 0) := by
  refine Calls.of M146 (Nat.le_of_ble_eq_true rfl) ?_
  show Run X (d + 1) 1 false (pCd 5123) 5 (some .boolean) 0 [(0, .ref v0), (1, .int v1), (2, .int v2)] [] h 0 0 (some (.int q.1), q.2, 0, 0)
  unfold fX1_isSub at hf
  by_cases hc : isO h v0 1 = true
  · rw [if_pos hc] at hf
    have nv0 : ¬ v0 = 4 := isO_ne hc
    refine r_iload_n (dGet dX1_isSub (j := 0) rfl) rfl ?_
    refine r_iload_n (dGet dX1_isSub (j := 1) rfl) rfl ?_
    by_cases c6 : v1 = v2
    · rw [if_pos c6] at hf
      refine r_icmp_ne_f (dGet dX1_isSub (j := 2) rfl) rfl c6 ?_
      refine r_iconst (dGet dX1_isSub (j := 3) rfl) kI_1 ?_
      cases hf
      exact r_iret (dGet dX1_isSub (j := 4) rfl) rfl (by decide)
    · rw [if_neg c6] at hf
      refine r_icmp_ne_t (dGet dX1_isSub (j := 2) rfl) rfl c6 ?_
      refine r_iload_n (dGet dX1_isSub (j := 5) rfl) rfl ?_
      refine r_bipush (dGet dX1_isSub (j := 6) rfl) kB_m5 ?_
      by_cases c7 : v1 = (-5 : Int32)
      · rw [if_pos c7] at hf
        refine r_icmp_ne_f (dGet dX1_isSub (j := 7) rfl) rfl c7 ?_
        refine r_iload_n (dGet dX1_isSub (j := 8) rfl) rfl ?_
        by_cases c8 : 0 ≤ v2
        · rw [if_pos c8] at hf
          refine r_if_ge_t (dGet dX1_isSub (j := 9) rfl) rfl c8 ?_
          refine r_iconst (dGet dX1_isSub (j := 13) rfl) kI_1 ?_
          refine r_goto (dGet dX1_isSub (j := 14) rfl) rfl ?_
          cases hf
          exact r_iret (dGet dX1_isSub (j := 16) rfl) rfl (by decide)
        · rw [if_neg c8] at hf
          refine r_if_ge_f (dGet dX1_isSub (j := 9) rfl) rfl c8 ?_
          refine r_iload_n (dGet dX1_isSub (j := 10) rfl) rfl ?_
          refine r_bipush (dGet dX1_isSub (j := 11) rfl) kB_m3 ?_
          by_cases c9 : v2 = (-3 : Int32)
          · rw [if_pos c9] at hf
            refine r_icmp_ne_f (dGet dX1_isSub (j := 12) rfl) rfl c9 ?_
            refine r_iconst (dGet dX1_isSub (j := 13) rfl) kI_1 ?_
            refine r_goto (dGet dX1_isSub (j := 14) rfl) rfl ?_
            cases hf
            exact r_iret (dGet dX1_isSub (j := 16) rfl) rfl (by decide)
          · rw [if_neg c9] at hf
            refine r_icmp_ne_t (dGet dX1_isSub (j := 12) rfl) rfl c9 ?_
            refine r_iconst (dGet dX1_isSub (j := 15) rfl) kI_0 ?_
            cases hf
            exact r_iret (dGet dX1_isSub (j := 16) rfl) rfl (by decide)
      · rw [if_neg c7] at hf
        refine r_icmp_ne_t (dGet dX1_isSub (j := 7) rfl) rfl c7 ?_
        refine r_iload_n (dGet dX1_isSub (j := 17) rfl) rfl ?_
        refine r_istore_n (lv' := [(3, .int v1), (0, .ref v0), (1, .int v1), (2, .int v2)]) (dGet dX1_isSub (j := 18) rfl) (by decide) rfl ?_
        refine r_iconst (dGet dX1_isSub (j := 19) rfl) kI_0 ?_
        refine r_istore (lv' := [(4, .int (0 : Int32)), (3, .int v1), (0, .ref v0), (1, .int v1), (2, .int v2)]) (dGet dX1_isSub (j := 20) rfl) (by decide) rfl ?_
        refine Run.weak [(0, .ref v0), (2, .int v2), (3, .int v1), (4, .int (0 : Int32))] (by simp) (by simp [pNd]) ?_
        exact lX1_isSub_34 X N d N v0 v2 v1 (0 : Int32) h q hf nv0
  · rw [if_neg hc] at hf; cases hf
def eX3_clear : List (Nat × Instr × Nat) := [(0, .aload_n 0, 1), (1, .bipush 6, 2), (3, .putfield 20, 3), (6, .aload_n 0, 1), (7, .iload_n 1, 1), (8, .sipush 10000, 3), (11, .invokestatic 27, 3), (14, .putfield 24, 3), (17, .return_, 1)]
theorem dX3_clear : dChk (pCd 5227) eX3_clear = true := by decide +kernel
def fX3_clear (N : Nat) (v0 : Nat) (v1 : Int32) (h : pH) : Option (pH) := if isO h v0 3 = true then (
  (putI h v0 3 2 (6 : Int32)).bind fun h1 =>
  (putI h1 v0 3 3 (if (10000 : Int32) < v1 then (10000 : Int32) else v1)).bind fun h2 =>
  some h2) else none
theorem oX3_clear {N : Nat} {v0 : Nat} {v1 : Int32} {h : pH} {q : pH} (hf : fX3_clear N v0 v1 h = some q) : isO h v0 3 = true := by
  unfold fX3_clear at hf
  by_cases hc : isO h v0 3 = true
  · exact hc
  · rw [if_neg hc] at hf; cases hf
theorem cX3_clear (X : pX) (N d : Nat) (v0 : Nat) (v1 : Int32) (h : pH) (q : pH) (hf : fX3_clear N v0 v1 h = some q) : Calls X (d + 1) 170 [.ref v0, .int v1] h (none, q, 0, 0) := by
  refine Calls.of M170 (Nat.le_of_ble_eq_true rfl) ?_
  show Run X (d + 1) 3 false (pCd 5227) 2 none 0 [(0, .ref v0), (1, .int v1)] [] h 0 0 (none, q, 0, 0)
  unfold fX3_clear at hf
  by_cases hc : isO h v0 3 = true
  · rw [if_pos hc] at hf
    have nv0 : ¬ v0 = 4 := isO_ne hc
    refine r_aload_n (dGet dX3_clear (j := 0) rfl) nv0 rfl ?_
    refine r_bipush (dGet dX3_clear (j := 1) rfl) kB_6 ?_
    obtain ⟨h1, eh1, hf⟩ := Option.bind_eq_some_iff.mp hf
    refine r_putI (dGet dX3_clear (j := 2) rfl) F3_20 rfl rfl eh1 ?_
    refine r_aload_n (dGet dX3_clear (j := 3) rfl) nv0 rfl ?_
    refine r_iload_n (dGet dX3_clear (j := 4) rfl) rfl ?_
    refine r_sipush (dGet dX3_clear (j := 5) rfl) kS_10000 ?_
    refine r_min (dGet dX3_clear (j := 6) rfl) (by decide +kernel) (by decide +kernel : pFind pMx 3 27 = some (1, 5228)) (Nat.le_of_ble_eq_true rfl) ?_
    obtain ⟨h2, eh2, hf⟩ := Option.bind_eq_some_iff.mp hf
    refine r_putI (dGet dX3_clear (j := 7) rfl) F3_24 rfl rfl eh2 ?_
    cases hf
    exact r_vret (dGet dX3_clear (j := 8) rfl) rfl
  · rw [if_neg hc] at hf; cases hf
def eX3_makeObject : List (Nat × Instr × Nat) := [(0, .aload_n 0, 1), (1, .getfield 20, 3), (4, .istore_n 3, 1), (5, .iload_n 2, 1), (6, .ifCond .lt 12, 3), (9, .iload_n 2, 1), (10, .sipush 10004, 3), (13, .iload_n 3, 1), (14, .isub, 1), (15, .if_icmp .le 5, 3), (18, .lconst 0, 1), (19, .lreturn, 1), (20, .aload_n 0, 1), (21, .getfield 13, 3), (24, .iload_n 3, 1), (25, .iload_n 1, 1), (26, .i2l, 1), (27, .lastore, 1), (28, .aload_n 0, 1), (29, .getfield 13, 3), (32, .iload_n 3, 1), (33, .iconst 1, 1), (34, .iadd, 1), (35, .iload_n 2, 1), (36, .i2l, 1), (37, .lastore, 1), (38, .aload_n 0, 1), (39, .getfield 13, 3), (42, .iload_n 3, 1), (43, .iconst 2, 1), (44, .iadd, 1), (45, .iload_n 3, 1), (46, .iconst 2, 1), (47, .iadd, 1), (48, .iload_n 2, 1), (49, .iadd, 1), (50, .lconst 0, 1), (51, .invokestatic 41, 3), (54, .aload_n 0, 1), (55, .iload_n 3, 1), (56, .iconst 2, 1), (57, .iadd, 1), (58, .iload_n 2, 1), (59, .iadd, 1), (60, .putfield 20, 3), (63, .ldc2_w 33, 3), (66, .iload_n 3, 1), (67, .i2l, 1), (68, .lor, 1), (69, .lreturn, 1)]
theorem dX3_makeObject : dChk (pCd 5232) eX3_makeObject = true := by decide +kernel
def fX3_makeObject (N : Nat) (v0 : Nat) (v1 : Int32) (v2 : Int32) (h : pH) : Option (Int64 × pH) := if isO h v0 3 = true then (
  (getI h v0 3 2).bind fun t1 =>
  if v2 < 0 then (
  some ((0 : Int64), h)) else (
  if v2 ≤ ((10004 : Int32) - t1) then (
  (getR h v0 3 0).bind fun t4 =>
  (stJ h t4 t1 (v1.toInt64)).bind fun h5 =>
  (getR h5 v0 3 0).bind fun t6 =>
  (stJ h5 t6 (t1 + (1 : Int32)) (v2.toInt64)).bind fun h7 =>
  (getR h7 v0 3 0).bind fun t8 =>
  (fJ7_fill_bad5a N t8 (t1 + (2 : Int32)) ((t1 + (2 : Int32)) + v2) (0 : Int64) h7).bind fun h9 =>
  (putI h9 v0 3 2 ((t1 + (2 : Int32)) + v2)).bind fun h10 =>
  some (((4294967296 : Int64) ||| (t1.toInt64)), h10)) else (
  some ((0 : Int64), h)))) else none
theorem oX3_makeObject {N : Nat} {v0 : Nat} {v1 : Int32} {v2 : Int32} {h : pH} {q : Int64 × pH} (hf : fX3_makeObject N v0 v1 v2 h = some q) : isO h v0 3 = true := by
  unfold fX3_makeObject at hf
  by_cases hc : isO h v0 3 = true
  · exact hc
  · rw [if_neg hc] at hf; cases hf
theorem cX3_makeObject (X : pX) (N d : Nat) (v0 : Nat) (v1 : Int32) (v2 : Int32) (h : pH) (q : Int64 × pH) (hf : fX3_makeObject N v0 v1 v2 h = some q) : Calls X (d + 2) 171 [.ref v0, .int v1, .int v2] h (some (.long q.1), q.2, 0, 0) := by
  refine Calls.of M171 (Nat.le_of_ble_eq_true rfl) ?_
  show Run X (d + 2) 3 false (pCd 5232) 4 (some .long) 0 [(0, .ref v0), (1, .int v1), (2, .int v2)] [] h 0 0 (some (.long q.1), q.2, 0, 0)
  unfold fX3_makeObject at hf
  by_cases hc : isO h v0 3 = true
  · rw [if_pos hc] at hf
    have nv0 : ¬ v0 = 4 := isO_ne hc
    refine r_aload_n (dGet dX3_makeObject (j := 0) rfl) nv0 rfl ?_
    obtain ⟨t1, et1, hf⟩ := Option.bind_eq_some_iff.mp hf
    refine r_getI (dGet dX3_makeObject (j := 1) rfl) F3_20 et1 ?_
    refine r_istore_n (lv' := [(3, .int t1), (0, .ref v0), (1, .int v1), (2, .int v2)]) (dGet dX3_makeObject (j := 2) rfl) (by decide) rfl ?_
    refine r_iload_n (dGet dX3_makeObject (j := 3) rfl) rfl ?_
    by_cases c2 : v2 < 0
    · rw [if_pos c2] at hf
      refine r_if_lt_t (dGet dX3_makeObject (j := 4) rfl) rfl c2 ?_
      refine r_lconst (v := 0) (dGet dX3_makeObject (j := 10) rfl) rfl ?_
      cases hf
      exact r_lret (dGet dX3_makeObject (j := 11) rfl) rfl
    · rw [if_neg c2] at hf
      refine r_if_lt_f (dGet dX3_makeObject (j := 4) rfl) rfl c2 ?_
      refine r_iload_n (dGet dX3_makeObject (j := 5) rfl) rfl ?_
      refine r_sipush (dGet dX3_makeObject (j := 6) rfl) kS_10004 ?_
      refine r_iload_n (dGet dX3_makeObject (j := 7) rfl) rfl ?_
      refine r_isub (dGet dX3_makeObject (j := 8) rfl) ?_
      by_cases c3 : v2 ≤ ((10004 : Int32) - t1)
      · rw [if_pos c3] at hf
        refine r_icmp_le_t (dGet dX3_makeObject (j := 9) rfl) rfl c3 ?_
        refine r_aload_n (dGet dX3_makeObject (j := 12) rfl) nv0 rfl ?_
        obtain ⟨t4, et4, hf⟩ := Option.bind_eq_some_iff.mp hf
        refine r_getR (dGet dX3_makeObject (j := 13) rfl) F3_13 et4 ?_
        refine r_iload_n (dGet dX3_makeObject (j := 14) rfl) rfl ?_
        refine r_iload_n (dGet dX3_makeObject (j := 15) rfl) rfl ?_
        refine r_i2l (dGet dX3_makeObject (j := 16) rfl) ?_
        obtain ⟨h5, eh5, hf⟩ := Option.bind_eq_some_iff.mp hf
        refine r_last (dGet dX3_makeObject (j := 17) rfl) eh5 ?_
        refine r_aload_n (dGet dX3_makeObject (j := 18) rfl) nv0 rfl ?_
        obtain ⟨t6, et6, hf⟩ := Option.bind_eq_some_iff.mp hf
        refine r_getR (dGet dX3_makeObject (j := 19) rfl) F3_13 et6 ?_
        refine r_iload_n (dGet dX3_makeObject (j := 20) rfl) rfl ?_
        refine r_iconst (dGet dX3_makeObject (j := 21) rfl) kI_1 ?_
        refine r_iadd (dGet dX3_makeObject (j := 22) rfl) ?_
        refine r_iload_n (dGet dX3_makeObject (j := 23) rfl) rfl ?_
        refine r_i2l (dGet dX3_makeObject (j := 24) rfl) ?_
        obtain ⟨h7, eh7, hf⟩ := Option.bind_eq_some_iff.mp hf
        refine r_last (dGet dX3_makeObject (j := 25) rfl) eh7 ?_
        refine r_aload_n (dGet dX3_makeObject (j := 26) rfl) nv0 rfl ?_
        obtain ⟨t8, et8, hf⟩ := Option.bind_eq_some_iff.mp hf
        refine r_getR (dGet dX3_makeObject (j := 27) rfl) F3_13 et8 ?_
        refine r_iload_n (dGet dX3_makeObject (j := 28) rfl) rfl ?_
        refine r_iconst (dGet dX3_makeObject (j := 29) rfl) kI_2 ?_
        refine r_iadd (dGet dX3_makeObject (j := 30) rfl) ?_
        refine r_iload_n (dGet dX3_makeObject (j := 31) rfl) rfl ?_
        refine r_iconst (dGet dX3_makeObject (j := 32) rfl) kI_2 ?_
        refine r_iadd (dGet dX3_makeObject (j := 33) rfl) ?_
        refine r_iload_n (dGet dX3_makeObject (j := 34) rfl) rfl ?_
        refine r_iadd (dGet dX3_makeObject (j := 35) rfl) ?_
        refine r_lconst (v := 0) (dGet dX3_makeObject (j := 36) rfl) rfl ?_
        obtain ⟨h9, eh9, hf⟩ := Option.bind_eq_some_iff.mp hf
        refine r_static (dGet dX3_makeObject (j := 37) rfl) (by decide +kernel) (by decide +kernel) L3_41 M172 rfl rfl (Nat.le_of_ble_eq_true rfl) (cJ7_fill_bad5a X N (d + 0) t8 (t1 + (2 : Int32)) ((t1 + (2 : Int32)) + v2) (0 : Int64) h7 h9 eh9) ?_
        refine r_aload_n (dGet dX3_makeObject (j := 38) rfl) nv0 rfl ?_
        refine r_iload_n (dGet dX3_makeObject (j := 39) rfl) rfl ?_
        refine r_iconst (dGet dX3_makeObject (j := 40) rfl) kI_2 ?_
        refine r_iadd (dGet dX3_makeObject (j := 41) rfl) ?_
        refine r_iload_n (dGet dX3_makeObject (j := 42) rfl) rfl ?_
        refine r_iadd (dGet dX3_makeObject (j := 43) rfl) ?_
        obtain ⟨h10, eh10, hf⟩ := Option.bind_eq_some_iff.mp hf
        refine r_putI (dGet dX3_makeObject (j := 44) rfl) F3_20 rfl rfl eh10 ?_
        refine r_ldc2 (v := 4294967296) (dGet dX3_makeObject (j := 45) rfl) (by decide +kernel : pFind pKl 3 33 = some (4294967296, 5239)) ?_
        refine r_iload_n (dGet dX3_makeObject (j := 46) rfl) rfl ?_
        refine r_i2l (dGet dX3_makeObject (j := 47) rfl) ?_
        refine r_lor (dGet dX3_makeObject (j := 48) rfl) ?_
        cases hf
        exact r_lret (dGet dX3_makeObject (j := 49) rfl) rfl
      · rw [if_neg c3] at hf
        refine r_icmp_le_f (dGet dX3_makeObject (j := 9) rfl) rfl c3 ?_
        refine r_lconst (v := 0) (dGet dX3_makeObject (j := 10) rfl) rfl ?_
        cases hf
        exact r_lret (dGet dX3_makeObject (j := 11) rfl) rfl
  · rw [if_neg hc] at hf; cases hf
def eX2_has : List (Nat × Instr × Nat) := [(0, .iload_n 1, 1), (1, .ifCond .lt 15, 3), (4, .iload_n 1, 1), (5, .aload_n 0, 1), (6, .getfield 31, 3), (9, .if_icmp .ge 7, 3), (12, .iconst 1, 1), (13, .goto 4, 3), (16, .iconst 0, 1), (17, .ireturn, 1)]
theorem dX2_has : dChk (pCd 6038) eX2_has = true := by decide +kernel
def fX2_has (N : Nat) (v0 : Nat) (v1 : Int32) (h : pH) : Option (Int32 × pH) := if isO h v0 2 = true then (
  if v1 < 0 then (
  some ((0 : Int32), h)) else (
  (getI h v0 2 7).bind fun t2 =>
  if t2 ≤ v1 then (
  some ((0 : Int32), h)) else (
  some ((1 : Int32), h)))) else none
theorem oX2_has {N : Nat} {v0 : Nat} {v1 : Int32} {h : pH} {q : Int32 × pH} (hf : fX2_has N v0 v1 h = some q) : isO h v0 2 = true := by
  unfold fX2_has at hf
  by_cases hc : isO h v0 2 = true
  · exact hc
  · rw [if_neg hc] at hf; cases hf
theorem cX2_has (X : pX) (N d : Nat) (v0 : Nat) (v1 : Int32) (h : pH) (q : Int32 × pH) (hf : fX2_has N v0 v1 h = some q) : Calls X (d + 0) 180 [.ref v0, .int v1] h (some (.int q.1), q.2, 0, 0) := by
  refine Calls.of M180 (Nat.le_of_ble_eq_true rfl) ?_
  show Run X (d + 0) 2 false (pCd 6038) 2 (some .boolean) 0 [(0, .ref v0), (1, .int v1)] [] h 0 0 (some (.int q.1), q.2, 0, 0)
  unfold fX2_has at hf
  by_cases hc : isO h v0 2 = true
  · rw [if_pos hc] at hf
    have nv0 : ¬ v0 = 4 := isO_ne hc
    refine r_iload_n (dGet dX2_has (j := 0) rfl) rfl ?_
    by_cases c1 : v1 < 0
    · rw [if_pos c1] at hf
      refine r_if_lt_t (dGet dX2_has (j := 1) rfl) rfl c1 ?_
      refine r_iconst (dGet dX2_has (j := 8) rfl) kI_0 ?_
      cases hf
      exact r_iret (dGet dX2_has (j := 9) rfl) rfl (by decide)
    · rw [if_neg c1] at hf
      refine r_if_lt_f (dGet dX2_has (j := 1) rfl) rfl c1 ?_
      refine r_iload_n (dGet dX2_has (j := 2) rfl) rfl ?_
      refine r_aload_n (dGet dX2_has (j := 3) rfl) nv0 rfl ?_
      obtain ⟨t2, et2, hf⟩ := Option.bind_eq_some_iff.mp hf
      refine r_getI (dGet dX2_has (j := 4) rfl) F2_31 et2 ?_
      by_cases c3 : t2 ≤ v1
      · rw [if_pos c3] at hf
        refine r_icmp_ge_t (dGet dX2_has (j := 5) rfl) rfl c3 ?_
        refine r_iconst (dGet dX2_has (j := 8) rfl) kI_0 ?_
        cases hf
        exact r_iret (dGet dX2_has (j := 9) rfl) rfl (by decide)
      · rw [if_neg c3] at hf
        refine r_icmp_ge_f (dGet dX2_has (j := 5) rfl) rfl c3 ?_
        refine r_iconst (dGet dX2_has (j := 6) rfl) kI_1 ?_
        refine r_goto (dGet dX2_has (j := 7) rfl) rfl ?_
        cases hf
        exact r_iret (dGet dX2_has (j := 9) rfl) rfl (by decide)
  · rw [if_neg hc] at hf; cases hf
def eX2_isSilent : List (Nat × Instr × Nat) := [(0, .aload_n 0, 1), (1, .iload_n 1, 1), (2, .invokevirtual 41, 3), (5, .ifCond .eq 18, 3), (8, .aload_n 0, 1), (9, .getfield 9, 3), (12, .iload_n 1, 1), (13, .iaload, 1), (14, .bipush 50, 2), (16, .if_icmp .lt 7, 3), (19, .iconst 1, 1), (20, .goto 4, 3), (23, .iconst 0, 1), (24, .ireturn, 1)]
theorem dX2_isSilent : dChk (pCd 6034) eX2_isSilent = true := by decide +kernel
def fX2_isSilent (N : Nat) (v0 : Nat) (v1 : Int32) (h : pH) : Option (Int32 × pH) := if isO h v0 2 = true then (
  (fX2_has N v0 v1 h).bind fun q1 =>
  if q1.1 = 0 then (
  some ((0 : Int32), q1.2)) else (
  (getR q1.2 v0 2 0).bind fun t3 =>
  (ldI q1.2 t3 v1).bind fun t4 =>
  if t4 < (50 : Int32) then (
  some ((0 : Int32), q1.2)) else (
  some ((1 : Int32), q1.2)))) else none
theorem oX2_isSilent {N : Nat} {v0 : Nat} {v1 : Int32} {h : pH} {q : Int32 × pH} (hf : fX2_isSilent N v0 v1 h = some q) : isO h v0 2 = true := by
  unfold fX2_isSilent at hf
  by_cases hc : isO h v0 2 = true
  · exact hc
  · rw [if_neg hc] at hf; cases hf
theorem cX2_isSilent (X : pX) (N d : Nat) (v0 : Nat) (v1 : Int32) (h : pH) (q : Int32 × pH) (hf : fX2_isSilent N v0 v1 h = some q) : Calls X (d + 1) 179 [.ref v0, .int v1] h (some (.int q.1), q.2, 0, 0) := by
  refine Calls.of M179 (Nat.le_of_ble_eq_true rfl) ?_
  show Run X (d + 1) 2 false (pCd 6034) 2 (some .boolean) 0 [(0, .ref v0), (1, .int v1)] [] h 0 0 (some (.int q.1), q.2, 0, 0)
  unfold fX2_isSilent at hf
  by_cases hc : isO h v0 2 = true
  · rw [if_pos hc] at hf
    have nv0 : ¬ v0 = 4 := isO_ne hc
    refine r_aload_n (dGet dX2_isSilent (j := 0) rfl) nv0 rfl ?_
    refine r_iload_n (dGet dX2_isSilent (j := 1) rfl) rfl ?_
    obtain ⟨q1, eq1, hf⟩ := Option.bind_eq_some_iff.mp hf
    refine r_virtual (dGet dX2_isSilent (j := 2) rfl) L2_41 M180 rfl rfl (Nat.le_of_ble_eq_true rfl) (oX2_has eq1) (cX2_has X N (d + 0) v0 v1 h q1 eq1) ?_
    by_cases c2 : q1.1 = 0
    · rw [if_pos c2] at hf
      refine r_if_eq_t (dGet dX2_isSilent (j := 3) rfl) rfl c2 ?_
      refine r_iconst (dGet dX2_isSilent (j := 12) rfl) kI_0 ?_
      cases hf
      exact r_iret (dGet dX2_isSilent (j := 13) rfl) rfl (by decide)
    · rw [if_neg c2] at hf
      refine r_if_eq_f (dGet dX2_isSilent (j := 3) rfl) rfl c2 ?_
      refine r_aload_n (dGet dX2_isSilent (j := 4) rfl) nv0 rfl ?_
      obtain ⟨t3, et3, hf⟩ := Option.bind_eq_some_iff.mp hf
      refine r_getR (dGet dX2_isSilent (j := 5) rfl) F2_9 et3 ?_
      refine r_iload_n (dGet dX2_isSilent (j := 6) rfl) rfl ?_
      obtain ⟨t4, et4, hf⟩ := Option.bind_eq_some_iff.mp hf
      refine r_iald (dGet dX2_isSilent (j := 7) rfl) et4 ?_
      refine r_bipush (dGet dX2_isSilent (j := 8) rfl) kB_50 ?_
      by_cases c5 : t4 < (50 : Int32)
      · rw [if_pos c5] at hf
        refine r_icmp_lt_t (dGet dX2_isSilent (j := 9) rfl) rfl c5 ?_
        refine r_iconst (dGet dX2_isSilent (j := 12) rfl) kI_0 ?_
        cases hf
        exact r_iret (dGet dX2_isSilent (j := 13) rfl) rfl (by decide)
      · rw [if_neg c5] at hf
        refine r_icmp_lt_f (dGet dX2_isSilent (j := 9) rfl) rfl c5 ?_
        refine r_iconst (dGet dX2_isSilent (j := 10) rfl) kI_1 ?_
        refine r_goto (dGet dX2_isSilent (j := 11) rfl) rfl ?_
        cases hf
        exact r_iret (dGet dX2_isSilent (j := 13) rfl) rfl (by decide)
  · rw [if_neg hc] at hf; cases hf
def eX3_lengthOf : List (Nat × Instr × Nat) := [(0, .lload_n 1, 1), (1, .l2i, 1), (2, .istore_n 3, 1), (3, .iload_n 3, 1), (4, .bipush 6, 2), (6, .if_icmp .lt 22, 3), (9, .iload_n 3, 1), (10, .sipush 10005, 3), (13, .if_icmp .ge 15, 3), (16, .aload_n 0, 1), (17, .getfield 13, 3), (20, .iload_n 3, 1), (21, .iconst 1, 1), (22, .iadd, 1), (23, .laload, 1), (24, .l2i, 1), (25, .goto 4, 3), (28, .iconst 0, 1), (29, .ireturn, 1)]
theorem dX3_lengthOf : dChk (pCd 6091) eX3_lengthOf = true := by decide +kernel
def fX3_lengthOf (N : Nat) (v0 : Nat) (v1 : Int64) (h : pH) : Option (Int32 × pH) := if isO h v0 3 = true then (
  if (v1.toInt32) < (6 : Int32) then (
  some ((0 : Int32), h)) else (
  if (10005 : Int32) ≤ (v1.toInt32) then (
  some ((0 : Int32), h)) else (
  (getR h v0 3 0).bind fun t3 =>
  (ldJ h t3 ((v1.toInt32) + (1 : Int32))).bind fun t4 =>
  some ((t4.toInt32), h)))) else none
theorem oX3_lengthOf {N : Nat} {v0 : Nat} {v1 : Int64} {h : pH} {q : Int32 × pH} (hf : fX3_lengthOf N v0 v1 h = some q) : isO h v0 3 = true := by
  unfold fX3_lengthOf at hf
  by_cases hc : isO h v0 3 = true
  · exact hc
  · rw [if_neg hc] at hf; cases hf
theorem cX3_lengthOf (X : pX) (N d : Nat) (v0 : Nat) (v1 : Int64) (h : pH) (q : Int32 × pH) (hf : fX3_lengthOf N v0 v1 h = some q) : Calls X (d + 0) 193 [.ref v0, .long v1] h (some (.int q.1), q.2, 0, 0) := by
  refine Calls.of M193 (Nat.le_of_ble_eq_true rfl) ?_
  show Run X (d + 0) 3 false (pCd 6091) 4 (some .int) 0 [(0, .ref v0), (1, .long v1)] [] h 0 0 (some (.int q.1), q.2, 0, 0)
  unfold fX3_lengthOf at hf
  by_cases hc : isO h v0 3 = true
  · rw [if_pos hc] at hf
    have nv0 : ¬ v0 = 4 := isO_ne hc
    refine r_lload_n (dGet dX3_lengthOf (j := 0) rfl) rfl ?_
    refine r_l2i (dGet dX3_lengthOf (j := 1) rfl) ?_
    refine r_istore_n (lv' := [(3, .int (v1.toInt32)), (0, .ref v0), (1, .long v1)]) (dGet dX3_lengthOf (j := 2) rfl) (by decide) rfl ?_
    refine r_iload_n (dGet dX3_lengthOf (j := 3) rfl) rfl ?_
    refine r_bipush (dGet dX3_lengthOf (j := 4) rfl) kB_6 ?_
    by_cases c1 : (v1.toInt32) < (6 : Int32)
    · rw [if_pos c1] at hf
      refine r_icmp_lt_t (dGet dX3_lengthOf (j := 5) rfl) rfl c1 ?_
      refine r_iconst (dGet dX3_lengthOf (j := 17) rfl) kI_0 ?_
      cases hf
      exact r_iret (dGet dX3_lengthOf (j := 18) rfl) rfl rfl
    · rw [if_neg c1] at hf
      refine r_icmp_lt_f (dGet dX3_lengthOf (j := 5) rfl) rfl c1 ?_
      refine r_iload_n (dGet dX3_lengthOf (j := 6) rfl) rfl ?_
      refine r_sipush (dGet dX3_lengthOf (j := 7) rfl) kS_10005 ?_
      by_cases c2 : (10005 : Int32) ≤ (v1.toInt32)
      · rw [if_pos c2] at hf
        refine r_icmp_ge_t (dGet dX3_lengthOf (j := 8) rfl) rfl c2 ?_
        refine r_iconst (dGet dX3_lengthOf (j := 17) rfl) kI_0 ?_
        cases hf
        exact r_iret (dGet dX3_lengthOf (j := 18) rfl) rfl rfl
      · rw [if_neg c2] at hf
        refine r_icmp_ge_f (dGet dX3_lengthOf (j := 8) rfl) rfl c2 ?_
        refine r_aload_n (dGet dX3_lengthOf (j := 9) rfl) nv0 rfl ?_
        obtain ⟨t3, et3, hf⟩ := Option.bind_eq_some_iff.mp hf
        refine r_getR (dGet dX3_lengthOf (j := 10) rfl) F3_13 et3 ?_
        refine r_iload_n (dGet dX3_lengthOf (j := 11) rfl) rfl ?_
        refine r_iconst (dGet dX3_lengthOf (j := 12) rfl) kI_1 ?_
        refine r_iadd (dGet dX3_lengthOf (j := 13) rfl) ?_
        obtain ⟨t4, et4, hf⟩ := Option.bind_eq_some_iff.mp hf
        refine r_lald (dGet dX3_lengthOf (j := 14) rfl) et4 ?_
        refine r_l2i (dGet dX3_lengthOf (j := 15) rfl) ?_
        refine r_goto (dGet dX3_lengthOf (j := 16) rfl) rfl ?_
        cases hf
        exact r_iret (dGet dX3_lengthOf (j := 18) rfl) rfl rfl
  · rw [if_neg hc] at hf; cases hf
def eX3_has : List (Nat × Instr × Nat) := [(0, .iload_n 3, 1), (1, .ifCond .lt 16, 3), (4, .iload_n 3, 1), (5, .aload_n 0, 1), (6, .lload_n 1, 1), (7, .invokevirtual 47, 3), (10, .if_icmp .ge 7, 3), (13, .iconst 1, 1), (14, .goto 4, 3), (17, .iconst 0, 1), (18, .ireturn, 1)]
theorem dX3_has : dChk (pCd 6087) eX3_has = true := by decide +kernel
def fX3_has (N : Nat) (v0 : Nat) (v1 : Int64) (v2 : Int32) (h : pH) : Option (Int32 × pH) := if isO h v0 3 = true then (
  if v2 < 0 then (
  some ((0 : Int32), h)) else (
  (fX3_lengthOf N v0 v1 h).bind fun q2 =>
  if q2.1 ≤ v2 then (
  some ((0 : Int32), q2.2)) else (
  some ((1 : Int32), q2.2)))) else none
theorem oX3_has {N : Nat} {v0 : Nat} {v1 : Int64} {v2 : Int32} {h : pH} {q : Int32 × pH} (hf : fX3_has N v0 v1 v2 h = some q) : isO h v0 3 = true := by
  unfold fX3_has at hf
  by_cases hc : isO h v0 3 = true
  · exact hc
  · rw [if_neg hc] at hf; cases hf
theorem cX3_has (X : pX) (N d : Nat) (v0 : Nat) (v1 : Int64) (v2 : Int32) (h : pH) (q : Int32 × pH) (hf : fX3_has N v0 v1 v2 h = some q) : Calls X (d + 1) 192 [.ref v0, .long v1, .int v2] h (some (.int q.1), q.2, 0, 0) := by
  refine Calls.of M192 (Nat.le_of_ble_eq_true rfl) ?_
  show Run X (d + 1) 3 false (pCd 6087) 4 (some .boolean) 0 [(0, .ref v0), (1, .long v1), (3, .int v2)] [] h 0 0 (some (.int q.1), q.2, 0, 0)
  unfold fX3_has at hf
  by_cases hc : isO h v0 3 = true
  · rw [if_pos hc] at hf
    have nv0 : ¬ v0 = 4 := isO_ne hc
    refine r_iload_n (dGet dX3_has (j := 0) rfl) rfl ?_
    by_cases c1 : v2 < 0
    · rw [if_pos c1] at hf
      refine r_if_lt_t (dGet dX3_has (j := 1) rfl) rfl c1 ?_
      refine r_iconst (dGet dX3_has (j := 9) rfl) kI_0 ?_
      cases hf
      exact r_iret (dGet dX3_has (j := 10) rfl) rfl (by decide)
    · rw [if_neg c1] at hf
      refine r_if_lt_f (dGet dX3_has (j := 1) rfl) rfl c1 ?_
      refine r_iload_n (dGet dX3_has (j := 2) rfl) rfl ?_
      refine r_aload_n (dGet dX3_has (j := 3) rfl) nv0 rfl ?_
      refine r_lload_n (dGet dX3_has (j := 4) rfl) rfl ?_
      obtain ⟨q2, eq2, hf⟩ := Option.bind_eq_some_iff.mp hf
      refine r_virtual (dGet dX3_has (j := 5) rfl) L3_47 M193 rfl rfl (Nat.le_of_ble_eq_true rfl) (oX3_lengthOf eq2) (cX3_lengthOf X N (d + 0) v0 v1 h q2 eq2) ?_
      by_cases c3 : q2.1 ≤ v2
      · rw [if_pos c3] at hf
        refine r_icmp_ge_t (dGet dX3_has (j := 6) rfl) rfl c3 ?_
        refine r_iconst (dGet dX3_has (j := 9) rfl) kI_0 ?_
        cases hf
        exact r_iret (dGet dX3_has (j := 10) rfl) rfl (by decide)
      · rw [if_neg c3] at hf
        refine r_icmp_ge_f (dGet dX3_has (j := 6) rfl) rfl c3 ?_
        refine r_iconst (dGet dX3_has (j := 7) rfl) kI_1 ?_
        refine r_goto (dGet dX3_has (j := 8) rfl) rfl ?_
        cases hf
        exact r_iret (dGet dX3_has (j := 10) rfl) rfl (by decide)
  · rw [if_neg hc] at hf; cases hf
def eX3_put : List (Nat × Instr × Nat) := [(0, .aload_n 0, 1), (1, .lload_n 1, 1), (2, .iload_n 3, 1), (3, .invokevirtual 51, 3), (6, .ifCond .eq 16, 3), (9, .aload_n 0, 1), (10, .getfield 13, 3), (13, .lload_n 1, 1), (14, .l2i, 1), (15, .iconst 2, 1), (16, .iadd, 1), (17, .iload_n 3, 1), (18, .iadd, 1), (19, .lload 4, 2), (21, .lastore, 1), (22, .return_, 1)]
theorem dX3_put : dChk (pCd 6194) eX3_put = true := by decide +kernel
def fX3_put (N : Nat) (v0 : Nat) (v1 : Int64) (v2 : Int32) (v3 : Int64) (h : pH) : Option (pH) := if isO h v0 3 = true then (
  (fX3_has N v0 v1 v2 h).bind fun q1 =>
  if q1.1 = 0 then (
  some q1.2) else (
  (getR q1.2 v0 3 0).bind fun t3 =>
  (stJ q1.2 t3 (((v1.toInt32) + (2 : Int32)) + v2) v3).bind fun h4 =>
  some h4)) else none
theorem oX3_put {N : Nat} {v0 : Nat} {v1 : Int64} {v2 : Int32} {v3 : Int64} {h : pH} {q : pH} (hf : fX3_put N v0 v1 v2 v3 h = some q) : isO h v0 3 = true := by
  unfold fX3_put at hf
  by_cases hc : isO h v0 3 = true
  · exact hc
  · rw [if_neg hc] at hf; cases hf
theorem cX3_put (X : pX) (N d : Nat) (v0 : Nat) (v1 : Int64) (v2 : Int32) (v3 : Int64) (h : pH) (q : pH) (hf : fX3_put N v0 v1 v2 v3 h = some q) : Calls X (d + 2) 217 [.ref v0, .long v1, .int v2, .long v3] h (none, q, 0, 0) := by
  refine Calls.of M217 (Nat.le_of_ble_eq_true rfl) ?_
  show Run X (d + 2) 3 false (pCd 6194) 6 none 0 [(0, .ref v0), (1, .long v1), (3, .int v2), (4, .long v3)] [] h 0 0 (none, q, 0, 0)
  unfold fX3_put at hf
  by_cases hc : isO h v0 3 = true
  · rw [if_pos hc] at hf
    have nv0 : ¬ v0 = 4 := isO_ne hc
    refine r_aload_n (dGet dX3_put (j := 0) rfl) nv0 rfl ?_
    refine r_lload_n (dGet dX3_put (j := 1) rfl) rfl ?_
    refine r_iload_n (dGet dX3_put (j := 2) rfl) rfl ?_
    obtain ⟨q1, eq1, hf⟩ := Option.bind_eq_some_iff.mp hf
    refine r_virtual (dGet dX3_put (j := 3) rfl) L3_51 M192 rfl rfl (Nat.le_of_ble_eq_true rfl) (oX3_has eq1) (cX3_has X N (d + 0) v0 v1 v2 h q1 eq1) ?_
    by_cases c2 : q1.1 = 0
    · rw [if_pos c2] at hf
      refine r_if_eq_t (dGet dX3_put (j := 4) rfl) rfl c2 ?_
      cases hf
      exact r_vret (dGet dX3_put (j := 15) rfl) rfl
    · rw [if_neg c2] at hf
      refine r_if_eq_f (dGet dX3_put (j := 4) rfl) rfl c2 ?_
      refine r_aload_n (dGet dX3_put (j := 5) rfl) nv0 rfl ?_
      obtain ⟨t3, et3, hf⟩ := Option.bind_eq_some_iff.mp hf
      refine r_getR (dGet dX3_put (j := 6) rfl) F3_13 et3 ?_
      refine r_lload_n (dGet dX3_put (j := 7) rfl) rfl ?_
      refine r_l2i (dGet dX3_put (j := 8) rfl) ?_
      refine r_iconst (dGet dX3_put (j := 9) rfl) kI_2 ?_
      refine r_iadd (dGet dX3_put (j := 10) rfl) ?_
      refine r_iload_n (dGet dX3_put (j := 11) rfl) rfl ?_
      refine r_iadd (dGet dX3_put (j := 12) rfl) ?_
      refine r_lload (dGet dX3_put (j := 13) rfl) rfl ?_
      obtain ⟨h4, eh4, hf⟩ := Option.bind_eq_some_iff.mp hf
      refine r_last (dGet dX3_put (j := 14) rfl) eh4 ?_
      cases hf
      exact r_vret (dGet dX3_put (j := 15) rfl) rfl
  · rw [if_neg hc] at hf; cases hf
def eX3_faultObject : List (Nat × Instr × Nat) := [(0, .ldc2_w 33, 3), (3, .iload_n 0, 1), (4, .iconst 1, 1), (5, .iadd, 1), (6, .i2l, 1), (7, .lor, 1), (8, .lreturn, 1)]
theorem dX3_faultObject : dChk (pCd 6098) eX3_faultObject = true := by decide +kernel
def fX3_faultObject (N : Nat) (v0 : Int32) (h : pH) : Option (Int64 × pH) :=
  some (((4294967296 : Int64) ||| ((v0 + (1 : Int32)).toInt64)), h)
theorem cX3_faultObject (X : pX) (N d : Nat) (v0 : Int32) (h : pH) (q : Int64 × pH) (hf : fX3_faultObject N v0 h = some q) : Calls X (d + 0) 195 [.int v0] h (some (.long q.1), q.2, 0, 0) := by
  refine Calls.of M195 (Nat.le_of_ble_eq_true rfl) ?_
  show Run X (d + 0) 3 false (pCd 6098) 1 (some .long) 0 [(0, .int v0)] [] h 0 0 (some (.long q.1), q.2, 0, 0)
  unfold fX3_faultObject at hf
  refine r_ldc2 (v := 4294967296) (dGet dX3_faultObject (j := 0) rfl) (by decide +kernel : pFind pKl 3 33 = some (4294967296, 5239)) ?_
  refine r_iload_n (dGet dX3_faultObject (j := 1) rfl) rfl ?_
  refine r_iconst (dGet dX3_faultObject (j := 2) rfl) kI_1 ?_
  refine r_iadd (dGet dX3_faultObject (j := 3) rfl) ?_
  refine r_i2l (dGet dX3_faultObject (j := 4) rfl) ?_
  refine r_lor (dGet dX3_faultObject (j := 5) rfl) ?_
  cases hf
  exact r_lret (dGet dX3_faultObject (j := 6) rfl) rfl
def eX3_classOf : List (Nat × Instr × Nat) := [(0, .lload_n 1, 1), (1, .l2i, 1), (2, .istore_n 3, 1), (3, .iload_n 3, 1), (4, .ifCond .le 20, 3), (7, .iload_n 3, 1), (8, .sipush 10006, 3), (11, .if_icmp .ge 13, 3), (14, .aload_n 0, 1), (15, .getfield 13, 3), (18, .iload_n 3, 1), (19, .laload, 1), (20, .l2i, 1), (21, .goto 4, 3), (24, .iconst (-1), 1), (25, .ireturn, 1)]
theorem dX3_classOf : dChk (pCd 6165) eX3_classOf = true := by decide +kernel
def fX3_classOf (N : Nat) (v0 : Nat) (v1 : Int64) (h : pH) : Option (Int32 × pH) := if isO h v0 3 = true then (
  if (v1.toInt32) ≤ 0 then (
  some ((-1 : Int32), h)) else (
  if (10006 : Int32) ≤ (v1.toInt32) then (
  some ((-1 : Int32), h)) else (
  (getR h v0 3 0).bind fun t3 =>
  (ldJ h t3 (v1.toInt32)).bind fun t4 =>
  some ((t4.toInt32), h)))) else none
theorem oX3_classOf {N : Nat} {v0 : Nat} {v1 : Int64} {h : pH} {q : Int32 × pH} (hf : fX3_classOf N v0 v1 h = some q) : isO h v0 3 = true := by
  unfold fX3_classOf at hf
  by_cases hc : isO h v0 3 = true
  · exact hc
  · rw [if_neg hc] at hf; cases hf
theorem cX3_classOf (X : pX) (N d : Nat) (v0 : Nat) (v1 : Int64) (h : pH) (q : Int32 × pH) (hf : fX3_classOf N v0 v1 h = some q) : Calls X (d + 0) 210 [.ref v0, .long v1] h (some (.int q.1), q.2, 0, 0) := by
  refine Calls.of M210 (Nat.le_of_ble_eq_true rfl) ?_
  show Run X (d + 0) 3 false (pCd 6165) 4 (some .int) 0 [(0, .ref v0), (1, .long v1)] [] h 0 0 (some (.int q.1), q.2, 0, 0)
  unfold fX3_classOf at hf
  by_cases hc : isO h v0 3 = true
  · rw [if_pos hc] at hf
    have nv0 : ¬ v0 = 4 := isO_ne hc
    refine r_lload_n (dGet dX3_classOf (j := 0) rfl) rfl ?_
    refine r_l2i (dGet dX3_classOf (j := 1) rfl) ?_
    refine r_istore_n (lv' := [(3, .int (v1.toInt32)), (0, .ref v0), (1, .long v1)]) (dGet dX3_classOf (j := 2) rfl) (by decide) rfl ?_
    refine r_iload_n (dGet dX3_classOf (j := 3) rfl) rfl ?_
    by_cases c1 : (v1.toInt32) ≤ 0
    · rw [if_pos c1] at hf
      refine r_if_le_t (dGet dX3_classOf (j := 4) rfl) rfl c1 ?_
      refine r_iconst (dGet dX3_classOf (j := 14) rfl) kI_m1 ?_
      cases hf
      exact r_iret (dGet dX3_classOf (j := 15) rfl) rfl rfl
    · rw [if_neg c1] at hf
      refine r_if_le_f (dGet dX3_classOf (j := 4) rfl) rfl c1 ?_
      refine r_iload_n (dGet dX3_classOf (j := 5) rfl) rfl ?_
      refine r_sipush (dGet dX3_classOf (j := 6) rfl) kS_10006 ?_
      by_cases c2 : (10006 : Int32) ≤ (v1.toInt32)
      · rw [if_pos c2] at hf
        refine r_icmp_ge_t (dGet dX3_classOf (j := 7) rfl) rfl c2 ?_
        refine r_iconst (dGet dX3_classOf (j := 14) rfl) kI_m1 ?_
        cases hf
        exact r_iret (dGet dX3_classOf (j := 15) rfl) rfl rfl
      · rw [if_neg c2] at hf
        refine r_icmp_ge_f (dGet dX3_classOf (j := 7) rfl) rfl c2 ?_
        refine r_aload_n (dGet dX3_classOf (j := 8) rfl) nv0 rfl ?_
        obtain ⟨t3, et3, hf⟩ := Option.bind_eq_some_iff.mp hf
        refine r_getR (dGet dX3_classOf (j := 9) rfl) F3_13 et3 ?_
        refine r_iload_n (dGet dX3_classOf (j := 10) rfl) rfl ?_
        obtain ⟨t4, et4, hf⟩ := Option.bind_eq_some_iff.mp hf
        refine r_lald (dGet dX3_classOf (j := 11) rfl) et4 ?_
        refine r_l2i (dGet dX3_classOf (j := 12) rfl) ?_
        refine r_goto (dGet dX3_classOf (j := 13) rfl) rfl ?_
        cases hf
        exact r_iret (dGet dX3_classOf (j := 15) rfl) rfl rfl
  · rw [if_neg hc] at hf; cases hf
def eX3_at : List (Nat × Instr × Nat) := [(0, .aload_n 0, 1), (1, .lload_n 1, 1), (2, .iload_n 3, 1), (3, .invokevirtual 51, 3), (6, .ifCond .eq 17, 3), (9, .aload_n 0, 1), (10, .getfield 13, 3), (13, .lload_n 1, 1), (14, .l2i, 1), (15, .iconst 2, 1), (16, .iadd, 1), (17, .iload_n 3, 1), (18, .iadd, 1), (19, .laload, 1), (20, .goto 4, 3), (23, .lconst 0, 1), (24, .lreturn, 1)]
theorem dX3_at : dChk (pCd 6083) eX3_at = true := by decide +kernel
def fX3_at (N : Nat) (v0 : Nat) (v1 : Int64) (v2 : Int32) (h : pH) : Option (Int64 × pH) := if isO h v0 3 = true then (
  (fX3_has N v0 v1 v2 h).bind fun q1 =>
  if q1.1 = 0 then (
  some ((0 : Int64), q1.2)) else (
  (getR q1.2 v0 3 0).bind fun t3 =>
  (ldJ q1.2 t3 (((v1.toInt32) + (2 : Int32)) + v2)).bind fun t4 =>
  some (t4, q1.2))) else none
theorem oX3_at {N : Nat} {v0 : Nat} {v1 : Int64} {v2 : Int32} {h : pH} {q : Int64 × pH} (hf : fX3_at N v0 v1 v2 h = some q) : isO h v0 3 = true := by
  unfold fX3_at at hf
  by_cases hc : isO h v0 3 = true
  · exact hc
  · rw [if_neg hc] at hf; cases hf
theorem cX3_at (X : pX) (N d : Nat) (v0 : Nat) (v1 : Int64) (v2 : Int32) (h : pH) (q : Int64 × pH) (hf : fX3_at N v0 v1 v2 h = some q) : Calls X (d + 2) 191 [.ref v0, .long v1, .int v2] h (some (.long q.1), q.2, 0, 0) := by
  refine Calls.of M191 (Nat.le_of_ble_eq_true rfl) ?_
  show Run X (d + 2) 3 false (pCd 6083) 4 (some .long) 0 [(0, .ref v0), (1, .long v1), (3, .int v2)] [] h 0 0 (some (.long q.1), q.2, 0, 0)
  unfold fX3_at at hf
  by_cases hc : isO h v0 3 = true
  · rw [if_pos hc] at hf
    have nv0 : ¬ v0 = 4 := isO_ne hc
    refine r_aload_n (dGet dX3_at (j := 0) rfl) nv0 rfl ?_
    refine r_lload_n (dGet dX3_at (j := 1) rfl) rfl ?_
    refine r_iload_n (dGet dX3_at (j := 2) rfl) rfl ?_
    obtain ⟨q1, eq1, hf⟩ := Option.bind_eq_some_iff.mp hf
    refine r_virtual (dGet dX3_at (j := 3) rfl) L3_51 M192 rfl rfl (Nat.le_of_ble_eq_true rfl) (oX3_has eq1) (cX3_has X N (d + 0) v0 v1 v2 h q1 eq1) ?_
    by_cases c2 : q1.1 = 0
    · rw [if_pos c2] at hf
      refine r_if_eq_t (dGet dX3_at (j := 4) rfl) rfl c2 ?_
      refine r_lconst (v := 0) (dGet dX3_at (j := 15) rfl) rfl ?_
      cases hf
      exact r_lret (dGet dX3_at (j := 16) rfl) rfl
    · rw [if_neg c2] at hf
      refine r_if_eq_f (dGet dX3_at (j := 4) rfl) rfl c2 ?_
      refine r_aload_n (dGet dX3_at (j := 5) rfl) nv0 rfl ?_
      obtain ⟨t3, et3, hf⟩ := Option.bind_eq_some_iff.mp hf
      refine r_getR (dGet dX3_at (j := 6) rfl) F3_13 et3 ?_
      refine r_lload_n (dGet dX3_at (j := 7) rfl) rfl ?_
      refine r_l2i (dGet dX3_at (j := 8) rfl) ?_
      refine r_iconst (dGet dX3_at (j := 9) rfl) kI_2 ?_
      refine r_iadd (dGet dX3_at (j := 10) rfl) ?_
      refine r_iload_n (dGet dX3_at (j := 11) rfl) rfl ?_
      refine r_iadd (dGet dX3_at (j := 12) rfl) ?_
      obtain ⟨t4, et4, hf⟩ := Option.bind_eq_some_iff.mp hf
      refine r_lald (dGet dX3_at (j := 13) rfl) et4 ?_
      refine r_goto (dGet dX3_at (j := 14) rfl) rfl ?_
      cases hf
      exact r_lret (dGet dX3_at (j := 16) rfl) rfl
  · rw [if_neg hc] at hf; cases hf
def eX3_number : List (Nat × Instr × Nat) := [(0, .iload_n 0, 1), (1, .i2l, 1), (2, .ldc2_w 35, 3), (5, .land, 1), (6, .lreturn, 1)]
theorem dX3_number : dChk (pCd 6074) eX3_number = true := by decide +kernel
def fX3_number (N : Nat) (v0 : Int32) (h : pH) : Option (Int64 × pH) :=
  some (((v0.toInt64) &&& (4294967295 : Int64)), h)
theorem cX3_number (X : pX) (N d : Nat) (v0 : Int32) (h : pH) (q : Int64 × pH) (hf : fX3_number N v0 h = some q) : Calls X (d + 0) 189 [.int v0] h (some (.long q.1), q.2, 0, 0) := by
  refine Calls.of M189 (Nat.le_of_ble_eq_true rfl) ?_
  show Run X (d + 0) 3 false (pCd 6074) 1 (some .long) 0 [(0, .int v0)] [] h 0 0 (some (.long q.1), q.2, 0, 0)
  unfold fX3_number at hf
  refine r_iload_n (dGet dX3_number (j := 0) rfl) rfl ?_
  refine r_i2l (dGet dX3_number (j := 1) rfl) ?_
  refine r_ldc2 (v := 4294967295) (dGet dX3_number (j := 2) rfl) (by decide +kernel : pFind pKl 3 35 = some (4294967295, 6075)) ?_
  refine r_land (dGet dX3_number (j := 3) rfl) ?_
  cases hf
  exact r_lret (dGet dX3_number (j := 4) rfl) rfl
def eX4_next : List (Nat × Instr × Nat) := [(0, .aload_n 0, 1), (1, .getfield 17, 3), (4, .ifCond .ne 5, 3), (7, .iconst 0, 1), (8, .ireturn, 1), (9, .aload_n 0, 1), (10, .getfield 9, 3), (13, .aload_n 0, 1), (14, .getfield 13, 3), (17, .iaload, 1), (18, .istore_n 1, 1), (19, .aload_n 0, 1), (20, .aload_n 0, 1), (21, .getfield 13, 3), (24, .iconst 1, 1), (25, .iadd, 1), (26, .sipush 300, 3), (29, .irem, 1), (30, .putfield 13, 3), (33, .aload_n 0, 1), (34, .dup, 1), (35, .getfield 17, 3), (38, .iconst 1, 1), (39, .isub, 1), (40, .putfield 17, 3), (43, .iload_n 1, 1), (44, .ireturn, 1)]
theorem dX4_next : dChk (pCd 6079) eX4_next = true := by decide +kernel
def fX4_next (N : Nat) (v0 : Nat) (h : pH) : Option (Int32 × pH) := if isO h v0 4 = true then (
  (getI h v0 4 2).bind fun t1 =>
  if t1 = 0 then (
  some ((0 : Int32), h)) else (
  (getR h v0 4 0).bind fun t3 =>
  (getI h v0 4 1).bind fun t4 =>
  (ldI h t3 t4).bind fun t5 =>
  (getI h v0 4 1).bind fun t6 =>
  (putI h v0 4 1 ((t6 + (1 : Int32)) - (t6 + (1 : Int32)) / (300 : Int32) * (300 : Int32))).bind fun h7 =>
  (getI h7 v0 4 2).bind fun t8 =>
  (putI h7 v0 4 2 (t8 - (1 : Int32))).bind fun h9 =>
  some (t5, h9))) else none
theorem oX4_next {N : Nat} {v0 : Nat} {h : pH} {q : Int32 × pH} (hf : fX4_next N v0 h = some q) : isO h v0 4 = true := by
  unfold fX4_next at hf
  by_cases hc : isO h v0 4 = true
  · exact hc
  · rw [if_neg hc] at hf; cases hf
theorem cX4_next (X : pX) (N d : Nat) (v0 : Nat) (h : pH) (q : Int32 × pH) (hf : fX4_next N v0 h = some q) : Calls X (d + 0) 190 [.ref v0] h (some (.int q.1), q.2, 0, 0) := by
  refine Calls.of M190 (Nat.le_of_ble_eq_true rfl) ?_
  show Run X (d + 0) 4 false (pCd 6079) 2 (some .int) 0 [(0, .ref v0)] [] h 0 0 (some (.int q.1), q.2, 0, 0)
  unfold fX4_next at hf
  by_cases hc : isO h v0 4 = true
  · rw [if_pos hc] at hf
    have nv0 : ¬ v0 = 4 := isO_ne hc
    refine r_aload_n (dGet dX4_next (j := 0) rfl) nv0 rfl ?_
    obtain ⟨t1, et1, hf⟩ := Option.bind_eq_some_iff.mp hf
    refine r_getI (dGet dX4_next (j := 1) rfl) F4_17 et1 ?_
    by_cases c2 : t1 = 0
    · rw [if_pos c2] at hf
      refine r_if_ne_f (dGet dX4_next (j := 2) rfl) rfl c2 ?_
      refine r_iconst (dGet dX4_next (j := 3) rfl) kI_0 ?_
      cases hf
      exact r_iret (dGet dX4_next (j := 4) rfl) rfl rfl
    · rw [if_neg c2] at hf
      refine r_if_ne_t (dGet dX4_next (j := 2) rfl) rfl c2 ?_
      refine r_aload_n (dGet dX4_next (j := 5) rfl) nv0 rfl ?_
      obtain ⟨t3, et3, hf⟩ := Option.bind_eq_some_iff.mp hf
      refine r_getR (dGet dX4_next (j := 6) rfl) F4_9 et3 ?_
      refine r_aload_n (dGet dX4_next (j := 7) rfl) nv0 rfl ?_
      obtain ⟨t4, et4, hf⟩ := Option.bind_eq_some_iff.mp hf
      refine r_getI (dGet dX4_next (j := 8) rfl) F4_13 et4 ?_
      obtain ⟨t5, et5, hf⟩ := Option.bind_eq_some_iff.mp hf
      refine r_iald (dGet dX4_next (j := 9) rfl) et5 ?_
      refine r_istore_n (lv' := [(1, .int t5), (0, .ref v0)]) (dGet dX4_next (j := 10) rfl) (by decide) rfl ?_
      refine r_aload_n (dGet dX4_next (j := 11) rfl) nv0 rfl ?_
      refine r_aload_n (dGet dX4_next (j := 12) rfl) nv0 rfl ?_
      obtain ⟨t6, et6, hf⟩ := Option.bind_eq_some_iff.mp hf
      refine r_getI (dGet dX4_next (j := 13) rfl) F4_13 et6 ?_
      refine r_iconst (dGet dX4_next (j := 14) rfl) kI_1 ?_
      refine r_iadd (dGet dX4_next (j := 15) rfl) ?_
      refine r_sipush (dGet dX4_next (j := 16) rfl) kS_300 ?_
      refine r_irem (dGet dX4_next (j := 17) rfl) (by decide) ?_
      obtain ⟨h7, eh7, hf⟩ := Option.bind_eq_some_iff.mp hf
      refine r_putI (dGet dX4_next (j := 18) rfl) F4_13 rfl rfl eh7 ?_
      refine r_aload_n (dGet dX4_next (j := 19) rfl) nv0 rfl ?_
      refine r_dup (dGet dX4_next (j := 20) rfl) rfl ?_
      obtain ⟨t8, et8, hf⟩ := Option.bind_eq_some_iff.mp hf
      refine r_getI (dGet dX4_next (j := 21) rfl) F4_17 et8 ?_
      refine r_iconst (dGet dX4_next (j := 22) rfl) kI_1 ?_
      refine r_isub (dGet dX4_next (j := 23) rfl) ?_
      obtain ⟨h9, eh9, hf⟩ := Option.bind_eq_some_iff.mp hf
      refine r_putI (dGet dX4_next (j := 24) rfl) F4_17 rfl rfl eh9 ?_
      refine r_iload_n (dGet dX4_next (j := 25) rfl) rfl ?_
      cases hf
      exact r_iret (dGet dX4_next (j := 26) rfl) rfl rfl
  · rw [if_neg hc] at hf; cases hf
def eX3_hasRoom : List (Nat × Instr × Nat) := [(0, .lload_n 1, 1), (1, .aload_n 0, 1), (2, .getfield 24, 3), (5, .aload_n 0, 1), (6, .invokevirtual 37, 3), (9, .isub, 1), (10, .i2l, 1), (11, .lcmp, 1), (12, .ifCond .gt 7, 3), (15, .iconst 1, 1), (16, .goto 4, 3), (19, .iconst 0, 1), (20, .ireturn, 1)]
theorem dX3_hasRoom : dChk (pCd 6103) eX3_hasRoom = true := by decide +kernel
def fX3_hasRoom (N : Nat) (v0 : Nat) (v1 : Int64) (h : pH) : Option (Int32 × pH) := if isO h v0 3 = true then (
  (getI h v0 3 3).bind fun t1 =>
  (fX3_cellsUsed N v0 h).bind fun q2 =>
  if 0 < (lg_cmp v1 ((t1 - q2.1).toInt64)) then (
  some ((0 : Int32), q2.2)) else (
  some ((1 : Int32), q2.2))) else none
theorem oX3_hasRoom {N : Nat} {v0 : Nat} {v1 : Int64} {h : pH} {q : Int32 × pH} (hf : fX3_hasRoom N v0 v1 h = some q) : isO h v0 3 = true := by
  unfold fX3_hasRoom at hf
  by_cases hc : isO h v0 3 = true
  · exact hc
  · rw [if_neg hc] at hf; cases hf
theorem cX3_hasRoom (X : pX) (N d : Nat) (v0 : Nat) (v1 : Int64) (h : pH) (q : Int32 × pH) (hf : fX3_hasRoom N v0 v1 h = some q) : Calls X (d + 1) 196 [.ref v0, .long v1] h (some (.int q.1), q.2, 0, 0) := by
  refine Calls.of M196 (Nat.le_of_ble_eq_true rfl) ?_
  show Run X (d + 1) 3 false (pCd 6103) 3 (some .boolean) 0 [(0, .ref v0), (1, .long v1)] [] h 0 0 (some (.int q.1), q.2, 0, 0)
  unfold fX3_hasRoom at hf
  by_cases hc : isO h v0 3 = true
  · rw [if_pos hc] at hf
    have nv0 : ¬ v0 = 4 := isO_ne hc
    refine r_lload_n (dGet dX3_hasRoom (j := 0) rfl) rfl ?_
    refine r_aload_n (dGet dX3_hasRoom (j := 1) rfl) nv0 rfl ?_
    obtain ⟨t1, et1, hf⟩ := Option.bind_eq_some_iff.mp hf
    refine r_getI (dGet dX3_hasRoom (j := 2) rfl) F3_24 et1 ?_
    refine r_aload_n (dGet dX3_hasRoom (j := 3) rfl) nv0 rfl ?_
    obtain ⟨q2, eq2, hf⟩ := Option.bind_eq_some_iff.mp hf
    refine r_virtual (dGet dX3_hasRoom (j := 4) rfl) L3_37 M197 rfl rfl (Nat.le_of_ble_eq_true rfl) (oX3_cellsUsed eq2) (cX3_cellsUsed X N (d + 0) v0 h q2 eq2) ?_
    refine r_isub (dGet dX3_hasRoom (j := 5) rfl) ?_
    refine r_i2l (dGet dX3_hasRoom (j := 6) rfl) ?_
    refine r_lcmp (dGet dX3_hasRoom (j := 7) rfl) ?_
    by_cases c3 : 0 < (lg_cmp v1 ((t1 - q2.1).toInt64))
    · rw [if_pos c3] at hf
      refine r_if_gt_t (dGet dX3_hasRoom (j := 8) rfl) rfl c3 ?_
      refine r_iconst (dGet dX3_hasRoom (j := 11) rfl) kI_0 ?_
      cases hf
      exact r_iret (dGet dX3_hasRoom (j := 12) rfl) rfl (by decide)
    · rw [if_neg c3] at hf
      refine r_if_gt_f (dGet dX3_hasRoom (j := 8) rfl) rfl c3 ?_
      refine r_iconst (dGet dX3_hasRoom (j := 9) rfl) kI_1 ?_
      refine r_goto (dGet dX3_hasRoom (j := 10) rfl) rfl ?_
      cases hf
      exact r_iret (dGet dX3_hasRoom (j := 12) rfl) rfl (by decide)
  · rw [if_neg hc] at hf; cases hf
