def eX10_addLetter : List (Nat × Instr × Nat) := [(0, .aload_n 0, 1), (1, .getfield 60, 3), (4, .aload_n 0, 1), (5, .getfield 27, 3), (8, .arraylength, 1), (9, .if_icmp .ge 23, 3), (12, .aload_n 0, 1), (13, .getfield 27, 3), (16, .aload_n 0, 1), (17, .getfield 60, 3), (20, .iload_n 1, 1), (21, .iastore, 1), (22, .aload_n 0, 1), (23, .dup, 1), (24, .getfield 60, 3), (27, .iconst 1, 1), (28, .iadd, 1), (29, .putfield 60, 3), (32, .return_, 1)]
theorem dX10_addLetter : dChk (pCd 3139) eX10_addLetter = true := by decide +kernel
def fX10_addLetter (N : Nat) (v0 : Nat) (v1 : Int32) (h : pH) : Option (pH) := if isO h v0 10 = true then (
  (getI h v0 10 5).bind fun t1 =>
  (getR h v0 10 4).bind fun t2 =>
  (lenA h t2).bind fun t3 =>
  if t3 ≤ t1 then (
  some h) else (
  (getR h v0 10 4).bind fun t5 =>
  (getI h v0 10 5).bind fun t6 =>
  (stI h t5 t6 v1).bind fun h7 =>
  (getI h7 v0 10 5).bind fun t8 =>
  (putI h7 v0 10 5 (t8 + (1 : Int32))).bind fun h9 =>
  some h9)) else none
theorem oX10_addLetter {N : Nat} {v0 : Nat} {v1 : Int32} {h : pH} {q : pH} (hf : fX10_addLetter N v0 v1 h = some q) : isO h v0 10 = true := by
  unfold fX10_addLetter at hf
  by_cases hc : isO h v0 10 = true
  · exact hc
  · rw [if_neg hc] at hf; cases hf
theorem cX10_addLetter (X : pX) (N d : Nat) (v0 : Nat) (v1 : Int32) (h : pH) (q : pH) (hf : fX10_addLetter N v0 v1 h = some q) : Calls X (d + 0) 33 [.ref v0, .int v1] h (none, q, 0, 0) := by
  refine Calls.of M33 (Nat.le_of_ble_eq_true rfl) ?_
  show Run X (d + 0) 10 false (pCd 3139) 2 none 0 [(0, .ref v0), (1, .int v1)] [] h 0 0 (none, q, 0, 0)
  unfold fX10_addLetter at hf
  by_cases hc : isO h v0 10 = true
  · rw [if_pos hc] at hf
    have nv0 : ¬ v0 = 4 := isO_ne hc
    refine r_aload_n (dGet dX10_addLetter (j := 0) rfl) nv0 rfl ?_
    obtain ⟨t1, et1, hf⟩ := Option.bind_eq_some_iff.mp hf
    refine r_getI (dGet dX10_addLetter (j := 1) rfl) F10_60 et1 ?_
    refine r_aload_n (dGet dX10_addLetter (j := 2) rfl) nv0 rfl ?_
    obtain ⟨t2, et2, hf⟩ := Option.bind_eq_some_iff.mp hf
    refine r_getR (dGet dX10_addLetter (j := 3) rfl) F10_27 et2 ?_
    obtain ⟨t3, et3, hf⟩ := Option.bind_eq_some_iff.mp hf
    refine r_alen (dGet dX10_addLetter (j := 4) rfl) et3 ?_
    by_cases c4 : t3 ≤ t1
    · rw [if_pos c4] at hf
      refine r_icmp_ge_t (dGet dX10_addLetter (j := 5) rfl) rfl c4 ?_
      cases hf
      exact r_vret (dGet dX10_addLetter (j := 18) rfl) rfl
    · rw [if_neg c4] at hf
      refine r_icmp_ge_f (dGet dX10_addLetter (j := 5) rfl) rfl c4 ?_
      refine r_aload_n (dGet dX10_addLetter (j := 6) rfl) nv0 rfl ?_
      obtain ⟨t5, et5, hf⟩ := Option.bind_eq_some_iff.mp hf
      refine r_getR (dGet dX10_addLetter (j := 7) rfl) F10_27 et5 ?_
      refine r_aload_n (dGet dX10_addLetter (j := 8) rfl) nv0 rfl ?_
      obtain ⟨t6, et6, hf⟩ := Option.bind_eq_some_iff.mp hf
      refine r_getI (dGet dX10_addLetter (j := 9) rfl) F10_60 et6 ?_
      refine r_iload_n (dGet dX10_addLetter (j := 10) rfl) rfl ?_
      obtain ⟨h7, eh7, hf⟩ := Option.bind_eq_some_iff.mp hf
      refine r_iast (dGet dX10_addLetter (j := 11) rfl) eh7 ?_
      refine r_aload_n (dGet dX10_addLetter (j := 12) rfl) nv0 rfl ?_
      refine r_dup (dGet dX10_addLetter (j := 13) rfl) rfl ?_
      obtain ⟨t8, et8, hf⟩ := Option.bind_eq_some_iff.mp hf
      refine r_getI (dGet dX10_addLetter (j := 14) rfl) F10_60 et8 ?_
      refine r_iconst (dGet dX10_addLetter (j := 15) rfl) kI_1 ?_
      refine r_iadd (dGet dX10_addLetter (j := 16) rfl) ?_
      obtain ⟨h9, eh9, hf⟩ := Option.bind_eq_some_iff.mp hf
      refine r_putI (dGet dX10_addLetter (j := 17) rfl) F10_60 rfl rfl eh9 ?_
      cases hf
      exact r_vret (dGet dX10_addLetter (j := 18) rfl) rfl
  · rw [if_neg hc] at hf; cases hf
def eX10_addWord : List (Nat × Instr × Nat) := [(0, .aload_n 0, 1), (1, .getfield 42, 3), (4, .sipush 3100, 3), (7, .if_icmp .ge 43, 3), (10, .aload_n 0, 1), (11, .getfield 9, 3), (14, .aload_n 0, 1), (15, .getfield 42, 3), (18, .iload_n 1, 1), (19, .iastore, 1), (20, .aload_n 0, 1), (21, .getfield 13, 3), (24, .aload_n 0, 1), (25, .getfield 42, 3), (28, .iload_n 2, 1), (29, .iastore, 1), (30, .aload_n 0, 1), (31, .getfield 16, 3), (34, .aload_n 0, 1), (35, .getfield 42, 3), (38, .iload_n 3, 1), (39, .iastore, 1), (40, .aload_n 0, 1), (41, .dup, 1), (42, .getfield 42, 3), (45, .iconst 1, 1), (46, .iadd, 1), (47, .putfield 42, 3), (50, .return_, 1)]
theorem dX10_addWord : dChk (pCd 3157) eX10_addWord = true := by decide +kernel
def fX10_addWord (N : Nat) (v0 : Nat) (v1 : Int32) (v2 : Int32) (v3 : Int32) (h : pH) : Option (pH) := if isO h v0 10 = true then (
  (getI h v0 10 3).bind fun t1 =>
  if (3100 : Int32) ≤ t1 then (
  some h) else (
  (getR h v0 10 0).bind fun t3 =>
  (getI h v0 10 3).bind fun t4 =>
  (stI h t3 t4 v1).bind fun h5 =>
  (getR h5 v0 10 1).bind fun t6 =>
  (getI h5 v0 10 3).bind fun t7 =>
  (stI h5 t6 t7 v2).bind fun h8 =>
  (getR h8 v0 10 2).bind fun t9 =>
  (getI h8 v0 10 3).bind fun t10 =>
  (stI h8 t9 t10 v3).bind fun h11 =>
  (getI h11 v0 10 3).bind fun t12 =>
  (putI h11 v0 10 3 (t12 + (1 : Int32))).bind fun h13 =>
  some h13)) else none
theorem oX10_addWord {N : Nat} {v0 : Nat} {v1 : Int32} {v2 : Int32} {v3 : Int32} {h : pH} {q : pH} (hf : fX10_addWord N v0 v1 v2 v3 h = some q) : isO h v0 10 = true := by
  unfold fX10_addWord at hf
  by_cases hc : isO h v0 10 = true
  · exact hc
  · rw [if_neg hc] at hf; cases hf
theorem cX10_addWord (X : pX) (N d : Nat) (v0 : Nat) (v1 : Int32) (v2 : Int32) (v3 : Int32) (h : pH) (q : pH) (hf : fX10_addWord N v0 v1 v2 v3 h = some q) : Calls X (d + 0) 38 [.ref v0, .int v1, .int v2, .int v3] h (none, q, 0, 0) := by
  refine Calls.of M38 (Nat.le_of_ble_eq_true rfl) ?_
  show Run X (d + 0) 10 false (pCd 3157) 4 none 0 [(0, .ref v0), (1, .int v1), (2, .int v2), (3, .int v3)] [] h 0 0 (none, q, 0, 0)
  unfold fX10_addWord at hf
  by_cases hc : isO h v0 10 = true
  · rw [if_pos hc] at hf
    have nv0 : ¬ v0 = 4 := isO_ne hc
    refine r_aload_n (dGet dX10_addWord (j := 0) rfl) nv0 rfl ?_
    obtain ⟨t1, et1, hf⟩ := Option.bind_eq_some_iff.mp hf
    refine r_getI (dGet dX10_addWord (j := 1) rfl) F10_42 et1 ?_
    refine r_sipush (dGet dX10_addWord (j := 2) rfl) kS_3100 ?_
    by_cases c2 : (3100 : Int32) ≤ t1
    · rw [if_pos c2] at hf
      refine r_icmp_ge_t (dGet dX10_addWord (j := 3) rfl) rfl c2 ?_
      cases hf
      exact r_vret (dGet dX10_addWord (j := 28) rfl) rfl
    · rw [if_neg c2] at hf
      refine r_icmp_ge_f (dGet dX10_addWord (j := 3) rfl) rfl c2 ?_
      refine r_aload_n (dGet dX10_addWord (j := 4) rfl) nv0 rfl ?_
      obtain ⟨t3, et3, hf⟩ := Option.bind_eq_some_iff.mp hf
      refine r_getR (dGet dX10_addWord (j := 5) rfl) F10_9 et3 ?_
      refine r_aload_n (dGet dX10_addWord (j := 6) rfl) nv0 rfl ?_
      obtain ⟨t4, et4, hf⟩ := Option.bind_eq_some_iff.mp hf
      refine r_getI (dGet dX10_addWord (j := 7) rfl) F10_42 et4 ?_
      refine r_iload_n (dGet dX10_addWord (j := 8) rfl) rfl ?_
      obtain ⟨h5, eh5, hf⟩ := Option.bind_eq_some_iff.mp hf
      refine r_iast (dGet dX10_addWord (j := 9) rfl) eh5 ?_
      refine r_aload_n (dGet dX10_addWord (j := 10) rfl) nv0 rfl ?_
      obtain ⟨t6, et6, hf⟩ := Option.bind_eq_some_iff.mp hf
      refine r_getR (dGet dX10_addWord (j := 11) rfl) F10_13 et6 ?_
      refine r_aload_n (dGet dX10_addWord (j := 12) rfl) nv0 rfl ?_
      obtain ⟨t7, et7, hf⟩ := Option.bind_eq_some_iff.mp hf
      refine r_getI (dGet dX10_addWord (j := 13) rfl) F10_42 et7 ?_
      refine r_iload_n (dGet dX10_addWord (j := 14) rfl) rfl ?_
      obtain ⟨h8, eh8, hf⟩ := Option.bind_eq_some_iff.mp hf
      refine r_iast (dGet dX10_addWord (j := 15) rfl) eh8 ?_
      refine r_aload_n (dGet dX10_addWord (j := 16) rfl) nv0 rfl ?_
      obtain ⟨t9, et9, hf⟩ := Option.bind_eq_some_iff.mp hf
      refine r_getR (dGet dX10_addWord (j := 17) rfl) F10_16 et9 ?_
      refine r_aload_n (dGet dX10_addWord (j := 18) rfl) nv0 rfl ?_
      obtain ⟨t10, et10, hf⟩ := Option.bind_eq_some_iff.mp hf
      refine r_getI (dGet dX10_addWord (j := 19) rfl) F10_42 et10 ?_
      refine r_iload_n (dGet dX10_addWord (j := 20) rfl) rfl ?_
      obtain ⟨h11, eh11, hf⟩ := Option.bind_eq_some_iff.mp hf
      refine r_iast (dGet dX10_addWord (j := 21) rfl) eh11 ?_
      refine r_aload_n (dGet dX10_addWord (j := 22) rfl) nv0 rfl ?_
      refine r_dup (dGet dX10_addWord (j := 23) rfl) rfl ?_
      obtain ⟨t12, et12, hf⟩ := Option.bind_eq_some_iff.mp hf
      refine r_getI (dGet dX10_addWord (j := 24) rfl) F10_42 et12 ?_
      refine r_iconst (dGet dX10_addWord (j := 25) rfl) kI_1 ?_
      refine r_iadd (dGet dX10_addWord (j := 26) rfl) ?_
      obtain ⟨h13, eh13, hf⟩ := Option.bind_eq_some_iff.mp hf
      refine r_putI (dGet dX10_addWord (j := 27) rfl) F10_42 rfl rfl eh13 ?_
      cases hf
      exact r_vret (dGet dX10_addWord (j := 28) rfl) rfl
  · rw [if_neg hc] at hf; cases hf
def eX10_hasLetters : List (Nat × Instr × Nat) := [(0, .aload_n 0, 1), (1, .getfield 33, 3), (4, .iload_n 1, 1), (5, .iaload, 1), (6, .aload_n 0, 1), (7, .getfield 30, 3), (10, .iload_n 1, 1), (11, .iaload, 1), (12, .isub, 1), (13, .istore_n 3, 1), (14, .iload_n 3, 1), (15, .aload_n 0, 1), (16, .getfield 60, 3), (19, .iload_n 2, 1), (20, .isub, 1), (21, .if_icmp .eq 5, 3), (24, .iconst 0, 1), (25, .ireturn, 1), (26, .iconst 0, 1), (27, .istore 4, 2), (29, .iload 4, 2), (31, .iload_n 3, 1), (32, .if_icmp .ge 37, 3), (35, .aload_n 0, 1), (36, .getfield 27, 3), (39, .aload_n 0, 1), (40, .getfield 30, 3), (43, .iload_n 1, 1), (44, .iaload, 1), (45, .iload 4, 2), (47, .iadd, 1), (48, .iaload, 1), (49, .aload_n 0, 1), (50, .getfield 27, 3), (53, .iload_n 2, 1), (54, .iload 4, 2), (56, .iadd, 1), (57, .iaload, 1), (58, .if_icmp .eq 5, 3), (61, .iconst 0, 1), (62, .ireturn, 1), (63, .iinc 4 1, 3), (66, .goto (-37), 3), (69, .iconst 1, 1), (70, .ireturn, 1)]
theorem dX10_hasLetters : dChk (pCd 3135) eX10_hasLetters = true := by decide +kernel
def fX10_hasLetters_29 (N : Nat) : Nat → Nat → Int32 → Int32 → Int32 → Int32 → pH → Option (Int32 × pH)
  | 0, _, _, _, _, _, _ => none
  | n + 1, v0, v1, v2, v3, v4, h => if v3 ≤ v4 then (
  some ((1 : Int32), h)) else (
  (getR h v0 10 4).bind fun t2 =>
  (getR h v0 10 6).bind fun t3 =>
  (ldI h t3 v1).bind fun t4 =>
  (ldI h t2 (t4 + v4)).bind fun t5 =>
  (getR h v0 10 4).bind fun t6 =>
  (ldI h t6 (v2 + v4)).bind fun t7 =>
  if t5 = t7 then (
  fX10_hasLetters_29 N n v0 v1 v2 v3 (v4 + (1 : Int32)) h) else (
  some ((0 : Int32), h)))
theorem lX10_hasLetters_29 (X : pX) (N d : Nat)  : ∀ (n : Nat) (v0 : Nat) (v1 : Int32) (v2 : Int32) (v3 : Int32) (v4 : Int32) (h : pH) (q : Int32 × pH), fX10_hasLetters_29 N n v0 v1 v2 v3 v4 h = some q → ¬ v0 = 4 → Run X (d + 0) 10 false (pCd 3135) 5 (some .boolean) 29 [(0, .ref v0), (1, .int v1), (2, .int v2), (3, .int v3), (4, .int v4)] [] h 0 0 (some (.int q.1), q.2, 0, 0) := by
  intro n
  induction n with
  | zero => intro v0 v1 v2 v3 v4 h q hf; cases hf
  | succ n ih =>
    intro v0 v1 v2 v3 v4 h q hf nv0
    unfold fX10_hasLetters_29 at hf
    refine r_iload (dGet dX10_hasLetters (j := 20) rfl) rfl ?_
    refine r_iload_n (dGet dX10_hasLetters (j := 21) rfl) rfl ?_
    by_cases c1 : v3 ≤ v4
    · rw [if_pos c1] at hf
      refine r_icmp_ge_t (dGet dX10_hasLetters (j := 22) rfl) rfl c1 ?_
      refine r_iconst (dGet dX10_hasLetters (j := 43) rfl) kI_1 ?_
      cases hf
      exact r_iret (dGet dX10_hasLetters (j := 44) rfl) rfl (by decide)
    · rw [if_neg c1] at hf
      refine r_icmp_ge_f (dGet dX10_hasLetters (j := 22) rfl) rfl c1 ?_
      refine r_aload_n (dGet dX10_hasLetters (j := 23) rfl) nv0 rfl ?_
      obtain ⟨t2, et2, hf⟩ := Option.bind_eq_some_iff.mp hf
      refine r_getR (dGet dX10_hasLetters (j := 24) rfl) F10_27 et2 ?_
      refine r_aload_n (dGet dX10_hasLetters (j := 25) rfl) nv0 rfl ?_
      obtain ⟨t3, et3, hf⟩ := Option.bind_eq_some_iff.mp hf
      refine r_getR (dGet dX10_hasLetters (j := 26) rfl) F10_30 et3 ?_
      refine r_iload_n (dGet dX10_hasLetters (j := 27) rfl) rfl ?_
      obtain ⟨t4, et4, hf⟩ := Option.bind_eq_some_iff.mp hf
      refine r_iald (dGet dX10_hasLetters (j := 28) rfl) et4 ?_
      refine r_iload (dGet dX10_hasLetters (j := 29) rfl) rfl ?_
      refine r_iadd (dGet dX10_hasLetters (j := 30) rfl) ?_
      obtain ⟨t5, et5, hf⟩ := Option.bind_eq_some_iff.mp hf
      refine r_iald (dGet dX10_hasLetters (j := 31) rfl) et5 ?_
      refine r_aload_n (dGet dX10_hasLetters (j := 32) rfl) nv0 rfl ?_
      obtain ⟨t6, et6, hf⟩ := Option.bind_eq_some_iff.mp hf
      refine r_getR (dGet dX10_hasLetters (j := 33) rfl) F10_27 et6 ?_
      refine r_iload_n (dGet dX10_hasLetters (j := 34) rfl) rfl ?_
      refine r_iload (dGet dX10_hasLetters (j := 35) rfl) rfl ?_
      refine r_iadd (dGet dX10_hasLetters (j := 36) rfl) ?_
      obtain ⟨t7, et7, hf⟩ := Option.bind_eq_some_iff.mp hf
      refine r_iald (dGet dX10_hasLetters (j := 37) rfl) et7 ?_
      by_cases c8 : t5 = t7
      · rw [if_pos c8] at hf
        refine r_icmp_eq_t (dGet dX10_hasLetters (j := 38) rfl) rfl c8 ?_
        refine r_iinc (lv' := [(4, .int (v4 + (1 : Int32))), (0, .ref v0), (1, .int v1), (2, .int v2), (3, .int v3)]) (dGet dX10_hasLetters (j := 41) rfl) rfl (by decide) kI_1 rfl ?_
        refine r_goto (dGet dX10_hasLetters (j := 42) rfl) rfl ?_
        refine Run.weak [(0, .ref v0), (1, .int v1), (2, .int v2), (3, .int v3), (4, .int (v4 + (1 : Int32)))] (by simp) (by simp [pNd]) ?_
        exact ih v0 v1 v2 v3 (v4 + (1 : Int32)) h q hf nv0
      · rw [if_neg c8] at hf
        refine r_icmp_eq_f (dGet dX10_hasLetters (j := 38) rfl) rfl c8 ?_
        refine r_iconst (dGet dX10_hasLetters (j := 39) rfl) kI_0 ?_
        cases hf
        exact r_iret (dGet dX10_hasLetters (j := 40) rfl) rfl (by decide)
def fX10_hasLetters (N : Nat) (v0 : Nat) (v1 : Int32) (v2 : Int32) (h : pH) : Option (Int32 × pH) := if isO h v0 10 = true then (
  (getR h v0 10 7).bind fun t9 =>
  (ldI h t9 v1).bind fun t10 =>
  (getR h v0 10 6).bind fun t11 =>
  (ldI h t11 v1).bind fun t12 =>
  (getI h v0 10 5).bind fun t13 =>
  if (t10 - t12) = (t13 - v2) then (
  fX10_hasLetters_29 N N v0 v1 v2 (t10 - t12) (0 : Int32) h) else (
  some ((0 : Int32), h))) else none
theorem oX10_hasLetters {N : Nat} {v0 : Nat} {v1 : Int32} {v2 : Int32} {h : pH} {q : Int32 × pH} (hf : fX10_hasLetters N v0 v1 v2 h = some q) : isO h v0 10 = true := by
  unfold fX10_hasLetters at hf
  by_cases hc : isO h v0 10 = true
  · exact hc
  · rw [if_neg hc] at hf; cases hf
theorem cX10_hasLetters (X : pX) (N d : Nat) (v0 : Nat) (v1 : Int32) (v2 : Int32) (h : pH) (q : Int32 × pH) (hf : fX10_hasLetters N v0 v1 v2 h = some q) : Calls X (d + 0) 32 [.ref v0, .int v1, .int v2] h (some (.int q.1), q.2, 0, 0) := by
  refine Calls.of M32 (Nat.le_of_ble_eq_true rfl) ?_
  show Run X (d + 0) 10 false (pCd 3135) 5 (some .boolean) 0 [(0, .ref v0), (1, .int v1), (2, .int v2)] [] h 0 0 (some (.int q.1), q.2, 0, 0)
  unfold fX10_hasLetters at hf
  by_cases hc : isO h v0 10 = true
  · rw [if_pos hc] at hf
    have nv0 : ¬ v0 = 4 := isO_ne hc
    refine r_aload_n (dGet dX10_hasLetters (j := 0) rfl) nv0 rfl ?_
    obtain ⟨t9, et9, hf⟩ := Option.bind_eq_some_iff.mp hf
    refine r_getR (dGet dX10_hasLetters (j := 1) rfl) F10_33 et9 ?_
    refine r_iload_n (dGet dX10_hasLetters (j := 2) rfl) rfl ?_
    obtain ⟨t10, et10, hf⟩ := Option.bind_eq_some_iff.mp hf
    refine r_iald (dGet dX10_hasLetters (j := 3) rfl) et10 ?_
    refine r_aload_n (dGet dX10_hasLetters (j := 4) rfl) nv0 rfl ?_
    obtain ⟨t11, et11, hf⟩ := Option.bind_eq_some_iff.mp hf
    refine r_getR (dGet dX10_hasLetters (j := 5) rfl) F10_30 et11 ?_
    refine r_iload_n (dGet dX10_hasLetters (j := 6) rfl) rfl ?_
    obtain ⟨t12, et12, hf⟩ := Option.bind_eq_some_iff.mp hf
    refine r_iald (dGet dX10_hasLetters (j := 7) rfl) et12 ?_
    refine r_isub (dGet dX10_hasLetters (j := 8) rfl) ?_
    refine r_istore_n (lv' := [(3, .int (t10 - t12)), (0, .ref v0), (1, .int v1), (2, .int v2)]) (dGet dX10_hasLetters (j := 9) rfl) (by decide) rfl ?_
    refine r_iload_n (dGet dX10_hasLetters (j := 10) rfl) rfl ?_
    refine r_aload_n (dGet dX10_hasLetters (j := 11) rfl) nv0 rfl ?_
    obtain ⟨t13, et13, hf⟩ := Option.bind_eq_some_iff.mp hf
    refine r_getI (dGet dX10_hasLetters (j := 12) rfl) F10_60 et13 ?_
    refine r_iload_n (dGet dX10_hasLetters (j := 13) rfl) rfl ?_
    refine r_isub (dGet dX10_hasLetters (j := 14) rfl) ?_
    by_cases c14 : (t10 - t12) = (t13 - v2)
    · rw [if_pos c14] at hf
      refine r_icmp_eq_t (dGet dX10_hasLetters (j := 15) rfl) rfl c14 ?_
      refine r_iconst (dGet dX10_hasLetters (j := 18) rfl) kI_0 ?_
      refine r_istore (lv' := [(4, .int (0 : Int32)), (3, .int (t10 - t12)), (0, .ref v0), (1, .int v1), (2, .int v2)]) (dGet dX10_hasLetters (j := 19) rfl) (by decide) rfl ?_
      refine Run.weak [(0, .ref v0), (1, .int v1), (2, .int v2), (3, .int (t10 - t12)), (4, .int (0 : Int32))] (by simp) (by simp [pNd]) ?_
      exact lX10_hasLetters_29 X N d N v0 v1 v2 (t10 - t12) (0 : Int32) h q hf nv0
    · rw [if_neg c14] at hf
      refine r_icmp_eq_f (dGet dX10_hasLetters (j := 15) rfl) rfl c14 ?_
      refine r_iconst (dGet dX10_hasLetters (j := 16) rfl) kI_0 ?_
      cases hf
      exact r_iret (dGet dX10_hasLetters (j := 17) rfl) rfl (by decide)
  · rw [if_neg hc] at hf; cases hf
def eX10_isDigit : List (Nat × Instr × Nat) := [(0, .iload_n 0, 1), (1, .bipush 48, 2), (3, .if_icmp .lt 13, 3), (6, .iload_n 0, 1), (7, .bipush 57, 2), (9, .if_icmp .gt 7, 3), (12, .iconst 1, 1), (13, .goto 4, 3), (16, .iconst 0, 1), (17, .ireturn, 1)]
theorem dX10_isDigit : dChk (pCd 3153) eX10_isDigit = true := by decide +kernel
def fX10_isDigit (N : Nat) (v0 : Int32) (h : pH) : Option (Int32 × pH) :=
  if v0 < (48 : Int32) then (
  some ((0 : Int32), h)) else (
  if (57 : Int32) < v0 then (
  some ((0 : Int32), h)) else (
  some ((1 : Int32), h)))
theorem cX10_isDigit (X : pX) (N d : Nat) (v0 : Int32) (h : pH) (q : Int32 × pH) (hf : fX10_isDigit N v0 h = some q) : Calls X (d + 0) 37 [.int v0] h (some (.int q.1), q.2, 0, 0) := by
  refine Calls.of M37 (Nat.le_of_ble_eq_true rfl) ?_
  show Run X (d + 0) 10 false (pCd 3153) 1 (some .boolean) 0 [(0, .int v0)] [] h 0 0 (some (.int q.1), q.2, 0, 0)
  unfold fX10_isDigit at hf
  refine r_iload_n (dGet dX10_isDigit (j := 0) rfl) rfl ?_
  refine r_bipush (dGet dX10_isDigit (j := 1) rfl) kB_48 ?_
  by_cases c1 : v0 < (48 : Int32)
  · rw [if_pos c1] at hf
    refine r_icmp_lt_t (dGet dX10_isDigit (j := 2) rfl) rfl c1 ?_
    refine r_iconst (dGet dX10_isDigit (j := 8) rfl) kI_0 ?_
    cases hf
    exact r_iret (dGet dX10_isDigit (j := 9) rfl) rfl (by decide)
  · rw [if_neg c1] at hf
    refine r_icmp_lt_f (dGet dX10_isDigit (j := 2) rfl) rfl c1 ?_
    refine r_iload_n (dGet dX10_isDigit (j := 3) rfl) rfl ?_
    refine r_bipush (dGet dX10_isDigit (j := 4) rfl) kB_57 ?_
    by_cases c2 : (57 : Int32) < v0
    · rw [if_pos c2] at hf
      refine r_icmp_gt_t (dGet dX10_isDigit (j := 5) rfl) rfl c2 ?_
      refine r_iconst (dGet dX10_isDigit (j := 8) rfl) kI_0 ?_
      cases hf
      exact r_iret (dGet dX10_isDigit (j := 9) rfl) rfl (by decide)
    · rw [if_neg c2] at hf
      refine r_icmp_gt_f (dGet dX10_isDigit (j := 5) rfl) rfl c2 ?_
      refine r_iconst (dGet dX10_isDigit (j := 6) rfl) kI_1 ?_
      refine r_goto (dGet dX10_isDigit (j := 7) rfl) rfl ?_
      cases hf
      exact r_iret (dGet dX10_isDigit (j := 9) rfl) rfl (by decide)
def eX10_isLetter : List (Nat × Instr × Nat) := [(0, .iload_n 0, 1), (1, .bipush 97, 2), (3, .if_icmp .lt 9, 3), (6, .iload_n 0, 1), (7, .bipush 122, 2), (9, .if_icmp .le 15, 3), (12, .iload_n 0, 1), (13, .bipush 65, 2), (15, .if_icmp .lt 13, 3), (18, .iload_n 0, 1), (19, .bipush 90, 2), (21, .if_icmp .gt 7, 3), (24, .iconst 1, 1), (25, .goto 4, 3), (28, .iconst 0, 1), (29, .ireturn, 1)]
theorem dX10_isLetter : dChk (pCd 3146) eX10_isLetter = true := by decide +kernel
def fX10_isLetter_12 (N : Nat) (v0 : Int32) (h : pH) : Option (Int32 × pH) :=
  if v0 < (65 : Int32) then (
  some ((0 : Int32), h)) else (
  if (90 : Int32) < v0 then (
  some ((0 : Int32), h)) else (
  some ((1 : Int32), h)))
theorem lX10_isLetter_12 (X : pX) (N d : Nat)  (v0 : Int32) (h : pH) (q : Int32 × pH) (hf : fX10_isLetter_12 N v0 h = some q) : Run X (d + 0) 10 false (pCd 3146) 1 (some .boolean) 12 [(0, .int v0)] [] h 0 0 (some (.int q.1), q.2, 0, 0) := by
  unfold fX10_isLetter_12 at hf
  refine r_iload_n (dGet dX10_isLetter (j := 6) rfl) rfl ?_
  refine r_bipush (dGet dX10_isLetter (j := 7) rfl) kB_65 ?_
  by_cases c1 : v0 < (65 : Int32)
  · rw [if_pos c1] at hf
    refine r_icmp_lt_t (dGet dX10_isLetter (j := 8) rfl) rfl c1 ?_
    refine r_iconst (dGet dX10_isLetter (j := 14) rfl) kI_0 ?_
    cases hf
    exact r_iret (dGet dX10_isLetter (j := 15) rfl) rfl (by decide)
  · rw [if_neg c1] at hf
    refine r_icmp_lt_f (dGet dX10_isLetter (j := 8) rfl) rfl c1 ?_
    refine r_iload_n (dGet dX10_isLetter (j := 9) rfl) rfl ?_
    refine r_bipush (dGet dX10_isLetter (j := 10) rfl) kB_90 ?_
    by_cases c2 : (90 : Int32) < v0
    · rw [if_pos c2] at hf
      refine r_icmp_gt_t (dGet dX10_isLetter (j := 11) rfl) rfl c2 ?_
      refine r_iconst (dGet dX10_isLetter (j := 14) rfl) kI_0 ?_
      cases hf
      exact r_iret (dGet dX10_isLetter (j := 15) rfl) rfl (by decide)
    · rw [if_neg c2] at hf
      refine r_icmp_gt_f (dGet dX10_isLetter (j := 11) rfl) rfl c2 ?_
      refine r_iconst (dGet dX10_isLetter (j := 12) rfl) kI_1 ?_
      refine r_goto (dGet dX10_isLetter (j := 13) rfl) rfl ?_
      cases hf
      exact r_iret (dGet dX10_isLetter (j := 15) rfl) rfl (by decide)
def fX10_isLetter (N : Nat) (v0 : Int32) (h : pH) : Option (Int32 × pH) :=
  if v0 < (97 : Int32) then (
  fX10_isLetter_12 N v0 h) else (
  if v0 ≤ (122 : Int32) then (
  some ((1 : Int32), h)) else (
  fX10_isLetter_12 N v0 h))
theorem cX10_isLetter (X : pX) (N d : Nat) (v0 : Int32) (h : pH) (q : Int32 × pH) (hf : fX10_isLetter N v0 h = some q) : Calls X (d + 0) 35 [.int v0] h (some (.int q.1), q.2, 0, 0) := by
  refine Calls.of M35 (Nat.le_of_ble_eq_true rfl) ?_
  show Run X (d + 0) 10 false (pCd 3146) 1 (some .boolean) 0 [(0, .int v0)] [] h 0 0 (some (.int q.1), q.2, 0, 0)
  unfold fX10_isLetter at hf
  refine r_iload_n (dGet dX10_isLetter (j := 0) rfl) rfl ?_
  refine r_bipush (dGet dX10_isLetter (j := 1) rfl) kB_97 ?_
  by_cases c3 : v0 < (97 : Int32)
  · rw [if_pos c3] at hf
    refine r_icmp_lt_t (dGet dX10_isLetter (j := 2) rfl) rfl c3 ?_
    exact lX10_isLetter_12 X N d v0 h q hf 
  · rw [if_neg c3] at hf
    refine r_icmp_lt_f (dGet dX10_isLetter (j := 2) rfl) rfl c3 ?_
    refine r_iload_n (dGet dX10_isLetter (j := 3) rfl) rfl ?_
    refine r_bipush (dGet dX10_isLetter (j := 4) rfl) kB_122 ?_
    by_cases c4 : v0 ≤ (122 : Int32)
    · rw [if_pos c4] at hf
      refine r_icmp_le_t (dGet dX10_isLetter (j := 5) rfl) rfl c4 ?_
      refine r_iconst (dGet dX10_isLetter (j := 12) rfl) kI_1 ?_
      refine r_goto (dGet dX10_isLetter (j := 13) rfl) rfl ?_
      cases hf
      exact r_iret (dGet dX10_isLetter (j := 15) rfl) rfl (by decide)
    · rw [if_neg c4] at hf
      refine r_icmp_le_f (dGet dX10_isLetter (j := 5) rfl) rfl c4 ?_
      exact lX10_isLetter_12 X N d v0 h q hf 
def eX10_nameOfLetters : List (Nat × Instr × Nat) := [(0, .iconst 0, 1), (1, .istore_n 2, 1), (2, .iload_n 1, 1), (3, .istore_n 3, 1), (4, .iload_n 3, 1), (5, .aload_n 0, 1), (6, .getfield 60, 3), (9, .if_icmp .ge 25, 3), (12, .iload_n 2, 1), (13, .bipush 31, 2), (15, .imul, 1), (16, .aload_n 0, 1), (17, .getfield 27, 3), (20, .iload_n 3, 1), (21, .iaload, 1), (22, .iadd, 1), (23, .sipush 255, 3), (26, .iand, 1), (27, .istore_n 2, 1), (28, .iinc 3 1, 3), (31, .goto (-27), 3), (34, .aload_n 0, 1), (35, .getfield 39, 3), (38, .iload_n 2, 1), (39, .iaload, 1), (40, .istore_n 3, 1), (41, .iconst 0, 1), (42, .istore 4, 2), (44, .iload 4, 2), (46, .sipush 3100, 3), (49, .if_icmp .ge 36, 3), (52, .iload_n 3, 1), (53, .ifCond .lt 32, 3), (56, .aload_n 0, 1), (57, .iload_n 3, 1), (58, .iload_n 1, 1), (59, .invokevirtual 103, 3), (62, .ifCond .eq 10, 3), (65, .aload_n 0, 1), (66, .iload_n 1, 1), (67, .putfield 60, 3), (70, .iload_n 3, 1), (71, .ireturn, 1), (72, .aload_n 0, 1), (73, .getfield 36, 3), (76, .iload_n 3, 1), (77, .iaload, 1), (78, .istore_n 3, 1), (79, .iinc 4 1, 3), (82, .goto (-38), 3), (85, .aload_n 0, 1), (86, .getfield 57, 3), (89, .sipush 3100, 3), (92, .if_icmp .lt 6, 3), (95, .bipush 21, 2), (97, .ireturn, 1), (98, .aload_n 0, 1), (99, .getfield 30, 3), (102, .aload_n 0, 1), (103, .getfield 57, 3), (106, .iload_n 1, 1), (107, .iastore, 1), (108, .aload_n 0, 1), (109, .getfield 33, 3), (112, .aload_n 0, 1), (113, .getfield 57, 3), (116, .aload_n 0, 1), (117, .getfield 60, 3), (120, .iastore, 1), (121, .aload_n 0, 1), (122, .getfield 36, 3), (125, .aload_n 0, 1), (126, .getfield 57, 3), (129, .aload_n 0, 1), (130, .getfield 39, 3), (133, .iload_n 2, 1), (134, .iaload, 1), (135, .iastore, 1), (136, .aload_n 0, 1), (137, .getfield 39, 3), (140, .iload_n 2, 1), (141, .aload_n 0, 1), (142, .getfield 57, 3), (145, .iastore, 1), (146, .aload_n 0, 1), (147, .dup, 1), (148, .getfield 57, 3), (151, .iconst 1, 1), (152, .iadd, 1), (153, .putfield 57, 3), (156, .aload_n 0, 1), (157, .getfield 57, 3), (160, .iconst 1, 1), (161, .isub, 1), (162, .ireturn, 1)]
theorem dX10_nameOfLetters : dChk (pCd 3131) eX10_nameOfLetters = true := by decide +kernel
def fX10_nameOfLetters_85 (N : Nat) (v0 : Nat) (v1 : Int32) (v2 : Int32) (h : pH) : Option (Int32 × pH) :=
  (getI h v0 10 10).bind fun t1 =>
  if t1 < (3100 : Int32) then (
  (getR h v0 10 6).bind fun t3 =>
  (getI h v0 10 10).bind fun t4 =>
  (stI h t3 t4 v1).bind fun h5 =>
  (getR h5 v0 10 7).bind fun t6 =>
  (getI h5 v0 10 10).bind fun t7 =>
  (getI h5 v0 10 5).bind fun t8 =>
  (stI h5 t6 t7 t8).bind fun h9 =>
  (getR h9 v0 10 8).bind fun t10 =>
  (getI h9 v0 10 10).bind fun t11 =>
  (getR h9 v0 10 9).bind fun t12 =>
  (ldI h9 t12 v2).bind fun t13 =>
  (stI h9 t10 t11 t13).bind fun h14 =>
  (getR h14 v0 10 9).bind fun t15 =>
  (getI h14 v0 10 10).bind fun t16 =>
  (stI h14 t15 v2 t16).bind fun h17 =>
  (getI h17 v0 10 10).bind fun t18 =>
  (putI h17 v0 10 10 (t18 + (1 : Int32))).bind fun h19 =>
  (getI h19 v0 10 10).bind fun t20 =>
  some ((t20 - (1 : Int32)), h19)) else (
  some ((21 : Int32), h))
theorem lX10_nameOfLetters_85 (X : pX) (N d : Nat)  (v0 : Nat) (v1 : Int32) (v2 : Int32) (h : pH) (q : Int32 × pH) (hf : fX10_nameOfLetters_85 N v0 v1 v2 h = some q) (nv0 : ¬ v0 = 4) : Run X (d + 1) 10 false (pCd 3131) 5 (some .int) 85 [(0, .ref v0), (1, .int v1), (2, .int v2)] [] h 0 0 (some (.int q.1), q.2, 0, 0) := by
  unfold fX10_nameOfLetters_85 at hf
  refine r_aload_n (dGet dX10_nameOfLetters (j := 50) rfl) nv0 rfl ?_
  obtain ⟨t1, et1, hf⟩ := Option.bind_eq_some_iff.mp hf
  refine r_getI (dGet dX10_nameOfLetters (j := 51) rfl) F10_57 et1 ?_
  refine r_sipush (dGet dX10_nameOfLetters (j := 52) rfl) kS_3100 ?_
  by_cases c2 : t1 < (3100 : Int32)
  · rw [if_pos c2] at hf
    refine r_icmp_lt_t (dGet dX10_nameOfLetters (j := 53) rfl) rfl c2 ?_
    refine r_aload_n (dGet dX10_nameOfLetters (j := 56) rfl) nv0 rfl ?_
    obtain ⟨t3, et3, hf⟩ := Option.bind_eq_some_iff.mp hf
    refine r_getR (dGet dX10_nameOfLetters (j := 57) rfl) F10_30 et3 ?_
    refine r_aload_n (dGet dX10_nameOfLetters (j := 58) rfl) nv0 rfl ?_
    obtain ⟨t4, et4, hf⟩ := Option.bind_eq_some_iff.mp hf
    refine r_getI (dGet dX10_nameOfLetters (j := 59) rfl) F10_57 et4 ?_
    refine r_iload_n (dGet dX10_nameOfLetters (j := 60) rfl) rfl ?_
    obtain ⟨h5, eh5, hf⟩ := Option.bind_eq_some_iff.mp hf
    refine r_iast (dGet dX10_nameOfLetters (j := 61) rfl) eh5 ?_
    refine r_aload_n (dGet dX10_nameOfLetters (j := 62) rfl) nv0 rfl ?_
    obtain ⟨t6, et6, hf⟩ := Option.bind_eq_some_iff.mp hf
    refine r_getR (dGet dX10_nameOfLetters (j := 63) rfl) F10_33 et6 ?_
    refine r_aload_n (dGet dX10_nameOfLetters (j := 64) rfl) nv0 rfl ?_
    obtain ⟨t7, et7, hf⟩ := Option.bind_eq_some_iff.mp hf
    refine r_getI (dGet dX10_nameOfLetters (j := 65) rfl) F10_57 et7 ?_
    refine r_aload_n (dGet dX10_nameOfLetters (j := 66) rfl) nv0 rfl ?_
    obtain ⟨t8, et8, hf⟩ := Option.bind_eq_some_iff.mp hf
    refine r_getI (dGet dX10_nameOfLetters (j := 67) rfl) F10_60 et8 ?_
    obtain ⟨h9, eh9, hf⟩ := Option.bind_eq_some_iff.mp hf
    refine r_iast (dGet dX10_nameOfLetters (j := 68) rfl) eh9 ?_
    refine r_aload_n (dGet dX10_nameOfLetters (j := 69) rfl) nv0 rfl ?_
    obtain ⟨t10, et10, hf⟩ := Option.bind_eq_some_iff.mp hf
    refine r_getR (dGet dX10_nameOfLetters (j := 70) rfl) F10_36 et10 ?_
    refine r_aload_n (dGet dX10_nameOfLetters (j := 71) rfl) nv0 rfl ?_
    obtain ⟨t11, et11, hf⟩ := Option.bind_eq_some_iff.mp hf
    refine r_getI (dGet dX10_nameOfLetters (j := 72) rfl) F10_57 et11 ?_
    refine r_aload_n (dGet dX10_nameOfLetters (j := 73) rfl) nv0 rfl ?_
    obtain ⟨t12, et12, hf⟩ := Option.bind_eq_some_iff.mp hf
    refine r_getR (dGet dX10_nameOfLetters (j := 74) rfl) F10_39 et12 ?_
    refine r_iload_n (dGet dX10_nameOfLetters (j := 75) rfl) rfl ?_
    obtain ⟨t13, et13, hf⟩ := Option.bind_eq_some_iff.mp hf
    refine r_iald (dGet dX10_nameOfLetters (j := 76) rfl) et13 ?_
    obtain ⟨h14, eh14, hf⟩ := Option.bind_eq_some_iff.mp hf
    refine r_iast (dGet dX10_nameOfLetters (j := 77) rfl) eh14 ?_
    refine r_aload_n (dGet dX10_nameOfLetters (j := 78) rfl) nv0 rfl ?_
    obtain ⟨t15, et15, hf⟩ := Option.bind_eq_some_iff.mp hf
    refine r_getR (dGet dX10_nameOfLetters (j := 79) rfl) F10_39 et15 ?_
    refine r_iload_n (dGet dX10_nameOfLetters (j := 80) rfl) rfl ?_
    refine r_aload_n (dGet dX10_nameOfLetters (j := 81) rfl) nv0 rfl ?_
    obtain ⟨t16, et16, hf⟩ := Option.bind_eq_some_iff.mp hf
    refine r_getI (dGet dX10_nameOfLetters (j := 82) rfl) F10_57 et16 ?_
    obtain ⟨h17, eh17, hf⟩ := Option.bind_eq_some_iff.mp hf
    refine r_iast (dGet dX10_nameOfLetters (j := 83) rfl) eh17 ?_
    refine r_aload_n (dGet dX10_nameOfLetters (j := 84) rfl) nv0 rfl ?_
    refine r_dup (dGet dX10_nameOfLetters (j := 85) rfl) rfl ?_
    obtain ⟨t18, et18, hf⟩ := Option.bind_eq_some_iff.mp hf
    refine r_getI (dGet dX10_nameOfLetters (j := 86) rfl) F10_57 et18 ?_
    refine r_iconst (dGet dX10_nameOfLetters (j := 87) rfl) kI_1 ?_
    refine r_iadd (dGet dX10_nameOfLetters (j := 88) rfl) ?_
    obtain ⟨h19, eh19, hf⟩ := Option.bind_eq_some_iff.mp hf
    refine r_putI (dGet dX10_nameOfLetters (j := 89) rfl) F10_57 rfl rfl eh19 ?_
    refine r_aload_n (dGet dX10_nameOfLetters (j := 90) rfl) nv0 rfl ?_
    obtain ⟨t20, et20, hf⟩ := Option.bind_eq_some_iff.mp hf
    refine r_getI (dGet dX10_nameOfLetters (j := 91) rfl) F10_57 et20 ?_
    refine r_iconst (dGet dX10_nameOfLetters (j := 92) rfl) kI_1 ?_
    refine r_isub (dGet dX10_nameOfLetters (j := 93) rfl) ?_
    cases hf
    exact r_iret (dGet dX10_nameOfLetters (j := 94) rfl) rfl rfl
  · rw [if_neg c2] at hf
    refine r_icmp_lt_f (dGet dX10_nameOfLetters (j := 53) rfl) rfl c2 ?_
    refine r_bipush (dGet dX10_nameOfLetters (j := 54) rfl) kB_21 ?_
    cases hf
    exact r_iret (dGet dX10_nameOfLetters (j := 55) rfl) rfl rfl
def fX10_nameOfLetters_44 (N : Nat) : Nat → Nat → Int32 → Int32 → Int32 → Int32 → pH → Option (Int32 × pH)
  | 0, _, _, _, _, _, _ => none
  | n + 1, v0, v1, v2, v3, v4, h => if (3100 : Int32) ≤ v4 then (
  fX10_nameOfLetters_85 N v0 v1 v2 h) else (
  if v3 < 0 then (
  fX10_nameOfLetters_85 N v0 v1 v2 h) else (
  (fX10_hasLetters N v0 v3 v1 h).bind fun q23 =>
  if q23.1 = 0 then (
  (getR q23.2 v0 10 8).bind fun t25 =>
  (ldI q23.2 t25 v3).bind fun t26 =>
  fX10_nameOfLetters_44 N n v0 v1 v2 t26 (v4 + (1 : Int32)) q23.2) else (
  (putI q23.2 v0 10 5 v1).bind fun h27 =>
  some (v3, h27))))
theorem lX10_nameOfLetters_44 (X : pX) (N d : Nat)  : ∀ (n : Nat) (v0 : Nat) (v1 : Int32) (v2 : Int32) (v3 : Int32) (v4 : Int32) (h : pH) (q : Int32 × pH), fX10_nameOfLetters_44 N n v0 v1 v2 v3 v4 h = some q → ¬ v0 = 4 → Run X (d + 1) 10 false (pCd 3131) 5 (some .int) 44 [(0, .ref v0), (1, .int v1), (2, .int v2), (3, .int v3), (4, .int v4)] [] h 0 0 (some (.int q.1), q.2, 0, 0) := by
  intro n
  induction n with
  | zero => intro v0 v1 v2 v3 v4 h q hf; cases hf
  | succ n ih =>
    intro v0 v1 v2 v3 v4 h q hf nv0
    unfold fX10_nameOfLetters_44 at hf
    refine r_iload (dGet dX10_nameOfLetters (j := 28) rfl) rfl ?_
    refine r_sipush (dGet dX10_nameOfLetters (j := 29) rfl) kS_3100 ?_
    by_cases c21 : (3100 : Int32) ≤ v4
    · rw [if_pos c21] at hf
      refine r_icmp_ge_t (dGet dX10_nameOfLetters (j := 30) rfl) rfl c21 ?_
      refine Run.weak [(0, .ref v0), (1, .int v1), (2, .int v2)] (by simp) (by simp [pNd]) ?_
      exact lX10_nameOfLetters_85 X N d v0 v1 v2 h q hf nv0
    · rw [if_neg c21] at hf
      refine r_icmp_ge_f (dGet dX10_nameOfLetters (j := 30) rfl) rfl c21 ?_
      refine r_iload_n (dGet dX10_nameOfLetters (j := 31) rfl) rfl ?_
      by_cases c22 : v3 < 0
      · rw [if_pos c22] at hf
        refine r_if_lt_t (dGet dX10_nameOfLetters (j := 32) rfl) rfl c22 ?_
        refine Run.weak [(0, .ref v0), (1, .int v1), (2, .int v2)] (by simp) (by simp [pNd]) ?_
        exact lX10_nameOfLetters_85 X N d v0 v1 v2 h q hf nv0
      · rw [if_neg c22] at hf
        refine r_if_lt_f (dGet dX10_nameOfLetters (j := 32) rfl) rfl c22 ?_
        refine r_aload_n (dGet dX10_nameOfLetters (j := 33) rfl) nv0 rfl ?_
        refine r_iload_n (dGet dX10_nameOfLetters (j := 34) rfl) rfl ?_
        refine r_iload_n (dGet dX10_nameOfLetters (j := 35) rfl) rfl ?_
        obtain ⟨q23, eq23, hf⟩ := Option.bind_eq_some_iff.mp hf
        refine r_virtual (dGet dX10_nameOfLetters (j := 36) rfl) L10_103 M32 rfl rfl (Nat.le_of_ble_eq_true rfl) (oX10_hasLetters eq23) (cX10_hasLetters X N (d + 0) v0 v3 v1 h q23 eq23) ?_
        by_cases c24 : q23.1 = 0
        · rw [if_pos c24] at hf
          refine r_if_eq_t (dGet dX10_nameOfLetters (j := 37) rfl) rfl c24 ?_
          refine r_aload_n (dGet dX10_nameOfLetters (j := 43) rfl) nv0 rfl ?_
          obtain ⟨t25, et25, hf⟩ := Option.bind_eq_some_iff.mp hf
          refine r_getR (dGet dX10_nameOfLetters (j := 44) rfl) F10_36 et25 ?_
          refine r_iload_n (dGet dX10_nameOfLetters (j := 45) rfl) rfl ?_
          obtain ⟨t26, et26, hf⟩ := Option.bind_eq_some_iff.mp hf
          refine r_iald (dGet dX10_nameOfLetters (j := 46) rfl) et26 ?_
          refine r_istore_n (lv' := [(3, .int t26), (0, .ref v0), (1, .int v1), (2, .int v2), (4, .int v4)]) (dGet dX10_nameOfLetters (j := 47) rfl) (by decide) rfl ?_
          refine r_iinc (lv' := [(4, .int (v4 + (1 : Int32))), (3, .int t26), (0, .ref v0), (1, .int v1), (2, .int v2)]) (dGet dX10_nameOfLetters (j := 48) rfl) rfl (by decide) kI_1 rfl ?_
          refine r_goto (dGet dX10_nameOfLetters (j := 49) rfl) rfl ?_
          refine Run.weak [(0, .ref v0), (1, .int v1), (2, .int v2), (3, .int t26), (4, .int (v4 + (1 : Int32)))] (by simp) (by simp [pNd]) ?_
          exact ih v0 v1 v2 t26 (v4 + (1 : Int32)) q23.2 q hf nv0
        · rw [if_neg c24] at hf
          refine r_if_eq_f (dGet dX10_nameOfLetters (j := 37) rfl) rfl c24 ?_
          refine r_aload_n (dGet dX10_nameOfLetters (j := 38) rfl) nv0 rfl ?_
          refine r_iload_n (dGet dX10_nameOfLetters (j := 39) rfl) rfl ?_
          obtain ⟨h27, eh27, hf⟩ := Option.bind_eq_some_iff.mp hf
          refine r_putI (dGet dX10_nameOfLetters (j := 40) rfl) F10_60 rfl rfl eh27 ?_
          refine r_iload_n (dGet dX10_nameOfLetters (j := 41) rfl) rfl ?_
          cases hf
          exact r_iret (dGet dX10_nameOfLetters (j := 42) rfl) rfl rfl
def fX10_nameOfLetters_4 (N : Nat) : Nat → Nat → Int32 → Int32 → Int32 → pH → Option (Int32 × pH)
  | 0, _, _, _, _, _ => none
  | n + 1, v0, v1, v2, v3, h => (getI h v0 10 5).bind fun t28 =>
  if t28 ≤ v3 then (
  (getR h v0 10 9).bind fun t30 =>
  (ldI h t30 v2).bind fun t31 =>
  fX10_nameOfLetters_44 N N v0 v1 v2 t31 (0 : Int32) h) else (
  (getR h v0 10 4).bind fun t32 =>
  (ldI h t32 v3).bind fun t33 =>
  fX10_nameOfLetters_4 N n v0 v1 (((v2 * (31 : Int32)) + t33) &&& (255 : Int32)) (v3 + (1 : Int32)) h)
theorem lX10_nameOfLetters_4 (X : pX) (N d : Nat)  : ∀ (n : Nat) (v0 : Nat) (v1 : Int32) (v2 : Int32) (v3 : Int32) (h : pH) (q : Int32 × pH), fX10_nameOfLetters_4 N n v0 v1 v2 v3 h = some q → ¬ v0 = 4 → Run X (d + 1) 10 false (pCd 3131) 5 (some .int) 4 [(0, .ref v0), (1, .int v1), (2, .int v2), (3, .int v3)] [] h 0 0 (some (.int q.1), q.2, 0, 0) := by
  intro n
  induction n with
  | zero => intro v0 v1 v2 v3 h q hf; cases hf
  | succ n ih =>
    intro v0 v1 v2 v3 h q hf nv0
    unfold fX10_nameOfLetters_4 at hf
    refine r_iload_n (dGet dX10_nameOfLetters (j := 4) rfl) rfl ?_
    refine r_aload_n (dGet dX10_nameOfLetters (j := 5) rfl) nv0 rfl ?_
    obtain ⟨t28, et28, hf⟩ := Option.bind_eq_some_iff.mp hf
    refine r_getI (dGet dX10_nameOfLetters (j := 6) rfl) F10_60 et28 ?_
    by_cases c29 : t28 ≤ v3
    · rw [if_pos c29] at hf
      refine r_icmp_ge_t (dGet dX10_nameOfLetters (j := 7) rfl) rfl c29 ?_
      refine r_aload_n (dGet dX10_nameOfLetters (j := 21) rfl) nv0 rfl ?_
      obtain ⟨t30, et30, hf⟩ := Option.bind_eq_some_iff.mp hf
      refine r_getR (dGet dX10_nameOfLetters (j := 22) rfl) F10_39 et30 ?_
      refine r_iload_n (dGet dX10_nameOfLetters (j := 23) rfl) rfl ?_
      obtain ⟨t31, et31, hf⟩ := Option.bind_eq_some_iff.mp hf
      refine r_iald (dGet dX10_nameOfLetters (j := 24) rfl) et31 ?_
      refine r_istore_n (lv' := [(3, .int t31), (0, .ref v0), (1, .int v1), (2, .int v2)]) (dGet dX10_nameOfLetters (j := 25) rfl) (by decide) rfl ?_
      refine r_iconst (dGet dX10_nameOfLetters (j := 26) rfl) kI_0 ?_
      refine r_istore (lv' := [(4, .int (0 : Int32)), (3, .int t31), (0, .ref v0), (1, .int v1), (2, .int v2)]) (dGet dX10_nameOfLetters (j := 27) rfl) (by decide) rfl ?_
      refine Run.weak [(0, .ref v0), (1, .int v1), (2, .int v2), (3, .int t31), (4, .int (0 : Int32))] (by simp) (by simp [pNd]) ?_
      exact lX10_nameOfLetters_44 X N d N v0 v1 v2 t31 (0 : Int32) h q hf nv0
    · rw [if_neg c29] at hf
      refine r_icmp_ge_f (dGet dX10_nameOfLetters (j := 7) rfl) rfl c29 ?_
      refine r_iload_n (dGet dX10_nameOfLetters (j := 8) rfl) rfl ?_
      refine r_bipush (dGet dX10_nameOfLetters (j := 9) rfl) kB_31 ?_
      refine r_imul (dGet dX10_nameOfLetters (j := 10) rfl) ?_
      refine r_aload_n (dGet dX10_nameOfLetters (j := 11) rfl) nv0 rfl ?_
      obtain ⟨t32, et32, hf⟩ := Option.bind_eq_some_iff.mp hf
      refine r_getR (dGet dX10_nameOfLetters (j := 12) rfl) F10_27 et32 ?_
      refine r_iload_n (dGet dX10_nameOfLetters (j := 13) rfl) rfl ?_
      obtain ⟨t33, et33, hf⟩ := Option.bind_eq_some_iff.mp hf
      refine r_iald (dGet dX10_nameOfLetters (j := 14) rfl) et33 ?_
      refine r_iadd (dGet dX10_nameOfLetters (j := 15) rfl) ?_
      refine r_sipush (dGet dX10_nameOfLetters (j := 16) rfl) kS_255 ?_
      refine r_iand (dGet dX10_nameOfLetters (j := 17) rfl) ?_
      refine r_istore_n (lv' := [(2, .int (((v2 * (31 : Int32)) + t33) &&& (255 : Int32))), (0, .ref v0), (1, .int v1), (3, .int v3)]) (dGet dX10_nameOfLetters (j := 18) rfl) (by decide) rfl ?_
      refine r_iinc (lv' := [(3, .int (v3 + (1 : Int32))), (2, .int (((v2 * (31 : Int32)) + t33) &&& (255 : Int32))), (0, .ref v0), (1, .int v1)]) (dGet dX10_nameOfLetters (j := 19) rfl) rfl (by decide) kI_1 rfl ?_
      refine r_goto (dGet dX10_nameOfLetters (j := 20) rfl) rfl ?_
      refine Run.weak [(0, .ref v0), (1, .int v1), (2, .int (((v2 * (31 : Int32)) + t33) &&& (255 : Int32))), (3, .int (v3 + (1 : Int32)))] (by simp) (by simp [pNd]) ?_
      exact ih v0 v1 (((v2 * (31 : Int32)) + t33) &&& (255 : Int32)) (v3 + (1 : Int32)) h q hf nv0
def fX10_nameOfLetters (N : Nat) (v0 : Nat) (v1 : Int32) (h : pH) : Option (Int32 × pH) := if isO h v0 10 = true then (
  fX10_nameOfLetters_4 N N v0 v1 (0 : Int32) v1 h) else none
theorem oX10_nameOfLetters {N : Nat} {v0 : Nat} {v1 : Int32} {h : pH} {q : Int32 × pH} (hf : fX10_nameOfLetters N v0 v1 h = some q) : isO h v0 10 = true := by
  unfold fX10_nameOfLetters at hf
  by_cases hc : isO h v0 10 = true
  · exact hc
  · rw [if_neg hc] at hf; cases hf
theorem cX10_nameOfLetters (X : pX) (N d : Nat) (v0 : Nat) (v1 : Int32) (h : pH) (q : Int32 × pH) (hf : fX10_nameOfLetters N v0 v1 h = some q) : Calls X (d + 1) 31 [.ref v0, .int v1] h (some (.int q.1), q.2, 0, 0) := by
  refine Calls.of M31 (Nat.le_of_ble_eq_true rfl) ?_
  show Run X (d + 1) 10 false (pCd 3131) 5 (some .int) 0 [(0, .ref v0), (1, .int v1)] [] h 0 0 (some (.int q.1), q.2, 0, 0)
  unfold fX10_nameOfLetters at hf
  by_cases hc : isO h v0 10 = true
  · rw [if_pos hc] at hf
    have nv0 : ¬ v0 = 4 := isO_ne hc
    refine r_iconst (dGet dX10_nameOfLetters (j := 0) rfl) kI_0 ?_
    refine r_istore_n (lv' := [(2, .int (0 : Int32)), (0, .ref v0), (1, .int v1)]) (dGet dX10_nameOfLetters (j := 1) rfl) (by decide) rfl ?_
    refine r_iload_n (dGet dX10_nameOfLetters (j := 2) rfl) rfl ?_
    refine r_istore_n (lv' := [(3, .int v1), (2, .int (0 : Int32)), (0, .ref v0), (1, .int v1)]) (dGet dX10_nameOfLetters (j := 3) rfl) (by decide) rfl ?_
    refine Run.weak [(0, .ref v0), (1, .int v1), (2, .int (0 : Int32)), (3, .int v1)] (by simp) (by simp [pNd]) ?_
    exact lX10_nameOfLetters_4 X N d N v0 v1 (0 : Int32) v1 h q hf nv0
  · rw [if_neg hc] at hf; cases hf
def eX10_nameFixedWords : List (Nat × Instr × Nat) := [(0, .aload_n 0, 1), (1, .iconst 0, 1), (2, .putfield 57, 3), (5, .aload_n 0, 1), (6, .iconst 0, 1), (7, .putfield 60, 3), (10, .aload_n 0, 1), (11, .getfield 39, 3), (14, .iconst (-1), 1), (15, .invokestatic 63, 3), (18, .iconst 0, 1), (19, .istore_n 1, 1), (20, .iconst 0, 1), (21, .istore_n 2, 1), (22, .iload_n 2, 1), (23, .ldc 19, 2), (25, .invokevirtual 21, 3), (28, .if_icmp .ge 41, 3), (31, .ldc 19, 2), (33, .iload_n 2, 1), (34, .invokevirtual 69, 3), (37, .istore_n 3, 1), (38, .iload_n 3, 1), (39, .bipush 32, 2), (41, .if_icmp .ne 17, 3), (44, .aload_n 0, 1), (45, .iload_n 1, 1), (46, .invokevirtual 73, 3), (49, .pop, 1), (50, .aload_n 0, 1), (51, .getfield 60, 3), (54, .istore_n 1, 1), (55, .goto 8, 3), (58, .aload_n 0, 1), (59, .iload_n 3, 1), (60, .invokevirtual 77, 3), (63, .iinc 2 1, 3), (66, .goto (-44), 3), (69, .return_, 1)]
theorem dX10_nameFixedWords : dChk (pCd 3086) eX10_nameFixedWords = true := by decide +kernel
def fX10_nameFixedWords_63 (N : Nat) (k22 : Nat → Int32 → Int32 → pH → Option (pH)) (v0 : Nat) (v1 : Int32) (v2 : Int32) (h : pH) : Option (pH) :=
  k22 v0 v1 (v2 + (1 : Int32)) h
theorem lX10_nameFixedWords_63 (X : pX) (N d : Nat)  (k22 : Nat → Int32 → Int32 → pH → Option (pH)) (K22 : ∀ (w0 : Nat) (w1 : Int32) (w2 : Int32) (h : pH) (q : pH), k22 w0 w1 w2 h = some q → ¬ w0 = 4 → Run X (d + 5) 10 false (pCd 3086) 4 none 22 [(0, .ref w0), (1, .int w1), (2, .int w2)] [] h 0 0 (none, q, 0, 0)) (v0 : Nat) (v1 : Int32) (v2 : Int32) (h : pH) (q : pH) (hf : fX10_nameFixedWords_63 N k22 v0 v1 v2 h = some q) (nv0 : ¬ v0 = 4) : Run X (d + 5) 10 false (pCd 3086) 4 none 63 [(0, .ref v0), (1, .int v1), (2, .int v2)] [] h 0 0 (none, q, 0, 0) := by
  unfold fX10_nameFixedWords_63 at hf
  refine r_iinc (lv' := [(2, .int (v2 + (1 : Int32))), (0, .ref v0), (1, .int v1)]) (dGet dX10_nameFixedWords (j := 36) rfl) rfl (by decide) kI_1 rfl ?_
  refine r_goto (dGet dX10_nameFixedWords (j := 37) rfl) rfl ?_
  refine Run.weak [(0, .ref v0), (1, .int v1), (2, .int (v2 + (1 : Int32)))] (by simp) (by simp [pNd]) ?_
  exact K22 v0 v1 (v2 + (1 : Int32)) h q hf nv0
def fX10_nameFixedWords_22 (N : Nat) : Nat → Nat → Int32 → Int32 → pH → Option (pH)
  | 0, _, _, _, _ => none
  | n + 1, v0, v1, v2, h => (fJ0_length_8abf5 N 0 h).bind fun q1 =>
  if q1.1 ≤ v2 then (
  some q1.2) else (
  (fJ0_charAt_5068e N 0 v2 q1.2).bind fun q3 =>
  if q3.1 = (32 : Int32) then (
  (fX10_nameOfLetters N v0 v1 q3.2).bind fun q6 =>
  (getI q6.2 v0 10 5).bind fun t7 =>
  fX10_nameFixedWords_63 N (fX10_nameFixedWords_22 N n) v0 t7 v2 q6.2) else (
  (fX10_addLetter N v0 q3.1 q3.2).bind fun h5 =>
  fX10_nameFixedWords_63 N (fX10_nameFixedWords_22 N n) v0 v1 v2 h5))
theorem lX10_nameFixedWords_22 (X : pX) (N d : Nat)  : ∀ (n : Nat) (v0 : Nat) (v1 : Int32) (v2 : Int32) (h : pH) (q : pH), fX10_nameFixedWords_22 N n v0 v1 v2 h = some q → ¬ v0 = 4 → Run X (d + 5) 10 false (pCd 3086) 4 none 22 [(0, .ref v0), (1, .int v1), (2, .int v2)] [] h 0 0 (none, q, 0, 0) := by
  intro n
  induction n with
  | zero => intro v0 v1 v2 h q hf; cases hf
  | succ n ih =>
    intro v0 v1 v2 h q hf nv0
    unfold fX10_nameFixedWords_22 at hf
    refine r_iload_n (dGet dX10_nameFixedWords (j := 14) rfl) rfl ?_
    refine r_ldcs (dGet dX10_nameFixedWords (j := 15) rfl) (by decide +kernel : pFind pSt 10 19 = some (0, 1036)) ?_
    obtain ⟨q1, eq1, hf⟩ := Option.bind_eq_some_iff.mp hf
    refine r_virtual (dGet dX10_nameFixedWords (j := 16) rfl) L10_21 M2 rfl rfl (Nat.le_of_ble_eq_true rfl) (oJ0_length_8abf5 eq1) (cJ0_length_8abf5 X N (d + 3) 0 h q1 eq1) ?_
    by_cases c2 : q1.1 ≤ v2
    · rw [if_pos c2] at hf
      refine r_icmp_ge_t (dGet dX10_nameFixedWords (j := 17) rfl) rfl c2 ?_
      cases hf
      exact r_vret (dGet dX10_nameFixedWords (j := 38) rfl) rfl
    · rw [if_neg c2] at hf
      refine r_icmp_ge_f (dGet dX10_nameFixedWords (j := 17) rfl) rfl c2 ?_
      refine r_ldcs (dGet dX10_nameFixedWords (j := 18) rfl) (by decide +kernel : pFind pSt 10 19 = some (0, 1036)) ?_
      refine r_iload_n (dGet dX10_nameFixedWords (j := 19) rfl) rfl ?_
      obtain ⟨q3, eq3, hf⟩ := Option.bind_eq_some_iff.mp hf
      refine r_virtual (dGet dX10_nameFixedWords (j := 20) rfl) L10_69 M22 rfl rfl (Nat.le_of_ble_eq_true rfl) (oJ0_charAt_5068e eq3) (cJ0_charAt_5068e X N (d + 0) 0 v2 q1.2 q3 eq3) ?_
      refine r_istore_n (lv' := [(3, .int q3.1), (0, .ref v0), (1, .int v1), (2, .int v2)]) (dGet dX10_nameFixedWords (j := 21) rfl) (by decide) rfl ?_
      refine r_iload_n (dGet dX10_nameFixedWords (j := 22) rfl) rfl ?_
      refine r_bipush (dGet dX10_nameFixedWords (j := 23) rfl) kB_32 ?_
      by_cases c4 : q3.1 = (32 : Int32)
      · rw [if_pos c4] at hf
        refine r_icmp_ne_f (dGet dX10_nameFixedWords (j := 24) rfl) rfl c4 ?_
        refine r_aload_n (dGet dX10_nameFixedWords (j := 25) rfl) nv0 rfl ?_
        refine r_iload_n (dGet dX10_nameFixedWords (j := 26) rfl) rfl ?_
        obtain ⟨q6, eq6, hf⟩ := Option.bind_eq_some_iff.mp hf
        refine r_virtual (dGet dX10_nameFixedWords (j := 27) rfl) L10_73 M31 rfl rfl (Nat.le_of_ble_eq_true rfl) (oX10_nameOfLetters eq6) (cX10_nameOfLetters X N (d + 3) v0 v1 q3.2 q6 eq6) ?_
        refine r_pop (dGet dX10_nameFixedWords (j := 28) rfl) rfl ?_
        refine r_aload_n (dGet dX10_nameFixedWords (j := 29) rfl) nv0 rfl ?_
        obtain ⟨t7, et7, hf⟩ := Option.bind_eq_some_iff.mp hf
        refine r_getI (dGet dX10_nameFixedWords (j := 30) rfl) F10_60 et7 ?_
        refine r_istore_n (lv' := [(1, .int t7), (3, .int q3.1), (0, .ref v0), (2, .int v2)]) (dGet dX10_nameFixedWords (j := 31) rfl) (by decide) rfl ?_
        refine r_goto (dGet dX10_nameFixedWords (j := 32) rfl) rfl ?_
        refine Run.weak [(0, .ref v0), (1, .int t7), (2, .int v2)] (by simp) (by simp [pNd]) ?_
        exact lX10_nameFixedWords_63 X N d (fX10_nameFixedWords_22 N n) ih v0 t7 v2 q6.2 q hf nv0
      · rw [if_neg c4] at hf
        refine r_icmp_ne_t (dGet dX10_nameFixedWords (j := 24) rfl) rfl c4 ?_
        refine r_aload_n (dGet dX10_nameFixedWords (j := 33) rfl) nv0 rfl ?_
        refine r_iload_n (dGet dX10_nameFixedWords (j := 34) rfl) rfl ?_
        obtain ⟨h5, eh5, hf⟩ := Option.bind_eq_some_iff.mp hf
        refine r_virtual (dGet dX10_nameFixedWords (j := 35) rfl) L10_77 M33 rfl rfl (Nat.le_of_ble_eq_true rfl) (oX10_addLetter eh5) (cX10_addLetter X N (d + 4) v0 q3.1 q3.2 h5 eh5) ?_
        refine Run.weak [(0, .ref v0), (1, .int v1), (2, .int v2)] (by simp) (by simp [pNd]) ?_
        exact lX10_nameFixedWords_63 X N d (fX10_nameFixedWords_22 N n) ih v0 v1 v2 h5 q hf nv0
def fX10_nameFixedWords (N : Nat) (v0 : Nat) (h : pH) : Option (pH) := if isO h v0 10 = true then (
  (putI h v0 10 10 (0 : Int32)).bind fun h8 =>
  (putI h8 v0 10 5 (0 : Int32)).bind fun h9 =>
  (getR h9 v0 10 9).bind fun t10 =>
  (fJ7_fill_53178 N t10 (-1 : Int32) h9).bind fun h11 =>
  fX10_nameFixedWords_22 N N v0 (0 : Int32) (0 : Int32) h11) else none
theorem oX10_nameFixedWords {N : Nat} {v0 : Nat} {h : pH} {q : pH} (hf : fX10_nameFixedWords N v0 h = some q) : isO h v0 10 = true := by
  unfold fX10_nameFixedWords at hf
  by_cases hc : isO h v0 10 = true
  · exact hc
  · rw [if_neg hc] at hf; cases hf
theorem cX10_nameFixedWords (X : pX) (N d : Nat) (v0 : Nat) (h : pH) (q : pH) (hf : fX10_nameFixedWords N v0 h = some q) : Calls X (d + 5) 20 [.ref v0] h (none, q, 0, 0) := by
  refine Calls.of M20 (Nat.le_of_ble_eq_true rfl) ?_
  show Run X (d + 5) 10 false (pCd 3086) 4 none 0 [(0, .ref v0)] [] h 0 0 (none, q, 0, 0)
  unfold fX10_nameFixedWords at hf
  by_cases hc : isO h v0 10 = true
  · rw [if_pos hc] at hf
    have nv0 : ¬ v0 = 4 := isO_ne hc
    refine r_aload_n (dGet dX10_nameFixedWords (j := 0) rfl) nv0 rfl ?_
    refine r_iconst (dGet dX10_nameFixedWords (j := 1) rfl) kI_0 ?_
    obtain ⟨h8, eh8, hf⟩ := Option.bind_eq_some_iff.mp hf
    refine r_putI (dGet dX10_nameFixedWords (j := 2) rfl) F10_57 rfl rfl eh8 ?_
    refine r_aload_n (dGet dX10_nameFixedWords (j := 3) rfl) nv0 rfl ?_
    refine r_iconst (dGet dX10_nameFixedWords (j := 4) rfl) kI_0 ?_
    obtain ⟨h9, eh9, hf⟩ := Option.bind_eq_some_iff.mp hf
    refine r_putI (dGet dX10_nameFixedWords (j := 5) rfl) F10_60 rfl rfl eh9 ?_
    refine r_aload_n (dGet dX10_nameFixedWords (j := 6) rfl) nv0 rfl ?_
    obtain ⟨t10, et10, hf⟩ := Option.bind_eq_some_iff.mp hf
    refine r_getR (dGet dX10_nameFixedWords (j := 7) rfl) F10_39 et10 ?_
    refine r_iconst (dGet dX10_nameFixedWords (j := 8) rfl) kI_m1 ?_
    obtain ⟨h11, eh11, hf⟩ := Option.bind_eq_some_iff.mp hf
    refine r_static (dGet dX10_nameFixedWords (j := 9) rfl) (by decide +kernel) (by decide +kernel) L10_63 M21 rfl rfl (Nat.le_of_ble_eq_true rfl) (cJ7_fill_53178 X N (d + 4) t10 (-1 : Int32) h9 h11 eh11) ?_
    refine r_iconst (dGet dX10_nameFixedWords (j := 10) rfl) kI_0 ?_
    refine r_istore_n (lv' := [(1, .int (0 : Int32)), (0, .ref v0)]) (dGet dX10_nameFixedWords (j := 11) rfl) (by decide) rfl ?_
    refine r_iconst (dGet dX10_nameFixedWords (j := 12) rfl) kI_0 ?_
    refine r_istore_n (lv' := [(2, .int (0 : Int32)), (1, .int (0 : Int32)), (0, .ref v0)]) (dGet dX10_nameFixedWords (j := 13) rfl) (by decide) rfl ?_
    refine Run.weak [(0, .ref v0), (1, .int (0 : Int32)), (2, .int (0 : Int32))] (by simp) (by simp [pNd]) ?_
    exact lX10_nameFixedWords_22 X N d N v0 (0 : Int32) (0 : Int32) h11 q hf nv0
  · rw [if_neg hc] at hf; cases hf
def eX10_signOfTwo : List (Nat × Instr × Nat) := [(0, .iload_n 1, 1), (1, .bipush 61, 2), (3, .if_icmp .ne 42, 3), (6, .iload_n 0, 1), (7, .bipush 61, 2), (9, .if_icmp .ne 9, 3), (12, .sipush 128, 3), (15, .goto 29, 3), (18, .iload_n 0, 1), (19, .bipush 33, 2), (21, .if_icmp .ne 9, 3), (24, .sipush 129, 3), (27, .goto 17, 3), (30, .iload_n 0, 1), (31, .bipush 60, 2), (33, .if_icmp .ne 9, 3), (36, .sipush 130, 3), (39, .goto 5, 3), (42, .bipush 24, 2), (44, .ireturn, 1), (45, .iload_n 0, 1), (46, .iload_n 1, 1), (47, .if_icmp .ne 30, 3), (50, .iload_n 0, 1), (51, .bipush 38, 2), (53, .if_icmp .ne 9, 3), (56, .sipush 131, 3), (59, .goto 17, 3), (62, .iload_n 0, 1), (63, .bipush 124, 2), (65, .if_icmp .ne 9, 3), (68, .sipush 132, 3), (71, .goto 5, 3), (74, .bipush 24, 2), (76, .ireturn, 1), (77, .bipush 24, 2), (79, .ireturn, 1)]
theorem dX10_signOfTwo : dChk (pCd 3164) eX10_signOfTwo = true := by decide +kernel
def fX10_signOfTwo (N : Nat) (v0 : Int32) (v1 : Int32) (h : pH) : Option (Int32 × pH) :=
  if v1 = (61 : Int32) then (
  if v0 = (61 : Int32) then (
  some ((128 : Int32), h)) else (
  if v0 = (33 : Int32) then (
  some ((129 : Int32), h)) else (
  if v0 = (60 : Int32) then (
  some ((130 : Int32), h)) else (
  some ((24 : Int32), h))))) else (
  if v0 = v1 then (
  if v0 = (38 : Int32) then (
  some ((131 : Int32), h)) else (
  if v0 = (124 : Int32) then (
  some ((132 : Int32), h)) else (
  some ((24 : Int32), h)))) else (
  some ((24 : Int32), h)))
theorem cX10_signOfTwo (X : pX) (N d : Nat) (v0 : Int32) (v1 : Int32) (h : pH) (q : Int32 × pH) (hf : fX10_signOfTwo N v0 v1 h = some q) : Calls X (d + 0) 40 [.int v0, .int v1] h (some (.int q.1), q.2, 0, 0) := by
  refine Calls.of M40 (Nat.le_of_ble_eq_true rfl) ?_
  show Run X (d + 0) 10 false (pCd 3164) 2 (some .int) 0 [(0, .int v0), (1, .int v1)] [] h 0 0 (some (.int q.1), q.2, 0, 0)
  unfold fX10_signOfTwo at hf
  refine r_iload_n (dGet dX10_signOfTwo (j := 0) rfl) rfl ?_
  refine r_bipush (dGet dX10_signOfTwo (j := 1) rfl) kB_61 ?_
  by_cases c1 : v1 = (61 : Int32)
  · rw [if_pos c1] at hf
    refine r_icmp_ne_f (dGet dX10_signOfTwo (j := 2) rfl) rfl c1 ?_
    refine r_iload_n (dGet dX10_signOfTwo (j := 3) rfl) rfl ?_
    refine r_bipush (dGet dX10_signOfTwo (j := 4) rfl) kB_61 ?_
    by_cases c5 : v0 = (61 : Int32)
    · rw [if_pos c5] at hf
      refine r_icmp_ne_f (dGet dX10_signOfTwo (j := 5) rfl) rfl c5 ?_
      refine r_sipush (dGet dX10_signOfTwo (j := 6) rfl) kS_128 ?_
      refine r_goto (dGet dX10_signOfTwo (j := 7) rfl) rfl ?_
      cases hf
      exact r_iret (dGet dX10_signOfTwo (j := 19) rfl) rfl rfl
    · rw [if_neg c5] at hf
      refine r_icmp_ne_t (dGet dX10_signOfTwo (j := 5) rfl) rfl c5 ?_
      refine r_iload_n (dGet dX10_signOfTwo (j := 8) rfl) rfl ?_
      refine r_bipush (dGet dX10_signOfTwo (j := 9) rfl) kB_33 ?_
      by_cases c6 : v0 = (33 : Int32)
      · rw [if_pos c6] at hf
        refine r_icmp_ne_f (dGet dX10_signOfTwo (j := 10) rfl) rfl c6 ?_
        refine r_sipush (dGet dX10_signOfTwo (j := 11) rfl) kS_129 ?_
        refine r_goto (dGet dX10_signOfTwo (j := 12) rfl) rfl ?_
        cases hf
        exact r_iret (dGet dX10_signOfTwo (j := 19) rfl) rfl rfl
      · rw [if_neg c6] at hf
        refine r_icmp_ne_t (dGet dX10_signOfTwo (j := 10) rfl) rfl c6 ?_
        refine r_iload_n (dGet dX10_signOfTwo (j := 13) rfl) rfl ?_
        refine r_bipush (dGet dX10_signOfTwo (j := 14) rfl) kB_60 ?_
        by_cases c7 : v0 = (60 : Int32)
        · rw [if_pos c7] at hf
          refine r_icmp_ne_f (dGet dX10_signOfTwo (j := 15) rfl) rfl c7 ?_
          refine r_sipush (dGet dX10_signOfTwo (j := 16) rfl) kS_130 ?_
          refine r_goto (dGet dX10_signOfTwo (j := 17) rfl) rfl ?_
          cases hf
          exact r_iret (dGet dX10_signOfTwo (j := 19) rfl) rfl rfl
        · rw [if_neg c7] at hf
          refine r_icmp_ne_t (dGet dX10_signOfTwo (j := 15) rfl) rfl c7 ?_
          refine r_bipush (dGet dX10_signOfTwo (j := 18) rfl) kB_24 ?_
          cases hf
          exact r_iret (dGet dX10_signOfTwo (j := 19) rfl) rfl rfl
  · rw [if_neg c1] at hf
    refine r_icmp_ne_t (dGet dX10_signOfTwo (j := 2) rfl) rfl c1 ?_
    refine r_iload_n (dGet dX10_signOfTwo (j := 20) rfl) rfl ?_
    refine r_iload_n (dGet dX10_signOfTwo (j := 21) rfl) rfl ?_
    by_cases c2 : v0 = v1
    · rw [if_pos c2] at hf
      refine r_icmp_ne_f (dGet dX10_signOfTwo (j := 22) rfl) rfl c2 ?_
      refine r_iload_n (dGet dX10_signOfTwo (j := 23) rfl) rfl ?_
      refine r_bipush (dGet dX10_signOfTwo (j := 24) rfl) kB_38 ?_
      by_cases c3 : v0 = (38 : Int32)
      · rw [if_pos c3] at hf
        refine r_icmp_ne_f (dGet dX10_signOfTwo (j := 25) rfl) rfl c3 ?_
        refine r_sipush (dGet dX10_signOfTwo (j := 26) rfl) kS_131 ?_
        refine r_goto (dGet dX10_signOfTwo (j := 27) rfl) rfl ?_
        cases hf
        exact r_iret (dGet dX10_signOfTwo (j := 34) rfl) rfl rfl
      · rw [if_neg c3] at hf
        refine r_icmp_ne_t (dGet dX10_signOfTwo (j := 25) rfl) rfl c3 ?_
        refine r_iload_n (dGet dX10_signOfTwo (j := 28) rfl) rfl ?_
        refine r_bipush (dGet dX10_signOfTwo (j := 29) rfl) kB_124 ?_
        by_cases c4 : v0 = (124 : Int32)
        · rw [if_pos c4] at hf
          refine r_icmp_ne_f (dGet dX10_signOfTwo (j := 30) rfl) rfl c4 ?_
          refine r_sipush (dGet dX10_signOfTwo (j := 31) rfl) kS_132 ?_
          refine r_goto (dGet dX10_signOfTwo (j := 32) rfl) rfl ?_
          cases hf
          exact r_iret (dGet dX10_signOfTwo (j := 34) rfl) rfl rfl
        · rw [if_neg c4] at hf
          refine r_icmp_ne_t (dGet dX10_signOfTwo (j := 30) rfl) rfl c4 ?_
          refine r_bipush (dGet dX10_signOfTwo (j := 33) rfl) kB_24 ?_
          cases hf
          exact r_iret (dGet dX10_signOfTwo (j := 34) rfl) rfl rfl
    · rw [if_neg c2] at hf
      refine r_icmp_ne_t (dGet dX10_signOfTwo (j := 22) rfl) rfl c2 ?_
      refine r_bipush (dGet dX10_signOfTwo (j := 35) rfl) kB_24 ?_
      cases hf
      exact r_iret (dGet dX10_signOfTwo (j := 36) rfl) rfl rfl
def eX10_takeName : List (Nat × Instr × Nat) := [(0, .aload_n 0, 1), (1, .getfield 60, 3), (4, .istore 4, 2), (6, .iload_n 3, 1), (7, .istore 5, 2), (9, .iload 5, 2), (11, .iload_n 2, 1), (12, .if_icmp .ge 37, 3), (15, .aload_n 1, 1), (16, .iload 5, 2), (18, .iaload, 1), (19, .invokestatic 81, 3), (22, .ifCond .ne 13, 3), (25, .aload_n 1, 1), (26, .iload 5, 2), (28, .iaload, 1), (29, .invokestatic 88, 3), (32, .ifCond .eq 17, 3), (35, .aload_n 0, 1), (36, .aload_n 1, 1), (37, .iload 5, 2), (39, .iaload, 1), (40, .invokevirtual 77, 3), (43, .iinc 5 1, 3), (46, .goto (-37), 3), (49, .aload_n 0, 1), (50, .iload 4, 2), (52, .invokevirtual 73, 3), (55, .istore 6, 2), (57, .iload 6, 2), (59, .bipush 21, 2), (61, .if_icmp .ge 16, 3), (64, .aload_n 0, 1), (65, .iload 6, 2), (67, .iconst 1, 1), (68, .iadd, 1), (69, .iconst 0, 1), (70, .iload_n 3, 1), (71, .invokevirtual 53, 3), (74, .goto 12, 3), (77, .aload_n 0, 1), (78, .bipush 22, 2), (80, .iload 6, 2), (82, .iload_n 3, 1), (83, .invokevirtual 53, 3), (86, .iload 5, 2), (88, .ireturn, 1)]
theorem dX10_takeName : dChk (pCd 3150) eX10_takeName = true := by decide +kernel
def fX10_takeName_49 (N : Nat) (v0 : Nat) (v3 : Int32) (v4 : Int32) (v5 : Int32) (h : pH) : Option (Int32 × pH) :=
  (fX10_nameOfLetters N v0 v4 h).bind fun q1 =>
  if (21 : Int32) ≤ q1.1 then (
  (fX10_addWord N v0 (22 : Int32) q1.1 v3 q1.2).bind fun h3 =>
  some (v5, h3)) else (
  (fX10_addWord N v0 (q1.1 + (1 : Int32)) (0 : Int32) v3 q1.2).bind fun h4 =>
  some (v5, h4))
theorem lX10_takeName_49 (X : pX) (N d : Nat)  (v0 : Nat) (v3 : Int32) (v4 : Int32) (v5 : Int32) (h : pH) (q : Int32 × pH) (hf : fX10_takeName_49 N v0 v3 v4 v5 h = some q) (nv0 : ¬ v0 = 4) : Run X (d + 2) 10 false (pCd 3150) 7 (some .int) 49 [(0, .ref v0), (3, .int v3), (4, .int v4), (5, .int v5)] [] h 0 0 (some (.int q.1), q.2, 0, 0) := by
  unfold fX10_takeName_49 at hf
  refine r_aload_n (dGet dX10_takeName (j := 25) rfl) nv0 rfl ?_
  refine r_iload (dGet dX10_takeName (j := 26) rfl) rfl ?_
  obtain ⟨q1, eq1, hf⟩ := Option.bind_eq_some_iff.mp hf
  refine r_virtual (dGet dX10_takeName (j := 27) rfl) L10_73 M31 rfl rfl (Nat.le_of_ble_eq_true rfl) (oX10_nameOfLetters eq1) (cX10_nameOfLetters X N (d + 0) v0 v4 h q1 eq1) ?_
  refine r_istore (lv' := [(6, .int q1.1), (0, .ref v0), (3, .int v3), (4, .int v4), (5, .int v5)]) (dGet dX10_takeName (j := 28) rfl) (by decide) rfl ?_
  refine r_iload (dGet dX10_takeName (j := 29) rfl) rfl ?_
  refine r_bipush (dGet dX10_takeName (j := 30) rfl) kB_21 ?_
  by_cases c2 : (21 : Int32) ≤ q1.1
  · rw [if_pos c2] at hf
    refine r_icmp_ge_t (dGet dX10_takeName (j := 31) rfl) rfl c2 ?_
    refine r_aload_n (dGet dX10_takeName (j := 40) rfl) nv0 rfl ?_
    refine r_bipush (dGet dX10_takeName (j := 41) rfl) kB_22 ?_
    refine r_iload (dGet dX10_takeName (j := 42) rfl) rfl ?_
    refine r_iload_n (dGet dX10_takeName (j := 43) rfl) rfl ?_
    obtain ⟨h3, eh3, hf⟩ := Option.bind_eq_some_iff.mp hf
    refine r_virtual (dGet dX10_takeName (j := 44) rfl) L10_53 M38 rfl rfl (Nat.le_of_ble_eq_true rfl) (oX10_addWord eh3) (cX10_addWord X N (d + 1) v0 (22 : Int32) q1.1 v3 q1.2 h3 eh3) ?_
    refine r_iload (dGet dX10_takeName (j := 45) rfl) rfl ?_
    cases hf
    exact r_iret (dGet dX10_takeName (j := 46) rfl) rfl rfl
  · rw [if_neg c2] at hf
    refine r_icmp_ge_f (dGet dX10_takeName (j := 31) rfl) rfl c2 ?_
    refine r_aload_n (dGet dX10_takeName (j := 32) rfl) nv0 rfl ?_
    refine r_iload (dGet dX10_takeName (j := 33) rfl) rfl ?_
    refine r_iconst (dGet dX10_takeName (j := 34) rfl) kI_1 ?_
    refine r_iadd (dGet dX10_takeName (j := 35) rfl) ?_
    refine r_iconst (dGet dX10_takeName (j := 36) rfl) kI_0 ?_
    refine r_iload_n (dGet dX10_takeName (j := 37) rfl) rfl ?_
    obtain ⟨h4, eh4, hf⟩ := Option.bind_eq_some_iff.mp hf
    refine r_virtual (dGet dX10_takeName (j := 38) rfl) L10_53 M38 rfl rfl (Nat.le_of_ble_eq_true rfl) (oX10_addWord eh4) (cX10_addWord X N (d + 1) v0 (q1.1 + (1 : Int32)) (0 : Int32) v3 q1.2 h4 eh4) ?_
    refine r_goto (dGet dX10_takeName (j := 39) rfl) rfl ?_
    refine r_iload (dGet dX10_takeName (j := 45) rfl) rfl ?_
    cases hf
    exact r_iret (dGet dX10_takeName (j := 46) rfl) rfl rfl
def fX10_takeName_35 (N : Nat) (k9 : Nat → Nat → Int32 → Int32 → Int32 → Int32 → pH → Option (Int32 × pH)) (v0 : Nat) (v1 : Nat) (v2 : Int32) (v3 : Int32) (v4 : Int32) (v5 : Int32) (h : pH) : Option (Int32 × pH) :=
  (ldI h v1 v5).bind fun t5 =>
  (fX10_addLetter N v0 t5 h).bind fun h6 =>
  k9 v0 v1 v2 v3 v4 (v5 + (1 : Int32)) h6
theorem lX10_takeName_35 (X : pX) (N d : Nat)  (k9 : Nat → Nat → Int32 → Int32 → Int32 → Int32 → pH → Option (Int32 × pH)) (K9 : ∀ (w0 : Nat) (w1 : Nat) (w2 : Int32) (w3 : Int32) (w4 : Int32) (w5 : Int32) (h : pH) (q : Int32 × pH), k9 w0 w1 w2 w3 w4 w5 h = some q → ¬ w0 = 4 → ¬ w1 = 4 → Run X (d + 2) 10 false (pCd 3150) 7 (some .int) 9 [(0, .ref w0), (1, .ref w1), (2, .int w2), (3, .int w3), (4, .int w4), (5, .int w5)] [] h 0 0 (some (.int q.1), q.2, 0, 0)) (v0 : Nat) (v1 : Nat) (v2 : Int32) (v3 : Int32) (v4 : Int32) (v5 : Int32) (h : pH) (q : Int32 × pH) (hf : fX10_takeName_35 N k9 v0 v1 v2 v3 v4 v5 h = some q) (nv0 : ¬ v0 = 4) (nv1 : ¬ v1 = 4) : Run X (d + 2) 10 false (pCd 3150) 7 (some .int) 35 [(0, .ref v0), (1, .ref v1), (2, .int v2), (3, .int v3), (4, .int v4), (5, .int v5)] [] h 0 0 (some (.int q.1), q.2, 0, 0) := by
  unfold fX10_takeName_35 at hf
  refine r_aload_n (dGet dX10_takeName (j := 18) rfl) nv0 rfl ?_
  refine r_aload_n (dGet dX10_takeName (j := 19) rfl) nv1 rfl ?_
  refine r_iload (dGet dX10_takeName (j := 20) rfl) rfl ?_
  obtain ⟨t5, et5, hf⟩ := Option.bind_eq_some_iff.mp hf
  refine r_iald (dGet dX10_takeName (j := 21) rfl) et5 ?_
  obtain ⟨h6, eh6, hf⟩ := Option.bind_eq_some_iff.mp hf
  refine r_virtual (dGet dX10_takeName (j := 22) rfl) L10_77 M33 rfl rfl (Nat.le_of_ble_eq_true rfl) (oX10_addLetter eh6) (cX10_addLetter X N (d + 1) v0 t5 h h6 eh6) ?_
  refine r_iinc (lv' := [(5, .int (v5 + (1 : Int32))), (0, .ref v0), (1, .ref v1), (2, .int v2), (3, .int v3), (4, .int v4)]) (dGet dX10_takeName (j := 23) rfl) rfl (by decide) kI_1 rfl ?_
  refine r_goto (dGet dX10_takeName (j := 24) rfl) rfl ?_
  refine Run.weak [(0, .ref v0), (1, .ref v1), (2, .int v2), (3, .int v3), (4, .int v4), (5, .int (v5 + (1 : Int32)))] (by simp) (by simp [pNd]) ?_
  exact K9 v0 v1 v2 v3 v4 (v5 + (1 : Int32)) h6 q hf nv0 nv1
def fX10_takeName_9 (N : Nat) : Nat → Nat → Nat → Int32 → Int32 → Int32 → Int32 → pH → Option (Int32 × pH)
  | 0, _, _, _, _, _, _, _ => none
  | n + 1, v0, v1, v2, v3, v4, v5, h => if v2 ≤ v5 then (
  fX10_takeName_49 N v0 v3 v4 v5 h) else (
  (ldI h v1 v5).bind fun t8 =>
  (fX10_isLetter N t8 h).bind fun q9 =>
  if q9.1 = 0 then (
  (ldI q9.2 v1 v5).bind fun t11 =>
  (fX10_isDigit N t11 q9.2).bind fun q12 =>
  if q12.1 = 0 then (
  fX10_takeName_49 N v0 v3 v4 v5 q12.2) else (
  fX10_takeName_35 N (fX10_takeName_9 N n) v0 v1 v2 v3 v4 v5 q12.2)) else (
  fX10_takeName_35 N (fX10_takeName_9 N n) v0 v1 v2 v3 v4 v5 q9.2))
theorem lX10_takeName_9 (X : pX) (N d : Nat)  : ∀ (n : Nat) (v0 : Nat) (v1 : Nat) (v2 : Int32) (v3 : Int32) (v4 : Int32) (v5 : Int32) (h : pH) (q : Int32 × pH), fX10_takeName_9 N n v0 v1 v2 v3 v4 v5 h = some q → ¬ v0 = 4 → ¬ v1 = 4 → Run X (d + 2) 10 false (pCd 3150) 7 (some .int) 9 [(0, .ref v0), (1, .ref v1), (2, .int v2), (3, .int v3), (4, .int v4), (5, .int v5)] [] h 0 0 (some (.int q.1), q.2, 0, 0) := by
  intro n
  induction n with
  | zero => intro v0 v1 v2 v3 v4 v5 h q hf; cases hf
  | succ n ih =>
    intro v0 v1 v2 v3 v4 v5 h q hf nv0 nv1
    unfold fX10_takeName_9 at hf
    refine r_iload (dGet dX10_takeName (j := 5) rfl) rfl ?_
    refine r_iload_n (dGet dX10_takeName (j := 6) rfl) rfl ?_
    by_cases c7 : v2 ≤ v5
    · rw [if_pos c7] at hf
      refine r_icmp_ge_t (dGet dX10_takeName (j := 7) rfl) rfl c7 ?_
      refine Run.weak [(0, .ref v0), (3, .int v3), (4, .int v4), (5, .int v5)] (by simp) (by simp [pNd]) ?_
      exact lX10_takeName_49 X N d v0 v3 v4 v5 h q hf nv0
    · rw [if_neg c7] at hf
      refine r_icmp_ge_f (dGet dX10_takeName (j := 7) rfl) rfl c7 ?_
      refine r_aload_n (dGet dX10_takeName (j := 8) rfl) nv1 rfl ?_
      refine r_iload (dGet dX10_takeName (j := 9) rfl) rfl ?_
      obtain ⟨t8, et8, hf⟩ := Option.bind_eq_some_iff.mp hf
      refine r_iald (dGet dX10_takeName (j := 10) rfl) et8 ?_
      obtain ⟨q9, eq9, hf⟩ := Option.bind_eq_some_iff.mp hf
      refine r_static (dGet dX10_takeName (j := 11) rfl) (by decide +kernel) (by decide +kernel) L10_81 M35 rfl rfl (Nat.le_of_ble_eq_true rfl) (cX10_isLetter X N (d + 1) t8 h q9 eq9) ?_
      by_cases c10 : q9.1 = 0
      · rw [if_pos c10] at hf
        refine r_if_ne_f (dGet dX10_takeName (j := 12) rfl) rfl c10 ?_
        refine r_aload_n (dGet dX10_takeName (j := 13) rfl) nv1 rfl ?_
        refine r_iload (dGet dX10_takeName (j := 14) rfl) rfl ?_
        obtain ⟨t11, et11, hf⟩ := Option.bind_eq_some_iff.mp hf
        refine r_iald (dGet dX10_takeName (j := 15) rfl) et11 ?_
        obtain ⟨q12, eq12, hf⟩ := Option.bind_eq_some_iff.mp hf
        refine r_static (dGet dX10_takeName (j := 16) rfl) (by decide +kernel) (by decide +kernel) L10_88 M37 rfl rfl (Nat.le_of_ble_eq_true rfl) (cX10_isDigit X N (d + 1) t11 q9.2 q12 eq12) ?_
        by_cases c13 : q12.1 = 0
        · rw [if_pos c13] at hf
          refine r_if_eq_t (dGet dX10_takeName (j := 17) rfl) rfl c13 ?_
          refine Run.weak [(0, .ref v0), (3, .int v3), (4, .int v4), (5, .int v5)] (by simp) (by simp [pNd]) ?_
          exact lX10_takeName_49 X N d v0 v3 v4 v5 q12.2 q hf nv0
        · rw [if_neg c13] at hf
          refine r_if_eq_f (dGet dX10_takeName (j := 17) rfl) rfl c13 ?_
          exact lX10_takeName_35 X N d (fX10_takeName_9 N n) ih v0 v1 v2 v3 v4 v5 q12.2 q hf nv0 nv1
      · rw [if_neg c10] at hf
        refine r_if_ne_t (dGet dX10_takeName (j := 12) rfl) rfl c10 ?_
        exact lX10_takeName_35 X N d (fX10_takeName_9 N n) ih v0 v1 v2 v3 v4 v5 q9.2 q hf nv0 nv1
def fX10_takeName (N : Nat) (v0 : Nat) (v1 : Nat) (v2 : Int32) (v3 : Int32) (h : pH) : Option (Int32 × pH) := if isO h v0 10 = true then (
  (getI h v0 10 5).bind fun t14 =>
  if v1 = 4 then none else
  fX10_takeName_9 N N v0 v1 v2 v3 t14 v3 h) else none
theorem oX10_takeName {N : Nat} {v0 : Nat} {v1 : Nat} {v2 : Int32} {v3 : Int32} {h : pH} {q : Int32 × pH} (hf : fX10_takeName N v0 v1 v2 v3 h = some q) : isO h v0 10 = true := by
  unfold fX10_takeName at hf
  by_cases hc : isO h v0 10 = true
  · exact hc
  · rw [if_neg hc] at hf; cases hf
theorem cX10_takeName (X : pX) (N d : Nat) (v0 : Nat) (v1 : Nat) (v2 : Int32) (v3 : Int32) (h : pH) (q : Int32 × pH) (hf : fX10_takeName N v0 v1 v2 v3 h = some q) : Calls X (d + 2) 36 [.ref v0, .ref v1, .int v2, .int v3] h (some (.int q.1), q.2, 0, 0) := by
  refine Calls.of M36 (Nat.le_of_ble_eq_true rfl) ?_
  show Run X (d + 2) 10 false (pCd 3150) 7 (some .int) 0 [(0, .ref v0), (1, .ref v1), (2, .int v2), (3, .int v3)] [] h 0 0 (some (.int q.1), q.2, 0, 0)
  unfold fX10_takeName at hf
  by_cases hc : isO h v0 10 = true
  · rw [if_pos hc] at hf
    have nv0 : ¬ v0 = 4 := isO_ne hc
    refine r_aload_n (dGet dX10_takeName (j := 0) rfl) nv0 rfl ?_
    obtain ⟨t14, et14, hf⟩ := Option.bind_eq_some_iff.mp hf
    refine r_getI (dGet dX10_takeName (j := 1) rfl) F10_60 et14 ?_
    refine r_istore (lv' := [(4, .int t14), (0, .ref v0), (1, .ref v1), (2, .int v2), (3, .int v3)]) (dGet dX10_takeName (j := 2) rfl) (by decide) rfl ?_
    refine r_iload_n (dGet dX10_takeName (j := 3) rfl) rfl ?_
    refine r_istore (lv' := [(5, .int v3), (4, .int t14), (0, .ref v0), (1, .ref v1), (2, .int v2), (3, .int v3)]) (dGet dX10_takeName (j := 4) rfl) (by decide) rfl ?_
    by_cases nv1 : v1 = 4
    · rw [if_pos nv1] at hf; cases hf
    rw [if_neg nv1] at hf
    refine Run.weak [(0, .ref v0), (1, .ref v1), (2, .int v2), (3, .int v3), (4, .int t14), (5, .int v3)] (by simp) (by simp [pNd]) ?_
    exact lX10_takeName_9 X N d N v0 v1 v2 v3 t14 v3 h q hf nv0 nv1
  · rw [if_neg hc] at hf; cases hf
def eX10_takeNumber : List (Nat × Instr × Nat) := [(0, .iconst 0, 1), (1, .istore 4, 2), (3, .iload_n 3, 1), (4, .istore 5, 2), (6, .iload 5, 2), (8, .iload_n 2, 1), (9, .if_icmp .ge 34, 3), (12, .aload_n 1, 1), (13, .iload 5, 2), (15, .iaload, 1), (16, .invokestatic 88, 3), (19, .ifCond .eq 24, 3), (22, .iload 4, 2), (24, .bipush 10, 2), (26, .imul, 1), (27, .aload_n 1, 1), (28, .iload 5, 2), (30, .iaload, 1), (31, .bipush 48, 2), (33, .isub, 1), (34, .iadd, 1), (35, .istore 4, 2), (37, .iinc 5 1, 3), (40, .goto (-34), 3), (43, .iload 5, 2), (45, .iload_n 3, 1), (46, .isub, 1), (47, .bipush 9, 2), (49, .if_icmp .le 13, 3), (52, .aload_n 0, 1), (53, .bipush 24, 2), (55, .iconst 0, 1), (56, .iload_n 3, 1), (57, .invokevirtual 53, 3), (60, .iload_n 2, 1), (61, .ireturn, 1), (62, .aload_n 0, 1), (63, .bipush 23, 2), (65, .iload 4, 2), (67, .iload_n 3, 1), (68, .invokevirtual 53, 3), (71, .iload 5, 2), (73, .ireturn, 1)]
theorem dX10_takeNumber : dChk (pCd 3161) eX10_takeNumber = true := by decide +kernel
def fX10_takeNumber_43 (N : Nat) (v0 : Nat) (v2 : Int32) (v3 : Int32) (v4 : Int32) (v5 : Int32) (h : pH) : Option (Int32 × pH) :=
  if (v5 - v3) ≤ (9 : Int32) then (
  (fX10_addWord N v0 (23 : Int32) v4 v3 h).bind fun h2 =>
  some (v5, h2)) else (
  (fX10_addWord N v0 (24 : Int32) (0 : Int32) v3 h).bind fun h3 =>
  some (v2, h3))
theorem lX10_takeNumber_43 (X : pX) (N d : Nat)  (v0 : Nat) (v2 : Int32) (v3 : Int32) (v4 : Int32) (v5 : Int32) (h : pH) (q : Int32 × pH) (hf : fX10_takeNumber_43 N v0 v2 v3 v4 v5 h = some q) (nv0 : ¬ v0 = 4) : Run X (d + 1) 10 false (pCd 3161) 6 (some .int) 43 [(0, .ref v0), (2, .int v2), (3, .int v3), (4, .int v4), (5, .int v5)] [] h 0 0 (some (.int q.1), q.2, 0, 0) := by
  unfold fX10_takeNumber_43 at hf
  refine r_iload (dGet dX10_takeNumber (j := 24) rfl) rfl ?_
  refine r_iload_n (dGet dX10_takeNumber (j := 25) rfl) rfl ?_
  refine r_isub (dGet dX10_takeNumber (j := 26) rfl) ?_
  refine r_bipush (dGet dX10_takeNumber (j := 27) rfl) kB_9 ?_
  by_cases c1 : (v5 - v3) ≤ (9 : Int32)
  · rw [if_pos c1] at hf
    refine r_icmp_le_t (dGet dX10_takeNumber (j := 28) rfl) rfl c1 ?_
    refine r_aload_n (dGet dX10_takeNumber (j := 36) rfl) nv0 rfl ?_
    refine r_bipush (dGet dX10_takeNumber (j := 37) rfl) kB_23 ?_
    refine r_iload (dGet dX10_takeNumber (j := 38) rfl) rfl ?_
    refine r_iload_n (dGet dX10_takeNumber (j := 39) rfl) rfl ?_
    obtain ⟨h2, eh2, hf⟩ := Option.bind_eq_some_iff.mp hf
    refine r_virtual (dGet dX10_takeNumber (j := 40) rfl) L10_53 M38 rfl rfl (Nat.le_of_ble_eq_true rfl) (oX10_addWord eh2) (cX10_addWord X N (d + 0) v0 (23 : Int32) v4 v3 h h2 eh2) ?_
    refine r_iload (dGet dX10_takeNumber (j := 41) rfl) rfl ?_
    cases hf
    exact r_iret (dGet dX10_takeNumber (j := 42) rfl) rfl rfl
  · rw [if_neg c1] at hf
    refine r_icmp_le_f (dGet dX10_takeNumber (j := 28) rfl) rfl c1 ?_
    refine r_aload_n (dGet dX10_takeNumber (j := 29) rfl) nv0 rfl ?_
    refine r_bipush (dGet dX10_takeNumber (j := 30) rfl) kB_24 ?_
    refine r_iconst (dGet dX10_takeNumber (j := 31) rfl) kI_0 ?_
    refine r_iload_n (dGet dX10_takeNumber (j := 32) rfl) rfl ?_
    obtain ⟨h3, eh3, hf⟩ := Option.bind_eq_some_iff.mp hf
    refine r_virtual (dGet dX10_takeNumber (j := 33) rfl) L10_53 M38 rfl rfl (Nat.le_of_ble_eq_true rfl) (oX10_addWord eh3) (cX10_addWord X N (d + 0) v0 (24 : Int32) (0 : Int32) v3 h h3 eh3) ?_
    refine r_iload_n (dGet dX10_takeNumber (j := 34) rfl) rfl ?_
    cases hf
    exact r_iret (dGet dX10_takeNumber (j := 35) rfl) rfl rfl
def fX10_takeNumber_6 (N : Nat) : Nat → Nat → Nat → Int32 → Int32 → Int32 → Int32 → pH → Option (Int32 × pH)
  | 0, _, _, _, _, _, _, _ => none
  | n + 1, v0, v1, v2, v3, v4, v5, h => if v2 ≤ v5 then (
  fX10_takeNumber_43 N v0 v2 v3 v4 v5 h) else (
  (ldI h v1 v5).bind fun t5 =>
  (fX10_isDigit N t5 h).bind fun q6 =>
  if q6.1 = 0 then (
  fX10_takeNumber_43 N v0 v2 v3 v4 v5 q6.2) else (
  (ldI q6.2 v1 v5).bind fun t8 =>
  fX10_takeNumber_6 N n v0 v1 v2 v3 ((v4 * (10 : Int32)) + (t8 - (48 : Int32))) (v5 + (1 : Int32)) q6.2))
theorem lX10_takeNumber_6 (X : pX) (N d : Nat)  : ∀ (n : Nat) (v0 : Nat) (v1 : Nat) (v2 : Int32) (v3 : Int32) (v4 : Int32) (v5 : Int32) (h : pH) (q : Int32 × pH), fX10_takeNumber_6 N n v0 v1 v2 v3 v4 v5 h = some q → ¬ v0 = 4 → ¬ v1 = 4 → Run X (d + 1) 10 false (pCd 3161) 6 (some .int) 6 [(0, .ref v0), (1, .ref v1), (2, .int v2), (3, .int v3), (4, .int v4), (5, .int v5)] [] h 0 0 (some (.int q.1), q.2, 0, 0) := by
  intro n
  induction n with
  | zero => intro v0 v1 v2 v3 v4 v5 h q hf; cases hf
  | succ n ih =>
    intro v0 v1 v2 v3 v4 v5 h q hf nv0 nv1
    unfold fX10_takeNumber_6 at hf
    refine r_iload (dGet dX10_takeNumber (j := 4) rfl) rfl ?_
    refine r_iload_n (dGet dX10_takeNumber (j := 5) rfl) rfl ?_
    by_cases c4 : v2 ≤ v5
    · rw [if_pos c4] at hf
      refine r_icmp_ge_t (dGet dX10_takeNumber (j := 6) rfl) rfl c4 ?_
      refine Run.weak [(0, .ref v0), (2, .int v2), (3, .int v3), (4, .int v4), (5, .int v5)] (by simp) (by simp [pNd]) ?_
      exact lX10_takeNumber_43 X N d v0 v2 v3 v4 v5 h q hf nv0
    · rw [if_neg c4] at hf
      refine r_icmp_ge_f (dGet dX10_takeNumber (j := 6) rfl) rfl c4 ?_
      refine r_aload_n (dGet dX10_takeNumber (j := 7) rfl) nv1 rfl ?_
      refine r_iload (dGet dX10_takeNumber (j := 8) rfl) rfl ?_
      obtain ⟨t5, et5, hf⟩ := Option.bind_eq_some_iff.mp hf
      refine r_iald (dGet dX10_takeNumber (j := 9) rfl) et5 ?_
      obtain ⟨q6, eq6, hf⟩ := Option.bind_eq_some_iff.mp hf
      refine r_static (dGet dX10_takeNumber (j := 10) rfl) (by decide +kernel) (by decide +kernel) L10_88 M37 rfl rfl (Nat.le_of_ble_eq_true rfl) (cX10_isDigit X N (d + 0) t5 h q6 eq6) ?_
      by_cases c7 : q6.1 = 0
      · rw [if_pos c7] at hf
        refine r_if_eq_t (dGet dX10_takeNumber (j := 11) rfl) rfl c7 ?_
        refine Run.weak [(0, .ref v0), (2, .int v2), (3, .int v3), (4, .int v4), (5, .int v5)] (by simp) (by simp [pNd]) ?_
        exact lX10_takeNumber_43 X N d v0 v2 v3 v4 v5 q6.2 q hf nv0
      · rw [if_neg c7] at hf
        refine r_if_eq_f (dGet dX10_takeNumber (j := 11) rfl) rfl c7 ?_
        refine r_iload (dGet dX10_takeNumber (j := 12) rfl) rfl ?_
        refine r_bipush (dGet dX10_takeNumber (j := 13) rfl) kB_10 ?_
        refine r_imul (dGet dX10_takeNumber (j := 14) rfl) ?_
        refine r_aload_n (dGet dX10_takeNumber (j := 15) rfl) nv1 rfl ?_
        refine r_iload (dGet dX10_takeNumber (j := 16) rfl) rfl ?_
        obtain ⟨t8, et8, hf⟩ := Option.bind_eq_some_iff.mp hf
        refine r_iald (dGet dX10_takeNumber (j := 17) rfl) et8 ?_
        refine r_bipush (dGet dX10_takeNumber (j := 18) rfl) kB_48 ?_
        refine r_isub (dGet dX10_takeNumber (j := 19) rfl) ?_
        refine r_iadd (dGet dX10_takeNumber (j := 20) rfl) ?_
        refine r_istore (lv' := [(4, .int ((v4 * (10 : Int32)) + (t8 - (48 : Int32)))), (0, .ref v0), (1, .ref v1), (2, .int v2), (3, .int v3), (5, .int v5)]) (dGet dX10_takeNumber (j := 21) rfl) (by decide) rfl ?_
        refine r_iinc (lv' := [(5, .int (v5 + (1 : Int32))), (4, .int ((v4 * (10 : Int32)) + (t8 - (48 : Int32)))), (0, .ref v0), (1, .ref v1), (2, .int v2), (3, .int v3)]) (dGet dX10_takeNumber (j := 22) rfl) rfl (by decide) kI_1 rfl ?_
        refine r_goto (dGet dX10_takeNumber (j := 23) rfl) rfl ?_
        refine Run.weak [(0, .ref v0), (1, .ref v1), (2, .int v2), (3, .int v3), (4, .int ((v4 * (10 : Int32)) + (t8 - (48 : Int32)))), (5, .int (v5 + (1 : Int32)))] (by simp) (by simp [pNd]) ?_
        exact ih v0 v1 v2 v3 ((v4 * (10 : Int32)) + (t8 - (48 : Int32))) (v5 + (1 : Int32)) q6.2 q hf nv0 nv1
def fX10_takeNumber (N : Nat) (v0 : Nat) (v1 : Nat) (v2 : Int32) (v3 : Int32) (h : pH) : Option (Int32 × pH) := if isO h v0 10 = true then (
  if v1 = 4 then none else
  fX10_takeNumber_6 N N v0 v1 v2 v3 (0 : Int32) v3 h) else none
theorem oX10_takeNumber {N : Nat} {v0 : Nat} {v1 : Nat} {v2 : Int32} {v3 : Int32} {h : pH} {q : Int32 × pH} (hf : fX10_takeNumber N v0 v1 v2 v3 h = some q) : isO h v0 10 = true := by
  unfold fX10_takeNumber at hf
  by_cases hc : isO h v0 10 = true
  · exact hc
  · rw [if_neg hc] at hf; cases hf
theorem cX10_takeNumber (X : pX) (N d : Nat) (v0 : Nat) (v1 : Nat) (v2 : Int32) (v3 : Int32) (h : pH) (q : Int32 × pH) (hf : fX10_takeNumber N v0 v1 v2 v3 h = some q) : Calls X (d + 1) 39 [.ref v0, .ref v1, .int v2, .int v3] h (some (.int q.1), q.2, 0, 0) := by
  refine Calls.of M39 (Nat.le_of_ble_eq_true rfl) ?_
  show Run X (d + 1) 10 false (pCd 3161) 6 (some .int) 0 [(0, .ref v0), (1, .ref v1), (2, .int v2), (3, .int v3)] [] h 0 0 (some (.int q.1), q.2, 0, 0)
  unfold fX10_takeNumber at hf
  by_cases hc : isO h v0 10 = true
  · rw [if_pos hc] at hf
    have nv0 : ¬ v0 = 4 := isO_ne hc
    refine r_iconst (dGet dX10_takeNumber (j := 0) rfl) kI_0 ?_
    refine r_istore (lv' := [(4, .int (0 : Int32)), (0, .ref v0), (1, .ref v1), (2, .int v2), (3, .int v3)]) (dGet dX10_takeNumber (j := 1) rfl) (by decide) rfl ?_
    refine r_iload_n (dGet dX10_takeNumber (j := 2) rfl) rfl ?_
    refine r_istore (lv' := [(5, .int v3), (4, .int (0 : Int32)), (0, .ref v0), (1, .ref v1), (2, .int v2), (3, .int v3)]) (dGet dX10_takeNumber (j := 3) rfl) (by decide) rfl ?_
    by_cases nv1 : v1 = 4
    · rw [if_pos nv1] at hf; cases hf
    rw [if_neg nv1] at hf
    refine Run.weak [(0, .ref v0), (1, .ref v1), (2, .int v2), (3, .int v3), (4, .int (0 : Int32)), (5, .int v3)] (by simp) (by simp [pNd]) ?_
    exact lX10_takeNumber_6 X N d N v0 v1 v2 v3 (0 : Int32) v3 h q hf nv0 nv1
  · rw [if_neg hc] at hf; cases hf
def eX10_takeWord : List (Nat × Instr × Nat) := [(0, .aload_n 1, 1), (1, .iload_n 3, 1), (2, .iaload, 1), (3, .istore 4, 2), (5, .iload 4, 2), (7, .bipush 32, 2), (9, .if_icmp .eq 10, 3), (12, .iload 4, 2), (14, .bipush 10, 2), (16, .if_icmp .ne 7, 3), (19, .iload_n 3, 1), (20, .iconst 1, 1), (21, .iadd, 1), (22, .ireturn, 1), (23, .iload 4, 2), (25, .invokestatic 81, 3), (28, .ifCond .eq 11, 3), (31, .aload_n 0, 1), (32, .aload_n 1, 1), (33, .iload_n 2, 1), (34, .iload_n 3, 1), (35, .invokevirtual 85, 3), (38, .ireturn, 1), (39, .iload 4, 2), (41, .invokestatic 88, 3), (44, .ifCond .eq 11, 3), (47, .aload_n 0, 1), (48, .aload_n 1, 1), (49, .iload_n 2, 1), (50, .iload_n 3, 1), (51, .invokevirtual 91, 3), (54, .ireturn, 1), (55, .iload_n 3, 1), (56, .iconst 1, 1), (57, .iadd, 1), (58, .iload_n 2, 1), (59, .if_icmp .ge 16, 3), (62, .iload 4, 2), (64, .aload_n 1, 1), (65, .iload_n 3, 1), (66, .iconst 1, 1), (67, .iadd, 1), (68, .iaload, 1), (69, .invokestatic 94, 3), (72, .goto 5, 3), (75, .bipush 24, 2), (77, .istore 5, 2), (79, .iload 5, 2), (81, .bipush 24, 2), (83, .if_icmp .eq 15, 3), (86, .aload_n 0, 1), (87, .iload 5, 2), (89, .iconst 0, 1), (90, .iload_n 3, 1), (91, .invokevirtual 53, 3), (94, .iload_n 3, 1), (95, .iconst 2, 1), (96, .iadd, 1), (97, .ireturn, 1), (98, .ldc 98, 2), (100, .iload 4, 2), (102, .i2c, 1), (103, .invokevirtual 100, 3), (106, .ifCond .lt 15, 3), (109, .aload_n 0, 1), (110, .iload 4, 2), (112, .iconst 0, 1), (113, .iload_n 3, 1), (114, .invokevirtual 53, 3), (117, .iload_n 3, 1), (118, .iconst 1, 1), (119, .iadd, 1), (120, .ireturn, 1), (121, .aload_n 0, 1), (122, .bipush 24, 2), (124, .iconst 0, 1), (125, .iload_n 3, 1), (126, .invokevirtual 53, 3), (129, .iload_n 2, 1), (130, .ireturn, 1)]
theorem dX10_takeWord : dChk (pCd 3143) eX10_takeWord = true := by decide +kernel
def fX10_takeWord_77 (N : Nat) (v0 : Nat) (v2 : Int32) (v3 : Int32) (v4 : Int32) (s0 : Int32) (h : pH) : Option (Int32 × pH) :=
  if s0 = (24 : Int32) then (
  (fJ0_indexOf_0f7a4 N 1 ((v4.toUInt32 % 65536).toInt32) h).bind fun q2 =>
  if q2.1 < 0 then (
  (fX10_addWord N v0 (24 : Int32) (0 : Int32) v3 q2.2).bind fun h4 =>
  some (v2, h4)) else (
  (fX10_addWord N v0 v4 (0 : Int32) v3 q2.2).bind fun h5 =>
  some ((v3 + (1 : Int32)), h5))) else (
  (fX10_addWord N v0 s0 (0 : Int32) v3 h).bind fun h6 =>
  some ((v3 + (2 : Int32)), h6))
theorem lX10_takeWord_77 (X : pX) (N d : Nat)  (v0 : Nat) (v2 : Int32) (v3 : Int32) (v4 : Int32) (s0 : Int32) (h : pH) (q : Int32 × pH) (hf : fX10_takeWord_77 N v0 v2 v3 v4 s0 h = some q) (nv0 : ¬ v0 = 4) : Run X (d + 7) 10 false (pCd 3143) 6 (some .int) 77 [(0, .ref v0), (2, .int v2), (3, .int v3), (4, .int v4)] [.int s0] h 0 0 (some (.int q.1), q.2, 0, 0) := by
  unfold fX10_takeWord_77 at hf
  refine r_istore (lv' := [(5, .int s0), (0, .ref v0), (2, .int v2), (3, .int v3), (4, .int v4)]) (dGet dX10_takeWord (j := 46) rfl) (by decide) rfl ?_
  refine r_iload (dGet dX10_takeWord (j := 47) rfl) rfl ?_
  refine r_bipush (dGet dX10_takeWord (j := 48) rfl) kB_24 ?_
  by_cases c1 : s0 = (24 : Int32)
  · rw [if_pos c1] at hf
    refine r_icmp_eq_t (dGet dX10_takeWord (j := 49) rfl) rfl c1 ?_
    refine r_ldcs (dGet dX10_takeWord (j := 59) rfl) (by decide +kernel : pFind pSt 10 98 = some (1, 3165)) ?_
    refine r_iload (dGet dX10_takeWord (j := 60) rfl) rfl ?_
    refine r_i2c (dGet dX10_takeWord (j := 61) rfl) ?_
    obtain ⟨q2, eq2, hf⟩ := Option.bind_eq_some_iff.mp hf
    refine r_virtual (dGet dX10_takeWord (j := 62) rfl) L10_100 M41 rfl rfl (Nat.le_of_ble_eq_true rfl) (oJ0_indexOf_0f7a4 eq2) (cJ0_indexOf_0f7a4 X N (d + 0) 1 ((v4.toUInt32 % 65536).toInt32) h q2 eq2) ?_
    by_cases c3 : q2.1 < 0
    · rw [if_pos c3] at hf
      refine r_if_lt_t (dGet dX10_takeWord (j := 63) rfl) rfl c3 ?_
      refine r_aload_n (dGet dX10_takeWord (j := 73) rfl) nv0 rfl ?_
      refine r_bipush (dGet dX10_takeWord (j := 74) rfl) kB_24 ?_
      refine r_iconst (dGet dX10_takeWord (j := 75) rfl) kI_0 ?_
      refine r_iload_n (dGet dX10_takeWord (j := 76) rfl) rfl ?_
      obtain ⟨h4, eh4, hf⟩ := Option.bind_eq_some_iff.mp hf
      refine r_virtual (dGet dX10_takeWord (j := 77) rfl) L10_53 M38 rfl rfl (Nat.le_of_ble_eq_true rfl) (oX10_addWord eh4) (cX10_addWord X N (d + 6) v0 (24 : Int32) (0 : Int32) v3 q2.2 h4 eh4) ?_
      refine r_iload_n (dGet dX10_takeWord (j := 78) rfl) rfl ?_
      cases hf
      exact r_iret (dGet dX10_takeWord (j := 79) rfl) rfl rfl
    · rw [if_neg c3] at hf
      refine r_if_lt_f (dGet dX10_takeWord (j := 63) rfl) rfl c3 ?_
      refine r_aload_n (dGet dX10_takeWord (j := 64) rfl) nv0 rfl ?_
      refine r_iload (dGet dX10_takeWord (j := 65) rfl) rfl ?_
      refine r_iconst (dGet dX10_takeWord (j := 66) rfl) kI_0 ?_
      refine r_iload_n (dGet dX10_takeWord (j := 67) rfl) rfl ?_
      obtain ⟨h5, eh5, hf⟩ := Option.bind_eq_some_iff.mp hf
      refine r_virtual (dGet dX10_takeWord (j := 68) rfl) L10_53 M38 rfl rfl (Nat.le_of_ble_eq_true rfl) (oX10_addWord eh5) (cX10_addWord X N (d + 6) v0 v4 (0 : Int32) v3 q2.2 h5 eh5) ?_
      refine r_iload_n (dGet dX10_takeWord (j := 69) rfl) rfl ?_
      refine r_iconst (dGet dX10_takeWord (j := 70) rfl) kI_1 ?_
      refine r_iadd (dGet dX10_takeWord (j := 71) rfl) ?_
      cases hf
      exact r_iret (dGet dX10_takeWord (j := 72) rfl) rfl rfl
  · rw [if_neg c1] at hf
    refine r_icmp_eq_f (dGet dX10_takeWord (j := 49) rfl) rfl c1 ?_
    refine r_aload_n (dGet dX10_takeWord (j := 50) rfl) nv0 rfl ?_
    refine r_iload (dGet dX10_takeWord (j := 51) rfl) rfl ?_
    refine r_iconst (dGet dX10_takeWord (j := 52) rfl) kI_0 ?_
    refine r_iload_n (dGet dX10_takeWord (j := 53) rfl) rfl ?_
    obtain ⟨h6, eh6, hf⟩ := Option.bind_eq_some_iff.mp hf
    refine r_virtual (dGet dX10_takeWord (j := 54) rfl) L10_53 M38 rfl rfl (Nat.le_of_ble_eq_true rfl) (oX10_addWord eh6) (cX10_addWord X N (d + 6) v0 s0 (0 : Int32) v3 h h6 eh6) ?_
    refine r_iload_n (dGet dX10_takeWord (j := 55) rfl) rfl ?_
    refine r_iconst (dGet dX10_takeWord (j := 56) rfl) kI_2 ?_
    refine r_iadd (dGet dX10_takeWord (j := 57) rfl) ?_
    cases hf
    exact r_iret (dGet dX10_takeWord (j := 58) rfl) rfl rfl
def fX10_takeWord (N : Nat) (v0 : Nat) (v1 : Nat) (v2 : Int32) (v3 : Int32) (h : pH) : Option (Int32 × pH) := if isO h v0 10 = true then (
  if v1 = 4 then none else
  (ldI h v1 v3).bind fun t7 =>
  if t7 = (32 : Int32) then (
  some ((v3 + (1 : Int32)), h)) else (
  if t7 = (10 : Int32) then (
  some ((v3 + (1 : Int32)), h)) else (
  (fX10_isLetter N t7 h).bind fun q10 =>
  if q10.1 = 0 then (
  (fX10_isDigit N t7 q10.2).bind fun q12 =>
  if q12.1 = 0 then (
  if v2 ≤ (v3 + (1 : Int32)) then (
  fX10_takeWord_77 N v0 v2 v3 t7 (24 : Int32) q12.2) else (
  (ldI q12.2 v1 (v3 + (1 : Int32))).bind fun t15 =>
  (fX10_signOfTwo N t7 t15 q12.2).bind fun q16 =>
  fX10_takeWord_77 N v0 v2 v3 t7 q16.1 q16.2)) else (
  (fX10_takeNumber N v0 v1 v2 v3 q12.2).bind fun q17 =>
  some (q17.1, q17.2))) else (
  (fX10_takeName N v0 v1 v2 v3 q10.2).bind fun q18 =>
  some (q18.1, q18.2))))) else none
theorem oX10_takeWord {N : Nat} {v0 : Nat} {v1 : Nat} {v2 : Int32} {v3 : Int32} {h : pH} {q : Int32 × pH} (hf : fX10_takeWord N v0 v1 v2 v3 h = some q) : isO h v0 10 = true := by
  unfold fX10_takeWord at hf
  by_cases hc : isO h v0 10 = true
  · exact hc
  · rw [if_neg hc] at hf; cases hf
theorem cX10_takeWord (X : pX) (N d : Nat) (v0 : Nat) (v1 : Nat) (v2 : Int32) (v3 : Int32) (h : pH) (q : Int32 × pH) (hf : fX10_takeWord N v0 v1 v2 v3 h = some q) : Calls X (d + 7) 34 [.ref v0, .ref v1, .int v2, .int v3] h (some (.int q.1), q.2, 0, 0) := by
  refine Calls.of M34 (Nat.le_of_ble_eq_true rfl) ?_
  show Run X (d + 7) 10 false (pCd 3143) 6 (some .int) 0 [(0, .ref v0), (1, .ref v1), (2, .int v2), (3, .int v3)] [] h 0 0 (some (.int q.1), q.2, 0, 0)
  unfold fX10_takeWord at hf
  by_cases hc : isO h v0 10 = true
  · rw [if_pos hc] at hf
    have nv0 : ¬ v0 = 4 := isO_ne hc
    by_cases nv1 : v1 = 4
    · rw [if_pos nv1] at hf; cases hf
    rw [if_neg nv1] at hf
    refine r_aload_n (dGet dX10_takeWord (j := 0) rfl) nv1 rfl ?_
    refine r_iload_n (dGet dX10_takeWord (j := 1) rfl) rfl ?_
    obtain ⟨t7, et7, hf⟩ := Option.bind_eq_some_iff.mp hf
    refine r_iald (dGet dX10_takeWord (j := 2) rfl) et7 ?_
    refine r_istore (lv' := [(4, .int t7), (0, .ref v0), (1, .ref v1), (2, .int v2), (3, .int v3)]) (dGet dX10_takeWord (j := 3) rfl) (by decide) rfl ?_
    refine r_iload (dGet dX10_takeWord (j := 4) rfl) rfl ?_
    refine r_bipush (dGet dX10_takeWord (j := 5) rfl) kB_32 ?_
    by_cases c8 : t7 = (32 : Int32)
    · rw [if_pos c8] at hf
      refine r_icmp_eq_t (dGet dX10_takeWord (j := 6) rfl) rfl c8 ?_
      refine r_iload_n (dGet dX10_takeWord (j := 10) rfl) rfl ?_
      refine r_iconst (dGet dX10_takeWord (j := 11) rfl) kI_1 ?_
      refine r_iadd (dGet dX10_takeWord (j := 12) rfl) ?_
      cases hf
      exact r_iret (dGet dX10_takeWord (j := 13) rfl) rfl rfl
    · rw [if_neg c8] at hf
      refine r_icmp_eq_f (dGet dX10_takeWord (j := 6) rfl) rfl c8 ?_
      refine r_iload (dGet dX10_takeWord (j := 7) rfl) rfl ?_
      refine r_bipush (dGet dX10_takeWord (j := 8) rfl) kB_10 ?_
      by_cases c9 : t7 = (10 : Int32)
      · rw [if_pos c9] at hf
        refine r_icmp_ne_f (dGet dX10_takeWord (j := 9) rfl) rfl c9 ?_
        refine r_iload_n (dGet dX10_takeWord (j := 10) rfl) rfl ?_
        refine r_iconst (dGet dX10_takeWord (j := 11) rfl) kI_1 ?_
        refine r_iadd (dGet dX10_takeWord (j := 12) rfl) ?_
        cases hf
        exact r_iret (dGet dX10_takeWord (j := 13) rfl) rfl rfl
      · rw [if_neg c9] at hf
        refine r_icmp_ne_t (dGet dX10_takeWord (j := 9) rfl) rfl c9 ?_
        refine r_iload (dGet dX10_takeWord (j := 14) rfl) rfl ?_
        obtain ⟨q10, eq10, hf⟩ := Option.bind_eq_some_iff.mp hf
        refine r_static (dGet dX10_takeWord (j := 15) rfl) (by decide +kernel) (by decide +kernel) L10_81 M35 rfl rfl (Nat.le_of_ble_eq_true rfl) (cX10_isLetter X N (d + 6) t7 h q10 eq10) ?_
        by_cases c11 : q10.1 = 0
        · rw [if_pos c11] at hf
          refine r_if_eq_t (dGet dX10_takeWord (j := 16) rfl) rfl c11 ?_
          refine r_iload (dGet dX10_takeWord (j := 23) rfl) rfl ?_
          obtain ⟨q12, eq12, hf⟩ := Option.bind_eq_some_iff.mp hf
          refine r_static (dGet dX10_takeWord (j := 24) rfl) (by decide +kernel) (by decide +kernel) L10_88 M37 rfl rfl (Nat.le_of_ble_eq_true rfl) (cX10_isDigit X N (d + 6) t7 q10.2 q12 eq12) ?_
          by_cases c13 : q12.1 = 0
          · rw [if_pos c13] at hf
            refine r_if_eq_t (dGet dX10_takeWord (j := 25) rfl) rfl c13 ?_
            refine r_iload_n (dGet dX10_takeWord (j := 32) rfl) rfl ?_
            refine r_iconst (dGet dX10_takeWord (j := 33) rfl) kI_1 ?_
            refine r_iadd (dGet dX10_takeWord (j := 34) rfl) ?_
            refine r_iload_n (dGet dX10_takeWord (j := 35) rfl) rfl ?_
            by_cases c14 : v2 ≤ (v3 + (1 : Int32))
            · rw [if_pos c14] at hf
              refine r_icmp_ge_t (dGet dX10_takeWord (j := 36) rfl) rfl c14 ?_
              refine r_bipush (dGet dX10_takeWord (j := 45) rfl) kB_24 ?_
              refine Run.weak [(0, .ref v0), (2, .int v2), (3, .int v3), (4, .int t7)] (by simp) (by simp [pNd]) ?_
              exact lX10_takeWord_77 X N d v0 v2 v3 t7 (24 : Int32) q12.2 q hf nv0
            · rw [if_neg c14] at hf
              refine r_icmp_ge_f (dGet dX10_takeWord (j := 36) rfl) rfl c14 ?_
              refine r_iload (dGet dX10_takeWord (j := 37) rfl) rfl ?_
              refine r_aload_n (dGet dX10_takeWord (j := 38) rfl) nv1 rfl ?_
              refine r_iload_n (dGet dX10_takeWord (j := 39) rfl) rfl ?_
              refine r_iconst (dGet dX10_takeWord (j := 40) rfl) kI_1 ?_
              refine r_iadd (dGet dX10_takeWord (j := 41) rfl) ?_
              obtain ⟨t15, et15, hf⟩ := Option.bind_eq_some_iff.mp hf
              refine r_iald (dGet dX10_takeWord (j := 42) rfl) et15 ?_
              obtain ⟨q16, eq16, hf⟩ := Option.bind_eq_some_iff.mp hf
              refine r_static (dGet dX10_takeWord (j := 43) rfl) (by decide +kernel) (by decide +kernel) L10_94 M40 rfl rfl (Nat.le_of_ble_eq_true rfl) (cX10_signOfTwo X N (d + 6) t7 t15 q12.2 q16 eq16) ?_
              refine r_goto (dGet dX10_takeWord (j := 44) rfl) rfl ?_
              refine Run.weak [(0, .ref v0), (2, .int v2), (3, .int v3), (4, .int t7)] (by simp) (by simp [pNd]) ?_
              exact lX10_takeWord_77 X N d v0 v2 v3 t7 q16.1 q16.2 q hf nv0
          · rw [if_neg c13] at hf
            refine r_if_eq_f (dGet dX10_takeWord (j := 25) rfl) rfl c13 ?_
            refine r_aload_n (dGet dX10_takeWord (j := 26) rfl) nv0 rfl ?_
            refine r_aload_n (dGet dX10_takeWord (j := 27) rfl) nv1 rfl ?_
            refine r_iload_n (dGet dX10_takeWord (j := 28) rfl) rfl ?_
            refine r_iload_n (dGet dX10_takeWord (j := 29) rfl) rfl ?_
            obtain ⟨q17, eq17, hf⟩ := Option.bind_eq_some_iff.mp hf
            refine r_virtual (dGet dX10_takeWord (j := 30) rfl) L10_91 M39 rfl rfl (Nat.le_of_ble_eq_true rfl) (oX10_takeNumber eq17) (cX10_takeNumber X N (d + 5) v0 v1 v2 v3 q12.2 q17 eq17) ?_
            cases hf
            exact r_iret (dGet dX10_takeWord (j := 31) rfl) rfl rfl
        · rw [if_neg c11] at hf
          refine r_if_eq_f (dGet dX10_takeWord (j := 16) rfl) rfl c11 ?_
          refine r_aload_n (dGet dX10_takeWord (j := 17) rfl) nv0 rfl ?_
          refine r_aload_n (dGet dX10_takeWord (j := 18) rfl) nv1 rfl ?_
          refine r_iload_n (dGet dX10_takeWord (j := 19) rfl) rfl ?_
          refine r_iload_n (dGet dX10_takeWord (j := 20) rfl) rfl ?_
          obtain ⟨q18, eq18, hf⟩ := Option.bind_eq_some_iff.mp hf
          refine r_virtual (dGet dX10_takeWord (j := 21) rfl) L10_85 M36 rfl rfl (Nat.le_of_ble_eq_true rfl) (oX10_takeName eq18) (cX10_takeName X N (d + 4) v0 v1 v2 v3 q10.2 q18 eq18) ?_
          cases hf
          exact r_iret (dGet dX10_takeWord (j := 22) rfl) rfl rfl
  · rw [if_neg hc] at hf; cases hf
def eX10_split : List (Nat × Instr × Nat) := [(0, .aload_n 0, 1), (1, .iconst 0, 1), (2, .putfield 42, 3), (5, .aload_n 0, 1), (6, .invokevirtual 46, 3), (9, .iconst 0, 1), (10, .istore_n 3, 1), (11, .iconst 0, 1), (12, .istore 4, 2), (14, .iload 4, 2), (16, .sipush 3100, 3), (19, .if_icmp .ge 22, 3), (22, .iload_n 3, 1), (23, .iload_n 2, 1), (24, .if_icmp .ge 17, 3), (27, .aload_n 0, 1), (28, .aload_n 1, 1), (29, .iload_n 2, 1), (30, .iload_n 3, 1), (31, .invokevirtual 49, 3), (34, .istore_n 3, 1), (35, .iinc 4 1, 3), (38, .goto (-24), 3), (41, .aload_n 0, 1), (42, .iconst 0, 1), (43, .iconst 0, 1), (44, .iload_n 2, 1), (45, .invokevirtual 53, 3), (48, .return_, 1)]
theorem dX10_split : dChk (pCd 3082) eX10_split = true := by decide +kernel
def fX10_split_41 (N : Nat) (v0 : Nat) (v2 : Int32) (h : pH) : Option (pH) :=
  (fX10_addWord N v0 (0 : Int32) (0 : Int32) v2 h).bind fun h1 =>
  some h1
theorem lX10_split_41 (X : pX) (N d : Nat)  (v0 : Nat) (v2 : Int32) (h : pH) (q : pH) (hf : fX10_split_41 N v0 v2 h = some q) (nv0 : ¬ v0 = 4) : Run X (d + 8) 10 false (pCd 3082) 5 none 41 [(0, .ref v0), (2, .int v2)] [] h 0 0 (none, q, 0, 0) := by
  unfold fX10_split_41 at hf
  refine r_aload_n (dGet dX10_split (j := 23) rfl) nv0 rfl ?_
  refine r_iconst (dGet dX10_split (j := 24) rfl) kI_0 ?_
  refine r_iconst (dGet dX10_split (j := 25) rfl) kI_0 ?_
  refine r_iload_n (dGet dX10_split (j := 26) rfl) rfl ?_
  obtain ⟨h1, eh1, hf⟩ := Option.bind_eq_some_iff.mp hf
  refine r_virtual (dGet dX10_split (j := 27) rfl) L10_53 M38 rfl rfl (Nat.le_of_ble_eq_true rfl) (oX10_addWord eh1) (cX10_addWord X N (d + 7) v0 (0 : Int32) (0 : Int32) v2 h h1 eh1) ?_
  cases hf
  exact r_vret (dGet dX10_split (j := 28) rfl) rfl
def fX10_split_14 (N : Nat) : Nat → Nat → Nat → Int32 → Int32 → Int32 → pH → Option (pH)
  | 0, _, _, _, _, _, _ => none
  | n + 1, v0, v1, v2, v3, v4, h => if (3100 : Int32) ≤ v4 then (
  fX10_split_41 N v0 v2 h) else (
  if v2 ≤ v3 then (
  fX10_split_41 N v0 v2 h) else (
  (fX10_takeWord N v0 v1 v2 v3 h).bind fun q4 =>
  fX10_split_14 N n v0 v1 v2 q4.1 (v4 + (1 : Int32)) q4.2))
theorem lX10_split_14 (X : pX) (N d : Nat)  : ∀ (n : Nat) (v0 : Nat) (v1 : Nat) (v2 : Int32) (v3 : Int32) (v4 : Int32) (h : pH) (q : pH), fX10_split_14 N n v0 v1 v2 v3 v4 h = some q → ¬ v0 = 4 → ¬ v1 = 4 → Run X (d + 8) 10 false (pCd 3082) 5 none 14 [(0, .ref v0), (1, .ref v1), (2, .int v2), (3, .int v3), (4, .int v4)] [] h 0 0 (none, q, 0, 0) := by
  intro n
  induction n with
  | zero => intro v0 v1 v2 v3 v4 h q hf; cases hf
  | succ n ih =>
    intro v0 v1 v2 v3 v4 h q hf nv0 nv1
    unfold fX10_split_14 at hf
    refine r_iload (dGet dX10_split (j := 9) rfl) rfl ?_
    refine r_sipush (dGet dX10_split (j := 10) rfl) kS_3100 ?_
    by_cases c2 : (3100 : Int32) ≤ v4
    · rw [if_pos c2] at hf
      refine r_icmp_ge_t (dGet dX10_split (j := 11) rfl) rfl c2 ?_
      refine Run.weak [(0, .ref v0), (2, .int v2)] (by simp) (by simp [pNd]) ?_
      exact lX10_split_41 X N d v0 v2 h q hf nv0
    · rw [if_neg c2] at hf
      refine r_icmp_ge_f (dGet dX10_split (j := 11) rfl) rfl c2 ?_
      refine r_iload_n (dGet dX10_split (j := 12) rfl) rfl ?_
      refine r_iload_n (dGet dX10_split (j := 13) rfl) rfl ?_
      by_cases c3 : v2 ≤ v3
      · rw [if_pos c3] at hf
        refine r_icmp_ge_t (dGet dX10_split (j := 14) rfl) rfl c3 ?_
        refine Run.weak [(0, .ref v0), (2, .int v2)] (by simp) (by simp [pNd]) ?_
        exact lX10_split_41 X N d v0 v2 h q hf nv0
      · rw [if_neg c3] at hf
        refine r_icmp_ge_f (dGet dX10_split (j := 14) rfl) rfl c3 ?_
        refine r_aload_n (dGet dX10_split (j := 15) rfl) nv0 rfl ?_
        refine r_aload_n (dGet dX10_split (j := 16) rfl) nv1 rfl ?_
        refine r_iload_n (dGet dX10_split (j := 17) rfl) rfl ?_
        refine r_iload_n (dGet dX10_split (j := 18) rfl) rfl ?_
        obtain ⟨q4, eq4, hf⟩ := Option.bind_eq_some_iff.mp hf
        refine r_virtual (dGet dX10_split (j := 19) rfl) L10_49 M34 rfl rfl (Nat.le_of_ble_eq_true rfl) (oX10_takeWord eq4) (cX10_takeWord X N (d + 0) v0 v1 v2 v3 h q4 eq4) ?_
        refine r_istore_n (lv' := [(3, .int q4.1), (0, .ref v0), (1, .ref v1), (2, .int v2), (4, .int v4)]) (dGet dX10_split (j := 20) rfl) (by decide) rfl ?_
        refine r_iinc (lv' := [(4, .int (v4 + (1 : Int32))), (3, .int q4.1), (0, .ref v0), (1, .ref v1), (2, .int v2)]) (dGet dX10_split (j := 21) rfl) rfl (by decide) kI_1 rfl ?_
        refine r_goto (dGet dX10_split (j := 22) rfl) rfl ?_
        refine Run.weak [(0, .ref v0), (1, .ref v1), (2, .int v2), (3, .int q4.1), (4, .int (v4 + (1 : Int32)))] (by simp) (by simp [pNd]) ?_
        exact ih v0 v1 v2 q4.1 (v4 + (1 : Int32)) q4.2 q hf nv0 nv1
def fX10_split (N : Nat) (v0 : Nat) (v1 : Nat) (v2 : Int32) (h : pH) : Option (pH) := if isO h v0 10 = true then (
  (putI h v0 10 3 (0 : Int32)).bind fun h5 =>
  (fX10_nameFixedWords N v0 h5).bind fun h6 =>
  if v1 = 4 then none else
  fX10_split_14 N N v0 v1 v2 (0 : Int32) (0 : Int32) h6) else none
theorem oX10_split {N : Nat} {v0 : Nat} {v1 : Nat} {v2 : Int32} {h : pH} {q : pH} (hf : fX10_split N v0 v1 v2 h = some q) : isO h v0 10 = true := by
  unfold fX10_split at hf
  by_cases hc : isO h v0 10 = true
  · exact hc
  · rw [if_neg hc] at hf; cases hf
theorem cX10_split (X : pX) (N d : Nat) (v0 : Nat) (v1 : Nat) (v2 : Int32) (h : pH) (q : pH) (hf : fX10_split N v0 v1 v2 h = some q) : Calls X (d + 8) 19 [.ref v0, .ref v1, .int v2] h (none, q, 0, 0) := by
  refine Calls.of M19 (Nat.le_of_ble_eq_true rfl) ?_
  show Run X (d + 8) 10 false (pCd 3082) 5 none 0 [(0, .ref v0), (1, .ref v1), (2, .int v2)] [] h 0 0 (none, q, 0, 0)
  unfold fX10_split at hf
  by_cases hc : isO h v0 10 = true
  · rw [if_pos hc] at hf
    have nv0 : ¬ v0 = 4 := isO_ne hc
    refine r_aload_n (dGet dX10_split (j := 0) rfl) nv0 rfl ?_
    refine r_iconst (dGet dX10_split (j := 1) rfl) kI_0 ?_
    obtain ⟨h5, eh5, hf⟩ := Option.bind_eq_some_iff.mp hf
    refine r_putI (dGet dX10_split (j := 2) rfl) F10_42 rfl rfl eh5 ?_
    refine r_aload_n (dGet dX10_split (j := 3) rfl) nv0 rfl ?_
    obtain ⟨h6, eh6, hf⟩ := Option.bind_eq_some_iff.mp hf
    refine r_virtual (dGet dX10_split (j := 4) rfl) L10_46 M20 rfl rfl (Nat.le_of_ble_eq_true rfl) (oX10_nameFixedWords eh6) (cX10_nameFixedWords X N (d + 2) v0 h5 h6 eh6) ?_
    refine r_iconst (dGet dX10_split (j := 5) rfl) kI_0 ?_
    refine r_istore_n (lv' := [(3, .int (0 : Int32)), (0, .ref v0), (1, .ref v1), (2, .int v2)]) (dGet dX10_split (j := 6) rfl) (by decide) rfl ?_
    refine r_iconst (dGet dX10_split (j := 7) rfl) kI_0 ?_
    refine r_istore (lv' := [(4, .int (0 : Int32)), (3, .int (0 : Int32)), (0, .ref v0), (1, .ref v1), (2, .int v2)]) (dGet dX10_split (j := 8) rfl) (by decide) rfl ?_
    by_cases nv1 : v1 = 4
    · rw [if_pos nv1] at hf; cases hf
    rw [if_neg nv1] at hf
    refine Run.weak [(0, .ref v0), (1, .ref v1), (2, .int v2), (3, .int (0 : Int32)), (4, .int (0 : Int32))] (by simp) (by simp [pNd]) ?_
    exact lX10_split_14 X N d N v0 v1 v2 (0 : Int32) (0 : Int32) h6 q hf nv0 nv1
  · rw [if_neg hc] at hf; cases hf
def eX8_give : List (Nat × Instr × Nat) := [(0, .aload_n 0, 1), (1, .getfield 16, 3), (4, .iload_n 1, 1), (5, .iconst 5, 1), (6, .ishr, 1), (7, .dup2, 1), (8, .iaload, 1), (9, .iconst 1, 1), (10, .iload_n 1, 1), (11, .bipush 31, 2), (13, .iand, 1), (14, .ishl, 1), (15, .ior, 1), (16, .iastore, 1), (17, .return_, 1)]
theorem dX8_give : dChk (pCd 5053) eX8_give = true := by decide +kernel
def fX8_give (N : Nat) (v0 : Nat) (v1 : Int32) (h : pH) : Option (pH) := if isO h v0 8 = true then (
  (getR h v0 8 4).bind fun t1 =>
  (ldI h t1 (v1 >>> ((5 : Int32) &&& 31))).bind fun t2 =>
  (stI h t1 (v1 >>> ((5 : Int32) &&& 31)) (t2 ||| ((1 : Int32) <<< ((v1 &&& (31 : Int32)) &&& 31)))).bind fun h3 =>
  some h3) else none
theorem oX8_give {N : Nat} {v0 : Nat} {v1 : Int32} {h : pH} {q : pH} (hf : fX8_give N v0 v1 h = some q) : isO h v0 8 = true := by
  unfold fX8_give at hf
  by_cases hc : isO h v0 8 = true
  · exact hc
  · rw [if_neg hc] at hf; cases hf
theorem cX8_give (X : pX) (N d : Nat) (v0 : Nat) (v1 : Int32) (h : pH) (q : pH) (hf : fX8_give N v0 v1 h = some q) : Calls X (d + 0) 129 [.ref v0, .int v1] h (none, q, 0, 0) := by
  refine Calls.of M129 (Nat.le_of_ble_eq_true rfl) ?_
  show Run X (d + 0) 8 false (pCd 5053) 2 none 0 [(0, .ref v0), (1, .int v1)] [] h 0 0 (none, q, 0, 0)
  unfold fX8_give at hf
  by_cases hc : isO h v0 8 = true
  · rw [if_pos hc] at hf
    have nv0 : ¬ v0 = 4 := isO_ne hc
    refine r_aload_n (dGet dX8_give (j := 0) rfl) nv0 rfl ?_
    obtain ⟨t1, et1, hf⟩ := Option.bind_eq_some_iff.mp hf
    refine r_getR (dGet dX8_give (j := 1) rfl) F8_16 et1 ?_
    refine r_iload_n (dGet dX8_give (j := 2) rfl) rfl ?_
    refine r_iconst (dGet dX8_give (j := 3) rfl) kI_5 ?_
    refine r_ishr (dGet dX8_give (j := 4) rfl) ?_
    refine r_dup2 (dGet dX8_give (j := 5) rfl) rfl rfl ?_
    obtain ⟨t2, et2, hf⟩ := Option.bind_eq_some_iff.mp hf
    refine r_iald (dGet dX8_give (j := 6) rfl) et2 ?_
    refine r_iconst (dGet dX8_give (j := 7) rfl) kI_1 ?_
    refine r_iload_n (dGet dX8_give (j := 8) rfl) rfl ?_
    refine r_bipush (dGet dX8_give (j := 9) rfl) kB_31 ?_
    refine r_iand (dGet dX8_give (j := 10) rfl) ?_
    refine r_ishl (dGet dX8_give (j := 11) rfl) ?_
    refine r_ior (dGet dX8_give (j := 12) rfl) ?_
    obtain ⟨h3, eh3, hf⟩ := Option.bind_eq_some_iff.mp hf
    refine r_iast (dGet dX8_give (j := 13) rfl) eh3 ?_
    cases hf
    exact r_vret (dGet dX8_give (j := 14) rfl) rfl
  · rw [if_neg hc] at hf; cases hf
def eX8_add : List (Nat × Instr × Nat) := [(0, .aload_n 0, 1), (1, .getfield 37, 3), (4, .sipush 1000, 3), (7, .if_icmp .lt 7, 3), (10, .sipush 999, 3), (13, .ireturn, 1), (14, .aload_n 0, 1), (15, .getfield 9, 3), (18, .aload_n 0, 1), (19, .getfield 37, 3), (22, .iload_n 1, 1), (23, .iastore, 1), (24, .aload_n 0, 1), (25, .getfield 13, 3), (28, .aload_n 0, 1), (29, .getfield 37, 3), (32, .iload_n 2, 1), (33, .iastore, 1), (34, .aload_n 0, 1), (35, .getfield 16, 3), (38, .aload_n 0, 1), (39, .getfield 37, 3), (42, .iconst 5, 1), (43, .ishr, 1), (44, .dup2, 1), (45, .iaload, 1), (46, .iconst 1, 1), (47, .aload_n 0, 1), (48, .getfield 37, 3), (51, .bipush 31, 2), (53, .iand, 1), (54, .ishl, 1), (55, .iconst (-1), 1), (56, .ixor, 1), (57, .iand, 1), (58, .iastore, 1), (59, .iload_n 3, 1), (60, .ifCond .eq 11, 3), (63, .aload_n 0, 1), (64, .aload_n 0, 1), (65, .getfield 37, 3), (68, .invokevirtual 53, 3), (71, .aload_n 0, 1), (72, .dup, 1), (73, .getfield 37, 3), (76, .iconst 1, 1), (77, .iadd, 1), (78, .putfield 37, 3), (81, .aload_n 0, 1), (82, .aload_n 0, 1), (83, .getfield 41, 3), (86, .aload_n 0, 1), (87, .getfield 37, 3), (90, .invokestatic 57, 3), (93, .putfield 41, 3), (96, .aload_n 0, 1), (97, .getfield 37, 3), (100, .iconst 1, 1), (101, .isub, 1), (102, .ireturn, 1)]
theorem dX8_add : dChk (pCd 5049) eX8_add = true := by decide +kernel
def fX8_add_71 (N : Nat) (v0 : Nat) (h : pH) : Option (Int32 × pH) :=
  (getI h v0 8 2).bind fun t1 =>
  (putI h v0 8 2 (t1 + (1 : Int32))).bind fun h2 =>
  (getI h2 v0 8 3).bind fun t3 =>
  (getI h2 v0 8 2).bind fun t4 =>
  (putI h2 v0 8 3 (if t3 < t4 then t4 else t3)).bind fun h5 =>
  (getI h5 v0 8 2).bind fun t6 =>
  some ((t6 - (1 : Int32)), h5)
theorem lX8_add_71 (X : pX) (N d : Nat)  (v0 : Nat) (h : pH) (q : Int32 × pH) (hf : fX8_add_71 N v0 h = some q) (nv0 : ¬ v0 = 4) : Run X (d + 1) 8 false (pCd 5049) 4 (some .int) 71 [(0, .ref v0)] [] h 0 0 (some (.int q.1), q.2, 0, 0) := by
  unfold fX8_add_71 at hf
  refine r_aload_n (dGet dX8_add (j := 42) rfl) nv0 rfl ?_
  refine r_dup (dGet dX8_add (j := 43) rfl) rfl ?_
  obtain ⟨t1, et1, hf⟩ := Option.bind_eq_some_iff.mp hf
  refine r_getI (dGet dX8_add (j := 44) rfl) F8_37 et1 ?_
  refine r_iconst (dGet dX8_add (j := 45) rfl) kI_1 ?_
  refine r_iadd (dGet dX8_add (j := 46) rfl) ?_
  obtain ⟨h2, eh2, hf⟩ := Option.bind_eq_some_iff.mp hf
  refine r_putI (dGet dX8_add (j := 47) rfl) F8_37 rfl rfl eh2 ?_
  refine r_aload_n (dGet dX8_add (j := 48) rfl) nv0 rfl ?_
  refine r_aload_n (dGet dX8_add (j := 49) rfl) nv0 rfl ?_
  obtain ⟨t3, et3, hf⟩ := Option.bind_eq_some_iff.mp hf
  refine r_getI (dGet dX8_add (j := 50) rfl) F8_41 et3 ?_
  refine r_aload_n (dGet dX8_add (j := 51) rfl) nv0 rfl ?_
  obtain ⟨t4, et4, hf⟩ := Option.bind_eq_some_iff.mp hf
  refine r_getI (dGet dX8_add (j := 52) rfl) F8_37 et4 ?_
  refine r_max (dGet dX8_add (j := 53) rfl) (by decide +kernel) (by decide +kernel : pFind pMx 8 57 = some (0, 5054)) (Nat.le_of_ble_eq_true rfl) ?_
  obtain ⟨h5, eh5, hf⟩ := Option.bind_eq_some_iff.mp hf
  refine r_putI (dGet dX8_add (j := 54) rfl) F8_41 rfl rfl eh5 ?_
  refine r_aload_n (dGet dX8_add (j := 55) rfl) nv0 rfl ?_
  obtain ⟨t6, et6, hf⟩ := Option.bind_eq_some_iff.mp hf
  refine r_getI (dGet dX8_add (j := 56) rfl) F8_37 et6 ?_
  refine r_iconst (dGet dX8_add (j := 57) rfl) kI_1 ?_
  refine r_isub (dGet dX8_add (j := 58) rfl) ?_
  cases hf
  exact r_iret (dGet dX8_add (j := 59) rfl) rfl rfl
def fX8_add (N : Nat) (v0 : Nat) (v1 : Int32) (v2 : Int32) (v3 : Int32) (h : pH) : Option (Int32 × pH) := if isO h v0 8 = true then (
  (getI h v0 8 2).bind fun t7 =>
  if t7 < (1000 : Int32) then (
  (getR h v0 8 0).bind fun t9 =>
  (getI h v0 8 2).bind fun t10 =>
  (stI h t9 t10 v1).bind fun h11 =>
  (getR h11 v0 8 1).bind fun t12 =>
  (getI h11 v0 8 2).bind fun t13 =>
  (stI h11 t12 t13 v2).bind fun h14 =>
  (getR h14 v0 8 4).bind fun t15 =>
  (getI h14 v0 8 2).bind fun t16 =>
  (ldI h14 t15 (t16 >>> ((5 : Int32) &&& 31))).bind fun t17 =>
  (getI h14 v0 8 2).bind fun t18 =>
  (stI h14 t15 (t16 >>> ((5 : Int32) &&& 31)) (t17 &&& (((1 : Int32) <<< ((t18 &&& (31 : Int32)) &&& 31)) ^^^ (-1 : Int32)))).bind fun h19 =>
  if v3 = 0 then (
  fX8_add_71 N v0 h19) else (
  (getI h19 v0 8 2).bind fun t21 =>
  (fX8_give N v0 t21 h19).bind fun h22 =>
  fX8_add_71 N v0 h22)) else (
  some ((999 : Int32), h))) else none
theorem oX8_add {N : Nat} {v0 : Nat} {v1 : Int32} {v2 : Int32} {v3 : Int32} {h : pH} {q : Int32 × pH} (hf : fX8_add N v0 v1 v2 v3 h = some q) : isO h v0 8 = true := by
  unfold fX8_add at hf
  by_cases hc : isO h v0 8 = true
  · exact hc
  · rw [if_neg hc] at hf; cases hf
theorem cX8_add (X : pX) (N d : Nat) (v0 : Nat) (v1 : Int32) (v2 : Int32) (v3 : Int32) (h : pH) (q : Int32 × pH) (hf : fX8_add N v0 v1 v2 v3 h = some q) : Calls X (d + 1) 128 [.ref v0, .int v1, .int v2, .int v3] h (some (.int q.1), q.2, 0, 0) := by
  refine Calls.of M128 (Nat.le_of_ble_eq_true rfl) ?_
  show Run X (d + 1) 8 false (pCd 5049) 4 (some .int) 0 [(0, .ref v0), (1, .int v1), (2, .int v2), (3, .int v3)] [] h 0 0 (some (.int q.1), q.2, 0, 0)
  unfold fX8_add at hf
  by_cases hc : isO h v0 8 = true
  · rw [if_pos hc] at hf
    have nv0 : ¬ v0 = 4 := isO_ne hc
    refine r_aload_n (dGet dX8_add (j := 0) rfl) nv0 rfl ?_
    obtain ⟨t7, et7, hf⟩ := Option.bind_eq_some_iff.mp hf
    refine r_getI (dGet dX8_add (j := 1) rfl) F8_37 et7 ?_
    refine r_sipush (dGet dX8_add (j := 2) rfl) kS_1000 ?_
    by_cases c8 : t7 < (1000 : Int32)
    · rw [if_pos c8] at hf
      refine r_icmp_lt_t (dGet dX8_add (j := 3) rfl) rfl c8 ?_
      refine r_aload_n (dGet dX8_add (j := 6) rfl) nv0 rfl ?_
      obtain ⟨t9, et9, hf⟩ := Option.bind_eq_some_iff.mp hf
      refine r_getR (dGet dX8_add (j := 7) rfl) F8_9 et9 ?_
      refine r_aload_n (dGet dX8_add (j := 8) rfl) nv0 rfl ?_
      obtain ⟨t10, et10, hf⟩ := Option.bind_eq_some_iff.mp hf
      refine r_getI (dGet dX8_add (j := 9) rfl) F8_37 et10 ?_
      refine r_iload_n (dGet dX8_add (j := 10) rfl) rfl ?_
      obtain ⟨h11, eh11, hf⟩ := Option.bind_eq_some_iff.mp hf
      refine r_iast (dGet dX8_add (j := 11) rfl) eh11 ?_
      refine r_aload_n (dGet dX8_add (j := 12) rfl) nv0 rfl ?_
      obtain ⟨t12, et12, hf⟩ := Option.bind_eq_some_iff.mp hf
      refine r_getR (dGet dX8_add (j := 13) rfl) F8_13 et12 ?_
      refine r_aload_n (dGet dX8_add (j := 14) rfl) nv0 rfl ?_
      obtain ⟨t13, et13, hf⟩ := Option.bind_eq_some_iff.mp hf
      refine r_getI (dGet dX8_add (j := 15) rfl) F8_37 et13 ?_
      refine r_iload_n (dGet dX8_add (j := 16) rfl) rfl ?_
      obtain ⟨h14, eh14, hf⟩ := Option.bind_eq_some_iff.mp hf
      refine r_iast (dGet dX8_add (j := 17) rfl) eh14 ?_
      refine r_aload_n (dGet dX8_add (j := 18) rfl) nv0 rfl ?_
      obtain ⟨t15, et15, hf⟩ := Option.bind_eq_some_iff.mp hf
      refine r_getR (dGet dX8_add (j := 19) rfl) F8_16 et15 ?_
      refine r_aload_n (dGet dX8_add (j := 20) rfl) nv0 rfl ?_
      obtain ⟨t16, et16, hf⟩ := Option.bind_eq_some_iff.mp hf
      refine r_getI (dGet dX8_add (j := 21) rfl) F8_37 et16 ?_
      refine r_iconst (dGet dX8_add (j := 22) rfl) kI_5 ?_
      refine r_ishr (dGet dX8_add (j := 23) rfl) ?_
      refine r_dup2 (dGet dX8_add (j := 24) rfl) rfl rfl ?_
      obtain ⟨t17, et17, hf⟩ := Option.bind_eq_some_iff.mp hf
      refine r_iald (dGet dX8_add (j := 25) rfl) et17 ?_
      refine r_iconst (dGet dX8_add (j := 26) rfl) kI_1 ?_
      refine r_aload_n (dGet dX8_add (j := 27) rfl) nv0 rfl ?_
      obtain ⟨t18, et18, hf⟩ := Option.bind_eq_some_iff.mp hf
      refine r_getI (dGet dX8_add (j := 28) rfl) F8_37 et18 ?_
      refine r_bipush (dGet dX8_add (j := 29) rfl) kB_31 ?_
      refine r_iand (dGet dX8_add (j := 30) rfl) ?_
      refine r_ishl (dGet dX8_add (j := 31) rfl) ?_
      refine r_iconst (dGet dX8_add (j := 32) rfl) kI_m1 ?_
      refine r_ixor (dGet dX8_add (j := 33) rfl) ?_
      refine r_iand (dGet dX8_add (j := 34) rfl) ?_
      obtain ⟨h19, eh19, hf⟩ := Option.bind_eq_some_iff.mp hf
      refine r_iast (dGet dX8_add (j := 35) rfl) eh19 ?_
      refine r_iload_n (dGet dX8_add (j := 36) rfl) rfl ?_
      by_cases c20 : v3 = 0
      · rw [if_pos c20] at hf
        refine r_if_eq_t (dGet dX8_add (j := 37) rfl) rfl c20 ?_
        refine Run.weak [(0, .ref v0)] (by simp) (by simp [pNd]) ?_
        exact lX8_add_71 X N d v0 h19 q hf nv0
      · rw [if_neg c20] at hf
        refine r_if_eq_f (dGet dX8_add (j := 37) rfl) rfl c20 ?_
        refine r_aload_n (dGet dX8_add (j := 38) rfl) nv0 rfl ?_
        refine r_aload_n (dGet dX8_add (j := 39) rfl) nv0 rfl ?_
        obtain ⟨t21, et21, hf⟩ := Option.bind_eq_some_iff.mp hf
        refine r_getI (dGet dX8_add (j := 40) rfl) F8_37 et21 ?_
        obtain ⟨h22, eh22, hf⟩ := Option.bind_eq_some_iff.mp hf
        refine r_virtual (dGet dX8_add (j := 41) rfl) L8_53 M129 rfl rfl (Nat.le_of_ble_eq_true rfl) (oX8_give eh22) (cX8_give X N (d + 0) v0 t21 h19 h22 eh22) ?_
        refine Run.weak [(0, .ref v0)] (by simp) (by simp [pNd]) ?_
        exact lX8_add_71 X N d v0 h22 q hf nv0
    · rw [if_neg c8] at hf
      refine r_icmp_lt_f (dGet dX8_add (j := 3) rfl) rfl c8 ?_
      refine r_sipush (dGet dX8_add (j := 4) rfl) kS_999 ?_
      cases hf
      exact r_iret (dGet dX8_add (j := 5) rfl) rfl rfl
  · rw [if_neg hc] at hf; cases hf
def eX8_clear : List (Nat × Instr × Nat) := [(0, .aload_n 0, 1), (1, .iconst 0, 1), (2, .putfield 37, 3), (5, .aload_n 0, 1), (6, .iconst 0, 1), (7, .putfield 41, 3), (10, .aload_n 0, 1), (11, .iconst 0, 1), (12, .putfield 44, 3), (15, .aload_n 0, 1), (16, .iconst 0, 1), (17, .putfield 47, 3), (20, .return_, 1)]
theorem dX8_clear : dChk (pCd 5043) eX8_clear = true := by decide +kernel
def fX8_clear (N : Nat) (v0 : Nat) (h : pH) : Option (pH) := if isO h v0 8 = true then (
  (putI h v0 8 2 (0 : Int32)).bind fun h1 =>
  (putI h1 v0 8 3 (0 : Int32)).bind fun h2 =>
  (putI h2 v0 8 11 (0 : Int32)).bind fun h3 =>
  (putZ h3 v0 8 5 (0 : Int32)).bind fun h4 =>
  some h4) else none
theorem oX8_clear {N : Nat} {v0 : Nat} {h : pH} {q : pH} (hf : fX8_clear N v0 h = some q) : isO h v0 8 = true := by
  unfold fX8_clear at hf
  by_cases hc : isO h v0 8 = true
  · exact hc
  · rw [if_neg hc] at hf; cases hf
theorem cX8_clear (X : pX) (N d : Nat) (v0 : Nat) (h : pH) (q : pH) (hf : fX8_clear N v0 h = some q) : Calls X (d + 0) 127 [.ref v0] h (none, q, 0, 0) := by
  refine Calls.of M127 (Nat.le_of_ble_eq_true rfl) ?_
  show Run X (d + 0) 8 false (pCd 5043) 1 none 0 [(0, .ref v0)] [] h 0 0 (none, q, 0, 0)
  unfold fX8_clear at hf
  by_cases hc : isO h v0 8 = true
  · rw [if_pos hc] at hf
    have nv0 : ¬ v0 = 4 := isO_ne hc
    refine r_aload_n (dGet dX8_clear (j := 0) rfl) nv0 rfl ?_
    refine r_iconst (dGet dX8_clear (j := 1) rfl) kI_0 ?_
    obtain ⟨h1, eh1, hf⟩ := Option.bind_eq_some_iff.mp hf
    refine r_putI (dGet dX8_clear (j := 2) rfl) F8_37 rfl rfl eh1 ?_
    refine r_aload_n (dGet dX8_clear (j := 3) rfl) nv0 rfl ?_
    refine r_iconst (dGet dX8_clear (j := 4) rfl) kI_0 ?_
    obtain ⟨h2, eh2, hf⟩ := Option.bind_eq_some_iff.mp hf
    refine r_putI (dGet dX8_clear (j := 5) rfl) F8_41 rfl rfl eh2 ?_
    refine r_aload_n (dGet dX8_clear (j := 6) rfl) nv0 rfl ?_
    refine r_iconst (dGet dX8_clear (j := 7) rfl) kI_0 ?_
    obtain ⟨h3, eh3, hf⟩ := Option.bind_eq_some_iff.mp hf
    refine r_putI (dGet dX8_clear (j := 8) rfl) F8_44 rfl rfl eh3 ?_
    refine r_aload_n (dGet dX8_clear (j := 9) rfl) nv0 rfl ?_
    refine r_iconst (dGet dX8_clear (j := 10) rfl) kI_0 ?_
    obtain ⟨h4, eh4, hf⟩ := Option.bind_eq_some_iff.mp hf
    refine r_putZ (dGet dX8_clear (j := 11) rfl) F8_47 rfl rfl eh4 ?_
    cases hf
    exact r_vret (dGet dX8_clear (j := 12) rfl) rfl
  · rw [if_neg hc] at hf; cases hf
def eX8_find : List (Nat × Instr × Nat) := [(0, .iconst 0, 1), (1, .istore_n 2, 1), (2, .iload_n 2, 1), (3, .aload_n 0, 1), (4, .getfield 37, 3), (7, .if_icmp .ge 21, 3), (10, .aload_n 0, 1), (11, .getfield 9, 3), (14, .iload_n 2, 1), (15, .iaload, 1), (16, .iload_n 1, 1), (17, .if_icmp .ne 5, 3), (20, .iload_n 2, 1), (21, .ireturn, 1), (22, .iinc 2 1, 3), (25, .goto (-23), 3), (28, .iconst (-1), 1), (29, .ireturn, 1)]
theorem dX8_find : dChk (pCd 5079) eX8_find = true := by decide +kernel
def fX8_find_2 (N : Nat) : Nat → Nat → Int32 → Int32 → pH → Option (Int32 × pH)
  | 0, _, _, _, _ => none
  | n + 1, v0, v1, v2, h => (getI h v0 8 2).bind fun t1 =>
  if t1 ≤ v2 then (
  some ((-1 : Int32), h)) else (
  (getR h v0 8 0).bind fun t3 =>
  (ldI h t3 v2).bind fun t4 =>
  if t4 = v1 then (
  some (v2, h)) else (
  fX8_find_2 N n v0 v1 (v2 + (1 : Int32)) h))
theorem lX8_find_2 (X : pX) (N d : Nat)  : ∀ (n : Nat) (v0 : Nat) (v1 : Int32) (v2 : Int32) (h : pH) (q : Int32 × pH), fX8_find_2 N n v0 v1 v2 h = some q → ¬ v0 = 4 → Run X (d + 0) 8 false (pCd 5079) 3 (some .int) 2 [(0, .ref v0), (1, .int v1), (2, .int v2)] [] h 0 0 (some (.int q.1), q.2, 0, 0) := by
  intro n
  induction n with
  | zero => intro v0 v1 v2 h q hf; cases hf
  | succ n ih =>
    intro v0 v1 v2 h q hf nv0
    unfold fX8_find_2 at hf
    refine r_iload_n (dGet dX8_find (j := 2) rfl) rfl ?_
    refine r_aload_n (dGet dX8_find (j := 3) rfl) nv0 rfl ?_
    obtain ⟨t1, et1, hf⟩ := Option.bind_eq_some_iff.mp hf
    refine r_getI (dGet dX8_find (j := 4) rfl) F8_37 et1 ?_
    by_cases c2 : t1 ≤ v2
    · rw [if_pos c2] at hf
      refine r_icmp_ge_t (dGet dX8_find (j := 5) rfl) rfl c2 ?_
      refine r_iconst (dGet dX8_find (j := 16) rfl) kI_m1 ?_
      cases hf
      exact r_iret (dGet dX8_find (j := 17) rfl) rfl rfl
    · rw [if_neg c2] at hf
      refine r_icmp_ge_f (dGet dX8_find (j := 5) rfl) rfl c2 ?_
      refine r_aload_n (dGet dX8_find (j := 6) rfl) nv0 rfl ?_
      obtain ⟨t3, et3, hf⟩ := Option.bind_eq_some_iff.mp hf
      refine r_getR (dGet dX8_find (j := 7) rfl) F8_9 et3 ?_
      refine r_iload_n (dGet dX8_find (j := 8) rfl) rfl ?_
      obtain ⟨t4, et4, hf⟩ := Option.bind_eq_some_iff.mp hf
      refine r_iald (dGet dX8_find (j := 9) rfl) et4 ?_
      refine r_iload_n (dGet dX8_find (j := 10) rfl) rfl ?_
      by_cases c5 : t4 = v1
      · rw [if_pos c5] at hf
        refine r_icmp_ne_f (dGet dX8_find (j := 11) rfl) rfl c5 ?_
        refine r_iload_n (dGet dX8_find (j := 12) rfl) rfl ?_
        cases hf
        exact r_iret (dGet dX8_find (j := 13) rfl) rfl rfl
      · rw [if_neg c5] at hf
        refine r_icmp_ne_t (dGet dX8_find (j := 11) rfl) rfl c5 ?_
        refine r_iinc (lv' := [(2, .int (v2 + (1 : Int32))), (0, .ref v0), (1, .int v1)]) (dGet dX8_find (j := 14) rfl) rfl (by decide) kI_1 rfl ?_
        refine r_goto (dGet dX8_find (j := 15) rfl) rfl ?_
        refine Run.weak [(0, .ref v0), (1, .int v1), (2, .int (v2 + (1 : Int32)))] (by simp) (by simp [pNd]) ?_
        exact ih v0 v1 (v2 + (1 : Int32)) h q hf nv0
def fX8_find (N : Nat) (v0 : Nat) (v1 : Int32) (h : pH) : Option (Int32 × pH) := if isO h v0 8 = true then (
  fX8_find_2 N N v0 v1 (0 : Int32) h) else none
theorem oX8_find {N : Nat} {v0 : Nat} {v1 : Int32} {h : pH} {q : Int32 × pH} (hf : fX8_find N v0 v1 h = some q) : isO h v0 8 = true := by
  unfold fX8_find at hf
  by_cases hc : isO h v0 8 = true
  · exact hc
  · rw [if_neg hc] at hf; cases hf
theorem cX8_find (X : pX) (N d : Nat) (v0 : Nat) (v1 : Int32) (h : pH) (q : Int32 × pH) (hf : fX8_find N v0 v1 h = some q) : Calls X (d + 0) 135 [.ref v0, .int v1] h (some (.int q.1), q.2, 0, 0) := by
  refine Calls.of M135 (Nat.le_of_ble_eq_true rfl) ?_
  show Run X (d + 0) 8 false (pCd 5079) 3 (some .int) 0 [(0, .ref v0), (1, .int v1)] [] h 0 0 (some (.int q.1), q.2, 0, 0)
  unfold fX8_find at hf
  by_cases hc : isO h v0 8 = true
  · rw [if_pos hc] at hf
    have nv0 : ¬ v0 = 4 := isO_ne hc
    refine r_iconst (dGet dX8_find (j := 0) rfl) kI_0 ?_
    refine r_istore_n (lv' := [(2, .int (0 : Int32)), (0, .ref v0), (1, .int v1)]) (dGet dX8_find (j := 1) rfl) (by decide) rfl ?_
    refine Run.weak [(0, .ref v0), (1, .int v1), (2, .int (0 : Int32))] (by simp) (by simp [pNd]) ?_
    exact lX8_find_2 X N d N v0 v1 (0 : Int32) h q hf nv0
  · rw [if_neg hc] at hf; cases hf
def eX8_restore : List (Nat × Instr × Nat) := [(0, .aload_n 0, 1), (1, .getfield 21, 3), (4, .aload_n 0, 1), (5, .getfield 44, 3), (8, .iconst 1, 1), (9, .isub, 1), (10, .aaload, 1), (11, .iconst 0, 1), (12, .aload_n 0, 1), (13, .getfield 16, 3), (16, .iconst 0, 1), (17, .bipush 32, 2), (19, .invokestatic 63, 3), (22, .aload_n 0, 1), (23, .aload_n 0, 1), (24, .getfield 27, 3), (27, .aload_n 0, 1), (28, .getfield 44, 3), (31, .iconst 1, 1), (32, .isub, 1), (33, .baload, 1), (34, .putfield 47, 3), (37, .aload_n 0, 1), (38, .aload_n 0, 1), (39, .getfield 34, 3), (42, .aload_n 0, 1), (43, .getfield 44, 3), (46, .iconst 1, 1), (47, .isub, 1), (48, .iaload, 1), (49, .putfield 37, 3), (52, .return_, 1)]
theorem dX8_restore : dChk (pCd 5179) eX8_restore = true := by decide +kernel
def fX8_restore (N : Nat) (v0 : Nat) (h : pH) : Option (pH) := if isO h v0 8 = true then (
  (getR h v0 8 6).bind fun t1 =>
  (getI h v0 8 11).bind fun t2 =>
  (ldA h t1 (t2 - (1 : Int32))).bind fun t3 =>
  (getR h v0 8 4).bind fun t4 =>
  (copyA h t3 (0 : Int32) t4 (0 : Int32) (32 : Int32)).bind fun h5 =>
  (getR h5 v0 8 8).bind fun t6 =>
  (getI h5 v0 8 11).bind fun t7 =>
  (ldZ h5 t6 (t7 - (1 : Int32))).bind fun t8 =>
  (putZ h5 v0 8 5 t8).bind fun h9 =>
  (getR h9 v0 8 10).bind fun t10 =>
  (getI h9 v0 8 11).bind fun t11 =>
  (ldI h9 t10 (t11 - (1 : Int32))).bind fun t12 =>
  (putI h9 v0 8 2 t12).bind fun h13 =>
  some h13) else none
theorem oX8_restore {N : Nat} {v0 : Nat} {h : pH} {q : pH} (hf : fX8_restore N v0 h = some q) : isO h v0 8 = true := by
  unfold fX8_restore at hf
  by_cases hc : isO h v0 8 = true
  · exact hc
  · rw [if_neg hc] at hf; cases hf
theorem cX8_restore (X : pX) (N d : Nat) (v0 : Nat) (h : pH) (q : pH) (hf : fX8_restore N v0 h = some q) : Calls X (d + 1) 159 [.ref v0] h (none, q, 0, 0) := by
  refine Calls.of M159 (Nat.le_of_ble_eq_true rfl) ?_
  show Run X (d + 1) 8 false (pCd 5179) 1 none 0 [(0, .ref v0)] [] h 0 0 (none, q, 0, 0)
  unfold fX8_restore at hf
  by_cases hc : isO h v0 8 = true
  · rw [if_pos hc] at hf
    have nv0 : ¬ v0 = 4 := isO_ne hc
    refine r_aload_n (dGet dX8_restore (j := 0) rfl) nv0 rfl ?_
    obtain ⟨t1, et1, hf⟩ := Option.bind_eq_some_iff.mp hf
    refine r_getR (dGet dX8_restore (j := 1) rfl) F8_21 et1 ?_
    refine r_aload_n (dGet dX8_restore (j := 2) rfl) nv0 rfl ?_
    obtain ⟨t2, et2, hf⟩ := Option.bind_eq_some_iff.mp hf
    refine r_getI (dGet dX8_restore (j := 3) rfl) F8_44 et2 ?_
    refine r_iconst (dGet dX8_restore (j := 4) rfl) kI_1 ?_
    refine r_isub (dGet dX8_restore (j := 5) rfl) ?_
    obtain ⟨t3, et3, hf⟩ := Option.bind_eq_some_iff.mp hf
    refine r_aald (dGet dX8_restore (j := 6) rfl) et3 ?_
    refine r_iconst (dGet dX8_restore (j := 7) rfl) kI_0 ?_
    refine r_aload_n (dGet dX8_restore (j := 8) rfl) nv0 rfl ?_
    obtain ⟨t4, et4, hf⟩ := Option.bind_eq_some_iff.mp hf
    refine r_getR (dGet dX8_restore (j := 9) rfl) F8_16 et4 ?_
    refine r_iconst (dGet dX8_restore (j := 10) rfl) kI_0 ?_
    refine r_bipush (dGet dX8_restore (j := 11) rfl) kB_32 ?_
    obtain ⟨h5, eh5, hf⟩ := Option.bind_eq_some_iff.mp hf
    refine r_copy (dGet dX8_restore (j := 12) rfl) (by decide +kernel : pFind pAc 8 63 = some 5161) (Nat.le_of_ble_eq_true rfl) eh5 ?_
    refine r_aload_n (dGet dX8_restore (j := 13) rfl) nv0 rfl ?_
    refine r_aload_n (dGet dX8_restore (j := 14) rfl) nv0 rfl ?_
    obtain ⟨t6, et6, hf⟩ := Option.bind_eq_some_iff.mp hf
    refine r_getR (dGet dX8_restore (j := 15) rfl) F8_27 et6 ?_
    refine r_aload_n (dGet dX8_restore (j := 16) rfl) nv0 rfl ?_
    obtain ⟨t7, et7, hf⟩ := Option.bind_eq_some_iff.mp hf
    refine r_getI (dGet dX8_restore (j := 17) rfl) F8_44 et7 ?_
    refine r_iconst (dGet dX8_restore (j := 18) rfl) kI_1 ?_
    refine r_isub (dGet dX8_restore (j := 19) rfl) ?_
    obtain ⟨t8, et8, hf⟩ := Option.bind_eq_some_iff.mp hf
    refine r_zald (dGet dX8_restore (j := 20) rfl) et8 ?_
    obtain ⟨h9, eh9, hf⟩ := Option.bind_eq_some_iff.mp hf
    refine r_putZ (dGet dX8_restore (j := 21) rfl) F8_47 rfl rfl eh9 ?_
    refine r_aload_n (dGet dX8_restore (j := 22) rfl) nv0 rfl ?_
    refine r_aload_n (dGet dX8_restore (j := 23) rfl) nv0 rfl ?_
    obtain ⟨t10, et10, hf⟩ := Option.bind_eq_some_iff.mp hf
    refine r_getR (dGet dX8_restore (j := 24) rfl) F8_34 et10 ?_
    refine r_aload_n (dGet dX8_restore (j := 25) rfl) nv0 rfl ?_
    obtain ⟨t11, et11, hf⟩ := Option.bind_eq_some_iff.mp hf
    refine r_getI (dGet dX8_restore (j := 26) rfl) F8_44 et11 ?_
    refine r_iconst (dGet dX8_restore (j := 27) rfl) kI_1 ?_
    refine r_isub (dGet dX8_restore (j := 28) rfl) ?_
    obtain ⟨t12, et12, hf⟩ := Option.bind_eq_some_iff.mp hf
    refine r_iald (dGet dX8_restore (j := 29) rfl) et12 ?_
    obtain ⟨h13, eh13, hf⟩ := Option.bind_eq_some_iff.mp hf
    refine r_putI (dGet dX8_restore (j := 30) rfl) F8_37 rfl rfl eh13 ?_
    cases hf
    exact r_vret (dGet dX8_restore (j := 31) rfl) rfl
  · rw [if_neg hc] at hf; cases hf
def eX8_leave : List (Nat × Instr × Nat) := [(0, .aload_n 0, 1), (1, .getfield 44, 3), (4, .ifCond .le 17, 3), (7, .aload_n 0, 1), (8, .invokevirtual 69, 3), (11, .aload_n 0, 1), (12, .dup, 1), (13, .getfield 44, 3), (16, .iconst 1, 1), (17, .isub, 1), (18, .putfield 44, 3), (21, .return_, 1)]
theorem dX8_leave : dChk (pCd 5183) eX8_leave = true := by decide +kernel
def fX8_leave (N : Nat) (v0 : Nat) (h : pH) : Option (pH) := if isO h v0 8 = true then (
  (getI h v0 8 11).bind fun t1 =>
  if t1 ≤ 0 then (
  some h) else (
  (fX8_restore N v0 h).bind fun h3 =>
  (getI h3 v0 8 11).bind fun t4 =>
  (putI h3 v0 8 11 (t4 - (1 : Int32))).bind fun h5 =>
  some h5)) else none
theorem oX8_leave {N : Nat} {v0 : Nat} {h : pH} {q : pH} (hf : fX8_leave N v0 h = some q) : isO h v0 8 = true := by
  unfold fX8_leave at hf
  by_cases hc : isO h v0 8 = true
  · exact hc
  · rw [if_neg hc] at hf; cases hf
theorem cX8_leave (X : pX) (N d : Nat) (v0 : Nat) (h : pH) (q : pH) (hf : fX8_leave N v0 h = some q) : Calls X (d + 2) 160 [.ref v0] h (none, q, 0, 0) := by
  refine Calls.of M160 (Nat.le_of_ble_eq_true rfl) ?_
  show Run X (d + 2) 8 false (pCd 5183) 1 none 0 [(0, .ref v0)] [] h 0 0 (none, q, 0, 0)
  unfold fX8_leave at hf
  by_cases hc : isO h v0 8 = true
  · rw [if_pos hc] at hf
    have nv0 : ¬ v0 = 4 := isO_ne hc
    refine r_aload_n (dGet dX8_leave (j := 0) rfl) nv0 rfl ?_
    obtain ⟨t1, et1, hf⟩ := Option.bind_eq_some_iff.mp hf
    refine r_getI (dGet dX8_leave (j := 1) rfl) F8_44 et1 ?_
    by_cases c2 : t1 ≤ 0
    · rw [if_pos c2] at hf
      refine r_if_le_t (dGet dX8_leave (j := 2) rfl) rfl c2 ?_
      cases hf
      exact r_vret (dGet dX8_leave (j := 11) rfl) rfl
    · rw [if_neg c2] at hf
      refine r_if_le_f (dGet dX8_leave (j := 2) rfl) rfl c2 ?_
      refine r_aload_n (dGet dX8_leave (j := 3) rfl) nv0 rfl ?_
      obtain ⟨h3, eh3, hf⟩ := Option.bind_eq_some_iff.mp hf
      refine r_virtual (dGet dX8_leave (j := 4) rfl) L8_69 M159 rfl rfl (Nat.le_of_ble_eq_true rfl) (oX8_restore eh3) (cX8_restore X N (d + 0) v0 h h3 eh3) ?_
      refine r_aload_n (dGet dX8_leave (j := 5) rfl) nv0 rfl ?_
      refine r_dup (dGet dX8_leave (j := 6) rfl) rfl ?_
      obtain ⟨t4, et4, hf⟩ := Option.bind_eq_some_iff.mp hf
      refine r_getI (dGet dX8_leave (j := 7) rfl) F8_44 et4 ?_
      refine r_iconst (dGet dX8_leave (j := 8) rfl) kI_1 ?_
      refine r_isub (dGet dX8_leave (j := 9) rfl) ?_
      obtain ⟨h5, eh5, hf⟩ := Option.bind_eq_some_iff.mp hf
      refine r_putI (dGet dX8_leave (j := 10) rfl) F8_44 rfl rfl eh5 ?_
      cases hf
      exact r_vret (dGet dX8_leave (j := 11) rfl) rfl
  · rw [if_neg hc] at hf; cases hf
def eX8_merge : List (Nat × Instr × Nat) := [(0, .aload_n 0, 1), (1, .getfield 44, 3), (4, .ifCond .ne 4, 3), (7, .return_, 1), (8, .aload_n 0, 1), (9, .dup, 1), (10, .getfield 44, 3), (13, .iconst 1, 1), (14, .isub, 1), (15, .putfield 44, 3), (18, .aload_n 0, 1), (19, .aload_n 0, 1), (20, .getfield 34, 3), (23, .aload_n 0, 1), (24, .getfield 44, 3), (27, .iaload, 1), (28, .putfield 37, 3), (31, .aload_n 0, 1), (32, .getfield 47, 3), (35, .ifCond .eq 39, 3), (38, .aload_n 0, 1), (39, .getfield 24, 3), (42, .aload_n 0, 1), (43, .getfield 44, 3), (46, .aaload, 1), (47, .iconst 0, 1), (48, .aload_n 0, 1), (49, .getfield 16, 3), (52, .iconst 0, 1), (53, .bipush 32, 2), (55, .invokestatic 63, 3), (58, .aload_n 0, 1), (59, .aload_n 0, 1), (60, .getfield 31, 3), (63, .aload_n 0, 1), (64, .getfield 44, 3), (67, .baload, 1), (68, .putfield 47, 3), (71, .goto 49, 3), (74, .aload_n 0, 1), (75, .getfield 31, 3), (78, .aload_n 0, 1), (79, .getfield 44, 3), (82, .baload, 1), (83, .ifCond .ne 37, 3), (86, .iconst 0, 1), (87, .istore_n 1, 1), (88, .iload_n 1, 1), (89, .bipush 32, 2), (91, .if_icmp .ge 29, 3), (94, .aload_n 0, 1), (95, .getfield 16, 3), (98, .iload_n 1, 1), (99, .dup2, 1), (100, .iaload, 1), (101, .aload_n 0, 1), (102, .getfield 24, 3), (105, .aload_n 0, 1), (106, .getfield 44, 3), (109, .aaload, 1), (110, .iload_n 1, 1), (111, .iaload, 1), (112, .iand, 1), (113, .iastore, 1), (114, .iinc 1 1, 3), (117, .goto (-29), 3), (120, .return_, 1)]
theorem dX8_merge : dChk (pCd 5187) eX8_merge = true := by decide +kernel
def fX8_merge_88 (N : Nat) : Nat → Nat → Int32 → pH → Option (pH)
  | 0, _, _, _ => none
  | n + 1, v0, v1, h => if (32 : Int32) ≤ v1 then (
  some h) else (
  (getR h v0 8 4).bind fun t2 =>
  (ldI h t2 v1).bind fun t3 =>
  (getR h v0 8 7).bind fun t4 =>
  (getI h v0 8 11).bind fun t5 =>
  (ldA h t4 t5).bind fun t6 =>
  (ldI h t6 v1).bind fun t7 =>
  (stI h t2 v1 (t3 &&& t7)).bind fun h8 =>
  fX8_merge_88 N n v0 (v1 + (1 : Int32)) h8)
theorem lX8_merge_88 (X : pX) (N d : Nat)  : ∀ (n : Nat) (v0 : Nat) (v1 : Int32) (h : pH) (q : pH), fX8_merge_88 N n v0 v1 h = some q → ¬ v0 = 4 → Run X (d + 1) 8 false (pCd 5187) 2 none 88 [(0, .ref v0), (1, .int v1)] [] h 0 0 (none, q, 0, 0) := by
  intro n
  induction n with
  | zero => intro v0 v1 h q hf; cases hf
  | succ n ih =>
    intro v0 v1 h q hf nv0
    unfold fX8_merge_88 at hf
    refine r_iload_n (dGet dX8_merge (j := 47) rfl) rfl ?_
    refine r_bipush (dGet dX8_merge (j := 48) rfl) kB_32 ?_
    by_cases c1 : (32 : Int32) ≤ v1
    · rw [if_pos c1] at hf
      refine r_icmp_ge_t (dGet dX8_merge (j := 49) rfl) rfl c1 ?_
      cases hf
      exact r_vret (dGet dX8_merge (j := 66) rfl) rfl
    · rw [if_neg c1] at hf
      refine r_icmp_ge_f (dGet dX8_merge (j := 49) rfl) rfl c1 ?_
      refine r_aload_n (dGet dX8_merge (j := 50) rfl) nv0 rfl ?_
      obtain ⟨t2, et2, hf⟩ := Option.bind_eq_some_iff.mp hf
      refine r_getR (dGet dX8_merge (j := 51) rfl) F8_16 et2 ?_
      refine r_iload_n (dGet dX8_merge (j := 52) rfl) rfl ?_
      refine r_dup2 (dGet dX8_merge (j := 53) rfl) rfl rfl ?_
      obtain ⟨t3, et3, hf⟩ := Option.bind_eq_some_iff.mp hf
      refine r_iald (dGet dX8_merge (j := 54) rfl) et3 ?_
      refine r_aload_n (dGet dX8_merge (j := 55) rfl) nv0 rfl ?_
      obtain ⟨t4, et4, hf⟩ := Option.bind_eq_some_iff.mp hf
      refine r_getR (dGet dX8_merge (j := 56) rfl) F8_24 et4 ?_
      refine r_aload_n (dGet dX8_merge (j := 57) rfl) nv0 rfl ?_
      obtain ⟨t5, et5, hf⟩ := Option.bind_eq_some_iff.mp hf
      refine r_getI (dGet dX8_merge (j := 58) rfl) F8_44 et5 ?_
      obtain ⟨t6, et6, hf⟩ := Option.bind_eq_some_iff.mp hf
      refine r_aald (dGet dX8_merge (j := 59) rfl) et6 ?_
      refine r_iload_n (dGet dX8_merge (j := 60) rfl) rfl ?_
      obtain ⟨t7, et7, hf⟩ := Option.bind_eq_some_iff.mp hf
      refine r_iald (dGet dX8_merge (j := 61) rfl) et7 ?_
      refine r_iand (dGet dX8_merge (j := 62) rfl) ?_
      obtain ⟨h8, eh8, hf⟩ := Option.bind_eq_some_iff.mp hf
      refine r_iast (dGet dX8_merge (j := 63) rfl) eh8 ?_
      refine r_iinc (lv' := [(1, .int (v1 + (1 : Int32))), (0, .ref v0)]) (dGet dX8_merge (j := 64) rfl) rfl (by decide) kI_1 rfl ?_
      refine r_goto (dGet dX8_merge (j := 65) rfl) rfl ?_
      refine Run.weak [(0, .ref v0), (1, .int (v1 + (1 : Int32)))] (by simp) (by simp [pNd]) ?_
      exact ih v0 (v1 + (1 : Int32)) h8 q hf nv0
def fX8_merge (N : Nat) (v0 : Nat) (h : pH) : Option (pH) := if isO h v0 8 = true then (
  (getI h v0 8 11).bind fun t9 =>
  if t9 = 0 then (
  some h) else (
  (getI h v0 8 11).bind fun t11 =>
  (putI h v0 8 11 (t11 - (1 : Int32))).bind fun h12 =>
  (getR h12 v0 8 10).bind fun t13 =>
  (getI h12 v0 8 11).bind fun t14 =>
  (ldI h12 t13 t14).bind fun t15 =>
  (putI h12 v0 8 2 t15).bind fun h16 =>
  (getI h16 v0 8 5).bind fun t17 =>
  if t17 = 0 then (
  (getR h16 v0 8 9).bind fun t19 =>
  (getI h16 v0 8 11).bind fun t20 =>
  (ldZ h16 t19 t20).bind fun t21 =>
  if t21 = 0 then (
  fX8_merge_88 N N v0 (0 : Int32) h16) else (
  some h16)) else (
  (getR h16 v0 8 7).bind fun t23 =>
  (getI h16 v0 8 11).bind fun t24 =>
  (ldA h16 t23 t24).bind fun t25 =>
  (getR h16 v0 8 4).bind fun t26 =>
  (copyA h16 t25 (0 : Int32) t26 (0 : Int32) (32 : Int32)).bind fun h27 =>
  (getR h27 v0 8 9).bind fun t28 =>
  (getI h27 v0 8 11).bind fun t29 =>
  (ldZ h27 t28 t29).bind fun t30 =>
  (putZ h27 v0 8 5 t30).bind fun h31 =>
  some h31))) else none
theorem oX8_merge {N : Nat} {v0 : Nat} {h : pH} {q : pH} (hf : fX8_merge N v0 h = some q) : isO h v0 8 = true := by
  unfold fX8_merge at hf
  by_cases hc : isO h v0 8 = true
  · exact hc
  · rw [if_neg hc] at hf; cases hf
theorem cX8_merge (X : pX) (N d : Nat) (v0 : Nat) (h : pH) (q : pH) (hf : fX8_merge N v0 h = some q) : Calls X (d + 1) 161 [.ref v0] h (none, q, 0, 0) := by
  refine Calls.of M161 (Nat.le_of_ble_eq_true rfl) ?_
  show Run X (d + 1) 8 false (pCd 5187) 2 none 0 [(0, .ref v0)] [] h 0 0 (none, q, 0, 0)
  unfold fX8_merge at hf
  by_cases hc : isO h v0 8 = true
  · rw [if_pos hc] at hf
    have nv0 : ¬ v0 = 4 := isO_ne hc
    refine r_aload_n (dGet dX8_merge (j := 0) rfl) nv0 rfl ?_
    obtain ⟨t9, et9, hf⟩ := Option.bind_eq_some_iff.mp hf
    refine r_getI (dGet dX8_merge (j := 1) rfl) F8_44 et9 ?_
    by_cases c10 : t9 = 0
    · rw [if_pos c10] at hf
      refine r_if_ne_f (dGet dX8_merge (j := 2) rfl) rfl c10 ?_
      cases hf
      exact r_vret (dGet dX8_merge (j := 3) rfl) rfl
    · rw [if_neg c10] at hf
      refine r_if_ne_t (dGet dX8_merge (j := 2) rfl) rfl c10 ?_
      refine r_aload_n (dGet dX8_merge (j := 4) rfl) nv0 rfl ?_
      refine r_dup (dGet dX8_merge (j := 5) rfl) rfl ?_
      obtain ⟨t11, et11, hf⟩ := Option.bind_eq_some_iff.mp hf
      refine r_getI (dGet dX8_merge (j := 6) rfl) F8_44 et11 ?_
      refine r_iconst (dGet dX8_merge (j := 7) rfl) kI_1 ?_
      refine r_isub (dGet dX8_merge (j := 8) rfl) ?_
      obtain ⟨h12, eh12, hf⟩ := Option.bind_eq_some_iff.mp hf
      refine r_putI (dGet dX8_merge (j := 9) rfl) F8_44 rfl rfl eh12 ?_
      refine r_aload_n (dGet dX8_merge (j := 10) rfl) nv0 rfl ?_
      refine r_aload_n (dGet dX8_merge (j := 11) rfl) nv0 rfl ?_
      obtain ⟨t13, et13, hf⟩ := Option.bind_eq_some_iff.mp hf
      refine r_getR (dGet dX8_merge (j := 12) rfl) F8_34 et13 ?_
      refine r_aload_n (dGet dX8_merge (j := 13) rfl) nv0 rfl ?_
      obtain ⟨t14, et14, hf⟩ := Option.bind_eq_some_iff.mp hf
      refine r_getI (dGet dX8_merge (j := 14) rfl) F8_44 et14 ?_
      obtain ⟨t15, et15, hf⟩ := Option.bind_eq_some_iff.mp hf
      refine r_iald (dGet dX8_merge (j := 15) rfl) et15 ?_
      obtain ⟨h16, eh16, hf⟩ := Option.bind_eq_some_iff.mp hf
      refine r_putI (dGet dX8_merge (j := 16) rfl) F8_37 rfl rfl eh16 ?_
      refine r_aload_n (dGet dX8_merge (j := 17) rfl) nv0 rfl ?_
      obtain ⟨t17, et17, hf⟩ := Option.bind_eq_some_iff.mp hf
      refine r_getI (dGet dX8_merge (j := 18) rfl) F8_47 et17 ?_
      by_cases c18 : t17 = 0
      · rw [if_pos c18] at hf
        refine r_if_eq_t (dGet dX8_merge (j := 19) rfl) rfl c18 ?_
        refine r_aload_n (dGet dX8_merge (j := 39) rfl) nv0 rfl ?_
        obtain ⟨t19, et19, hf⟩ := Option.bind_eq_some_iff.mp hf
        refine r_getR (dGet dX8_merge (j := 40) rfl) F8_31 et19 ?_
        refine r_aload_n (dGet dX8_merge (j := 41) rfl) nv0 rfl ?_
        obtain ⟨t20, et20, hf⟩ := Option.bind_eq_some_iff.mp hf
        refine r_getI (dGet dX8_merge (j := 42) rfl) F8_44 et20 ?_
        obtain ⟨t21, et21, hf⟩ := Option.bind_eq_some_iff.mp hf
        refine r_zald (dGet dX8_merge (j := 43) rfl) et21 ?_
        by_cases c22 : t21 = 0
        · rw [if_pos c22] at hf
          refine r_if_ne_f (dGet dX8_merge (j := 44) rfl) rfl c22 ?_
          refine r_iconst (dGet dX8_merge (j := 45) rfl) kI_0 ?_
          refine r_istore_n (lv' := [(1, .int (0 : Int32)), (0, .ref v0)]) (dGet dX8_merge (j := 46) rfl) (by decide) rfl ?_
          refine Run.weak [(0, .ref v0), (1, .int (0 : Int32))] (by simp) (by simp [pNd]) ?_
          exact lX8_merge_88 X N d N v0 (0 : Int32) h16 q hf nv0
        · rw [if_neg c22] at hf
          refine r_if_ne_t (dGet dX8_merge (j := 44) rfl) rfl c22 ?_
          cases hf
          exact r_vret (dGet dX8_merge (j := 66) rfl) rfl
      · rw [if_neg c18] at hf
        refine r_if_eq_f (dGet dX8_merge (j := 19) rfl) rfl c18 ?_
        refine r_aload_n (dGet dX8_merge (j := 20) rfl) nv0 rfl ?_
        obtain ⟨t23, et23, hf⟩ := Option.bind_eq_some_iff.mp hf
        refine r_getR (dGet dX8_merge (j := 21) rfl) F8_24 et23 ?_
        refine r_aload_n (dGet dX8_merge (j := 22) rfl) nv0 rfl ?_
        obtain ⟨t24, et24, hf⟩ := Option.bind_eq_some_iff.mp hf
        refine r_getI (dGet dX8_merge (j := 23) rfl) F8_44 et24 ?_
        obtain ⟨t25, et25, hf⟩ := Option.bind_eq_some_iff.mp hf
        refine r_aald (dGet dX8_merge (j := 24) rfl) et25 ?_
        refine r_iconst (dGet dX8_merge (j := 25) rfl) kI_0 ?_
        refine r_aload_n (dGet dX8_merge (j := 26) rfl) nv0 rfl ?_
        obtain ⟨t26, et26, hf⟩ := Option.bind_eq_some_iff.mp hf
        refine r_getR (dGet dX8_merge (j := 27) rfl) F8_16 et26 ?_
        refine r_iconst (dGet dX8_merge (j := 28) rfl) kI_0 ?_
        refine r_bipush (dGet dX8_merge (j := 29) rfl) kB_32 ?_
        obtain ⟨h27, eh27, hf⟩ := Option.bind_eq_some_iff.mp hf
        refine r_copy (dGet dX8_merge (j := 30) rfl) (by decide +kernel : pFind pAc 8 63 = some 5161) (Nat.le_of_ble_eq_true rfl) eh27 ?_
        refine r_aload_n (dGet dX8_merge (j := 31) rfl) nv0 rfl ?_
        refine r_aload_n (dGet dX8_merge (j := 32) rfl) nv0 rfl ?_
        obtain ⟨t28, et28, hf⟩ := Option.bind_eq_some_iff.mp hf
        refine r_getR (dGet dX8_merge (j := 33) rfl) F8_31 et28 ?_
        refine r_aload_n (dGet dX8_merge (j := 34) rfl) nv0 rfl ?_
        obtain ⟨t29, et29, hf⟩ := Option.bind_eq_some_iff.mp hf
        refine r_getI (dGet dX8_merge (j := 35) rfl) F8_44 et29 ?_
        obtain ⟨t30, et30, hf⟩ := Option.bind_eq_some_iff.mp hf
        refine r_zald (dGet dX8_merge (j := 36) rfl) et30 ?_
        obtain ⟨h31, eh31, hf⟩ := Option.bind_eq_some_iff.mp hf
        refine r_putZ (dGet dX8_merge (j := 37) rfl) F8_47 rfl rfl eh31 ?_
        refine r_goto (dGet dX8_merge (j := 38) rfl) rfl ?_
        cases hf
        exact r_vret (dGet dX8_merge (j := 66) rfl) rfl
  · rw [if_neg hc] at hf; cases hf
def eX8_open : List (Nat × Instr × Nat) := [(0, .aload_n 0, 1), (1, .getfield 44, 3), (4, .bipush 32, 2), (6, .if_icmp .ge 59, 3), (9, .aload_n 0, 1), (10, .getfield 16, 3), (13, .iconst 0, 1), (14, .aload_n 0, 1), (15, .getfield 21, 3), (18, .aload_n 0, 1), (19, .getfield 44, 3), (22, .aaload, 1), (23, .iconst 0, 1), (24, .bipush 32, 2), (26, .invokestatic 63, 3), (29, .aload_n 0, 1), (30, .getfield 27, 3), (33, .aload_n 0, 1), (34, .getfield 44, 3), (37, .aload_n 0, 1), (38, .getfield 47, 3), (41, .bastore, 1), (42, .aload_n 0, 1), (43, .getfield 34, 3), (46, .aload_n 0, 1), (47, .getfield 44, 3), (50, .aload_n 0, 1), (51, .getfield 37, 3), (54, .iastore, 1), (55, .aload_n 0, 1), (56, .dup, 1), (57, .getfield 44, 3), (60, .iconst 1, 1), (61, .iadd, 1), (62, .putfield 44, 3), (65, .return_, 1)]
theorem dX8_open : dChk (pCd 5160) eX8_open = true := by decide +kernel
def fX8_open (N : Nat) (v0 : Nat) (h : pH) : Option (pH) := if isO h v0 8 = true then (
  (getI h v0 8 11).bind fun t1 =>
  if (32 : Int32) ≤ t1 then (
  some h) else (
  (getR h v0 8 4).bind fun t3 =>
  (getR h v0 8 6).bind fun t4 =>
  (getI h v0 8 11).bind fun t5 =>
  (ldA h t4 t5).bind fun t6 =>
  (copyA h t3 (0 : Int32) t6 (0 : Int32) (32 : Int32)).bind fun h7 =>
  (getR h7 v0 8 8).bind fun t8 =>
  (getI h7 v0 8 11).bind fun t9 =>
  (getI h7 v0 8 5).bind fun t10 =>
  (stZ h7 t8 t9 t10).bind fun h11 =>
  (getR h11 v0 8 10).bind fun t12 =>
  (getI h11 v0 8 11).bind fun t13 =>
  (getI h11 v0 8 2).bind fun t14 =>
  (stI h11 t12 t13 t14).bind fun h15 =>
  (getI h15 v0 8 11).bind fun t16 =>
  (putI h15 v0 8 11 (t16 + (1 : Int32))).bind fun h17 =>
  some h17)) else none
theorem oX8_open {N : Nat} {v0 : Nat} {h : pH} {q : pH} (hf : fX8_open N v0 h = some q) : isO h v0 8 = true := by
  unfold fX8_open at hf
  by_cases hc : isO h v0 8 = true
  · exact hc
  · rw [if_neg hc] at hf; cases hf
theorem cX8_open (X : pX) (N d : Nat) (v0 : Nat) (h : pH) (q : pH) (hf : fX8_open N v0 h = some q) : Calls X (d + 1) 155 [.ref v0] h (none, q, 0, 0) := by
  refine Calls.of M155 (Nat.le_of_ble_eq_true rfl) ?_
  show Run X (d + 1) 8 false (pCd 5160) 1 none 0 [(0, .ref v0)] [] h 0 0 (none, q, 0, 0)
  unfold fX8_open at hf
  by_cases hc : isO h v0 8 = true
  · rw [if_pos hc] at hf
    have nv0 : ¬ v0 = 4 := isO_ne hc
    refine r_aload_n (dGet dX8_open (j := 0) rfl) nv0 rfl ?_
    obtain ⟨t1, et1, hf⟩ := Option.bind_eq_some_iff.mp hf
    refine r_getI (dGet dX8_open (j := 1) rfl) F8_44 et1 ?_
    refine r_bipush (dGet dX8_open (j := 2) rfl) kB_32 ?_
    by_cases c2 : (32 : Int32) ≤ t1
    · rw [if_pos c2] at hf
      refine r_icmp_ge_t (dGet dX8_open (j := 3) rfl) rfl c2 ?_
      cases hf
      exact r_vret (dGet dX8_open (j := 35) rfl) rfl
    · rw [if_neg c2] at hf
      refine r_icmp_ge_f (dGet dX8_open (j := 3) rfl) rfl c2 ?_
      refine r_aload_n (dGet dX8_open (j := 4) rfl) nv0 rfl ?_
      obtain ⟨t3, et3, hf⟩ := Option.bind_eq_some_iff.mp hf
      refine r_getR (dGet dX8_open (j := 5) rfl) F8_16 et3 ?_
      refine r_iconst (dGet dX8_open (j := 6) rfl) kI_0 ?_
      refine r_aload_n (dGet dX8_open (j := 7) rfl) nv0 rfl ?_
      obtain ⟨t4, et4, hf⟩ := Option.bind_eq_some_iff.mp hf
      refine r_getR (dGet dX8_open (j := 8) rfl) F8_21 et4 ?_
      refine r_aload_n (dGet dX8_open (j := 9) rfl) nv0 rfl ?_
      obtain ⟨t5, et5, hf⟩ := Option.bind_eq_some_iff.mp hf
      refine r_getI (dGet dX8_open (j := 10) rfl) F8_44 et5 ?_
      obtain ⟨t6, et6, hf⟩ := Option.bind_eq_some_iff.mp hf
      refine r_aald (dGet dX8_open (j := 11) rfl) et6 ?_
      refine r_iconst (dGet dX8_open (j := 12) rfl) kI_0 ?_
      refine r_bipush (dGet dX8_open (j := 13) rfl) kB_32 ?_
      obtain ⟨h7, eh7, hf⟩ := Option.bind_eq_some_iff.mp hf
      refine r_copy (dGet dX8_open (j := 14) rfl) (by decide +kernel : pFind pAc 8 63 = some 5161) (Nat.le_of_ble_eq_true rfl) eh7 ?_
      refine r_aload_n (dGet dX8_open (j := 15) rfl) nv0 rfl ?_
      obtain ⟨t8, et8, hf⟩ := Option.bind_eq_some_iff.mp hf
      refine r_getR (dGet dX8_open (j := 16) rfl) F8_27 et8 ?_
      refine r_aload_n (dGet dX8_open (j := 17) rfl) nv0 rfl ?_
      obtain ⟨t9, et9, hf⟩ := Option.bind_eq_some_iff.mp hf
      refine r_getI (dGet dX8_open (j := 18) rfl) F8_44 et9 ?_
      refine r_aload_n (dGet dX8_open (j := 19) rfl) nv0 rfl ?_
      obtain ⟨t10, et10, hf⟩ := Option.bind_eq_some_iff.mp hf
      refine r_getI (dGet dX8_open (j := 20) rfl) F8_47 et10 ?_
      obtain ⟨h11, eh11, hf⟩ := Option.bind_eq_some_iff.mp hf
      refine r_zast (dGet dX8_open (j := 21) rfl) eh11 ?_
      refine r_aload_n (dGet dX8_open (j := 22) rfl) nv0 rfl ?_
      obtain ⟨t12, et12, hf⟩ := Option.bind_eq_some_iff.mp hf
      refine r_getR (dGet dX8_open (j := 23) rfl) F8_34 et12 ?_
      refine r_aload_n (dGet dX8_open (j := 24) rfl) nv0 rfl ?_
      obtain ⟨t13, et13, hf⟩ := Option.bind_eq_some_iff.mp hf
      refine r_getI (dGet dX8_open (j := 25) rfl) F8_44 et13 ?_
      refine r_aload_n (dGet dX8_open (j := 26) rfl) nv0 rfl ?_
      obtain ⟨t14, et14, hf⟩ := Option.bind_eq_some_iff.mp hf
      refine r_getI (dGet dX8_open (j := 27) rfl) F8_37 et14 ?_
      obtain ⟨h15, eh15, hf⟩ := Option.bind_eq_some_iff.mp hf
      refine r_iast (dGet dX8_open (j := 28) rfl) eh15 ?_
      refine r_aload_n (dGet dX8_open (j := 29) rfl) nv0 rfl ?_
      refine r_dup (dGet dX8_open (j := 30) rfl) rfl ?_
      obtain ⟨t16, et16, hf⟩ := Option.bind_eq_some_iff.mp hf
      refine r_getI (dGet dX8_open (j := 31) rfl) F8_44 et16 ?_
      refine r_iconst (dGet dX8_open (j := 32) rfl) kI_1 ?_
      refine r_iadd (dGet dX8_open (j := 33) rfl) ?_
      obtain ⟨h17, eh17, hf⟩ := Option.bind_eq_some_iff.mp hf
      refine r_putI (dGet dX8_open (j := 34) rfl) F8_44 rfl rfl eh17 ?_
      cases hf
      exact r_vret (dGet dX8_open (j := 35) rfl) rfl
  · rw [if_neg hc] at hf; cases hf
def eX8_turn : List (Nat × Instr × Nat) := [(0, .aload_n 0, 1), (1, .getfield 44, 3), (4, .ifCond .le 44, 3), (7, .aload_n 0, 1), (8, .getfield 16, 3), (11, .iconst 0, 1), (12, .aload_n 0, 1), (13, .getfield 24, 3), (16, .aload_n 0, 1), (17, .getfield 44, 3), (20, .iconst 1, 1), (21, .isub, 1), (22, .aaload, 1), (23, .iconst 0, 1), (24, .bipush 32, 2), (26, .invokestatic 63, 3), (29, .aload_n 0, 1), (30, .getfield 31, 3), (33, .aload_n 0, 1), (34, .getfield 44, 3), (37, .iconst 1, 1), (38, .isub, 1), (39, .aload_n 0, 1), (40, .getfield 47, 3), (43, .bastore, 1), (44, .aload_n 0, 1), (45, .invokevirtual 69, 3), (48, .return_, 1)]
theorem dX8_turn : dChk (pCd 5175) eX8_turn = true := by decide +kernel
def fX8_turn (N : Nat) (v0 : Nat) (h : pH) : Option (pH) := if isO h v0 8 = true then (
  (getI h v0 8 11).bind fun t1 =>
  if t1 ≤ 0 then (
  some h) else (
  (getR h v0 8 4).bind fun t3 =>
  (getR h v0 8 7).bind fun t4 =>
  (getI h v0 8 11).bind fun t5 =>
  (ldA h t4 (t5 - (1 : Int32))).bind fun t6 =>
  (copyA h t3 (0 : Int32) t6 (0 : Int32) (32 : Int32)).bind fun h7 =>
  (getR h7 v0 8 9).bind fun t8 =>
  (getI h7 v0 8 11).bind fun t9 =>
  (getI h7 v0 8 5).bind fun t10 =>
  (stZ h7 t8 (t9 - (1 : Int32)) t10).bind fun h11 =>
  (fX8_restore N v0 h11).bind fun h12 =>
  some h12)) else none
theorem oX8_turn {N : Nat} {v0 : Nat} {h : pH} {q : pH} (hf : fX8_turn N v0 h = some q) : isO h v0 8 = true := by
  unfold fX8_turn at hf
  by_cases hc : isO h v0 8 = true
  · exact hc
  · rw [if_neg hc] at hf; cases hf
theorem cX8_turn (X : pX) (N d : Nat) (v0 : Nat) (h : pH) (q : pH) (hf : fX8_turn N v0 h = some q) : Calls X (d + 2) 158 [.ref v0] h (none, q, 0, 0) := by
  refine Calls.of M158 (Nat.le_of_ble_eq_true rfl) ?_
  show Run X (d + 2) 8 false (pCd 5175) 1 none 0 [(0, .ref v0)] [] h 0 0 (none, q, 0, 0)
  unfold fX8_turn at hf
  by_cases hc : isO h v0 8 = true
  · rw [if_pos hc] at hf
    have nv0 : ¬ v0 = 4 := isO_ne hc
    refine r_aload_n (dGet dX8_turn (j := 0) rfl) nv0 rfl ?_
    obtain ⟨t1, et1, hf⟩ := Option.bind_eq_some_iff.mp hf
    refine r_getI (dGet dX8_turn (j := 1) rfl) F8_44 et1 ?_
    by_cases c2 : t1 ≤ 0
    · rw [if_pos c2] at hf
      refine r_if_le_t (dGet dX8_turn (j := 2) rfl) rfl c2 ?_
      cases hf
      exact r_vret (dGet dX8_turn (j := 27) rfl) rfl
    · rw [if_neg c2] at hf
      refine r_if_le_f (dGet dX8_turn (j := 2) rfl) rfl c2 ?_
      refine r_aload_n (dGet dX8_turn (j := 3) rfl) nv0 rfl ?_
      obtain ⟨t3, et3, hf⟩ := Option.bind_eq_some_iff.mp hf
      refine r_getR (dGet dX8_turn (j := 4) rfl) F8_16 et3 ?_
      refine r_iconst (dGet dX8_turn (j := 5) rfl) kI_0 ?_
      refine r_aload_n (dGet dX8_turn (j := 6) rfl) nv0 rfl ?_
      obtain ⟨t4, et4, hf⟩ := Option.bind_eq_some_iff.mp hf
      refine r_getR (dGet dX8_turn (j := 7) rfl) F8_24 et4 ?_
      refine r_aload_n (dGet dX8_turn (j := 8) rfl) nv0 rfl ?_
      obtain ⟨t5, et5, hf⟩ := Option.bind_eq_some_iff.mp hf
      refine r_getI (dGet dX8_turn (j := 9) rfl) F8_44 et5 ?_
      refine r_iconst (dGet dX8_turn (j := 10) rfl) kI_1 ?_
      refine r_isub (dGet dX8_turn (j := 11) rfl) ?_
      obtain ⟨t6, et6, hf⟩ := Option.bind_eq_some_iff.mp hf
      refine r_aald (dGet dX8_turn (j := 12) rfl) et6 ?_
      refine r_iconst (dGet dX8_turn (j := 13) rfl) kI_0 ?_
      refine r_bipush (dGet dX8_turn (j := 14) rfl) kB_32 ?_
      obtain ⟨h7, eh7, hf⟩ := Option.bind_eq_some_iff.mp hf
      refine r_copy (dGet dX8_turn (j := 15) rfl) (by decide +kernel : pFind pAc 8 63 = some 5161) (Nat.le_of_ble_eq_true rfl) eh7 ?_
      refine r_aload_n (dGet dX8_turn (j := 16) rfl) nv0 rfl ?_
      obtain ⟨t8, et8, hf⟩ := Option.bind_eq_some_iff.mp hf
      refine r_getR (dGet dX8_turn (j := 17) rfl) F8_31 et8 ?_
      refine r_aload_n (dGet dX8_turn (j := 18) rfl) nv0 rfl ?_
      obtain ⟨t9, et9, hf⟩ := Option.bind_eq_some_iff.mp hf
      refine r_getI (dGet dX8_turn (j := 19) rfl) F8_44 et9 ?_
      refine r_iconst (dGet dX8_turn (j := 20) rfl) kI_1 ?_
      refine r_isub (dGet dX8_turn (j := 21) rfl) ?_
      refine r_aload_n (dGet dX8_turn (j := 22) rfl) nv0 rfl ?_
      obtain ⟨t10, et10, hf⟩ := Option.bind_eq_some_iff.mp hf
      refine r_getI (dGet dX8_turn (j := 23) rfl) F8_47 et10 ?_
      obtain ⟨h11, eh11, hf⟩ := Option.bind_eq_some_iff.mp hf
      refine r_zast (dGet dX8_turn (j := 24) rfl) eh11 ?_
      refine r_aload_n (dGet dX8_turn (j := 25) rfl) nv0 rfl ?_
      obtain ⟨h12, eh12, hf⟩ := Option.bind_eq_some_iff.mp hf
      refine r_virtual (dGet dX8_turn (j := 26) rfl) L8_69 M159 rfl rfl (Nat.le_of_ble_eq_true rfl) (oX8_restore eh12) (cX8_restore X N (d + 0) v0 h11 h12 eh12) ?_
      cases hf
      exact r_vret (dGet dX8_turn (j := 27) rfl) rfl
  · rw [if_neg hc] at hf; cases hf
def eX8_isSet : List (Nat × Instr × Nat) := [(0, .aload_n 0, 1), (1, .getfield 47, 3), (4, .ifCond .ne 21, 3), (7, .aload_n 0, 1), (8, .getfield 16, 3), (11, .iload_n 1, 1), (12, .iconst 5, 1), (13, .ishr, 1), (14, .iaload, 1), (15, .iconst 1, 1), (16, .iload_n 1, 1), (17, .bipush 31, 2), (19, .iand, 1), (20, .ishl, 1), (21, .iand, 1), (22, .ifCond .eq 7, 3), (25, .iconst 1, 1), (26, .goto 4, 3), (29, .iconst 0, 1), (30, .ireturn, 1)]
theorem dX8_isSet : dChk (pCd 5088) eX8_isSet = true := by decide +kernel
def fX8_isSet (N : Nat) (v0 : Nat) (v1 : Int32) (h : pH) : Option (Int32 × pH) := if isO h v0 8 = true then (
  (getI h v0 8 5).bind fun t1 =>
  if t1 = 0 then (
  (getR h v0 8 4).bind fun t3 =>
  (ldI h t3 (v1 >>> ((5 : Int32) &&& 31))).bind fun t4 =>
  if (t4 &&& ((1 : Int32) <<< ((v1 &&& (31 : Int32)) &&& 31))) = 0 then (
  some ((0 : Int32), h)) else (
  some ((1 : Int32), h))) else (
  some ((1 : Int32), h))) else none
theorem oX8_isSet {N : Nat} {v0 : Nat} {v1 : Int32} {h : pH} {q : Int32 × pH} (hf : fX8_isSet N v0 v1 h = some q) : isO h v0 8 = true := by
  unfold fX8_isSet at hf
  by_cases hc : isO h v0 8 = true
  · exact hc
  · rw [if_neg hc] at hf; cases hf
theorem cX8_isSet (X : pX) (N d : Nat) (v0 : Nat) (v1 : Int32) (h : pH) (q : Int32 × pH) (hf : fX8_isSet N v0 v1 h = some q) : Calls X (d + 0) 137 [.ref v0, .int v1] h (some (.int q.1), q.2, 0, 0) := by
  refine Calls.of M137 (Nat.le_of_ble_eq_true rfl) ?_
  show Run X (d + 0) 8 false (pCd 5088) 2 (some .boolean) 0 [(0, .ref v0), (1, .int v1)] [] h 0 0 (some (.int q.1), q.2, 0, 0)
  unfold fX8_isSet at hf
  by_cases hc : isO h v0 8 = true
  · rw [if_pos hc] at hf
    have nv0 : ¬ v0 = 4 := isO_ne hc
    refine r_aload_n (dGet dX8_isSet (j := 0) rfl) nv0 rfl ?_
    obtain ⟨t1, et1, hf⟩ := Option.bind_eq_some_iff.mp hf
    refine r_getI (dGet dX8_isSet (j := 1) rfl) F8_47 et1 ?_
    by_cases c2 : t1 = 0
    · rw [if_pos c2] at hf
      refine r_if_ne_f (dGet dX8_isSet (j := 2) rfl) rfl c2 ?_
      refine r_aload_n (dGet dX8_isSet (j := 3) rfl) nv0 rfl ?_
      obtain ⟨t3, et3, hf⟩ := Option.bind_eq_some_iff.mp hf
      refine r_getR (dGet dX8_isSet (j := 4) rfl) F8_16 et3 ?_
      refine r_iload_n (dGet dX8_isSet (j := 5) rfl) rfl ?_
      refine r_iconst (dGet dX8_isSet (j := 6) rfl) kI_5 ?_
      refine r_ishr (dGet dX8_isSet (j := 7) rfl) ?_
      obtain ⟨t4, et4, hf⟩ := Option.bind_eq_some_iff.mp hf
      refine r_iald (dGet dX8_isSet (j := 8) rfl) et4 ?_
      refine r_iconst (dGet dX8_isSet (j := 9) rfl) kI_1 ?_
      refine r_iload_n (dGet dX8_isSet (j := 10) rfl) rfl ?_
      refine r_bipush (dGet dX8_isSet (j := 11) rfl) kB_31 ?_
      refine r_iand (dGet dX8_isSet (j := 12) rfl) ?_
      refine r_ishl (dGet dX8_isSet (j := 13) rfl) ?_
      refine r_iand (dGet dX8_isSet (j := 14) rfl) ?_
      by_cases c5 : (t4 &&& ((1 : Int32) <<< ((v1 &&& (31 : Int32)) &&& 31))) = 0
      · rw [if_pos c5] at hf
        refine r_if_eq_t (dGet dX8_isSet (j := 15) rfl) rfl c5 ?_
        refine r_iconst (dGet dX8_isSet (j := 18) rfl) kI_0 ?_
        cases hf
        exact r_iret (dGet dX8_isSet (j := 19) rfl) rfl (by decide)
      · rw [if_neg c5] at hf
        refine r_if_eq_f (dGet dX8_isSet (j := 15) rfl) rfl c5 ?_
        refine r_iconst (dGet dX8_isSet (j := 16) rfl) kI_1 ?_
        refine r_goto (dGet dX8_isSet (j := 17) rfl) rfl ?_
        cases hf
        exact r_iret (dGet dX8_isSet (j := 19) rfl) rfl (by decide)
    · rw [if_neg c2] at hf
      refine r_if_ne_t (dGet dX8_isSet (j := 2) rfl) rfl c2 ?_
      refine r_iconst (dGet dX8_isSet (j := 16) rfl) kI_1 ?_
      refine r_goto (dGet dX8_isSet (j := 17) rfl) rfl ?_
      cases hf
      exact r_iret (dGet dX8_isSet (j := 19) rfl) rfl (by decide)
  · rw [if_neg hc] at hf; cases hf
def eX8_stop : List (Nat × Instr × Nat) := [(0, .aload_n 0, 1), (1, .iconst 1, 1), (2, .putfield 47, 3), (5, .return_, 1)]
theorem dX8_stop : dChk (pCd 5167) eX8_stop = true := by decide +kernel
def fX8_stop (N : Nat) (v0 : Nat) (h : pH) : Option (pH) := if isO h v0 8 = true then (
  (putZ h v0 8 5 (1 : Int32)).bind fun h1 =>
  some h1) else none
theorem oX8_stop {N : Nat} {v0 : Nat} {h : pH} {q : pH} (hf : fX8_stop N v0 h = some q) : isO h v0 8 = true := by
  unfold fX8_stop at hf
  by_cases hc : isO h v0 8 = true
  · exact hc
  · rw [if_neg hc] at hf; cases hf
theorem cX8_stop (X : pX) (N d : Nat) (v0 : Nat) (h : pH) (q : pH) (hf : fX8_stop N v0 h = some q) : Calls X (d + 0) 156 [.ref v0] h (none, q, 0, 0) := by
  refine Calls.of M156 (Nat.le_of_ble_eq_true rfl) ?_
  show Run X (d + 0) 8 false (pCd 5167) 1 none 0 [(0, .ref v0)] [] h 0 0 (none, q, 0, 0)
  unfold fX8_stop at hf
  by_cases hc : isO h v0 8 = true
  · rw [if_pos hc] at hf
    have nv0 : ¬ v0 = 4 := isO_ne hc
    refine r_aload_n (dGet dX8_stop (j := 0) rfl) nv0 rfl ?_
    refine r_iconst (dGet dX8_stop (j := 1) rfl) kI_1 ?_
    obtain ⟨h1, eh1, hf⟩ := Option.bind_eq_some_iff.mp hf
    refine r_putZ (dGet dX8_stop (j := 2) rfl) F8_47 rfl rfl eh1 ?_
    cases hf
    exact r_vret (dGet dX8_stop (j := 3) rfl) rfl
  · rw [if_neg hc] at hf; cases hf
