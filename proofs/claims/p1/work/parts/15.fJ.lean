def eJ0_isLatin1_aae02 : List (Nat × Instr × Nat) := [(0, .getstatic 38, 3), (3, .ifCond .eq 14, 3), (6, .aload_n 0, 1), (7, .getfield 15, 3), (10, .ifCond .ne 7, 3), (13, .iconst 1, 1), (14, .goto 4, 3), (17, .iconst 0, 1), (18, .ireturn, 1)]
theorem dJ0_isLatin1_aae02 : dChk (pCd 3097) eJ0_isLatin1_aae02 = true := by decide +kernel
def fJ0_isLatin1_aae02 (N : Nat) (v0 : Nat) (h : pH) : Option (Int32 × pH) := if isO h v0 13 = true then (
  if (1 : Int32) = 0 then (
  some ((0 : Int32), h)) else (
  (getSc v0).bind fun t2 =>
  if t2 = 0 then (
  some ((1 : Int32), h)) else (
  some ((0 : Int32), h)))) else none
theorem oJ0_isLatin1_aae02 {N : Nat} {v0 : Nat} {h : pH} {q : Int32 × pH} (hf : fJ0_isLatin1_aae02 N v0 h = some q) : isO h v0 13 = true := by
  unfold fJ0_isLatin1_aae02 at hf
  by_cases hc : isO h v0 13 = true
  · exact hc
  · rw [if_neg hc] at hf; cases hf
theorem cJ0_isLatin1_aae02 (X : pX) (N d : Nat) (v0 : Nat) (h : pH) (q : Int32 × pH) (hf : fJ0_isLatin1_aae02 N v0 h = some q) : Calls X (d + 0) 23 [.ref v0] h (some (.int q.1), q.2, 0, 0) := by
  refine Calls.of M23 (Nat.le_of_ble_eq_true rfl) ?_
  show Run X (d + 0) 13 false (pCd 3097) 1 (some .boolean) 0 [(0, .ref v0)] [] h 0 0 (some (.int q.1), q.2, 0, 0)
  unfold fJ0_isLatin1_aae02 at hf
  by_cases hc : isO h v0 13 = true
  · rw [if_pos hc] at hf
    have nv0 : ¬ v0 = 4 := isO_ne hc
    refine r_gets0 (dGet dJ0_isLatin1_aae02 (j := 0) rfl) (by decide +kernel : pFind pGs 13 38 = some (0, 1045)) ?_
    by_cases c1 : (1 : Int32) = 0
    · rw [if_pos c1] at hf
      refine r_if_eq_t (dGet dJ0_isLatin1_aae02 (j := 1) rfl) rfl c1 ?_
      refine r_iconst (dGet dJ0_isLatin1_aae02 (j := 7) rfl) kI_0 ?_
      cases hf
      exact r_iret (dGet dJ0_isLatin1_aae02 (j := 8) rfl) rfl (by decide)
    · rw [if_neg c1] at hf
      refine r_if_eq_f (dGet dJ0_isLatin1_aae02 (j := 1) rfl) rfl c1 ?_
      refine r_aload_n (dGet dJ0_isLatin1_aae02 (j := 2) rfl) nv0 rfl ?_
      obtain ⟨t2, et2, hf⟩ := Option.bind_eq_some_iff.mp hf
      refine r_getSc (dGet dJ0_isLatin1_aae02 (j := 3) rfl) (by decide +kernel : pFind pFS 13 15 = some (1, 10075)) et2 ?_
      by_cases c3 : t2 = 0
      · rw [if_pos c3] at hf
        refine r_if_ne_f (dGet dJ0_isLatin1_aae02 (j := 4) rfl) rfl c3 ?_
        refine r_iconst (dGet dJ0_isLatin1_aae02 (j := 5) rfl) kI_1 ?_
        refine r_goto (dGet dJ0_isLatin1_aae02 (j := 6) rfl) rfl ?_
        cases hf
        exact r_iret (dGet dJ0_isLatin1_aae02 (j := 8) rfl) rfl (by decide)
      · rw [if_neg c3] at hf
        refine r_if_ne_t (dGet dJ0_isLatin1_aae02 (j := 4) rfl) rfl c3 ?_
        refine r_iconst (dGet dJ0_isLatin1_aae02 (j := 7) rfl) kI_0 ?_
        cases hf
        exact r_iret (dGet dJ0_isLatin1_aae02 (j := 8) rfl) rfl (by decide)
  · rw [if_neg hc] at hf; cases hf
def eJ3_checkIndex_8e157 : List (Nat × Instr × Nat) := [(0, .iload_n 0, 1), (1, .ifCond .lt 8, 3), (4, .iload_n 0, 1), (5, .iload_n 1, 1), (6, .if_icmp .lt 10, 3), (9, .aload_n 2, 1), (10, .iload_n 0, 1), (11, .iload_n 1, 1), (12, .invokestatic 95, 3), (15, .athrow, 1), (16, .iload_n 0, 1), (17, .ireturn, 1)]
theorem dJ3_checkIndex_8e157 : dChk (pCd 3108) eJ3_checkIndex_8e157 = true := by decide +kernel
def fJ3_checkIndex_8e157_9 (N : Nat) (v0 : Int32) (v1 : Int32) (v2 : Nat) (h : pH) : Option (Int32 × pH) :=
  none
theorem lJ3_checkIndex_8e157_9 (X : pX) (N d : Nat)  (v0 : Int32) (v1 : Int32) (v2 : Nat) (h : pH) (q : Int32 × pH) (hf : fJ3_checkIndex_8e157_9 N v0 v1 v2 h = some q) (nv2 : ¬ v2 = 4) : Run X (d + 0) 17 false (pCd 3108) 3 (some .int) 9 [(0, .int v0), (1, .int v1), (2, .ref v2)] [] h 0 0 (some (.int q.1), q.2, 0, 0) := by
  unfold fJ3_checkIndex_8e157_9 at hf
  refine r_aload_n (dGet dJ3_checkIndex_8e157 (j := 5) rfl) nv2 rfl ?_
  refine r_iload_n (dGet dJ3_checkIndex_8e157 (j := 6) rfl) rfl ?_
  refine r_iload_n (dGet dJ3_checkIndex_8e157 (j := 7) rfl) rfl ?_
  cases hf
def fJ3_checkIndex_8e157 (N : Nat) (v0 : Int32) (v1 : Int32) (v2 : Nat) (h : pH) : Option (Int32 × pH) :=
  if v0 < 0 then (
  if v2 = 4 then none else
  fJ3_checkIndex_8e157_9 N v0 v1 v2 h) else (
  if v0 < v1 then (
  some (v0, h)) else (
  if v2 = 4 then none else
  fJ3_checkIndex_8e157_9 N v0 v1 v2 h))
theorem cJ3_checkIndex_8e157 (X : pX) (N d : Nat) (v0 : Int32) (v1 : Int32) (v2 : Nat) (h : pH) (q : Int32 × pH) (hf : fJ3_checkIndex_8e157 N v0 v1 v2 h = some q) : Calls X (d + 0) 26 [.int v0, .int v1, .ref v2] h (some (.int q.1), q.2, 0, 0) := by
  refine Calls.of M26 (Nat.le_of_ble_eq_true rfl) ?_
  show Run X (d + 0) 17 false (pCd 3108) 3 (some .int) 0 [(0, .int v0), (1, .int v1), (2, .ref v2)] [] h 0 0 (some (.int q.1), q.2, 0, 0)
  unfold fJ3_checkIndex_8e157 at hf
  refine r_iload_n (dGet dJ3_checkIndex_8e157 (j := 0) rfl) rfl ?_
  by_cases c1 : v0 < 0
  · rw [if_pos c1] at hf
    refine r_if_lt_t (dGet dJ3_checkIndex_8e157 (j := 1) rfl) rfl c1 ?_
    by_cases nv2 : v2 = 4
    · rw [if_pos nv2] at hf; cases hf
    rw [if_neg nv2] at hf
    exact lJ3_checkIndex_8e157_9 X N d v0 v1 v2 h q hf nv2
  · rw [if_neg c1] at hf
    refine r_if_lt_f (dGet dJ3_checkIndex_8e157 (j := 1) rfl) rfl c1 ?_
    refine r_iload_n (dGet dJ3_checkIndex_8e157 (j := 2) rfl) rfl ?_
    refine r_iload_n (dGet dJ3_checkIndex_8e157 (j := 3) rfl) rfl ?_
    by_cases c2 : v0 < v1
    · rw [if_pos c2] at hf
      refine r_icmp_lt_t (dGet dJ3_checkIndex_8e157 (j := 4) rfl) rfl c2 ?_
      refine r_iload_n (dGet dJ3_checkIndex_8e157 (j := 10) rfl) rfl ?_
      cases hf
      exact r_iret (dGet dJ3_checkIndex_8e157 (j := 11) rfl) rfl rfl
    · rw [if_neg c2] at hf
      refine r_icmp_lt_f (dGet dJ3_checkIndex_8e157 (j := 4) rfl) rfl c2 ?_
      by_cases nv2 : v2 = 4
      · rw [if_pos nv2] at hf; cases hf
      rw [if_neg nv2] at hf
      exact lJ3_checkIndex_8e157_9 X N d v0 v1 v2 h q hf nv2
def eJ0_checkIndex_df160 : List (Nat × Instr × Nat) := [(0, .iload_n 0, 1), (1, .iload_n 1, 1), (2, .getstatic 1053, 3), (5, .invokestatic 1059, 3), (8, .pop, 1), (9, .return_, 1)]
theorem dJ0_checkIndex_df160 : dChk (pCd 3103) eJ0_checkIndex_df160 = true := by decide +kernel
def fJ0_checkIndex_df160 (N : Nat) (v0 : Int32) (v1 : Int32) (h : pH) : Option (pH) :=
  (fJ3_checkIndex_8e157 N v0 v1 4 h).bind fun q1 =>
  some q1.2
theorem cJ0_checkIndex_df160 (X : pX) (N d : Nat) (v0 : Int32) (v1 : Int32) (h : pH) (q : pH) (hf : fJ0_checkIndex_df160 N v0 v1 h = some q) : Calls X (d + 1) 25 [.int v0, .int v1] h (none, q, 0, 0) := by
  refine Calls.of M25 (Nat.le_of_ble_eq_true rfl) ?_
  show Run X (d + 1) 13 false (pCd 3103) 2 none 0 [(0, .int v0), (1, .int v1)] [] h 0 0 (none, q, 0, 0)
  unfold fJ0_checkIndex_df160 at hf
  refine r_iload_n (dGet dJ0_checkIndex_df160 (j := 0) rfl) rfl ?_
  refine r_iload_n (dGet dJ0_checkIndex_df160 (j := 1) rfl) rfl ?_
  refine r_gets1 (dGet dJ0_checkIndex_df160 (j := 2) rfl) (by decide +kernel : pFind pGs 13 1053 = some (1, 3104)) ?_
  obtain ⟨q1, eq1, hf⟩ := Option.bind_eq_some_iff.mp hf
  refine r_static (dGet dJ0_checkIndex_df160 (j := 3) rfl) (by decide +kernel) (by decide +kernel) L13_1059 M26 rfl rfl (Nat.le_of_ble_eq_true rfl) (cJ3_checkIndex_8e157 X N (d + 0) v0 v1 4 h q1 eq1) ?_
  refine r_pop (dGet dJ0_checkIndex_df160 (j := 4) rfl) rfl ?_
  cases hf
  exact r_vret (dGet dJ0_checkIndex_df160 (j := 5) rfl) rfl
def eJ1_charAt_3b067 : List (Nat × Instr × Nat) := [(0, .iload_n 1, 1), (1, .aload_n 0, 1), (2, .arraylength, 1), (3, .invokestatic 9, 3), (6, .aload_n 0, 1), (7, .iload_n 1, 1), (8, .baload, 1), (9, .sipush 255, 3), (12, .iand, 1), (13, .i2c, 1), (14, .ireturn, 1)]
theorem dJ1_charAt_3b067 : dChk (pCd 3100) eJ1_charAt_3b067 = true := by decide +kernel
def fJ1_charAt_3b067 (N : Nat) (v0 : Nat) (v1 : Int32) (h : pH) : Option (Int32 × pH) :=
  if v0 = 4 then none else
  (lenB v0).bind fun t1 =>
  (fJ0_checkIndex_df160 N v1 t1 h).bind fun h2 =>
  (ldB v0 v1).bind fun t3 =>
  if pRet .char (((t3 &&& (255 : Int32)).toUInt32 % 65536).toInt32) = true then some ((((t3 &&& (255 : Int32)).toUInt32 % 65536).toInt32), h2) else none
theorem cJ1_charAt_3b067 (X : pX) (N d : Nat) (v0 : Nat) (v1 : Int32) (h : pH) (q : Int32 × pH) (hf : fJ1_charAt_3b067 N v0 v1 h = some q) : Calls X (d + 2) 24 [.ref v0, .int v1] h (some (.int q.1), q.2, 0, 0) := by
  refine Calls.of M24 (Nat.le_of_ble_eq_true rfl) ?_
  show Run X (d + 2) 14 false (pCd 3100) 2 (some .char) 0 [(0, .ref v0), (1, .int v1)] [] h 0 0 (some (.int q.1), q.2, 0, 0)
  unfold fJ1_charAt_3b067 at hf
  refine r_iload_n (dGet dJ1_charAt_3b067 (j := 0) rfl) rfl ?_
  by_cases nv0 : v0 = 4
  · rw [if_pos nv0] at hf; cases hf
  rw [if_neg nv0] at hf
  refine r_aload_n (dGet dJ1_charAt_3b067 (j := 1) rfl) nv0 rfl ?_
  obtain ⟨t1, et1, hf⟩ := Option.bind_eq_some_iff.mp hf
  refine r_blen (dGet dJ1_charAt_3b067 (j := 2) rfl) et1 ?_
  obtain ⟨h2, eh2, hf⟩ := Option.bind_eq_some_iff.mp hf
  refine r_static (dGet dJ1_charAt_3b067 (j := 3) rfl) (by decide +kernel) (by decide +kernel) L14_9 M25 rfl rfl (Nat.le_of_ble_eq_true rfl) (cJ0_checkIndex_df160 X N (d + 0) v1 t1 h h2 eh2) ?_
  refine r_aload_n (dGet dJ1_charAt_3b067 (j := 4) rfl) nv0 rfl ?_
  refine r_iload_n (dGet dJ1_charAt_3b067 (j := 5) rfl) rfl ?_
  obtain ⟨t3, et3, hf⟩ := Option.bind_eq_some_iff.mp hf
  refine r_bald (dGet dJ1_charAt_3b067 (j := 6) rfl) et3 ?_
  refine r_sipush (dGet dJ1_charAt_3b067 (j := 7) rfl) kS_255 ?_
  refine r_iand (dGet dJ1_charAt_3b067 (j := 8) rfl) ?_
  refine r_i2c (dGet dJ1_charAt_3b067 (j := 9) rfl) ?_
  by_cases c4 : pRet .char (((t3 &&& (255 : Int32)).toUInt32 % 65536).toInt32) = true
  · rw [if_pos c4] at hf
    cases hf
    exact r_iret (dGet dJ1_charAt_3b067 (j := 10) rfl) rfl c4
  · rw [if_neg c4] at hf; cases hf
def eJ2_length_9d52b : List (Nat × Instr × Nat) := [(0, .aload_n 0, 1), (1, .arraylength, 1), (2, .iconst 1, 1), (3, .ishr, 1), (4, .ireturn, 1)]
theorem dJ2_length_9d52b : dChk (pCd 3117) eJ2_length_9d52b = true := by decide +kernel
def fJ2_length_9d52b (N : Nat) (v0 : Nat) (h : pH) : Option (Int32 × pH) :=
  if v0 = 4 then none else
  (lenB v0).bind fun t1 =>
  some ((t1 >>> ((1 : Int32) &&& 31)), h)
theorem cJ2_length_9d52b (X : pX) (N d : Nat) (v0 : Nat) (h : pH) (q : Int32 × pH) (hf : fJ2_length_9d52b N v0 h = some q) : Calls X (d + 0) 29 [.ref v0] h (some (.int q.1), q.2, 0, 0) := by
  refine Calls.of M29 (Nat.le_of_ble_eq_true rfl) ?_
  show Run X (d + 0) 15 false (pCd 3117) 1 (some .int) 0 [(0, .ref v0)] [] h 0 0 (some (.int q.1), q.2, 0, 0)
  unfold fJ2_length_9d52b at hf
  by_cases nv0 : v0 = 4
  · rw [if_pos nv0] at hf; cases hf
  rw [if_neg nv0] at hf
  refine r_aload_n (dGet dJ2_length_9d52b (j := 0) rfl) nv0 rfl ?_
  obtain ⟨t1, et1, hf⟩ := Option.bind_eq_some_iff.mp hf
  refine r_blen (dGet dJ2_length_9d52b (j := 1) rfl) et1 ?_
  refine r_iconst (dGet dJ2_length_9d52b (j := 2) rfl) kI_1 ?_
  refine r_ishr (dGet dJ2_length_9d52b (j := 3) rfl) ?_
  cases hf
  exact r_iret (dGet dJ2_length_9d52b (j := 4) rfl) rfl rfl
def eJ2_checkIndex_2214a : List (Nat × Instr × Nat) := [(0, .iload_n 0, 1), (1, .aload_n 1, 1), (2, .invokestatic 48, 3), (5, .invokestatic 414, 3), (8, .return_, 1)]
theorem dJ2_checkIndex_2214a : dChk (pCd 3114) eJ2_checkIndex_2214a = true := by decide +kernel
def fJ2_checkIndex_2214a (N : Nat) (v0 : Int32) (v1 : Nat) (h : pH) : Option (pH) :=
  if v1 = 4 then none else
  (fJ2_length_9d52b N v1 h).bind fun q1 =>
  (fJ0_checkIndex_df160 N v0 q1.1 q1.2).bind fun h2 =>
  some h2
theorem cJ2_checkIndex_2214a (X : pX) (N d : Nat) (v0 : Int32) (v1 : Nat) (h : pH) (q : pH) (hf : fJ2_checkIndex_2214a N v0 v1 h = some q) : Calls X (d + 2) 28 [.int v0, .ref v1] h (none, q, 0, 0) := by
  refine Calls.of M28 (Nat.le_of_ble_eq_true rfl) ?_
  show Run X (d + 2) 15 false (pCd 3114) 2 none 0 [(0, .int v0), (1, .ref v1)] [] h 0 0 (none, q, 0, 0)
  unfold fJ2_checkIndex_2214a at hf
  refine r_iload_n (dGet dJ2_checkIndex_2214a (j := 0) rfl) rfl ?_
  by_cases nv1 : v1 = 4
  · rw [if_pos nv1] at hf; cases hf
  rw [if_neg nv1] at hf
  refine r_aload_n (dGet dJ2_checkIndex_2214a (j := 1) rfl) nv1 rfl ?_
  obtain ⟨q1, eq1, hf⟩ := Option.bind_eq_some_iff.mp hf
  refine r_static (dGet dJ2_checkIndex_2214a (j := 2) rfl) (by decide +kernel) (by decide +kernel) L15_48 M29 rfl rfl (Nat.le_of_ble_eq_true rfl) (cJ2_length_9d52b X N (d + 1) v1 h q1 eq1) ?_
  obtain ⟨h2, eh2, hf⟩ := Option.bind_eq_some_iff.mp hf
  refine r_static (dGet dJ2_checkIndex_2214a (j := 3) rfl) (by decide +kernel) (by decide +kernel) L15_414 M25 rfl rfl (Nat.le_of_ble_eq_true rfl) (cJ0_checkIndex_df160 X N (d + 0) v0 q1.1 q1.2 h2 eh2) ?_
  cases hf
  exact r_vret (dGet dJ2_checkIndex_2214a (j := 4) rfl) rfl
def eJ2_getChar_3b067 : List (Nat × Instr × Nat) := [(0, .getstatic 44, 3), (3, .ifCond .ne 25, 3), (6, .iload_n 1, 1), (7, .ifCond .lt 11, 3), (10, .iload_n 1, 1), (11, .aload_n 0, 1), (12, .invokestatic 48, 3), (15, .if_icmp .lt 13, 3), (18, .new 52, 3), (21, .dup, 1), (22, .ldc 54, 2), (24, .invokespecial 56, 3), (27, .athrow, 1), (28, .iload_n 1, 1), (29, .iconst 1, 1), (30, .ishl, 1), (31, .istore_n 1, 1), (32, .aload_n 0, 1), (33, .iload_n 1, 1), (34, .iinc 1 1, 3), (37, .baload, 1), (38, .sipush 255, 3), (41, .iand, 1), (42, .getstatic 59, 3), (45, .ishl, 1), (46, .aload_n 0, 1), (47, .iload_n 1, 1), (48, .baload, 1), (49, .sipush 255, 3), (52, .iand, 1), (53, .getstatic 63, 3), (56, .ishl, 1), (57, .ior, 1), (58, .i2c, 1), (59, .ireturn, 1)]
theorem dJ2_getChar_3b067 : dChk (pCd 3121) eJ2_getChar_3b067 = true := by decide +kernel
def fJ2_getChar_3b067 (N : Nat) (v0 : Nat) (v1 : Int32) (h : pH) : Option (Int32 × pH) :=
  none
theorem cJ2_getChar_3b067 (X : pX) (N d : Nat) (v0 : Nat) (v1 : Int32) (h : pH) (q : Int32 × pH) (hf : fJ2_getChar_3b067 N v0 v1 h = some q) : Calls X (d + 0) 30 [.ref v0, .int v1] h (some (.int q.1), q.2, 0, 0) := by
  refine Calls.of M30 (Nat.le_of_ble_eq_true rfl) ?_
  show Run X (d + 0) 15 false (pCd 3121) 2 (some .char) 0 [(0, .ref v0), (1, .int v1)] [] h 0 0 (some (.int q.1), q.2, 0, 0)
  unfold fJ2_getChar_3b067 at hf
  cases hf
def eJ2_charAt_3b067 : List (Nat × Instr × Nat) := [(0, .iload_n 1, 1), (1, .aload_n 0, 1), (2, .invokestatic 67, 3), (5, .aload_n 0, 1), (6, .iload_n 1, 1), (7, .invokestatic 71, 3), (10, .ireturn, 1)]
theorem dJ2_charAt_3b067 : dChk (pCd 3111) eJ2_charAt_3b067 = true := by decide +kernel
def fJ2_charAt_3b067 (N : Nat) (v0 : Nat) (v1 : Int32) (h : pH) : Option (Int32 × pH) :=
  if v0 = 4 then none else
  (fJ2_checkIndex_2214a N v1 v0 h).bind fun h1 =>
  (fJ2_getChar_3b067 N v0 v1 h1).bind fun q2 =>
  if pRet .char q2.1 = true then some (q2.1, q2.2) else none
theorem cJ2_charAt_3b067 (X : pX) (N d : Nat) (v0 : Nat) (v1 : Int32) (h : pH) (q : Int32 × pH) (hf : fJ2_charAt_3b067 N v0 v1 h = some q) : Calls X (d + 3) 27 [.ref v0, .int v1] h (some (.int q.1), q.2, 0, 0) := by
  refine Calls.of M27 (Nat.le_of_ble_eq_true rfl) ?_
  show Run X (d + 3) 15 false (pCd 3111) 2 (some .char) 0 [(0, .ref v0), (1, .int v1)] [] h 0 0 (some (.int q.1), q.2, 0, 0)
  unfold fJ2_charAt_3b067 at hf
  refine r_iload_n (dGet dJ2_charAt_3b067 (j := 0) rfl) rfl ?_
  by_cases nv0 : v0 = 4
  · rw [if_pos nv0] at hf; cases hf
  rw [if_neg nv0] at hf
  refine r_aload_n (dGet dJ2_charAt_3b067 (j := 1) rfl) nv0 rfl ?_
  obtain ⟨h1, eh1, hf⟩ := Option.bind_eq_some_iff.mp hf
  refine r_static (dGet dJ2_charAt_3b067 (j := 2) rfl) (by decide +kernel) (by decide +kernel) L15_67 M28 rfl rfl (Nat.le_of_ble_eq_true rfl) (cJ2_checkIndex_2214a X N (d + 0) v1 v0 h h1 eh1) ?_
  refine r_aload_n (dGet dJ2_charAt_3b067 (j := 3) rfl) nv0 rfl ?_
  refine r_iload_n (dGet dJ2_charAt_3b067 (j := 4) rfl) rfl ?_
  obtain ⟨q2, eq2, hf⟩ := Option.bind_eq_some_iff.mp hf
  refine r_static (dGet dJ2_charAt_3b067 (j := 5) rfl) (by decide +kernel) (by decide +kernel) L15_71 M30 rfl rfl (Nat.le_of_ble_eq_true rfl) (cJ2_getChar_3b067 X N (d + 2) v0 v1 h1 q2 eq2) ?_
  by_cases c3 : pRet .char q2.1 = true
  · rw [if_pos c3] at hf
    cases hf
    exact r_iret (dGet dJ2_charAt_3b067 (j := 6) rfl) rfl c3
  · rw [if_neg c3] at hf; cases hf
def eJ0_charAt_5068e : List (Nat × Instr × Nat) := [(0, .aload_n 0, 1), (1, .invokevirtual 492, 3), (4, .ifCond .eq 12, 3), (7, .aload_n 0, 1), (8, .getfield 9, 3), (11, .iload_n 1, 1), (12, .invokestatic 495, 3), (15, .ireturn, 1), (16, .aload_n 0, 1), (17, .getfield 9, 3), (20, .iload_n 1, 1), (21, .invokestatic 498, 3), (24, .ireturn, 1)]
theorem dJ0_charAt_5068e : dChk (pCd 3093) eJ0_charAt_5068e = true := by decide +kernel
def fJ0_charAt_5068e (N : Nat) (v0 : Nat) (v1 : Int32) (h : pH) : Option (Int32 × pH) := if isO h v0 13 = true then (
  (fJ0_isLatin1_aae02 N v0 h).bind fun q1 =>
  if q1.1 = 0 then (
  (getSv v0).bind fun t3 =>
  (fJ2_charAt_3b067 N t3 v1 q1.2).bind fun q4 =>
  if pRet .char q4.1 = true then some (q4.1, q4.2) else none) else (
  (getSv v0).bind fun t6 =>
  (fJ1_charAt_3b067 N t6 v1 q1.2).bind fun q7 =>
  if pRet .char q7.1 = true then some (q7.1, q7.2) else none)) else none
theorem oJ0_charAt_5068e {N : Nat} {v0 : Nat} {v1 : Int32} {h : pH} {q : Int32 × pH} (hf : fJ0_charAt_5068e N v0 v1 h = some q) : isO h v0 13 = true := by
  unfold fJ0_charAt_5068e at hf
  by_cases hc : isO h v0 13 = true
  · exact hc
  · rw [if_neg hc] at hf; cases hf
theorem cJ0_charAt_5068e (X : pX) (N d : Nat) (v0 : Nat) (v1 : Int32) (h : pH) (q : Int32 × pH) (hf : fJ0_charAt_5068e N v0 v1 h = some q) : Calls X (d + 4) 22 [.ref v0, .int v1] h (some (.int q.1), q.2, 0, 0) := by
  refine Calls.of M22 (Nat.le_of_ble_eq_true rfl) ?_
  show Run X (d + 4) 13 false (pCd 3093) 2 (some .char) 0 [(0, .ref v0), (1, .int v1)] [] h 0 0 (some (.int q.1), q.2, 0, 0)
  unfold fJ0_charAt_5068e at hf
  by_cases hc : isO h v0 13 = true
  · rw [if_pos hc] at hf
    have nv0 : ¬ v0 = 4 := isO_ne hc
    refine r_aload_n (dGet dJ0_charAt_5068e (j := 0) rfl) nv0 rfl ?_
    obtain ⟨q1, eq1, hf⟩ := Option.bind_eq_some_iff.mp hf
    refine r_virtual (dGet dJ0_charAt_5068e (j := 1) rfl) L13_492 M23 rfl rfl (Nat.le_of_ble_eq_true rfl) (oJ0_isLatin1_aae02 eq1) (cJ0_isLatin1_aae02 X N (d + 3) v0 h q1 eq1) ?_
    by_cases c2 : q1.1 = 0
    · rw [if_pos c2] at hf
      refine r_if_eq_t (dGet dJ0_charAt_5068e (j := 2) rfl) rfl c2 ?_
      refine r_aload_n (dGet dJ0_charAt_5068e (j := 8) rfl) nv0 rfl ?_
      obtain ⟨t3, et3, hf⟩ := Option.bind_eq_some_iff.mp hf
      refine r_getSv (dGet dJ0_charAt_5068e (j := 9) rfl) (by decide +kernel : pFind pFS 13 9 = some (0, 10074)) et3 ?_
      refine r_iload_n (dGet dJ0_charAt_5068e (j := 10) rfl) rfl ?_
      obtain ⟨q4, eq4, hf⟩ := Option.bind_eq_some_iff.mp hf
      refine r_static (dGet dJ0_charAt_5068e (j := 11) rfl) (by decide +kernel) (by decide +kernel) L13_498 M27 rfl rfl (Nat.le_of_ble_eq_true rfl) (cJ2_charAt_3b067 X N (d + 0) t3 v1 q1.2 q4 eq4) ?_
      by_cases c5 : pRet .char q4.1 = true
      · rw [if_pos c5] at hf
        cases hf
        exact r_iret (dGet dJ0_charAt_5068e (j := 12) rfl) rfl c5
      · rw [if_neg c5] at hf; cases hf
    · rw [if_neg c2] at hf
      refine r_if_eq_f (dGet dJ0_charAt_5068e (j := 2) rfl) rfl c2 ?_
      refine r_aload_n (dGet dJ0_charAt_5068e (j := 3) rfl) nv0 rfl ?_
      obtain ⟨t6, et6, hf⟩ := Option.bind_eq_some_iff.mp hf
      refine r_getSv (dGet dJ0_charAt_5068e (j := 4) rfl) (by decide +kernel : pFind pFS 13 9 = some (0, 10074)) et6 ?_
      refine r_iload_n (dGet dJ0_charAt_5068e (j := 5) rfl) rfl ?_
      obtain ⟨q7, eq7, hf⟩ := Option.bind_eq_some_iff.mp hf
      refine r_static (dGet dJ0_charAt_5068e (j := 6) rfl) (by decide +kernel) (by decide +kernel) L13_495 M24 rfl rfl (Nat.le_of_ble_eq_true rfl) (cJ1_charAt_3b067 X N (d + 1) t6 v1 q1.2 q7 eq7) ?_
      by_cases c8 : pRet .char q7.1 = true
      · rw [if_pos c8] at hf
        cases hf
        exact r_iret (dGet dJ0_charAt_5068e (j := 7) rfl) rfl c8
      · rw [if_neg c8] at hf; cases hf
  · rw [if_neg hc] at hf; cases hf
def eJ3_checkFromToIndex_8c36e : List (Nat × Instr × Nat) := [(0, .iload_n 0, 1), (1, .ifCond .lt 13, 3), (4, .iload_n 0, 1), (5, .iload_n 1, 1), (6, .if_icmp .gt 8, 3), (9, .iload_n 1, 1), (10, .iload_n 2, 1), (11, .if_icmp .le 11, 3), (14, .aload_n 3, 1), (15, .iload_n 0, 1), (16, .iload_n 1, 1), (17, .iload_n 2, 1), (18, .invokestatic 99, 3), (21, .athrow, 1), (22, .iload_n 0, 1), (23, .ireturn, 1)]
theorem dJ3_checkFromToIndex_8c36e : dChk (pCd 3207) eJ3_checkFromToIndex_8c36e = true := by decide +kernel
def fJ3_checkFromToIndex_8c36e_14 (N : Nat) (v0 : Int32) (v1 : Int32) (v2 : Int32) (v3 : Nat) (h : pH) : Option (Int32 × pH) :=
  none
theorem lJ3_checkFromToIndex_8c36e_14 (X : pX) (N d : Nat)  (v0 : Int32) (v1 : Int32) (v2 : Int32) (v3 : Nat) (h : pH) (q : Int32 × pH) (hf : fJ3_checkFromToIndex_8c36e_14 N v0 v1 v2 v3 h = some q) (nv3 : ¬ v3 = 4) : Run X (d + 0) 17 false (pCd 3207) 4 (some .int) 14 [(0, .int v0), (1, .int v1), (2, .int v2), (3, .ref v3)] [] h 0 0 (some (.int q.1), q.2, 0, 0) := by
  unfold fJ3_checkFromToIndex_8c36e_14 at hf
  refine r_aload_n (dGet dJ3_checkFromToIndex_8c36e (j := 8) rfl) nv3 rfl ?_
  refine r_iload_n (dGet dJ3_checkFromToIndex_8c36e (j := 9) rfl) rfl ?_
  refine r_iload_n (dGet dJ3_checkFromToIndex_8c36e (j := 10) rfl) rfl ?_
  refine r_iload_n (dGet dJ3_checkFromToIndex_8c36e (j := 11) rfl) rfl ?_
  cases hf
def fJ3_checkFromToIndex_8c36e (N : Nat) (v0 : Int32) (v1 : Int32) (v2 : Int32) (v3 : Nat) (h : pH) : Option (Int32 × pH) :=
  if v0 < 0 then (
  if v3 = 4 then none else
  fJ3_checkFromToIndex_8c36e_14 N v0 v1 v2 v3 h) else (
  if v1 < v0 then (
  if v3 = 4 then none else
  fJ3_checkFromToIndex_8c36e_14 N v0 v1 v2 v3 h) else (
  if v1 ≤ v2 then (
  some (v0, h)) else (
  if v3 = 4 then none else
  fJ3_checkFromToIndex_8c36e_14 N v0 v1 v2 v3 h)))
theorem cJ3_checkFromToIndex_8c36e (X : pX) (N d : Nat) (v0 : Int32) (v1 : Int32) (v2 : Int32) (v3 : Nat) (h : pH) (q : Int32 × pH) (hf : fJ3_checkFromToIndex_8c36e N v0 v1 v2 v3 h = some q) : Calls X (d + 0) 50 [.int v0, .int v1, .int v2, .ref v3] h (some (.int q.1), q.2, 0, 0) := by
  refine Calls.of M50 (Nat.le_of_ble_eq_true rfl) ?_
  show Run X (d + 0) 17 false (pCd 3207) 4 (some .int) 0 [(0, .int v0), (1, .int v1), (2, .int v2), (3, .ref v3)] [] h 0 0 (some (.int q.1), q.2, 0, 0)
  unfold fJ3_checkFromToIndex_8c36e at hf
  refine r_iload_n (dGet dJ3_checkFromToIndex_8c36e (j := 0) rfl) rfl ?_
  by_cases c1 : v0 < 0
  · rw [if_pos c1] at hf
    refine r_if_lt_t (dGet dJ3_checkFromToIndex_8c36e (j := 1) rfl) rfl c1 ?_
    by_cases nv3 : v3 = 4
    · rw [if_pos nv3] at hf; cases hf
    rw [if_neg nv3] at hf
    exact lJ3_checkFromToIndex_8c36e_14 X N d v0 v1 v2 v3 h q hf nv3
  · rw [if_neg c1] at hf
    refine r_if_lt_f (dGet dJ3_checkFromToIndex_8c36e (j := 1) rfl) rfl c1 ?_
    refine r_iload_n (dGet dJ3_checkFromToIndex_8c36e (j := 2) rfl) rfl ?_
    refine r_iload_n (dGet dJ3_checkFromToIndex_8c36e (j := 3) rfl) rfl ?_
    by_cases c2 : v1 < v0
    · rw [if_pos c2] at hf
      refine r_icmp_gt_t (dGet dJ3_checkFromToIndex_8c36e (j := 4) rfl) rfl c2 ?_
      by_cases nv3 : v3 = 4
      · rw [if_pos nv3] at hf; cases hf
      rw [if_neg nv3] at hf
      exact lJ3_checkFromToIndex_8c36e_14 X N d v0 v1 v2 v3 h q hf nv3
    · rw [if_neg c2] at hf
      refine r_icmp_gt_f (dGet dJ3_checkFromToIndex_8c36e (j := 4) rfl) rfl c2 ?_
      refine r_iload_n (dGet dJ3_checkFromToIndex_8c36e (j := 5) rfl) rfl ?_
      refine r_iload_n (dGet dJ3_checkFromToIndex_8c36e (j := 6) rfl) rfl ?_
      by_cases c3 : v1 ≤ v2
      · rw [if_pos c3] at hf
        refine r_icmp_le_t (dGet dJ3_checkFromToIndex_8c36e (j := 7) rfl) rfl c3 ?_
        refine r_iload_n (dGet dJ3_checkFromToIndex_8c36e (j := 14) rfl) rfl ?_
        cases hf
        exact r_iret (dGet dJ3_checkFromToIndex_8c36e (j := 15) rfl) rfl rfl
      · rw [if_neg c3] at hf
        refine r_icmp_le_f (dGet dJ3_checkFromToIndex_8c36e (j := 7) rfl) rfl c3 ?_
        by_cases nv3 : v3 = 4
        · rw [if_pos nv3] at hf; cases hf
        rw [if_neg nv3] at hf
        exact lJ3_checkFromToIndex_8c36e_14 X N d v0 v1 v2 v3 h q hf nv3
def eJ0_checkBoundsBeginEnd_23922 : List (Nat × Instr × Nat) := [(0, .iload_n 0, 1), (1, .iload_n 1, 1), (2, .iload_n 2, 1), (3, .getstatic 1053, 3), (6, .invokestatic 1062, 3), (9, .pop, 1), (10, .return_, 1)]
theorem dJ0_checkBoundsBeginEnd_23922 : dChk (pCd 3204) eJ0_checkBoundsBeginEnd_23922 = true := by decide +kernel
def fJ0_checkBoundsBeginEnd_23922 (N : Nat) (v0 : Int32) (v1 : Int32) (v2 : Int32) (h : pH) : Option (pH) :=
  (fJ3_checkFromToIndex_8c36e N v0 v1 v2 4 h).bind fun q1 =>
  some q1.2
theorem cJ0_checkBoundsBeginEnd_23922 (X : pX) (N d : Nat) (v0 : Int32) (v1 : Int32) (v2 : Int32) (h : pH) (q : pH) (hf : fJ0_checkBoundsBeginEnd_23922 N v0 v1 v2 h = some q) : Calls X (d + 1) 49 [.int v0, .int v1, .int v2] h (none, q, 0, 0) := by
  refine Calls.of M49 (Nat.le_of_ble_eq_true rfl) ?_
  show Run X (d + 1) 13 false (pCd 3204) 3 none 0 [(0, .int v0), (1, .int v1), (2, .int v2)] [] h 0 0 (none, q, 0, 0)
  unfold fJ0_checkBoundsBeginEnd_23922 at hf
  refine r_iload_n (dGet dJ0_checkBoundsBeginEnd_23922 (j := 0) rfl) rfl ?_
  refine r_iload_n (dGet dJ0_checkBoundsBeginEnd_23922 (j := 1) rfl) rfl ?_
  refine r_iload_n (dGet dJ0_checkBoundsBeginEnd_23922 (j := 2) rfl) rfl ?_
  refine r_gets1 (dGet dJ0_checkBoundsBeginEnd_23922 (j := 3) rfl) (by decide +kernel : pFind pGs 13 1053 = some (1, 3104)) ?_
  obtain ⟨q1, eq1, hf⟩ := Option.bind_eq_some_iff.mp hf
  refine r_static (dGet dJ0_checkBoundsBeginEnd_23922 (j := 4) rfl) (by decide +kernel) (by decide +kernel) L13_1062 M50 rfl rfl (Nat.le_of_ble_eq_true rfl) (cJ3_checkFromToIndex_8c36e X N (d + 0) v0 v1 v2 4 h q1 eq1) ?_
  refine r_pop (dGet dJ0_checkBoundsBeginEnd_23922 (j := 5) rfl) rfl ?_
  cases hf
  exact r_vret (dGet dJ0_checkBoundsBeginEnd_23922 (j := 6) rfl) rfl
def eJ0_coder_7d493 : List (Nat × Instr × Nat) := [(0, .getstatic 38, 3), (3, .ifCond .eq 10, 3), (6, .aload_n 0, 1), (7, .getfield 15, 3), (10, .goto 4, 3), (13, .iconst 1, 1), (14, .ireturn, 1)]
theorem dJ0_coder_7d493 : dChk (pCd 1044) eJ0_coder_7d493 = true := by decide +kernel
def fJ0_coder_7d493 (N : Nat) (v0 : Nat) (h : pH) : Option (Int32 × pH) := if isO h v0 13 = true then (
  if (1 : Int32) = 0 then (
  some ((1 : Int32), h)) else (
  (getSc v0).bind fun t2 =>
  if pRet .byte t2 = true then some (t2, h) else none)) else none
theorem oJ0_coder_7d493 {N : Nat} {v0 : Nat} {h : pH} {q : Int32 × pH} (hf : fJ0_coder_7d493 N v0 h = some q) : isO h v0 13 = true := by
  unfold fJ0_coder_7d493 at hf
  by_cases hc : isO h v0 13 = true
  · exact hc
  · rw [if_neg hc] at hf; cases hf
theorem cJ0_coder_7d493 (X : pX) (N d : Nat) (v0 : Nat) (h : pH) (q : Int32 × pH) (hf : fJ0_coder_7d493 N v0 h = some q) : Calls X (d + 0) 3 [.ref v0] h (some (.int q.1), q.2, 0, 0) := by
  refine Calls.of M3 (Nat.le_of_ble_eq_true rfl) ?_
  show Run X (d + 0) 13 false (pCd 1044) 1 (some .byte) 0 [(0, .ref v0)] [] h 0 0 (some (.int q.1), q.2, 0, 0)
  unfold fJ0_coder_7d493 at hf
  by_cases hc : isO h v0 13 = true
  · rw [if_pos hc] at hf
    have nv0 : ¬ v0 = 4 := isO_ne hc
    refine r_gets0 (dGet dJ0_coder_7d493 (j := 0) rfl) (by decide +kernel : pFind pGs 13 38 = some (0, 1045)) ?_
    by_cases c1 : (1 : Int32) = 0
    · rw [if_pos c1] at hf
      refine r_if_eq_t (dGet dJ0_coder_7d493 (j := 1) rfl) rfl c1 ?_
      refine r_iconst (dGet dJ0_coder_7d493 (j := 5) rfl) kI_1 ?_
      cases hf
      exact r_iret (dGet dJ0_coder_7d493 (j := 6) rfl) rfl (by decide)
    · rw [if_neg c1] at hf
      refine r_if_eq_f (dGet dJ0_coder_7d493 (j := 1) rfl) rfl c1 ?_
      refine r_aload_n (dGet dJ0_coder_7d493 (j := 2) rfl) nv0 rfl ?_
      obtain ⟨t2, et2, hf⟩ := Option.bind_eq_some_iff.mp hf
      refine r_getSc (dGet dJ0_coder_7d493 (j := 3) rfl) (by decide +kernel : pFind pFS 13 15 = some (1, 10075)) et2 ?_
      refine r_goto (dGet dJ0_coder_7d493 (j := 4) rfl) rfl ?_
      by_cases c3 : pRet .byte t2 = true
      · rw [if_pos c3] at hf
        cases hf
        exact r_iret (dGet dJ0_coder_7d493 (j := 6) rfl) rfl c3
      · rw [if_neg c3] at hf; cases hf
  · rw [if_neg hc] at hf; cases hf
def eJ0_length_8abf5 : List (Nat × Instr × Nat) := [(0, .aload_n 0, 1), (1, .getfield 9, 3), (4, .arraylength, 1), (5, .aload_n 0, 1), (6, .invokevirtual 335, 3), (9, .ishr, 1), (10, .ireturn, 1)]
theorem dJ0_length_8abf5 : dChk (pCd 1040) eJ0_length_8abf5 = true := by decide +kernel
def fJ0_length_8abf5 (N : Nat) (v0 : Nat) (h : pH) : Option (Int32 × pH) := if isO h v0 13 = true then (
  (getSv v0).bind fun t1 =>
  (lenB t1).bind fun t2 =>
  (fJ0_coder_7d493 N v0 h).bind fun q3 =>
  some ((t2 >>> (q3.1 &&& 31)), q3.2)) else none
theorem oJ0_length_8abf5 {N : Nat} {v0 : Nat} {h : pH} {q : Int32 × pH} (hf : fJ0_length_8abf5 N v0 h = some q) : isO h v0 13 = true := by
  unfold fJ0_length_8abf5 at hf
  by_cases hc : isO h v0 13 = true
  · exact hc
  · rw [if_neg hc] at hf; cases hf
theorem cJ0_length_8abf5 (X : pX) (N d : Nat) (v0 : Nat) (h : pH) (q : Int32 × pH) (hf : fJ0_length_8abf5 N v0 h = some q) : Calls X (d + 1) 2 [.ref v0] h (some (.int q.1), q.2, 0, 0) := by
  refine Calls.of M2 (Nat.le_of_ble_eq_true rfl) ?_
  show Run X (d + 1) 13 false (pCd 1040) 1 (some .int) 0 [(0, .ref v0)] [] h 0 0 (some (.int q.1), q.2, 0, 0)
  unfold fJ0_length_8abf5 at hf
  by_cases hc : isO h v0 13 = true
  · rw [if_pos hc] at hf
    have nv0 : ¬ v0 = 4 := isO_ne hc
    refine r_aload_n (dGet dJ0_length_8abf5 (j := 0) rfl) nv0 rfl ?_
    obtain ⟨t1, et1, hf⟩ := Option.bind_eq_some_iff.mp hf
    refine r_getSv (dGet dJ0_length_8abf5 (j := 1) rfl) (by decide +kernel : pFind pFS 13 9 = some (0, 10074)) et1 ?_
    obtain ⟨t2, et2, hf⟩ := Option.bind_eq_some_iff.mp hf
    refine r_blen (dGet dJ0_length_8abf5 (j := 2) rfl) et2 ?_
    refine r_aload_n (dGet dJ0_length_8abf5 (j := 3) rfl) nv0 rfl ?_
    obtain ⟨q3, eq3, hf⟩ := Option.bind_eq_some_iff.mp hf
    refine r_virtual (dGet dJ0_length_8abf5 (j := 4) rfl) L13_335 M3 rfl rfl (Nat.le_of_ble_eq_true rfl) (oJ0_coder_7d493 eq3) (cJ0_coder_7d493 X N (d + 0) v0 h q3 eq3) ?_
    refine r_ishr (dGet dJ0_length_8abf5 (j := 5) rfl) ?_
    cases hf
    exact r_iret (dGet dJ0_length_8abf5 (j := 6) rfl) rfl rfl
  · rw [if_neg hc] at hf; cases hf
def eJ1_canEncode_9a6ad : List (Nat × Instr × Nat) := [(0, .iload_n 0, 1), (1, .ifCond .lt 14, 3), (4, .iload_n 0, 1), (5, .sipush 255, 3), (8, .if_icmp .gt 7, 3), (11, .iconst 1, 1), (12, .goto 4, 3), (15, .iconst 0, 1), (16, .ireturn, 1)]
theorem dJ1_canEncode_9a6ad : dChk (pCd 3180) eJ1_canEncode_9a6ad = true := by decide +kernel
def fJ1_canEncode_9a6ad (N : Nat) (v0 : Int32) (h : pH) : Option (Int32 × pH) :=
  if v0 < 0 then (
  some ((0 : Int32), h)) else (
  if (255 : Int32) < v0 then (
  some ((0 : Int32), h)) else (
  some ((1 : Int32), h)))
theorem cJ1_canEncode_9a6ad (X : pX) (N d : Nat) (v0 : Int32) (h : pH) (q : Int32 × pH) (hf : fJ1_canEncode_9a6ad N v0 h = some q) : Calls X (d + 0) 44 [.int v0] h (some (.int q.1), q.2, 0, 0) := by
  refine Calls.of M44 (Nat.le_of_ble_eq_true rfl) ?_
  show Run X (d + 0) 14 false (pCd 3180) 1 (some .boolean) 0 [(0, .int v0)] [] h 0 0 (some (.int q.1), q.2, 0, 0)
  unfold fJ1_canEncode_9a6ad at hf
  refine r_iload_n (dGet dJ1_canEncode_9a6ad (j := 0) rfl) rfl ?_
  by_cases c1 : v0 < 0
  · rw [if_pos c1] at hf
    refine r_if_lt_t (dGet dJ1_canEncode_9a6ad (j := 1) rfl) rfl c1 ?_
    refine r_iconst (dGet dJ1_canEncode_9a6ad (j := 7) rfl) kI_0 ?_
    cases hf
    exact r_iret (dGet dJ1_canEncode_9a6ad (j := 8) rfl) rfl (by decide)
  · rw [if_neg c1] at hf
    refine r_if_lt_f (dGet dJ1_canEncode_9a6ad (j := 1) rfl) rfl c1 ?_
    refine r_iload_n (dGet dJ1_canEncode_9a6ad (j := 2) rfl) rfl ?_
    refine r_sipush (dGet dJ1_canEncode_9a6ad (j := 3) rfl) kS_255 ?_
    by_cases c2 : (255 : Int32) < v0
    · rw [if_pos c2] at hf
      refine r_icmp_gt_t (dGet dJ1_canEncode_9a6ad (j := 4) rfl) rfl c2 ?_
      refine r_iconst (dGet dJ1_canEncode_9a6ad (j := 7) rfl) kI_0 ?_
      cases hf
      exact r_iret (dGet dJ1_canEncode_9a6ad (j := 8) rfl) rfl (by decide)
    · rw [if_neg c2] at hf
      refine r_icmp_gt_f (dGet dJ1_canEncode_9a6ad (j := 4) rfl) rfl c2 ?_
      refine r_iconst (dGet dJ1_canEncode_9a6ad (j := 5) rfl) kI_1 ?_
      refine r_goto (dGet dJ1_canEncode_9a6ad (j := 6) rfl) rfl ?_
      cases hf
      exact r_iret (dGet dJ1_canEncode_9a6ad (j := 8) rfl) rfl (by decide)
def eJ1_indexOfChar_4cfef : List (Nat × Instr × Nat) := [(0, .iload_n 1, 1), (1, .i2b, 1), (2, .istore 4, 2), (4, .iload_n 2, 1), (5, .istore 5, 2), (7, .iload 5, 2), (9, .iload_n 3, 1), (10, .if_icmp .ge 21, 3), (13, .aload_n 0, 1), (14, .iload 5, 2), (16, .baload, 1), (17, .iload 4, 2), (19, .if_icmp .ne 6, 3), (22, .iload 5, 2), (24, .ireturn, 1), (25, .iinc 5 1, 3), (28, .goto (-21), 3), (31, .iconst (-1), 1), (32, .ireturn, 1)]
theorem dJ1_indexOfChar_4cfef : dChk (pCd 3189) eJ1_indexOfChar_4cfef = true := by decide +kernel
def fJ1_indexOfChar_4cfef_7 (N : Nat) : Nat → Nat → Int32 → Int32 → Int32 → pH → Option (Int32 × pH)
  | 0, _, _, _, _, _ => none
  | n + 1, v0, v3, v4, v5, h => if v3 ≤ v5 then (
  some ((-1 : Int32), h)) else (
  (ldB v0 v5).bind fun t2 =>
  if t2 = v4 then (
  some (v5, h)) else (
  fJ1_indexOfChar_4cfef_7 N n v0 v3 v4 (v5 + (1 : Int32)) h))
theorem lJ1_indexOfChar_4cfef_7 (X : pX) (N d : Nat)  : ∀ (n : Nat) (v0 : Nat) (v3 : Int32) (v4 : Int32) (v5 : Int32) (h : pH) (q : Int32 × pH), fJ1_indexOfChar_4cfef_7 N n v0 v3 v4 v5 h = some q → ¬ v0 = 4 → Run X (d + 0) 14 false (pCd 3189) 6 (some .int) 7 [(0, .ref v0), (3, .int v3), (4, .int v4), (5, .int v5)] [] h 0 0 (some (.int q.1), q.2, 0, 0) := by
  intro n
  induction n with
  | zero => intro v0 v3 v4 v5 h q hf; cases hf
  | succ n ih =>
    intro v0 v3 v4 v5 h q hf nv0
    unfold fJ1_indexOfChar_4cfef_7 at hf
    refine r_iload (dGet dJ1_indexOfChar_4cfef (j := 5) rfl) rfl ?_
    refine r_iload_n (dGet dJ1_indexOfChar_4cfef (j := 6) rfl) rfl ?_
    by_cases c1 : v3 ≤ v5
    · rw [if_pos c1] at hf
      refine r_icmp_ge_t (dGet dJ1_indexOfChar_4cfef (j := 7) rfl) rfl c1 ?_
      refine r_iconst (dGet dJ1_indexOfChar_4cfef (j := 17) rfl) kI_m1 ?_
      cases hf
      exact r_iret (dGet dJ1_indexOfChar_4cfef (j := 18) rfl) rfl rfl
    · rw [if_neg c1] at hf
      refine r_icmp_ge_f (dGet dJ1_indexOfChar_4cfef (j := 7) rfl) rfl c1 ?_
      refine r_aload_n (dGet dJ1_indexOfChar_4cfef (j := 8) rfl) nv0 rfl ?_
      refine r_iload (dGet dJ1_indexOfChar_4cfef (j := 9) rfl) rfl ?_
      obtain ⟨t2, et2, hf⟩ := Option.bind_eq_some_iff.mp hf
      refine r_bald (dGet dJ1_indexOfChar_4cfef (j := 10) rfl) et2 ?_
      refine r_iload (dGet dJ1_indexOfChar_4cfef (j := 11) rfl) rfl ?_
      by_cases c3 : t2 = v4
      · rw [if_pos c3] at hf
        refine r_icmp_ne_f (dGet dJ1_indexOfChar_4cfef (j := 12) rfl) rfl c3 ?_
        refine r_iload (dGet dJ1_indexOfChar_4cfef (j := 13) rfl) rfl ?_
        cases hf
        exact r_iret (dGet dJ1_indexOfChar_4cfef (j := 14) rfl) rfl rfl
      · rw [if_neg c3] at hf
        refine r_icmp_ne_t (dGet dJ1_indexOfChar_4cfef (j := 12) rfl) rfl c3 ?_
        refine r_iinc (lv' := [(5, .int (v5 + (1 : Int32))), (0, .ref v0), (3, .int v3), (4, .int v4)]) (dGet dJ1_indexOfChar_4cfef (j := 15) rfl) rfl (by decide) kI_1 rfl ?_
        refine r_goto (dGet dJ1_indexOfChar_4cfef (j := 16) rfl) rfl ?_
        refine Run.weak [(0, .ref v0), (3, .int v3), (4, .int v4), (5, .int (v5 + (1 : Int32)))] (by simp) (by simp [pNd]) ?_
        exact ih v0 v3 v4 (v5 + (1 : Int32)) h q hf nv0
def fJ1_indexOfChar_4cfef (N : Nat) (v0 : Nat) (v1 : Int32) (v2 : Int32) (v3 : Int32) (h : pH) : Option (Int32 × pH) :=
  if v0 = 4 then none else
  fJ1_indexOfChar_4cfef_7 N N v0 v3 (v1.toInt8.toInt32) v2 h
theorem cJ1_indexOfChar_4cfef (X : pX) (N d : Nat) (v0 : Nat) (v1 : Int32) (v2 : Int32) (v3 : Int32) (h : pH) (q : Int32 × pH) (hf : fJ1_indexOfChar_4cfef N v0 v1 v2 v3 h = some q) : Calls X (d + 0) 45 [.ref v0, .int v1, .int v2, .int v3] h (some (.int q.1), q.2, 0, 0) := by
  refine Calls.of M45 (Nat.le_of_ble_eq_true rfl) ?_
  show Run X (d + 0) 14 false (pCd 3189) 6 (some .int) 0 [(0, .ref v0), (1, .int v1), (2, .int v2), (3, .int v3)] [] h 0 0 (some (.int q.1), q.2, 0, 0)
  unfold fJ1_indexOfChar_4cfef at hf
  refine r_iload_n (dGet dJ1_indexOfChar_4cfef (j := 0) rfl) rfl ?_
  refine r_i2b (dGet dJ1_indexOfChar_4cfef (j := 1) rfl) ?_
  refine r_istore (lv' := [(4, .int (v1.toInt8.toInt32)), (0, .ref v0), (1, .int v1), (2, .int v2), (3, .int v3)]) (dGet dJ1_indexOfChar_4cfef (j := 2) rfl) (by decide) rfl ?_
  refine r_iload_n (dGet dJ1_indexOfChar_4cfef (j := 3) rfl) rfl ?_
  refine r_istore (lv' := [(5, .int v2), (4, .int (v1.toInt8.toInt32)), (0, .ref v0), (1, .int v1), (2, .int v2), (3, .int v3)]) (dGet dJ1_indexOfChar_4cfef (j := 4) rfl) (by decide) rfl ?_
  by_cases nv0 : v0 = 4
  · rw [if_pos nv0] at hf; cases hf
  rw [if_neg nv0] at hf
  refine Run.weak [(0, .ref v0), (3, .int v3), (4, .int (v1.toInt8.toInt32)), (5, .int v2)] (by simp) (by simp [pNd]) ?_
  exact lJ1_indexOfChar_4cfef_7 X N d N v0 v3 (v1.toInt8.toInt32) v2 h q hf nv0
def eJ1_indexOf_4cfef : List (Nat × Instr × Nat) := [(0, .iload_n 1, 1), (1, .invokestatic 88, 3), (4, .ifCond .ne 5, 3), (7, .iconst (-1), 1), (8, .ireturn, 1), (9, .iload_n 2, 1), (10, .iconst 0, 1), (11, .invokestatic 92, 3), (14, .istore_n 2, 1), (15, .iload_n 3, 1), (16, .aload_n 0, 1), (17, .arraylength, 1), (18, .invokestatic 38, 3), (21, .istore_n 3, 1), (22, .iload_n 2, 1), (23, .iload_n 3, 1), (24, .if_icmp .lt 5, 3), (27, .iconst (-1), 1), (28, .ireturn, 1), (29, .aload_n 0, 1), (30, .iload_n 1, 1), (31, .iload_n 2, 1), (32, .iload_n 3, 1), (33, .invokestatic 95, 3), (36, .ireturn, 1)]
theorem dJ1_indexOf_4cfef : dChk (pCd 3177) eJ1_indexOf_4cfef = true := by decide +kernel
def fJ1_indexOf_4cfef (N : Nat) (v0 : Nat) (v1 : Int32) (v2 : Int32) (v3 : Int32) (h : pH) : Option (Int32 × pH) :=
  (fJ1_canEncode_9a6ad N v1 h).bind fun q1 =>
  if q1.1 = 0 then (
  some ((-1 : Int32), q1.2)) else (
  if v0 = 4 then none else
  (lenB v0).bind fun t3 =>
  if (if v2 < (0 : Int32) then (0 : Int32) else v2) < (if t3 < v3 then t3 else v3) then (
  (fJ1_indexOfChar_4cfef N v0 v1 (if v2 < (0 : Int32) then (0 : Int32) else v2) (if t3 < v3 then t3 else v3) q1.2).bind fun q5 =>
  some (q5.1, q5.2)) else (
  some ((-1 : Int32), q1.2)))
theorem cJ1_indexOf_4cfef (X : pX) (N d : Nat) (v0 : Nat) (v1 : Int32) (v2 : Int32) (v3 : Int32) (h : pH) (q : Int32 × pH) (hf : fJ1_indexOf_4cfef N v0 v1 v2 v3 h = some q) : Calls X (d + 1) 43 [.ref v0, .int v1, .int v2, .int v3] h (some (.int q.1), q.2, 0, 0) := by
  refine Calls.of M43 (Nat.le_of_ble_eq_true rfl) ?_
  show Run X (d + 1) 14 false (pCd 3177) 4 (some .int) 0 [(0, .ref v0), (1, .int v1), (2, .int v2), (3, .int v3)] [] h 0 0 (some (.int q.1), q.2, 0, 0)
  unfold fJ1_indexOf_4cfef at hf
  refine r_iload_n (dGet dJ1_indexOf_4cfef (j := 0) rfl) rfl ?_
  obtain ⟨q1, eq1, hf⟩ := Option.bind_eq_some_iff.mp hf
  refine r_static (dGet dJ1_indexOf_4cfef (j := 1) rfl) (by decide +kernel) (by decide +kernel) L14_88 M44 rfl rfl (Nat.le_of_ble_eq_true rfl) (cJ1_canEncode_9a6ad X N (d + 0) v1 h q1 eq1) ?_
  by_cases c2 : q1.1 = 0
  · rw [if_pos c2] at hf
    refine r_if_ne_f (dGet dJ1_indexOf_4cfef (j := 2) rfl) rfl c2 ?_
    refine r_iconst (dGet dJ1_indexOf_4cfef (j := 3) rfl) kI_m1 ?_
    cases hf
    exact r_iret (dGet dJ1_indexOf_4cfef (j := 4) rfl) rfl rfl
  · rw [if_neg c2] at hf
    refine r_if_ne_t (dGet dJ1_indexOf_4cfef (j := 2) rfl) rfl c2 ?_
    refine r_iload_n (dGet dJ1_indexOf_4cfef (j := 5) rfl) rfl ?_
    refine r_iconst (dGet dJ1_indexOf_4cfef (j := 6) rfl) kI_0 ?_
    refine r_max (dGet dJ1_indexOf_4cfef (j := 7) rfl) (by decide +kernel) (by decide +kernel : pFind pMx 14 92 = some (0, 3181)) (Nat.le_of_ble_eq_true rfl) ?_
    refine r_istore_n (lv' := [(2, .int (if v2 < (0 : Int32) then (0 : Int32) else v2)), (0, .ref v0), (1, .int v1), (3, .int v3)]) (dGet dJ1_indexOf_4cfef (j := 8) rfl) (by decide) rfl ?_
    refine r_iload_n (dGet dJ1_indexOf_4cfef (j := 9) rfl) rfl ?_
    by_cases nv0 : v0 = 4
    · rw [if_pos nv0] at hf; cases hf
    rw [if_neg nv0] at hf
    refine r_aload_n (dGet dJ1_indexOf_4cfef (j := 10) rfl) nv0 rfl ?_
    obtain ⟨t3, et3, hf⟩ := Option.bind_eq_some_iff.mp hf
    refine r_blen (dGet dJ1_indexOf_4cfef (j := 11) rfl) et3 ?_
    refine r_min (dGet dJ1_indexOf_4cfef (j := 12) rfl) (by decide +kernel) (by decide +kernel : pFind pMx 14 38 = some (1, 3184)) (Nat.le_of_ble_eq_true rfl) ?_
    refine r_istore_n (lv' := [(3, .int (if t3 < v3 then t3 else v3)), (2, .int (if v2 < (0 : Int32) then (0 : Int32) else v2)), (0, .ref v0), (1, .int v1)]) (dGet dJ1_indexOf_4cfef (j := 13) rfl) (by decide) rfl ?_
    refine r_iload_n (dGet dJ1_indexOf_4cfef (j := 14) rfl) rfl ?_
    refine r_iload_n (dGet dJ1_indexOf_4cfef (j := 15) rfl) rfl ?_
    by_cases c4 : (if v2 < (0 : Int32) then (0 : Int32) else v2) < (if t3 < v3 then t3 else v3)
    · rw [if_pos c4] at hf
      refine r_icmp_lt_t (dGet dJ1_indexOf_4cfef (j := 16) rfl) rfl c4 ?_
      refine r_aload_n (dGet dJ1_indexOf_4cfef (j := 19) rfl) nv0 rfl ?_
      refine r_iload_n (dGet dJ1_indexOf_4cfef (j := 20) rfl) rfl ?_
      refine r_iload_n (dGet dJ1_indexOf_4cfef (j := 21) rfl) rfl ?_
      refine r_iload_n (dGet dJ1_indexOf_4cfef (j := 22) rfl) rfl ?_
      obtain ⟨q5, eq5, hf⟩ := Option.bind_eq_some_iff.mp hf
      refine r_static (dGet dJ1_indexOf_4cfef (j := 23) rfl) (by decide +kernel) (by decide +kernel) L14_95 M45 rfl rfl (Nat.le_of_ble_eq_true rfl) (cJ1_indexOfChar_4cfef X N (d + 0) v0 v1 (if v2 < (0 : Int32) then (0 : Int32) else v2) (if t3 < v3 then t3 else v3) q1.2 q5 eq5) ?_
      cases hf
      exact r_iret (dGet dJ1_indexOf_4cfef (j := 24) rfl) rfl rfl
    · rw [if_neg c4] at hf
      refine r_icmp_lt_f (dGet dJ1_indexOf_4cfef (j := 16) rfl) rfl c4 ?_
      refine r_iconst (dGet dJ1_indexOf_4cfef (j := 17) rfl) kI_m1 ?_
      cases hf
      exact r_iret (dGet dJ1_indexOf_4cfef (j := 18) rfl) rfl rfl
def eJ2_checkBoundsBeginEnd_d044e : List (Nat × Instr × Nat) := [(0, .iload_n 0, 1), (1, .iload_n 1, 1), (2, .aload_n 2, 1), (3, .invokestatic 48, 3), (6, .invokestatic 241, 3), (9, .return_, 1)]
theorem dJ2_checkBoundsBeginEnd_d044e : dChk (pCd 3201) eJ2_checkBoundsBeginEnd_d044e = true := by decide +kernel
def fJ2_checkBoundsBeginEnd_d044e (N : Nat) (v0 : Int32) (v1 : Int32) (v2 : Nat) (h : pH) : Option (pH) :=
  if v2 = 4 then none else
  (fJ2_length_9d52b N v2 h).bind fun q1 =>
  (fJ0_checkBoundsBeginEnd_23922 N v0 v1 q1.1 q1.2).bind fun h2 =>
  some h2
theorem cJ2_checkBoundsBeginEnd_d044e (X : pX) (N d : Nat) (v0 : Int32) (v1 : Int32) (v2 : Nat) (h : pH) (q : pH) (hf : fJ2_checkBoundsBeginEnd_d044e N v0 v1 v2 h = some q) : Calls X (d + 2) 48 [.int v0, .int v1, .ref v2] h (none, q, 0, 0) := by
  refine Calls.of M48 (Nat.le_of_ble_eq_true rfl) ?_
  show Run X (d + 2) 15 false (pCd 3201) 3 none 0 [(0, .int v0), (1, .int v1), (2, .ref v2)] [] h 0 0 (none, q, 0, 0)
  unfold fJ2_checkBoundsBeginEnd_d044e at hf
  refine r_iload_n (dGet dJ2_checkBoundsBeginEnd_d044e (j := 0) rfl) rfl ?_
  refine r_iload_n (dGet dJ2_checkBoundsBeginEnd_d044e (j := 1) rfl) rfl ?_
  by_cases nv2 : v2 = 4
  · rw [if_pos nv2] at hf; cases hf
  rw [if_neg nv2] at hf
  refine r_aload_n (dGet dJ2_checkBoundsBeginEnd_d044e (j := 2) rfl) nv2 rfl ?_
  obtain ⟨q1, eq1, hf⟩ := Option.bind_eq_some_iff.mp hf
  refine r_static (dGet dJ2_checkBoundsBeginEnd_d044e (j := 3) rfl) (by decide +kernel) (by decide +kernel) L15_48 M29 rfl rfl (Nat.le_of_ble_eq_true rfl) (cJ2_length_9d52b X N (d + 1) v2 h q1 eq1) ?_
  obtain ⟨h2, eh2, hf⟩ := Option.bind_eq_some_iff.mp hf
  refine r_static (dGet dJ2_checkBoundsBeginEnd_d044e (j := 4) rfl) (by decide +kernel) (by decide +kernel) L15_241 M49 rfl rfl (Nat.le_of_ble_eq_true rfl) (cJ0_checkBoundsBeginEnd_23922 X N (d + 0) v0 v1 q1.1 q1.2 h2 eh2) ?_
  cases hf
  exact r_vret (dGet dJ2_checkBoundsBeginEnd_d044e (j := 5) rfl) rfl
def eJ2_indexOfCharUnsafe_4cfef : List (Nat × Instr × Nat) := [(0, .iload_n 2, 1), (1, .istore 4, 2), (3, .iload 4, 2), (5, .iload_n 3, 1), (6, .if_icmp .ge 22, 3), (9, .aload_n 0, 1), (10, .iload 4, 2), (12, .invokestatic 71, 3), (15, .iload_n 1, 1), (16, .if_icmp .ne 6, 3), (19, .iload 4, 2), (21, .ireturn, 1), (22, .iinc 4 1, 3), (25, .goto (-22), 3), (28, .iconst (-1), 1), (29, .ireturn, 1)]
theorem dJ2_indexOfCharUnsafe_4cfef : dChk (pCd 3210) eJ2_indexOfCharUnsafe_4cfef = true := by decide +kernel
def fJ2_indexOfCharUnsafe_4cfef_3 (N : Nat) : Nat → Nat → Int32 → Int32 → Int32 → pH → Option (Int32 × pH)
  | 0, _, _, _, _, _ => none
  | n + 1, v0, v1, v3, v4, h => if v3 ≤ v4 then (
  some ((-1 : Int32), h)) else (
  (fJ2_getChar_3b067 N v0 v4 h).bind fun q2 =>
  if q2.1 = v1 then (
  some (v4, q2.2)) else (
  fJ2_indexOfCharUnsafe_4cfef_3 N n v0 v1 v3 (v4 + (1 : Int32)) q2.2))
theorem lJ2_indexOfCharUnsafe_4cfef_3 (X : pX) (N d : Nat)  : ∀ (n : Nat) (v0 : Nat) (v1 : Int32) (v3 : Int32) (v4 : Int32) (h : pH) (q : Int32 × pH), fJ2_indexOfCharUnsafe_4cfef_3 N n v0 v1 v3 v4 h = some q → ¬ v0 = 4 → Run X (d + 1) 15 false (pCd 3210) 5 (some .int) 3 [(0, .ref v0), (1, .int v1), (3, .int v3), (4, .int v4)] [] h 0 0 (some (.int q.1), q.2, 0, 0) := by
  intro n
  induction n with
  | zero => intro v0 v1 v3 v4 h q hf; cases hf
  | succ n ih =>
    intro v0 v1 v3 v4 h q hf nv0
    unfold fJ2_indexOfCharUnsafe_4cfef_3 at hf
    refine r_iload (dGet dJ2_indexOfCharUnsafe_4cfef (j := 2) rfl) rfl ?_
    refine r_iload_n (dGet dJ2_indexOfCharUnsafe_4cfef (j := 3) rfl) rfl ?_
    by_cases c1 : v3 ≤ v4
    · rw [if_pos c1] at hf
      refine r_icmp_ge_t (dGet dJ2_indexOfCharUnsafe_4cfef (j := 4) rfl) rfl c1 ?_
      refine r_iconst (dGet dJ2_indexOfCharUnsafe_4cfef (j := 14) rfl) kI_m1 ?_
      cases hf
      exact r_iret (dGet dJ2_indexOfCharUnsafe_4cfef (j := 15) rfl) rfl rfl
    · rw [if_neg c1] at hf
      refine r_icmp_ge_f (dGet dJ2_indexOfCharUnsafe_4cfef (j := 4) rfl) rfl c1 ?_
      refine r_aload_n (dGet dJ2_indexOfCharUnsafe_4cfef (j := 5) rfl) nv0 rfl ?_
      refine r_iload (dGet dJ2_indexOfCharUnsafe_4cfef (j := 6) rfl) rfl ?_
      obtain ⟨q2, eq2, hf⟩ := Option.bind_eq_some_iff.mp hf
      refine r_static (dGet dJ2_indexOfCharUnsafe_4cfef (j := 7) rfl) (by decide +kernel) (by decide +kernel) L15_71 M30 rfl rfl (Nat.le_of_ble_eq_true rfl) (cJ2_getChar_3b067 X N (d + 0) v0 v4 h q2 eq2) ?_
      refine r_iload_n (dGet dJ2_indexOfCharUnsafe_4cfef (j := 8) rfl) rfl ?_
      by_cases c3 : q2.1 = v1
      · rw [if_pos c3] at hf
        refine r_icmp_ne_f (dGet dJ2_indexOfCharUnsafe_4cfef (j := 9) rfl) rfl c3 ?_
        refine r_iload (dGet dJ2_indexOfCharUnsafe_4cfef (j := 10) rfl) rfl ?_
        cases hf
        exact r_iret (dGet dJ2_indexOfCharUnsafe_4cfef (j := 11) rfl) rfl rfl
      · rw [if_neg c3] at hf
        refine r_icmp_ne_t (dGet dJ2_indexOfCharUnsafe_4cfef (j := 9) rfl) rfl c3 ?_
        refine r_iinc (lv' := [(4, .int (v4 + (1 : Int32))), (0, .ref v0), (1, .int v1), (3, .int v3)]) (dGet dJ2_indexOfCharUnsafe_4cfef (j := 12) rfl) rfl (by decide) kI_1 rfl ?_
        refine r_goto (dGet dJ2_indexOfCharUnsafe_4cfef (j := 13) rfl) rfl ?_
        refine Run.weak [(0, .ref v0), (1, .int v1), (3, .int v3), (4, .int (v4 + (1 : Int32)))] (by simp) (by simp [pNd]) ?_
        exact ih v0 v1 v3 (v4 + (1 : Int32)) q2.2 q hf nv0
def fJ2_indexOfCharUnsafe_4cfef (N : Nat) (v0 : Nat) (v1 : Int32) (v2 : Int32) (v3 : Int32) (h : pH) : Option (Int32 × pH) :=
  if v0 = 4 then none else
  fJ2_indexOfCharUnsafe_4cfef_3 N N v0 v1 v3 v2 h
theorem cJ2_indexOfCharUnsafe_4cfef (X : pX) (N d : Nat) (v0 : Nat) (v1 : Int32) (v2 : Int32) (v3 : Int32) (h : pH) (q : Int32 × pH) (hf : fJ2_indexOfCharUnsafe_4cfef N v0 v1 v2 v3 h = some q) : Calls X (d + 1) 51 [.ref v0, .int v1, .int v2, .int v3] h (some (.int q.1), q.2, 0, 0) := by
  refine Calls.of M51 (Nat.le_of_ble_eq_true rfl) ?_
  show Run X (d + 1) 15 false (pCd 3210) 5 (some .int) 0 [(0, .ref v0), (1, .int v1), (2, .int v2), (3, .int v3)] [] h 0 0 (some (.int q.1), q.2, 0, 0)
  unfold fJ2_indexOfCharUnsafe_4cfef at hf
  refine r_iload_n (dGet dJ2_indexOfCharUnsafe_4cfef (j := 0) rfl) rfl ?_
  refine r_istore (lv' := [(4, .int v2), (0, .ref v0), (1, .int v1), (2, .int v2), (3, .int v3)]) (dGet dJ2_indexOfCharUnsafe_4cfef (j := 1) rfl) (by decide) rfl ?_
  by_cases nv0 : v0 = 4
  · rw [if_pos nv0] at hf; cases hf
  rw [if_neg nv0] at hf
  refine Run.weak [(0, .ref v0), (1, .int v1), (3, .int v3), (4, .int v2)] (by simp) (by simp [pNd]) ?_
  exact lJ2_indexOfCharUnsafe_4cfef_3 X N d N v0 v1 v3 v2 h q hf nv0
def eJ2_indexOfChar_4cfef : List (Nat × Instr × Nat) := [(0, .iload_n 2, 1), (1, .iload_n 3, 1), (2, .aload_n 0, 1), (3, .invokestatic 96, 3), (6, .aload_n 0, 1), (7, .iload_n 1, 1), (8, .iload_n 2, 1), (9, .iload_n 3, 1), (10, .invokestatic 244, 3), (13, .ireturn, 1)]
theorem dJ2_indexOfChar_4cfef : dChk (pCd 3198) eJ2_indexOfChar_4cfef = true := by decide +kernel
def fJ2_indexOfChar_4cfef (N : Nat) (v0 : Nat) (v1 : Int32) (v2 : Int32) (v3 : Int32) (h : pH) : Option (Int32 × pH) :=
  if v0 = 4 then none else
  (fJ2_checkBoundsBeginEnd_d044e N v2 v3 v0 h).bind fun h1 =>
  (fJ2_indexOfCharUnsafe_4cfef N v0 v1 v2 v3 h1).bind fun q2 =>
  some (q2.1, q2.2)
theorem cJ2_indexOfChar_4cfef (X : pX) (N d : Nat) (v0 : Nat) (v1 : Int32) (v2 : Int32) (v3 : Int32) (h : pH) (q : Int32 × pH) (hf : fJ2_indexOfChar_4cfef N v0 v1 v2 v3 h = some q) : Calls X (d + 3) 47 [.ref v0, .int v1, .int v2, .int v3] h (some (.int q.1), q.2, 0, 0) := by
  refine Calls.of M47 (Nat.le_of_ble_eq_true rfl) ?_
  show Run X (d + 3) 15 false (pCd 3198) 4 (some .int) 0 [(0, .ref v0), (1, .int v1), (2, .int v2), (3, .int v3)] [] h 0 0 (some (.int q.1), q.2, 0, 0)
  unfold fJ2_indexOfChar_4cfef at hf
  refine r_iload_n (dGet dJ2_indexOfChar_4cfef (j := 0) rfl) rfl ?_
  refine r_iload_n (dGet dJ2_indexOfChar_4cfef (j := 1) rfl) rfl ?_
  by_cases nv0 : v0 = 4
  · rw [if_pos nv0] at hf; cases hf
  rw [if_neg nv0] at hf
  refine r_aload_n (dGet dJ2_indexOfChar_4cfef (j := 2) rfl) nv0 rfl ?_
  obtain ⟨h1, eh1, hf⟩ := Option.bind_eq_some_iff.mp hf
  refine r_static (dGet dJ2_indexOfChar_4cfef (j := 3) rfl) (by decide +kernel) (by decide +kernel) L15_96 M48 rfl rfl (Nat.le_of_ble_eq_true rfl) (cJ2_checkBoundsBeginEnd_d044e X N (d + 0) v2 v3 v0 h h1 eh1) ?_
  refine r_aload_n (dGet dJ2_indexOfChar_4cfef (j := 4) rfl) nv0 rfl ?_
  refine r_iload_n (dGet dJ2_indexOfChar_4cfef (j := 5) rfl) rfl ?_
  refine r_iload_n (dGet dJ2_indexOfChar_4cfef (j := 6) rfl) rfl ?_
  refine r_iload_n (dGet dJ2_indexOfChar_4cfef (j := 7) rfl) rfl ?_
  obtain ⟨q2, eq2, hf⟩ := Option.bind_eq_some_iff.mp hf
  refine r_static (dGet dJ2_indexOfChar_4cfef (j := 8) rfl) (by decide +kernel) (by decide +kernel) L15_244 M51 rfl rfl (Nat.le_of_ble_eq_true rfl) (cJ2_indexOfCharUnsafe_4cfef X N (d + 1) v0 v1 v2 v3 h1 q2 eq2) ?_
  cases hf
  exact r_iret (dGet dJ2_indexOfChar_4cfef (j := 9) rfl) rfl rfl
def eJ2_indexOfSupplementary_4cfef : List (Nat × Instr × Nat) := [(0, .iload_n 1, 1), (1, .invokestatic 164, 3), (4, .ifCond .eq 65, 3), (7, .iload_n 1, 1), (8, .invokestatic 157, 3), (11, .istore 4, 2), (13, .iload_n 1, 1), (14, .invokestatic 161, 3), (17, .istore 5, 2), (19, .iload_n 2, 1), (20, .iload_n 3, 1), (21, .aload_n 0, 1), (22, .invokestatic 96, 3), (25, .iload_n 2, 1), (26, .istore 6, 2), (28, .iload 6, 2), (30, .iload_n 3, 1), (31, .iconst 1, 1), (32, .isub, 1), (33, .if_icmp .ge 36, 3), (36, .aload_n 0, 1), (37, .iload 6, 2), (39, .invokestatic 71, 3), (42, .iload 4, 2), (44, .if_icmp .ne 19, 3), (47, .aload_n 0, 1), (48, .iload 6, 2), (50, .iconst 1, 1), (51, .iadd, 1), (52, .invokestatic 71, 3), (55, .iload 5, 2), (57, .if_icmp .ne 6, 3), (60, .iload 6, 2), (62, .ireturn, 1), (63, .iinc 6 1, 3), (66, .goto (-38), 3), (69, .iconst (-1), 1), (70, .ireturn, 1)]
theorem dJ2_indexOfSupplementary_4cfef : dChk (pCd 3213) eJ2_indexOfSupplementary_4cfef = true := by decide +kernel
def fJ2_indexOfSupplementary_4cfef (N : Nat) (v0 : Nat) (v1 : Int32) (v2 : Int32) (v3 : Int32) (h : pH) : Option (Int32 × pH) :=
  none
theorem cJ2_indexOfSupplementary_4cfef (X : pX) (N d : Nat) (v0 : Nat) (v1 : Int32) (v2 : Int32) (v3 : Int32) (h : pH) (q : Int32 × pH) (hf : fJ2_indexOfSupplementary_4cfef N v0 v1 v2 v3 h = some q) : Calls X (d + 0) 52 [.ref v0, .int v1, .int v2, .int v3] h (some (.int q.1), q.2, 0, 0) := by
  refine Calls.of M52 (Nat.le_of_ble_eq_true rfl) ?_
  show Run X (d + 0) 15 false (pCd 3213) 7 (some .int) 0 [(0, .ref v0), (1, .int v1), (2, .int v2), (3, .int v3)] [] h 0 0 (some (.int q.1), q.2, 0, 0)
  unfold fJ2_indexOfSupplementary_4cfef at hf
  refine r_iload_n (dGet dJ2_indexOfSupplementary_4cfef (j := 0) rfl) rfl ?_
  cases hf
def eJ2_indexOf_4cfef : List (Nat × Instr × Nat) := [(0, .iload_n 2, 1), (1, .iconst 0, 1), (2, .invokestatic 224, 3), (5, .istore_n 2, 1), (6, .iload_n 3, 1), (7, .aload_n 0, 1), (8, .arraylength, 1), (9, .iconst 1, 1), (10, .ishr, 1), (11, .invokestatic 183, 3), (14, .istore_n 3, 1), (15, .iload_n 2, 1), (16, .iload_n 3, 1), (17, .if_icmp .lt 5, 3), (20, .iconst (-1), 1), (21, .ireturn, 1), (22, .iload_n 1, 1), (23, .ldc 227, 2), (25, .if_icmp .ge 11, 3), (28, .aload_n 0, 1), (29, .iload_n 1, 1), (30, .iload_n 2, 1), (31, .iload_n 3, 1), (32, .invokestatic 228, 3), (35, .ireturn, 1), (36, .aload_n 0, 1), (37, .iload_n 1, 1), (38, .iload_n 2, 1), (39, .iload_n 3, 1), (40, .invokestatic 232, 3), (43, .ireturn, 1)]
theorem dJ2_indexOf_4cfef : dChk (pCd 3192) eJ2_indexOf_4cfef = true := by decide +kernel
def fJ2_indexOf_4cfef (N : Nat) (v0 : Nat) (v1 : Int32) (v2 : Int32) (v3 : Int32) (h : pH) : Option (Int32 × pH) :=
  if v0 = 4 then none else
  (lenB v0).bind fun t1 =>
  if (if v2 < (0 : Int32) then (0 : Int32) else v2) < (if (t1 >>> ((1 : Int32) &&& 31)) < v3 then (t1 >>> ((1 : Int32) &&& 31)) else v3) then (
  if (65536 : Int32) ≤ v1 then (
  (fJ2_indexOfSupplementary_4cfef N v0 v1 (if v2 < (0 : Int32) then (0 : Int32) else v2) (if (t1 >>> ((1 : Int32) &&& 31)) < v3 then (t1 >>> ((1 : Int32) &&& 31)) else v3) h).bind fun q4 =>
  some (q4.1, q4.2)) else (
  (fJ2_indexOfChar_4cfef N v0 v1 (if v2 < (0 : Int32) then (0 : Int32) else v2) (if (t1 >>> ((1 : Int32) &&& 31)) < v3 then (t1 >>> ((1 : Int32) &&& 31)) else v3) h).bind fun q5 =>
  some (q5.1, q5.2))) else (
  some ((-1 : Int32), h))
theorem cJ2_indexOf_4cfef (X : pX) (N d : Nat) (v0 : Nat) (v1 : Int32) (v2 : Int32) (v3 : Int32) (h : pH) (q : Int32 × pH) (hf : fJ2_indexOf_4cfef N v0 v1 v2 v3 h = some q) : Calls X (d + 4) 46 [.ref v0, .int v1, .int v2, .int v3] h (some (.int q.1), q.2, 0, 0) := by
  refine Calls.of M46 (Nat.le_of_ble_eq_true rfl) ?_
  show Run X (d + 4) 15 false (pCd 3192) 4 (some .int) 0 [(0, .ref v0), (1, .int v1), (2, .int v2), (3, .int v3)] [] h 0 0 (some (.int q.1), q.2, 0, 0)
  unfold fJ2_indexOf_4cfef at hf
  refine r_iload_n (dGet dJ2_indexOf_4cfef (j := 0) rfl) rfl ?_
  refine r_iconst (dGet dJ2_indexOf_4cfef (j := 1) rfl) kI_0 ?_
  refine r_max (dGet dJ2_indexOf_4cfef (j := 2) rfl) (by decide +kernel) (by decide +kernel : pFind pMx 15 224 = some (0, 3193)) (Nat.le_of_ble_eq_true rfl) ?_
  refine r_istore_n (lv' := [(2, .int (if v2 < (0 : Int32) then (0 : Int32) else v2)), (0, .ref v0), (1, .int v1), (3, .int v3)]) (dGet dJ2_indexOf_4cfef (j := 3) rfl) (by decide) rfl ?_
  refine r_iload_n (dGet dJ2_indexOf_4cfef (j := 4) rfl) rfl ?_
  by_cases nv0 : v0 = 4
  · rw [if_pos nv0] at hf; cases hf
  rw [if_neg nv0] at hf
  refine r_aload_n (dGet dJ2_indexOf_4cfef (j := 5) rfl) nv0 rfl ?_
  obtain ⟨t1, et1, hf⟩ := Option.bind_eq_some_iff.mp hf
  refine r_blen (dGet dJ2_indexOf_4cfef (j := 6) rfl) et1 ?_
  refine r_iconst (dGet dJ2_indexOf_4cfef (j := 7) rfl) kI_1 ?_
  refine r_ishr (dGet dJ2_indexOf_4cfef (j := 8) rfl) ?_
  refine r_min (dGet dJ2_indexOf_4cfef (j := 9) rfl) (by decide +kernel) (by decide +kernel : pFind pMx 15 183 = some (1, 3194)) (Nat.le_of_ble_eq_true rfl) ?_
  refine r_istore_n (lv' := [(3, .int (if (t1 >>> ((1 : Int32) &&& 31)) < v3 then (t1 >>> ((1 : Int32) &&& 31)) else v3)), (2, .int (if v2 < (0 : Int32) then (0 : Int32) else v2)), (0, .ref v0), (1, .int v1)]) (dGet dJ2_indexOf_4cfef (j := 10) rfl) (by decide) rfl ?_
  refine r_iload_n (dGet dJ2_indexOf_4cfef (j := 11) rfl) rfl ?_
  refine r_iload_n (dGet dJ2_indexOf_4cfef (j := 12) rfl) rfl ?_
  by_cases c2 : (if v2 < (0 : Int32) then (0 : Int32) else v2) < (if (t1 >>> ((1 : Int32) &&& 31)) < v3 then (t1 >>> ((1 : Int32) &&& 31)) else v3)
  · rw [if_pos c2] at hf
    refine r_icmp_lt_t (dGet dJ2_indexOf_4cfef (j := 13) rfl) rfl c2 ?_
    refine r_iload_n (dGet dJ2_indexOf_4cfef (j := 16) rfl) rfl ?_
    refine r_ldci (v := 65536) (dGet dJ2_indexOf_4cfef (j := 17) rfl) (by decide +kernel) (by decide +kernel : pFind pKi 15 227 = some (65536, 3195)) ?_
    by_cases c3 : (65536 : Int32) ≤ v1
    · rw [if_pos c3] at hf
      refine r_icmp_ge_t (dGet dJ2_indexOf_4cfef (j := 18) rfl) rfl c3 ?_
      refine r_aload_n (dGet dJ2_indexOf_4cfef (j := 25) rfl) nv0 rfl ?_
      refine r_iload_n (dGet dJ2_indexOf_4cfef (j := 26) rfl) rfl ?_
      refine r_iload_n (dGet dJ2_indexOf_4cfef (j := 27) rfl) rfl ?_
      refine r_iload_n (dGet dJ2_indexOf_4cfef (j := 28) rfl) rfl ?_
      obtain ⟨q4, eq4, hf⟩ := Option.bind_eq_some_iff.mp hf
      refine r_static (dGet dJ2_indexOf_4cfef (j := 29) rfl) (by decide +kernel) (by decide +kernel) L15_232 M52 rfl rfl (Nat.le_of_ble_eq_true rfl) (cJ2_indexOfSupplementary_4cfef X N (d + 3) v0 v1 (if v2 < (0 : Int32) then (0 : Int32) else v2) (if (t1 >>> ((1 : Int32) &&& 31)) < v3 then (t1 >>> ((1 : Int32) &&& 31)) else v3) h q4 eq4) ?_
      cases hf
      exact r_iret (dGet dJ2_indexOf_4cfef (j := 30) rfl) rfl rfl
    · rw [if_neg c3] at hf
      refine r_icmp_ge_f (dGet dJ2_indexOf_4cfef (j := 18) rfl) rfl c3 ?_
      refine r_aload_n (dGet dJ2_indexOf_4cfef (j := 19) rfl) nv0 rfl ?_
      refine r_iload_n (dGet dJ2_indexOf_4cfef (j := 20) rfl) rfl ?_
      refine r_iload_n (dGet dJ2_indexOf_4cfef (j := 21) rfl) rfl ?_
      refine r_iload_n (dGet dJ2_indexOf_4cfef (j := 22) rfl) rfl ?_
      obtain ⟨q5, eq5, hf⟩ := Option.bind_eq_some_iff.mp hf
      refine r_static (dGet dJ2_indexOf_4cfef (j := 23) rfl) (by decide +kernel) (by decide +kernel) L15_228 M47 rfl rfl (Nat.le_of_ble_eq_true rfl) (cJ2_indexOfChar_4cfef X N (d + 0) v0 v1 (if v2 < (0 : Int32) then (0 : Int32) else v2) (if (t1 >>> ((1 : Int32) &&& 31)) < v3 then (t1 >>> ((1 : Int32) &&& 31)) else v3) h q5 eq5) ?_
      cases hf
      exact r_iret (dGet dJ2_indexOf_4cfef (j := 24) rfl) rfl rfl
  · rw [if_neg c2] at hf
    refine r_icmp_lt_f (dGet dJ2_indexOf_4cfef (j := 13) rfl) rfl c2 ?_
    refine r_iconst (dGet dJ2_indexOf_4cfef (j := 14) rfl) kI_m1 ?_
    cases hf
    exact r_iret (dGet dJ2_indexOf_4cfef (j := 15) rfl) rfl rfl
def eJ0_indexOf_7cf53 : List (Nat × Instr × Nat) := [(0, .aload_n 0, 1), (1, .invokevirtual 492, 3), (4, .ifCond .eq 19, 3), (7, .aload_n 0, 1), (8, .getfield 9, 3), (11, .iload_n 1, 1), (12, .iload_n 2, 1), (13, .aload_n 0, 1), (14, .invokevirtual 505, 3), (17, .invokestatic 637, 3), (20, .goto 16, 3), (23, .aload_n 0, 1), (24, .getfield 9, 3), (27, .iload_n 1, 1), (28, .iload_n 2, 1), (29, .aload_n 0, 1), (30, .invokevirtual 505, 3), (33, .invokestatic 640, 3), (36, .ireturn, 1)]
theorem dJ0_indexOf_7cf53 : dChk (pCd 3173) eJ0_indexOf_7cf53 = true := by decide +kernel
def fJ0_indexOf_7cf53 (N : Nat) (v0 : Nat) (v1 : Int32) (v2 : Int32) (h : pH) : Option (Int32 × pH) := if isO h v0 13 = true then (
  (fJ0_isLatin1_aae02 N v0 h).bind fun q1 =>
  if q1.1 = 0 then (
  (getSv v0).bind fun t3 =>
  (fJ0_length_8abf5 N v0 q1.2).bind fun q4 =>
  (fJ2_indexOf_4cfef N t3 v1 v2 q4.1 q4.2).bind fun q5 =>
  some (q5.1, q5.2)) else (
  (getSv v0).bind fun t6 =>
  (fJ0_length_8abf5 N v0 q1.2).bind fun q7 =>
  (fJ1_indexOf_4cfef N t6 v1 v2 q7.1 q7.2).bind fun q8 =>
  some (q8.1, q8.2))) else none
theorem oJ0_indexOf_7cf53 {N : Nat} {v0 : Nat} {v1 : Int32} {v2 : Int32} {h : pH} {q : Int32 × pH} (hf : fJ0_indexOf_7cf53 N v0 v1 v2 h = some q) : isO h v0 13 = true := by
  unfold fJ0_indexOf_7cf53 at hf
  by_cases hc : isO h v0 13 = true
  · exact hc
  · rw [if_neg hc] at hf; cases hf
theorem cJ0_indexOf_7cf53 (X : pX) (N d : Nat) (v0 : Nat) (v1 : Int32) (v2 : Int32) (h : pH) (q : Int32 × pH) (hf : fJ0_indexOf_7cf53 N v0 v1 v2 h = some q) : Calls X (d + 5) 42 [.ref v0, .int v1, .int v2] h (some (.int q.1), q.2, 0, 0) := by
  refine Calls.of M42 (Nat.le_of_ble_eq_true rfl) ?_
  show Run X (d + 5) 13 false (pCd 3173) 3 (some .int) 0 [(0, .ref v0), (1, .int v1), (2, .int v2)] [] h 0 0 (some (.int q.1), q.2, 0, 0)
  unfold fJ0_indexOf_7cf53 at hf
  by_cases hc : isO h v0 13 = true
  · rw [if_pos hc] at hf
    have nv0 : ¬ v0 = 4 := isO_ne hc
    refine r_aload_n (dGet dJ0_indexOf_7cf53 (j := 0) rfl) nv0 rfl ?_
    obtain ⟨q1, eq1, hf⟩ := Option.bind_eq_some_iff.mp hf
    refine r_virtual (dGet dJ0_indexOf_7cf53 (j := 1) rfl) L13_492 M23 rfl rfl (Nat.le_of_ble_eq_true rfl) (oJ0_isLatin1_aae02 eq1) (cJ0_isLatin1_aae02 X N (d + 4) v0 h q1 eq1) ?_
    by_cases c2 : q1.1 = 0
    · rw [if_pos c2] at hf
      refine r_if_eq_t (dGet dJ0_indexOf_7cf53 (j := 2) rfl) rfl c2 ?_
      refine r_aload_n (dGet dJ0_indexOf_7cf53 (j := 11) rfl) nv0 rfl ?_
      obtain ⟨t3, et3, hf⟩ := Option.bind_eq_some_iff.mp hf
      refine r_getSv (dGet dJ0_indexOf_7cf53 (j := 12) rfl) (by decide +kernel : pFind pFS 13 9 = some (0, 10074)) et3 ?_
      refine r_iload_n (dGet dJ0_indexOf_7cf53 (j := 13) rfl) rfl ?_
      refine r_iload_n (dGet dJ0_indexOf_7cf53 (j := 14) rfl) rfl ?_
      refine r_aload_n (dGet dJ0_indexOf_7cf53 (j := 15) rfl) nv0 rfl ?_
      obtain ⟨q4, eq4, hf⟩ := Option.bind_eq_some_iff.mp hf
      refine r_virtual (dGet dJ0_indexOf_7cf53 (j := 16) rfl) L13_505 M2 rfl rfl (Nat.le_of_ble_eq_true rfl) (oJ0_length_8abf5 eq4) (cJ0_length_8abf5 X N (d + 3) v0 q1.2 q4 eq4) ?_
      obtain ⟨q5, eq5, hf⟩ := Option.bind_eq_some_iff.mp hf
      refine r_static (dGet dJ0_indexOf_7cf53 (j := 17) rfl) (by decide +kernel) (by decide +kernel) L13_640 M46 rfl rfl (Nat.le_of_ble_eq_true rfl) (cJ2_indexOf_4cfef X N (d + 0) t3 v1 v2 q4.1 q4.2 q5 eq5) ?_
      cases hf
      exact r_iret (dGet dJ0_indexOf_7cf53 (j := 18) rfl) rfl rfl
    · rw [if_neg c2] at hf
      refine r_if_eq_f (dGet dJ0_indexOf_7cf53 (j := 2) rfl) rfl c2 ?_
      refine r_aload_n (dGet dJ0_indexOf_7cf53 (j := 3) rfl) nv0 rfl ?_
      obtain ⟨t6, et6, hf⟩ := Option.bind_eq_some_iff.mp hf
      refine r_getSv (dGet dJ0_indexOf_7cf53 (j := 4) rfl) (by decide +kernel : pFind pFS 13 9 = some (0, 10074)) et6 ?_
      refine r_iload_n (dGet dJ0_indexOf_7cf53 (j := 5) rfl) rfl ?_
      refine r_iload_n (dGet dJ0_indexOf_7cf53 (j := 6) rfl) rfl ?_
      refine r_aload_n (dGet dJ0_indexOf_7cf53 (j := 7) rfl) nv0 rfl ?_
      obtain ⟨q7, eq7, hf⟩ := Option.bind_eq_some_iff.mp hf
      refine r_virtual (dGet dJ0_indexOf_7cf53 (j := 8) rfl) L13_505 M2 rfl rfl (Nat.le_of_ble_eq_true rfl) (oJ0_length_8abf5 eq7) (cJ0_length_8abf5 X N (d + 3) v0 q1.2 q7 eq7) ?_
      obtain ⟨q8, eq8, hf⟩ := Option.bind_eq_some_iff.mp hf
      refine r_static (dGet dJ0_indexOf_7cf53 (j := 9) rfl) (by decide +kernel) (by decide +kernel) L13_637 M43 rfl rfl (Nat.le_of_ble_eq_true rfl) (cJ1_indexOf_4cfef X N (d + 3) t6 v1 v2 q7.1 q7.2 q8 eq8) ?_
      refine r_goto (dGet dJ0_indexOf_7cf53 (j := 10) rfl) rfl ?_
      cases hf
      exact r_iret (dGet dJ0_indexOf_7cf53 (j := 18) rfl) rfl rfl
  · rw [if_neg hc] at hf; cases hf
def eJ0_indexOf_0f7a4 : List (Nat × Instr × Nat) := [(0, .aload_n 0, 1), (1, .iload_n 1, 1), (2, .iconst 0, 1), (3, .invokevirtual 633, 3), (6, .ireturn, 1)]
theorem dJ0_indexOf_0f7a4 : dChk (pCd 3169) eJ0_indexOf_0f7a4 = true := by decide +kernel
def fJ0_indexOf_0f7a4 (N : Nat) (v0 : Nat) (v1 : Int32) (h : pH) : Option (Int32 × pH) := if isO h v0 13 = true then (
  (fJ0_indexOf_7cf53 N v0 v1 (0 : Int32) h).bind fun q1 =>
  some (q1.1, q1.2)) else none
theorem oJ0_indexOf_0f7a4 {N : Nat} {v0 : Nat} {v1 : Int32} {h : pH} {q : Int32 × pH} (hf : fJ0_indexOf_0f7a4 N v0 v1 h = some q) : isO h v0 13 = true := by
  unfold fJ0_indexOf_0f7a4 at hf
  by_cases hc : isO h v0 13 = true
  · exact hc
  · rw [if_neg hc] at hf; cases hf
theorem cJ0_indexOf_0f7a4 (X : pX) (N d : Nat) (v0 : Nat) (v1 : Int32) (h : pH) (q : Int32 × pH) (hf : fJ0_indexOf_0f7a4 N v0 v1 h = some q) : Calls X (d + 6) 41 [.ref v0, .int v1] h (some (.int q.1), q.2, 0, 0) := by
  refine Calls.of M41 (Nat.le_of_ble_eq_true rfl) ?_
  show Run X (d + 6) 13 false (pCd 3169) 2 (some .int) 0 [(0, .ref v0), (1, .int v1)] [] h 0 0 (some (.int q.1), q.2, 0, 0)
  unfold fJ0_indexOf_0f7a4 at hf
  by_cases hc : isO h v0 13 = true
  · rw [if_pos hc] at hf
    have nv0 : ¬ v0 = 4 := isO_ne hc
    refine r_aload_n (dGet dJ0_indexOf_0f7a4 (j := 0) rfl) nv0 rfl ?_
    refine r_iload_n (dGet dJ0_indexOf_0f7a4 (j := 1) rfl) rfl ?_
    refine r_iconst (dGet dJ0_indexOf_0f7a4 (j := 2) rfl) kI_0 ?_
    obtain ⟨q1, eq1, hf⟩ := Option.bind_eq_some_iff.mp hf
    refine r_virtual (dGet dJ0_indexOf_0f7a4 (j := 3) rfl) L13_633 M42 rfl rfl (Nat.le_of_ble_eq_true rfl) (oJ0_indexOf_7cf53 eq1) (cJ0_indexOf_7cf53 X N (d + 0) v0 v1 (0 : Int32) h q1 eq1) ?_
    cases hf
    exact r_iret (dGet dJ0_indexOf_0f7a4 (j := 4) rfl) rfl rfl
  · rw [if_neg hc] at hf; cases hf
def eJ7_copyOf_c38d5 : List (Nat × Instr × Nat) := [(0, .iload_n 1, 1), (1, .aload_n 0, 1), (2, .arraylength, 1), (3, .if_icmp .ne 11, 3), (6, .aload_n 0, 1), (7, .invokevirtual 319, 3), (10, .checkcast 320, 3), (13, .areturn, 1), (14, .iload_n 1, 1), (15, .newarray .long, 2), (17, .astore_n 2, 1), (18, .aload_n 0, 1), (19, .iconst 0, 1), (20, .aload_n 2, 1), (21, .iconst 0, 1), (22, .aload_n 0, 1), (23, .arraylength, 1), (24, .iload_n 1, 1), (25, .invokestatic 304, 3), (28, .invokestatic 150, 3), (31, .aload_n 2, 1), (32, .areturn, 1)]
theorem dJ7_copyOf_c38d5 : dChk (pCd 6016) eJ7_copyOf_c38d5 = true := by decide +kernel
def fJ7_copyOf_c38d5 (N : Nat) (v0 : Nat) (v1 : Int32) (h : pH) : Option (Nat × pH × Nat × Nat) :=
  if v0 = 4 then none else
  (lenA h v0).bind fun t1 =>
  if v1 = t1 then (
  none) else (
  (newJ v1 h).bind fun q3 =>
  if q3.1 = 4 then none else
  (lenA q3.2.1 v0).bind fun t4 =>
  (copyA q3.2.1 v0 (0 : Int32) q3.1 (0 : Int32) (if v1 < t4 then v1 else t4)).bind fun h5 =>
  if q3.1 < 6 then none else some (q3.1, h5, (0 + 1), (0 + q3.2.2)))
theorem cJ7_copyOf_c38d5 (X : pX) (N d : Nat) (v0 : Nat) (v1 : Int32) (h : pH) (q : Nat × pH × Nat × Nat) (hf : fJ7_copyOf_c38d5 N v0 v1 h = some q) : Calls X (d + 1) 177 [.ref v0, .int v1] h (some (.ref q.1), q.2.1, q.2.2.1, q.2.2.2) := by
  refine Calls.of M177 (Nat.le_of_ble_eq_true rfl) ?_
  show Run X (d + 1) 16 false (pCd 6016) 3 (some (.array .long)) 0 [(0, .ref v0), (1, .int v1)] [] h 0 0 (some (.ref q.1), q.2.1, q.2.2.1, q.2.2.2)
  unfold fJ7_copyOf_c38d5 at hf
  refine r_iload_n (dGet dJ7_copyOf_c38d5 (j := 0) rfl) rfl ?_
  by_cases nv0 : v0 = 4
  · rw [if_pos nv0] at hf; cases hf
  rw [if_neg nv0] at hf
  refine r_aload_n (dGet dJ7_copyOf_c38d5 (j := 1) rfl) nv0 rfl ?_
  obtain ⟨t1, et1, hf⟩ := Option.bind_eq_some_iff.mp hf
  refine r_alen (dGet dJ7_copyOf_c38d5 (j := 2) rfl) et1 ?_
  by_cases c2 : v1 = t1
  · rw [if_pos c2] at hf
    refine r_icmp_ne_f (dGet dJ7_copyOf_c38d5 (j := 3) rfl) rfl c2 ?_
    refine r_aload_n (dGet dJ7_copyOf_c38d5 (j := 4) rfl) nv0 rfl ?_
    cases hf
  · rw [if_neg c2] at hf
    refine r_icmp_ne_t (dGet dJ7_copyOf_c38d5 (j := 3) rfl) rfl c2 ?_
    refine r_iload_n (dGet dJ7_copyOf_c38d5 (j := 8) rfl) rfl ?_
    obtain ⟨q3, eq3, hf⟩ := Option.bind_eq_some_iff.mp hf
    refine r_newJ (dGet dJ7_copyOf_c38d5 (j := 9) rfl) eq3 ?_
    by_cases nq3_1 : q3.1 = 4
    · rw [if_pos nq3_1] at hf; cases hf
    rw [if_neg nq3_1] at hf
    refine r_astore_n (lv' := [(2, .ref q3.1), (0, .ref v0), (1, .int v1)]) (dGet dJ7_copyOf_c38d5 (j := 10) rfl) nq3_1 (by decide) rfl ?_
    refine r_aload_n (dGet dJ7_copyOf_c38d5 (j := 11) rfl) nv0 rfl ?_
    refine r_iconst (dGet dJ7_copyOf_c38d5 (j := 12) rfl) kI_0 ?_
    refine r_aload_n (dGet dJ7_copyOf_c38d5 (j := 13) rfl) nq3_1 rfl ?_
    refine r_iconst (dGet dJ7_copyOf_c38d5 (j := 14) rfl) kI_0 ?_
    refine r_aload_n (dGet dJ7_copyOf_c38d5 (j := 15) rfl) nv0 rfl ?_
    obtain ⟨t4, et4, hf⟩ := Option.bind_eq_some_iff.mp hf
    refine r_alen (dGet dJ7_copyOf_c38d5 (j := 16) rfl) et4 ?_
    refine r_iload_n (dGet dJ7_copyOf_c38d5 (j := 17) rfl) rfl ?_
    refine r_min (dGet dJ7_copyOf_c38d5 (j := 18) rfl) (by decide +kernel) (by decide +kernel : pFind pMx 16 304 = some (1, 6024)) (Nat.le_of_ble_eq_true rfl) ?_
    obtain ⟨h5, eh5, hf⟩ := Option.bind_eq_some_iff.mp hf
    refine r_copy (dGet dJ7_copyOf_c38d5 (j := 19) rfl) (by decide +kernel : pFind pAc 16 150 = some 6025) (Nat.le_of_ble_eq_true rfl) eh5 ?_
    refine r_aload_n (dGet dJ7_copyOf_c38d5 (j := 20) rfl) nq3_1 rfl ?_
    by_cases c6 : q3.1 < 6
    · rw [if_pos c6] at hf; cases hf
    · rw [if_neg c6] at hf
      cases hf
      exact r_aret (dGet dJ7_copyOf_c38d5 (j := 21) rfl) rfl c6
def eJ7_fill_53178 : List (Nat × Instr × Nat) := [(0, .iconst 0, 1), (1, .istore_n 2, 1), (2, .aload_n 0, 1), (3, .arraylength, 1), (4, .istore_n 3, 1), (5, .iload_n 2, 1), (6, .iload_n 3, 1), (7, .if_icmp .ge 13, 3), (10, .aload_n 0, 1), (11, .iload_n 2, 1), (12, .iload_n 1, 1), (13, .iastore, 1), (14, .iinc 2 1, 3), (17, .goto (-12), 3), (20, .return_, 1)]
theorem dJ7_fill_53178 : dChk (pCd 3089) eJ7_fill_53178 = true := by decide +kernel
def fJ7_fill_53178_5 (N : Nat) : Nat → Nat → Int32 → Int32 → Int32 → pH → Option (pH)
  | 0, _, _, _, _, _ => none
  | n + 1, v0, v1, v2, v3, h => if v3 ≤ v2 then (
  some h) else (
  (stI h v0 v2 v1).bind fun h2 =>
  fJ7_fill_53178_5 N n v0 v1 (v2 + (1 : Int32)) v3 h2)
theorem lJ7_fill_53178_5 (X : pX) (N d : Nat)  : ∀ (n : Nat) (v0 : Nat) (v1 : Int32) (v2 : Int32) (v3 : Int32) (h : pH) (q : pH), fJ7_fill_53178_5 N n v0 v1 v2 v3 h = some q → ¬ v0 = 4 → Run X (d + 0) 16 false (pCd 3089) 4 none 5 [(0, .ref v0), (1, .int v1), (2, .int v2), (3, .int v3)] [] h 0 0 (none, q, 0, 0) := by
  intro n
  induction n with
  | zero => intro v0 v1 v2 v3 h q hf; cases hf
  | succ n ih =>
    intro v0 v1 v2 v3 h q hf nv0
    unfold fJ7_fill_53178_5 at hf
    refine r_iload_n (dGet dJ7_fill_53178 (j := 5) rfl) rfl ?_
    refine r_iload_n (dGet dJ7_fill_53178 (j := 6) rfl) rfl ?_
    by_cases c1 : v3 ≤ v2
    · rw [if_pos c1] at hf
      refine r_icmp_ge_t (dGet dJ7_fill_53178 (j := 7) rfl) rfl c1 ?_
      cases hf
      exact r_vret (dGet dJ7_fill_53178 (j := 14) rfl) rfl
    · rw [if_neg c1] at hf
      refine r_icmp_ge_f (dGet dJ7_fill_53178 (j := 7) rfl) rfl c1 ?_
      refine r_aload_n (dGet dJ7_fill_53178 (j := 8) rfl) nv0 rfl ?_
      refine r_iload_n (dGet dJ7_fill_53178 (j := 9) rfl) rfl ?_
      refine r_iload_n (dGet dJ7_fill_53178 (j := 10) rfl) rfl ?_
      obtain ⟨h2, eh2, hf⟩ := Option.bind_eq_some_iff.mp hf
      refine r_iast (dGet dJ7_fill_53178 (j := 11) rfl) eh2 ?_
      refine r_iinc (lv' := [(2, .int (v2 + (1 : Int32))), (0, .ref v0), (1, .int v1), (3, .int v3)]) (dGet dJ7_fill_53178 (j := 12) rfl) rfl (by decide) kI_1 rfl ?_
      refine r_goto (dGet dJ7_fill_53178 (j := 13) rfl) rfl ?_
      refine Run.weak [(0, .ref v0), (1, .int v1), (2, .int (v2 + (1 : Int32))), (3, .int v3)] (by simp) (by simp [pNd]) ?_
      exact ih v0 v1 (v2 + (1 : Int32)) v3 h2 q hf nv0
def fJ7_fill_53178 (N : Nat) (v0 : Nat) (v1 : Int32) (h : pH) : Option (pH) :=
  if v0 = 4 then none else
  (lenA h v0).bind fun t3 =>
  fJ7_fill_53178_5 N N v0 v1 (0 : Int32) t3 h
theorem cJ7_fill_53178 (X : pX) (N d : Nat) (v0 : Nat) (v1 : Int32) (h : pH) (q : pH) (hf : fJ7_fill_53178 N v0 v1 h = some q) : Calls X (d + 0) 21 [.ref v0, .int v1] h (none, q, 0, 0) := by
  refine Calls.of M21 (Nat.le_of_ble_eq_true rfl) ?_
  show Run X (d + 0) 16 false (pCd 3089) 4 none 0 [(0, .ref v0), (1, .int v1)] [] h 0 0 (none, q, 0, 0)
  unfold fJ7_fill_53178 at hf
  refine r_iconst (dGet dJ7_fill_53178 (j := 0) rfl) kI_0 ?_
  refine r_istore_n (lv' := [(2, .int (0 : Int32)), (0, .ref v0), (1, .int v1)]) (dGet dJ7_fill_53178 (j := 1) rfl) (by decide) rfl ?_
  by_cases nv0 : v0 = 4
  · rw [if_pos nv0] at hf; cases hf
  rw [if_neg nv0] at hf
  refine r_aload_n (dGet dJ7_fill_53178 (j := 2) rfl) nv0 rfl ?_
  obtain ⟨t3, et3, hf⟩ := Option.bind_eq_some_iff.mp hf
  refine r_alen (dGet dJ7_fill_53178 (j := 3) rfl) et3 ?_
  refine r_istore_n (lv' := [(3, .int t3), (2, .int (0 : Int32)), (0, .ref v0), (1, .int v1)]) (dGet dJ7_fill_53178 (j := 4) rfl) (by decide) rfl ?_
  refine Run.weak [(0, .ref v0), (1, .int v1), (2, .int (0 : Int32)), (3, .int t3)] (by simp) (by simp [pNd]) ?_
  exact lJ7_fill_53178_5 X N d N v0 v1 (0 : Int32) t3 h q hf nv0
def eJ7_rangeCheck_23922 : List (Nat × Instr × Nat) := [(0, .iload_n 1, 1), (1, .iload_n 2, 1), (2, .if_icmp .le 44, 3), (5, .new 43, 3), (8, .dup, 1), (9, .new 45, 3), (12, .dup, 1), (13, .invokespecial 47, 3), (16, .ldc 48, 2), (18, .invokevirtual 50, 3), (21, .iload_n 1, 1), (22, .invokevirtual 54, 3), (25, .ldc 57, 2), (27, .invokevirtual 50, 3), (30, .iload_n 2, 1), (31, .invokevirtual 54, 3), (34, .ldc 59, 2), (36, .invokevirtual 50, 3), (39, .invokevirtual 61, 3), (42, .invokespecial 65, 3), (45, .athrow, 1), (46, .iload_n 1, 1), (47, .ifCond .ge 12, 3), (50, .new 68, 3), (53, .dup, 1), (54, .iload_n 1, 1), (55, .invokespecial 70, 3), (58, .athrow, 1), (59, .iload_n 2, 1), (60, .iload_n 0, 1), (61, .if_icmp .le 12, 3), (64, .new 68, 3), (67, .dup, 1), (68, .iload_n 2, 1), (69, .invokespecial 70, 3), (72, .athrow, 1), (73, .return_, 1)]
theorem dJ7_rangeCheck_23922 : dChk (pCd 5238) eJ7_rangeCheck_23922 = true := by decide +kernel
def fJ7_rangeCheck_23922 (N : Nat) (v0 : Int32) (v1 : Int32) (v2 : Int32) (h : pH) : Option (pH) :=
  if v1 ≤ v2 then (
  if 0 ≤ v1 then (
  if v2 ≤ v0 then (
  some h) else (
  none)) else (
  none)) else (
  none)
theorem cJ7_rangeCheck_23922 (X : pX) (N d : Nat) (v0 : Int32) (v1 : Int32) (v2 : Int32) (h : pH) (q : pH) (hf : fJ7_rangeCheck_23922 N v0 v1 v2 h = some q) : Calls X (d + 0) 173 [.int v0, .int v1, .int v2] h (none, q, 0, 0) := by
  refine Calls.of M173 (Nat.le_of_ble_eq_true rfl) ?_
  show Run X (d + 0) 16 false (pCd 5238) 3 none 0 [(0, .int v0), (1, .int v1), (2, .int v2)] [] h 0 0 (none, q, 0, 0)
  unfold fJ7_rangeCheck_23922 at hf
  refine r_iload_n (dGet dJ7_rangeCheck_23922 (j := 0) rfl) rfl ?_
  refine r_iload_n (dGet dJ7_rangeCheck_23922 (j := 1) rfl) rfl ?_
  by_cases c1 : v1 ≤ v2
  · rw [if_pos c1] at hf
    refine r_icmp_le_t (dGet dJ7_rangeCheck_23922 (j := 2) rfl) rfl c1 ?_
    refine r_iload_n (dGet dJ7_rangeCheck_23922 (j := 21) rfl) rfl ?_
    by_cases c2 : 0 ≤ v1
    · rw [if_pos c2] at hf
      refine r_if_ge_t (dGet dJ7_rangeCheck_23922 (j := 22) rfl) rfl c2 ?_
      refine r_iload_n (dGet dJ7_rangeCheck_23922 (j := 28) rfl) rfl ?_
      refine r_iload_n (dGet dJ7_rangeCheck_23922 (j := 29) rfl) rfl ?_
      by_cases c3 : v2 ≤ v0
      · rw [if_pos c3] at hf
        refine r_icmp_le_t (dGet dJ7_rangeCheck_23922 (j := 30) rfl) rfl c3 ?_
        cases hf
        exact r_vret (dGet dJ7_rangeCheck_23922 (j := 36) rfl) rfl
      · rw [if_neg c3] at hf
        refine r_icmp_le_f (dGet dJ7_rangeCheck_23922 (j := 30) rfl) rfl c3 ?_
        cases hf
    · rw [if_neg c2] at hf
      refine r_if_ge_f (dGet dJ7_rangeCheck_23922 (j := 22) rfl) rfl c2 ?_
      cases hf
  · rw [if_neg c1] at hf
    refine r_icmp_le_f (dGet dJ7_rangeCheck_23922 (j := 2) rfl) rfl c1 ?_
    cases hf
def eJ7_fill_bad5a : List (Nat × Instr × Nat) := [(0, .aload_n 0, 1), (1, .arraylength, 1), (2, .iload_n 1, 1), (3, .iload_n 2, 1), (4, .invokestatic 13, 3), (7, .iload_n 1, 1), (8, .istore 5, 2), (10, .iload 5, 2), (12, .iload_n 2, 1), (13, .if_icmp .ge 14, 3), (16, .aload_n 0, 1), (17, .iload 5, 2), (19, .lload_n 3, 1), (20, .lastore, 1), (21, .iinc 5 1, 3), (24, .goto (-14), 3), (27, .return_, 1)]
theorem dJ7_fill_bad5a : dChk (pCd 5235) eJ7_fill_bad5a = true := by decide +kernel
def fJ7_fill_bad5a_10 (N : Nat) : Nat → Nat → Int32 → Int64 → Int32 → pH → Option (pH)
  | 0, _, _, _, _, _ => none
  | n + 1, v0, v2, v3, v5, h => if v2 ≤ v5 then (
  some h) else (
  (stJ h v0 v5 v3).bind fun h2 =>
  fJ7_fill_bad5a_10 N n v0 v2 v3 (v5 + (1 : Int32)) h2)
theorem lJ7_fill_bad5a_10 (X : pX) (N d : Nat)  : ∀ (n : Nat) (v0 : Nat) (v2 : Int32) (v3 : Int64) (v5 : Int32) (h : pH) (q : pH), fJ7_fill_bad5a_10 N n v0 v2 v3 v5 h = some q → ¬ v0 = 4 → Run X (d + 1) 16 false (pCd 5235) 6 none 10 [(0, .ref v0), (2, .int v2), (3, .long v3), (5, .int v5)] [] h 0 0 (none, q, 0, 0) := by
  intro n
  induction n with
  | zero => intro v0 v2 v3 v5 h q hf; cases hf
  | succ n ih =>
    intro v0 v2 v3 v5 h q hf nv0
    unfold fJ7_fill_bad5a_10 at hf
    refine r_iload (dGet dJ7_fill_bad5a (j := 7) rfl) rfl ?_
    refine r_iload_n (dGet dJ7_fill_bad5a (j := 8) rfl) rfl ?_
    by_cases c1 : v2 ≤ v5
    · rw [if_pos c1] at hf
      refine r_icmp_ge_t (dGet dJ7_fill_bad5a (j := 9) rfl) rfl c1 ?_
      cases hf
      exact r_vret (dGet dJ7_fill_bad5a (j := 16) rfl) rfl
    · rw [if_neg c1] at hf
      refine r_icmp_ge_f (dGet dJ7_fill_bad5a (j := 9) rfl) rfl c1 ?_
      refine r_aload_n (dGet dJ7_fill_bad5a (j := 10) rfl) nv0 rfl ?_
      refine r_iload (dGet dJ7_fill_bad5a (j := 11) rfl) rfl ?_
      refine r_lload_n (dGet dJ7_fill_bad5a (j := 12) rfl) rfl ?_
      obtain ⟨h2, eh2, hf⟩ := Option.bind_eq_some_iff.mp hf
      refine r_last (dGet dJ7_fill_bad5a (j := 13) rfl) eh2 ?_
      refine r_iinc (lv' := [(5, .int (v5 + (1 : Int32))), (0, .ref v0), (2, .int v2), (3, .long v3)]) (dGet dJ7_fill_bad5a (j := 14) rfl) rfl (by decide) kI_1 rfl ?_
      refine r_goto (dGet dJ7_fill_bad5a (j := 15) rfl) rfl ?_
      refine Run.weak [(0, .ref v0), (2, .int v2), (3, .long v3), (5, .int (v5 + (1 : Int32)))] (by simp) (by simp [pNd]) ?_
      exact ih v0 v2 v3 (v5 + (1 : Int32)) h2 q hf nv0
def fJ7_fill_bad5a (N : Nat) (v0 : Nat) (v1 : Int32) (v2 : Int32) (v3 : Int64) (h : pH) : Option (pH) :=
  if v0 = 4 then none else
  (lenA h v0).bind fun t3 =>
  (fJ7_rangeCheck_23922 N t3 v1 v2 h).bind fun h4 =>
  fJ7_fill_bad5a_10 N N v0 v2 v3 v1 h4
theorem cJ7_fill_bad5a (X : pX) (N d : Nat) (v0 : Nat) (v1 : Int32) (v2 : Int32) (v3 : Int64) (h : pH) (q : pH) (hf : fJ7_fill_bad5a N v0 v1 v2 v3 h = some q) : Calls X (d + 1) 172 [.ref v0, .int v1, .int v2, .long v3] h (none, q, 0, 0) := by
  refine Calls.of M172 (Nat.le_of_ble_eq_true rfl) ?_
  show Run X (d + 1) 16 false (pCd 5235) 6 none 0 [(0, .ref v0), (1, .int v1), (2, .int v2), (3, .long v3)] [] h 0 0 (none, q, 0, 0)
  unfold fJ7_fill_bad5a at hf
  by_cases nv0 : v0 = 4
  · rw [if_pos nv0] at hf; cases hf
  rw [if_neg nv0] at hf
  refine r_aload_n (dGet dJ7_fill_bad5a (j := 0) rfl) nv0 rfl ?_
  obtain ⟨t3, et3, hf⟩ := Option.bind_eq_some_iff.mp hf
  refine r_alen (dGet dJ7_fill_bad5a (j := 1) rfl) et3 ?_
  refine r_iload_n (dGet dJ7_fill_bad5a (j := 2) rfl) rfl ?_
  refine r_iload_n (dGet dJ7_fill_bad5a (j := 3) rfl) rfl ?_
  obtain ⟨h4, eh4, hf⟩ := Option.bind_eq_some_iff.mp hf
  refine r_static (dGet dJ7_fill_bad5a (j := 4) rfl) (by decide +kernel) (by decide +kernel) L16_13 M173 rfl rfl (Nat.le_of_ble_eq_true rfl) (cJ7_rangeCheck_23922 X N (d + 0) t3 v1 v2 h h4 eh4) ?_
  refine r_iload_n (dGet dJ7_fill_bad5a (j := 5) rfl) rfl ?_
  refine r_istore (lv' := [(5, .int v1), (0, .ref v0), (1, .int v1), (2, .int v2), (3, .long v3)]) (dGet dJ7_fill_bad5a (j := 6) rfl) (by decide) rfl ?_
  refine Run.weak [(0, .ref v0), (2, .int v2), (3, .long v3), (5, .int v1)] (by simp) (by simp [pNd]) ?_
  exact lJ7_fill_bad5a_10 X N d N v0 v2 v3 v1 h4 q hf nv0
