def eX11_count : List (Nat × Instr × Nat) := [(0, .iload_n 1, 1), (1, .tableswitch 108 0 7 #[47, 55, 63, 71, 79, 87, 95, 103], 47), (48, .aload_n 0, 1), (49, .getfield 74, 3), (52, .getfield 129, 3), (55, .ireturn, 1), (56, .aload_n 0, 1), (57, .getfield 74, 3), (60, .getfield 132, 3), (63, .ireturn, 1), (64, .aload_n 0, 1), (65, .getfield 74, 3), (68, .invokevirtual 135, 3), (71, .ireturn, 1), (72, .aload_n 0, 1), (73, .getfield 74, 3), (76, .invokevirtual 138, 3), (79, .ireturn, 1), (80, .aload_n 0, 1), (81, .getfield 74, 3), (84, .getfield 141, 3), (87, .ireturn, 1), (88, .aload_n 0, 1), (89, .getfield 74, 3), (92, .getfield 144, 3), (95, .ireturn, 1), (96, .aload_n 0, 1), (97, .getfield 65, 3), (100, .getfield 147, 3), (103, .ireturn, 1), (104, .aload_n 0, 1), (105, .getfield 78, 3), (108, .ireturn, 1), (109, .iconst (-1), 1), (110, .ireturn, 1)]
theorem dX11_count : dChk (pCd 6230) eX11_count = true := by decide +kernel
def fX11_count (N : Nat) (v0 : Nat) (v1 : Int32) (h : pH) : Option (Int32 × pH) := if isO h v0 11 = true then (
  if v1 = 0 then (
  (getR h v0 11 7).bind fun t9 =>
  (getI h t9 5 15).bind fun t10 =>
  some (t10, h)) else
  if v1 = 1 then (
  (getR h v0 11 7).bind fun t11 =>
  (getI h t11 5 16).bind fun t12 =>
  some (t12, h)) else
  if v1 = 2 then (
  (getR h v0 11 7).bind fun t13 =>
  (fX5_cellsReached N t13 h).bind fun q14 =>
  some (q14.1, q14.2)) else
  if v1 = 3 then (
  (getR h v0 11 7).bind fun t15 =>
  (fX5_methodsOpen N t15 h).bind fun q16 =>
  some (q16.1, q16.2)) else
  if v1 = 4 then (
  (getR h v0 11 7).bind fun t17 =>
  (getI h t17 5 19).bind fun t18 =>
  some (t18, h)) else
  if v1 = 5 then (
  (getR h v0 11 7).bind fun t19 =>
  (getI h t19 5 17).bind fun t20 =>
  some (t20, h)) else
  if v1 = 6 then (
  (getR h v0 11 6).bind fun t21 =>
  (getI h t21 4 2).bind fun t22 =>
  some (t22, h)) else
  if v1 = 7 then (
  (getI h v0 11 8).bind fun t23 =>
  some (t23, h)) else
  some ((-1 : Int32), h)) else none
theorem oX11_count {N : Nat} {v0 : Nat} {v1 : Int32} {h : pH} {q : Int32 × pH} (hf : fX11_count N v0 v1 h = some q) : isO h v0 11 = true := by
  unfold fX11_count at hf
  by_cases hc : isO h v0 11 = true
  · exact hc
  · rw [if_neg hc] at hf; cases hf
theorem cX11_count (X : pX) (N d : Nat) (v0 : Nat) (v1 : Int32) (h : pH) (q : Int32 × pH) (hf : fX11_count N v0 v1 h = some q) : Calls X (d + 5) 226 [.ref v0, .int v1] h (some (.int q.1), q.2, 0, 0) := by
  refine Calls.of M226 (Nat.le_of_ble_eq_true rfl) ?_
  show Run X (d + 5) 11 false (pCd 6230) 2 (some .int) 0 [(0, .ref v0), (1, .int v1)] [] h 0 0 (some (.int q.1), q.2, 0, 0)
  unfold fX11_count at hf
  by_cases hc : isO h v0 11 = true
  · rw [if_pos hc] at hf
    have nv0 : ¬ v0 = 4 := isO_ne hc
    refine r_iload_n (dGet dX11_count (j := 0) rfl) rfl ?_
    by_cases c1 : v1 = 0
    · rw [if_pos c1] at hf
      refine r_table (off := 47) (dGet dX11_count (j := 1) rfl) (by rw [c1]; decide) rfl ?_
      refine r_aload_n (dGet dX11_count (j := 2) rfl) nv0 rfl ?_
      obtain ⟨t9, et9, hf⟩ := Option.bind_eq_some_iff.mp hf
      refine r_getR (dGet dX11_count (j := 3) rfl) F11_74 et9 ?_
      obtain ⟨t10, et10, hf⟩ := Option.bind_eq_some_iff.mp hf
      refine r_getI (dGet dX11_count (j := 4) rfl) F11_129 et10 ?_
      have hq := Option.some.inj hf
      subst hq
      exact r_iret (dGet dX11_count (j := 5) rfl) rfl rfl
    rw [if_neg c1] at hf
    by_cases c2 : v1 = 1
    · rw [if_pos c2] at hf
      refine r_table (off := 55) (dGet dX11_count (j := 1) rfl) (by rw [c2]; decide) rfl ?_
      refine r_aload_n (dGet dX11_count (j := 6) rfl) nv0 rfl ?_
      obtain ⟨t11, et11, hf⟩ := Option.bind_eq_some_iff.mp hf
      refine r_getR (dGet dX11_count (j := 7) rfl) F11_74 et11 ?_
      obtain ⟨t12, et12, hf⟩ := Option.bind_eq_some_iff.mp hf
      refine r_getI (dGet dX11_count (j := 8) rfl) F11_132 et12 ?_
      have hq := Option.some.inj hf
      subst hq
      exact r_iret (dGet dX11_count (j := 9) rfl) rfl rfl
    rw [if_neg c2] at hf
    by_cases c3 : v1 = 2
    · rw [if_pos c3] at hf
      refine r_table (off := 63) (dGet dX11_count (j := 1) rfl) (by rw [c3]; decide) rfl ?_
      refine r_aload_n (dGet dX11_count (j := 10) rfl) nv0 rfl ?_
      obtain ⟨t13, et13, hf⟩ := Option.bind_eq_some_iff.mp hf
      refine r_getR (dGet dX11_count (j := 11) rfl) F11_74 et13 ?_
      obtain ⟨q14, eq14, hf⟩ := Option.bind_eq_some_iff.mp hf
      refine r_virtual (dGet dX11_count (j := 12) rfl) L11_135 M227 rfl rfl (Nat.le_of_ble_eq_true rfl) (oX5_cellsReached eq14) (cX5_cellsReached X N (d + 0) t13 h q14 eq14) ?_
      have hq := Option.some.inj hf
      subst hq
      exact r_iret (dGet dX11_count (j := 13) rfl) rfl rfl
    rw [if_neg c3] at hf
    by_cases c4 : v1 = 3
    · rw [if_pos c4] at hf
      refine r_table (off := 71) (dGet dX11_count (j := 1) rfl) (by rw [c4]; decide) rfl ?_
      refine r_aload_n (dGet dX11_count (j := 14) rfl) nv0 rfl ?_
      obtain ⟨t15, et15, hf⟩ := Option.bind_eq_some_iff.mp hf
      refine r_getR (dGet dX11_count (j := 15) rfl) F11_74 et15 ?_
      obtain ⟨q16, eq16, hf⟩ := Option.bind_eq_some_iff.mp hf
      refine r_virtual (dGet dX11_count (j := 16) rfl) L11_138 M228 rfl rfl (Nat.le_of_ble_eq_true rfl) (oX5_methodsOpen eq16) (cX5_methodsOpen X N (d + 4) t15 h q16 eq16) ?_
      have hq := Option.some.inj hf
      subst hq
      exact r_iret (dGet dX11_count (j := 17) rfl) rfl rfl
    rw [if_neg c4] at hf
    by_cases c5 : v1 = 4
    · rw [if_pos c5] at hf
      refine r_table (off := 79) (dGet dX11_count (j := 1) rfl) (by rw [c5]; decide) rfl ?_
      refine r_aload_n (dGet dX11_count (j := 18) rfl) nv0 rfl ?_
      obtain ⟨t17, et17, hf⟩ := Option.bind_eq_some_iff.mp hf
      refine r_getR (dGet dX11_count (j := 19) rfl) F11_74 et17 ?_
      obtain ⟨t18, et18, hf⟩ := Option.bind_eq_some_iff.mp hf
      refine r_getI (dGet dX11_count (j := 20) rfl) F11_141 et18 ?_
      have hq := Option.some.inj hf
      subst hq
      exact r_iret (dGet dX11_count (j := 21) rfl) rfl rfl
    rw [if_neg c5] at hf
    by_cases c6 : v1 = 5
    · rw [if_pos c6] at hf
      refine r_table (off := 87) (dGet dX11_count (j := 1) rfl) (by rw [c6]; decide) rfl ?_
      refine r_aload_n (dGet dX11_count (j := 22) rfl) nv0 rfl ?_
      obtain ⟨t19, et19, hf⟩ := Option.bind_eq_some_iff.mp hf
      refine r_getR (dGet dX11_count (j := 23) rfl) F11_74 et19 ?_
      obtain ⟨t20, et20, hf⟩ := Option.bind_eq_some_iff.mp hf
      refine r_getI (dGet dX11_count (j := 24) rfl) F11_144 et20 ?_
      have hq := Option.some.inj hf
      subst hq
      exact r_iret (dGet dX11_count (j := 25) rfl) rfl rfl
    rw [if_neg c6] at hf
    by_cases c7 : v1 = 6
    · rw [if_pos c7] at hf
      refine r_table (off := 95) (dGet dX11_count (j := 1) rfl) (by rw [c7]; decide) rfl ?_
      refine r_aload_n (dGet dX11_count (j := 26) rfl) nv0 rfl ?_
      obtain ⟨t21, et21, hf⟩ := Option.bind_eq_some_iff.mp hf
      refine r_getR (dGet dX11_count (j := 27) rfl) F11_65 et21 ?_
      obtain ⟨t22, et22, hf⟩ := Option.bind_eq_some_iff.mp hf
      refine r_getI (dGet dX11_count (j := 28) rfl) F11_147 et22 ?_
      have hq := Option.some.inj hf
      subst hq
      exact r_iret (dGet dX11_count (j := 29) rfl) rfl rfl
    rw [if_neg c7] at hf
    by_cases c8 : v1 = 7
    · rw [if_pos c8] at hf
      refine r_table (off := 103) (dGet dX11_count (j := 1) rfl) (by rw [c8]; decide) rfl ?_
      refine r_aload_n (dGet dX11_count (j := 30) rfl) nv0 rfl ?_
      obtain ⟨t23, et23, hf⟩ := Option.bind_eq_some_iff.mp hf
      refine r_getI (dGet dX11_count (j := 31) rfl) F11_78 et23 ?_
      have hq := Option.some.inj hf
      subst hq
      exact r_iret (dGet dX11_count (j := 32) rfl) rfl rfl
    rw [if_neg c8] at hf
    refine r_table (dGet dX11_count (j := 1) rfl) (pTable_out (cs := [0, 1, 2, 3, 4, 5, 6, 7]) (by decide) (by decide) (by decide) (List.forall_mem_cons.mpr ⟨c1, List.forall_mem_cons.mpr ⟨c2, List.forall_mem_cons.mpr ⟨c3, List.forall_mem_cons.mpr ⟨c4, List.forall_mem_cons.mpr ⟨c5, List.forall_mem_cons.mpr ⟨c6, List.forall_mem_cons.mpr ⟨c7, List.forall_mem_cons.mpr ⟨c8, fun _ h => absurd h List.not_mem_nil⟩⟩⟩⟩⟩⟩⟩⟩)) rfl ?_
    refine r_iconst (dGet dX11_count (j := 33) rfl) kI_m1 ?_
    have hq := Option.some.inj hf
    subst hq
    exact r_iret (dGet dX11_count (j := 34) rfl) rfl rfl
  · rw [if_neg hc] at hf; cases hf
def eX11_end : List (Nat × Instr × Nat) := [(0, .iload_n 1, 1), (1, .ifCond .lt 11, 3), (4, .iload_n 1, 1), (5, .aload_n 0, 1), (6, .getfield 78, 3), (9, .if_icmp .le 5, 3), (12, .iconst (-1), 1), (13, .ireturn, 1), (14, .aload_n 0, 1), (15, .iload_n 1, 1), (16, .putfield 78, 3), (19, .iload_n 1, 1), (20, .ireturn, 1)]
theorem dX11_end : dChk (pCd 3070) eX11_end = true := by decide +kernel
def fX11_end (N : Nat) (v0 : Nat) (v1 : Int32) (h : pH) : Option (Int32 × pH) := if isO h v0 11 = true then (
  if v1 < 0 then (
  some ((-1 : Int32), h)) else (
  (getI h v0 11 8).bind fun t2 =>
  if v1 ≤ t2 then (
  (putI h v0 11 8 v1).bind fun h4 =>
  some (v1, h4)) else (
  some ((-1 : Int32), h)))) else none
theorem oX11_end {N : Nat} {v0 : Nat} {v1 : Int32} {h : pH} {q : Int32 × pH} (hf : fX11_end N v0 v1 h = some q) : isO h v0 11 = true := by
  unfold fX11_end at hf
  by_cases hc : isO h v0 11 = true
  · exact hc
  · rw [if_neg hc] at hf; cases hf
theorem cX11_end (X : pX) (N d : Nat) (v0 : Nat) (v1 : Int32) (h : pH) (q : Int32 × pH) (hf : fX11_end N v0 v1 h = some q) : Calls X (d + 0) 16 [.ref v0, .int v1] h (some (.int q.1), q.2, 0, 0) := by
  refine Calls.of M16 (Nat.le_of_ble_eq_true rfl) ?_
  show Run X (d + 0) 11 false (pCd 3070) 2 (some .int) 0 [(0, .ref v0), (1, .int v1)] [] h 0 0 (some (.int q.1), q.2, 0, 0)
  unfold fX11_end at hf
  by_cases hc : isO h v0 11 = true
  · rw [if_pos hc] at hf
    have nv0 : ¬ v0 = 4 := isO_ne hc
    refine r_iload_n (dGet dX11_end (j := 0) rfl) rfl ?_
    by_cases c1 : v1 < 0
    · rw [if_pos c1] at hf
      refine r_if_lt_t (dGet dX11_end (j := 1) rfl) rfl c1 ?_
      refine r_iconst (dGet dX11_end (j := 6) rfl) kI_m1 ?_
      have hq := Option.some.inj hf
      subst hq
      exact r_iret (dGet dX11_end (j := 7) rfl) rfl rfl
    · rw [if_neg c1] at hf
      refine r_if_lt_f (dGet dX11_end (j := 1) rfl) rfl c1 ?_
      refine r_iload_n (dGet dX11_end (j := 2) rfl) rfl ?_
      refine r_aload_n (dGet dX11_end (j := 3) rfl) nv0 rfl ?_
      obtain ⟨t2, et2, hf⟩ := Option.bind_eq_some_iff.mp hf
      refine r_getI (dGet dX11_end (j := 4) rfl) F11_78 et2 ?_
      by_cases c3 : v1 ≤ t2
      · rw [if_pos c3] at hf
        refine r_icmp_le_t (dGet dX11_end (j := 5) rfl) rfl c3 ?_
        refine r_aload_n (dGet dX11_end (j := 8) rfl) nv0 rfl ?_
        refine r_iload_n (dGet dX11_end (j := 9) rfl) rfl ?_
        obtain ⟨h4, eh4, hf⟩ := Option.bind_eq_some_iff.mp hf
        refine r_putI (dGet dX11_end (j := 10) rfl) F11_78 rfl rfl eh4 ?_
        refine r_iload_n (dGet dX11_end (j := 11) rfl) rfl ?_
        have hq := Option.some.inj hf
        subst hq
        exact r_iret (dGet dX11_end (j := 12) rfl) rfl rfl
      · rw [if_neg c3] at hf
        refine r_icmp_le_f (dGet dX11_end (j := 5) rfl) rfl c3 ?_
        refine r_iconst (dGet dX11_end (j := 6) rfl) kI_m1 ?_
        have hq := Option.some.inj hf
        subst hq
        exact r_iret (dGet dX11_end (j := 7) rfl) rfl rfl
  · rw [if_neg hc] at hf; cases hf
def eX11_putFour : List (Nat × Instr × Nat) := [(0, .bipush 24, 2), (2, .istore_n 2, 1), (3, .iload_n 2, 1), (4, .ifCond .lt 45, 3), (7, .aload_n 0, 1), (8, .getfield 78, 3), (11, .sipush 3000, 3), (14, .if_icmp .ge 35, 3), (17, .aload_n 0, 1), (18, .getfield 9, 3), (21, .aload_n 0, 1), (22, .getfield 78, 3), (25, .iload_n 1, 1), (26, .iload_n 2, 1), (27, .iushr, 1), (28, .sipush 255, 3), (31, .iand, 1), (32, .iastore, 1), (33, .aload_n 0, 1), (34, .dup, 1), (35, .getfield 78, 3), (38, .iconst 1, 1), (39, .iadd, 1), (40, .putfield 78, 3), (43, .iinc 2 (-8), 3), (46, .goto (-43), 3), (49, .return_, 1)]
theorem dX11_putFour : dChk (pCd 3066) eX11_putFour = true := by decide +kernel
def fX11_putFour_3 (N : Nat) : Nat → Nat → Int32 → Int32 → pH → Option (pH)
  | 0, _, _, _, _ => none
  | n + 1, v0, v1, v2, h => if v2 < 0 then (
  some h) else (
  (getI h v0 11 8).bind fun t2 =>
  if (3000 : Int32) ≤ t2 then (
  some h) else (
  (getR h v0 11 0).bind fun t4 =>
  (getI h v0 11 8).bind fun t5 =>
  (stI h t4 t5 (((v1.toUInt32 >>> (v2.toUInt32 &&& Int32.toUInt32 31)).toInt32) &&& (255 : Int32))).bind fun h6 =>
  (getI h6 v0 11 8).bind fun t7 =>
  (putI h6 v0 11 8 (t7 + (1 : Int32))).bind fun h8 =>
  fX11_putFour_3 N n v0 v1 (v2 + (-8 : Int32)) h8))
theorem lX11_putFour_3 (X : pX) (N d : Nat)  : ∀ (n : Nat) (v0 : Nat) (v1 : Int32) (v2 : Int32) (h : pH) (q : pH), fX11_putFour_3 N n v0 v1 v2 h = some q → ¬ v0 = 4 → Run X (d + 0) 11 false (pCd 3066) 3 none 3 [(0, .ref v0), (1, .int v1), (2, .int v2)] [] h 0 0 (none, q, 0, 0) := by
  intro n
  induction n with
  | zero => intro v0 v1 v2 h q hf; cases hf
  | succ n ih =>
    intro v0 v1 v2 h q hf nv0
    unfold fX11_putFour_3 at hf
    refine r_iload_n (dGet dX11_putFour (j := 2) rfl) rfl ?_
    by_cases c1 : v2 < 0
    · rw [if_pos c1] at hf
      refine r_if_lt_t (dGet dX11_putFour (j := 3) rfl) rfl c1 ?_
      have hq := Option.some.inj hf
      subst hq
      exact r_vret (dGet dX11_putFour (j := 26) rfl) rfl
    · rw [if_neg c1] at hf
      refine r_if_lt_f (dGet dX11_putFour (j := 3) rfl) rfl c1 ?_
      refine r_aload_n (dGet dX11_putFour (j := 4) rfl) nv0 rfl ?_
      obtain ⟨t2, et2, hf⟩ := Option.bind_eq_some_iff.mp hf
      refine r_getI (dGet dX11_putFour (j := 5) rfl) F11_78 et2 ?_
      refine r_sipush (dGet dX11_putFour (j := 6) rfl) kS_3000 ?_
      by_cases c3 : (3000 : Int32) ≤ t2
      · rw [if_pos c3] at hf
        refine r_icmp_ge_t (dGet dX11_putFour (j := 7) rfl) rfl c3 ?_
        have hq := Option.some.inj hf
        subst hq
        exact r_vret (dGet dX11_putFour (j := 26) rfl) rfl
      · rw [if_neg c3] at hf
        refine r_icmp_ge_f (dGet dX11_putFour (j := 7) rfl) rfl c3 ?_
        refine r_aload_n (dGet dX11_putFour (j := 8) rfl) nv0 rfl ?_
        obtain ⟨t4, et4, hf⟩ := Option.bind_eq_some_iff.mp hf
        refine r_getR (dGet dX11_putFour (j := 9) rfl) F11_9 et4 ?_
        refine r_aload_n (dGet dX11_putFour (j := 10) rfl) nv0 rfl ?_
        obtain ⟨t5, et5, hf⟩ := Option.bind_eq_some_iff.mp hf
        refine r_getI (dGet dX11_putFour (j := 11) rfl) F11_78 et5 ?_
        refine r_iload_n (dGet dX11_putFour (j := 12) rfl) rfl ?_
        refine r_iload_n (dGet dX11_putFour (j := 13) rfl) rfl ?_
        refine r_iushr (dGet dX11_putFour (j := 14) rfl) ?_
        refine r_sipush (dGet dX11_putFour (j := 15) rfl) kS_255 ?_
        refine r_iand (dGet dX11_putFour (j := 16) rfl) ?_
        obtain ⟨h6, eh6, hf⟩ := Option.bind_eq_some_iff.mp hf
        refine r_iast (dGet dX11_putFour (j := 17) rfl) eh6 ?_
        refine r_aload_n (dGet dX11_putFour (j := 18) rfl) nv0 rfl ?_
        refine r_dup (dGet dX11_putFour (j := 19) rfl) rfl ?_
        obtain ⟨t7, et7, hf⟩ := Option.bind_eq_some_iff.mp hf
        refine r_getI (dGet dX11_putFour (j := 20) rfl) F11_78 et7 ?_
        refine r_iconst (dGet dX11_putFour (j := 21) rfl) kI_1 ?_
        refine r_iadd (dGet dX11_putFour (j := 22) rfl) ?_
        obtain ⟨h8, eh8, hf⟩ := Option.bind_eq_some_iff.mp hf
        refine r_putI (dGet dX11_putFour (j := 23) rfl) F11_78 rfl rfl eh8 ?_
        refine r_iinc (lv' := [(2, .int (v2 + (-8 : Int32))), (0, .ref v0), (1, .int v1)]) (dGet dX11_putFour (j := 24) rfl) rfl (by decide) kI_m8 rfl ?_
        refine r_goto (dGet dX11_putFour (j := 25) rfl) rfl ?_
        refine Run.weak [(0, .ref v0), (1, .int v1), (2, .int (v2 + (-8 : Int32)))] (by simp) (by simp [pNd]) ?_
        exact ih v0 v1 (v2 + (-8 : Int32)) h8 q hf nv0
def fX11_putFour (N : Nat) (v0 : Nat) (v1 : Int32) (h : pH) : Option (pH) := if isO h v0 11 = true then (
  fX11_putFour_3 N N v0 v1 (24 : Int32) h) else none
theorem oX11_putFour {N : Nat} {v0 : Nat} {v1 : Int32} {h : pH} {q : pH} (hf : fX11_putFour N v0 v1 h = some q) : isO h v0 11 = true := by
  unfold fX11_putFour at hf
  by_cases hc : isO h v0 11 = true
  · exact hc
  · rw [if_neg hc] at hf; cases hf
theorem cX11_putFour (X : pX) (N d : Nat) (v0 : Nat) (v1 : Int32) (h : pH) (q : pH) (hf : fX11_putFour N v0 v1 h = some q) : Calls X (d + 0) 15 [.ref v0, .int v1] h (none, q, 0, 0) := by
  refine Calls.of M15 (Nat.le_of_ble_eq_true rfl) ?_
  show Run X (d + 0) 11 false (pCd 3066) 3 none 0 [(0, .ref v0), (1, .int v1)] [] h 0 0 (none, q, 0, 0)
  unfold fX11_putFour at hf
  by_cases hc : isO h v0 11 = true
  · rw [if_pos hc] at hf
    have nv0 : ¬ v0 = 4 := isO_ne hc
    refine r_bipush (dGet dX11_putFour (j := 0) rfl) kB_24 ?_
    refine r_istore_n (lv' := [(2, .int (24 : Int32)), (0, .ref v0), (1, .int v1)]) (dGet dX11_putFour (j := 1) rfl) (by decide) rfl ?_
    refine Run.weak [(0, .ref v0), (1, .int v1), (2, .int (24 : Int32))] (by simp) (by simp [pNd]) ?_
    exact lX11_putFour_3 X N d N v0 v1 (24 : Int32) h q hf nv0
  · rw [if_neg hc] at hf; cases hf
def eX11_feed : List (Nat × Instr × Nat) := [(0, .aload_n 0, 1), (1, .getfield 78, 3), (4, .sipush 2980, 3), (7, .if_icmp .le 5, 3), (10, .iconst (-1), 1), (11, .ireturn, 1), (12, .aload_n 0, 1), (13, .iload_n 1, 1), (14, .invokevirtual 89, 3), (17, .aload_n 0, 1), (18, .iload_n 2, 1), (19, .invokevirtual 89, 3), (22, .aload_n 0, 1), (23, .iload_n 3, 1), (24, .invokevirtual 89, 3), (27, .aload_n 0, 1), (28, .iload 4, 2), (30, .invokevirtual 89, 3), (33, .aload_n 0, 1), (34, .iload 5, 2), (36, .invokevirtual 89, 3), (39, .aload_n 0, 1), (40, .getfield 78, 3), (43, .ireturn, 1)]
theorem dX11_feed : dChk (pCd 3062) eX11_feed = true := by decide +kernel
def fX11_feed (N : Nat) (v0 : Nat) (v1 : Int32) (v2 : Int32) (v3 : Int32) (v4 : Int32) (v5 : Int32) (h : pH) : Option (Int32 × pH) := if isO h v0 11 = true then (
  (getI h v0 11 8).bind fun t1 =>
  if t1 ≤ (2980 : Int32) then (
  (fX11_putFour N v0 v1 h).bind fun h3 =>
  (fX11_putFour N v0 v2 h3).bind fun h4 =>
  (fX11_putFour N v0 v3 h4).bind fun h5 =>
  (fX11_putFour N v0 v4 h5).bind fun h6 =>
  (fX11_putFour N v0 v5 h6).bind fun h7 =>
  (getI h7 v0 11 8).bind fun t8 =>
  some (t8, h7)) else (
  some ((-1 : Int32), h))) else none
theorem oX11_feed {N : Nat} {v0 : Nat} {v1 : Int32} {v2 : Int32} {v3 : Int32} {v4 : Int32} {v5 : Int32} {h : pH} {q : Int32 × pH} (hf : fX11_feed N v0 v1 v2 v3 v4 v5 h = some q) : isO h v0 11 = true := by
  unfold fX11_feed at hf
  by_cases hc : isO h v0 11 = true
  · exact hc
  · rw [if_neg hc] at hf; cases hf
theorem cX11_feed (X : pX) (N d : Nat) (v0 : Nat) (v1 : Int32) (v2 : Int32) (v3 : Int32) (v4 : Int32) (v5 : Int32) (h : pH) (q : Int32 × pH) (hf : fX11_feed N v0 v1 v2 v3 v4 v5 h = some q) : Calls X (d + 1) 14 [.ref v0, .int v1, .int v2, .int v3, .int v4, .int v5] h (some (.int q.1), q.2, 0, 0) := by
  refine Calls.of M14 (Nat.le_of_ble_eq_true rfl) ?_
  show Run X (d + 1) 11 false (pCd 3062) 6 (some .int) 0 [(0, .ref v0), (1, .int v1), (2, .int v2), (3, .int v3), (4, .int v4), (5, .int v5)] [] h 0 0 (some (.int q.1), q.2, 0, 0)
  unfold fX11_feed at hf
  by_cases hc : isO h v0 11 = true
  · rw [if_pos hc] at hf
    have nv0 : ¬ v0 = 4 := isO_ne hc
    refine r_aload_n (dGet dX11_feed (j := 0) rfl) nv0 rfl ?_
    obtain ⟨t1, et1, hf⟩ := Option.bind_eq_some_iff.mp hf
    refine r_getI (dGet dX11_feed (j := 1) rfl) F11_78 et1 ?_
    refine r_sipush (dGet dX11_feed (j := 2) rfl) kS_2980 ?_
    by_cases c2 : t1 ≤ (2980 : Int32)
    · rw [if_pos c2] at hf
      refine r_icmp_le_t (dGet dX11_feed (j := 3) rfl) rfl c2 ?_
      refine r_aload_n (dGet dX11_feed (j := 6) rfl) nv0 rfl ?_
      refine r_iload_n (dGet dX11_feed (j := 7) rfl) rfl ?_
      obtain ⟨h3, eh3, hf⟩ := Option.bind_eq_some_iff.mp hf
      refine r_virtual (dGet dX11_feed (j := 8) rfl) L11_89 M15 rfl rfl (Nat.le_of_ble_eq_true rfl) (oX11_putFour eh3) (cX11_putFour X N (d + 0) v0 v1 h h3 eh3) ?_
      refine r_aload_n (dGet dX11_feed (j := 9) rfl) nv0 rfl ?_
      refine r_iload_n (dGet dX11_feed (j := 10) rfl) rfl ?_
      obtain ⟨h4, eh4, hf⟩ := Option.bind_eq_some_iff.mp hf
      refine r_virtual (dGet dX11_feed (j := 11) rfl) L11_89 M15 rfl rfl (Nat.le_of_ble_eq_true rfl) (oX11_putFour eh4) (cX11_putFour X N (d + 0) v0 v2 h3 h4 eh4) ?_
      refine r_aload_n (dGet dX11_feed (j := 12) rfl) nv0 rfl ?_
      refine r_iload_n (dGet dX11_feed (j := 13) rfl) rfl ?_
      obtain ⟨h5, eh5, hf⟩ := Option.bind_eq_some_iff.mp hf
      refine r_virtual (dGet dX11_feed (j := 14) rfl) L11_89 M15 rfl rfl (Nat.le_of_ble_eq_true rfl) (oX11_putFour eh5) (cX11_putFour X N (d + 0) v0 v3 h4 h5 eh5) ?_
      refine r_aload_n (dGet dX11_feed (j := 15) rfl) nv0 rfl ?_
      refine r_iload (dGet dX11_feed (j := 16) rfl) rfl ?_
      obtain ⟨h6, eh6, hf⟩ := Option.bind_eq_some_iff.mp hf
      refine r_virtual (dGet dX11_feed (j := 17) rfl) L11_89 M15 rfl rfl (Nat.le_of_ble_eq_true rfl) (oX11_putFour eh6) (cX11_putFour X N (d + 0) v0 v4 h5 h6 eh6) ?_
      refine r_aload_n (dGet dX11_feed (j := 18) rfl) nv0 rfl ?_
      refine r_iload (dGet dX11_feed (j := 19) rfl) rfl ?_
      obtain ⟨h7, eh7, hf⟩ := Option.bind_eq_some_iff.mp hf
      refine r_virtual (dGet dX11_feed (j := 20) rfl) L11_89 M15 rfl rfl (Nat.le_of_ble_eq_true rfl) (oX11_putFour eh7) (cX11_putFour X N (d + 0) v0 v5 h6 h7 eh7) ?_
      refine r_aload_n (dGet dX11_feed (j := 21) rfl) nv0 rfl ?_
      obtain ⟨t8, et8, hf⟩ := Option.bind_eq_some_iff.mp hf
      refine r_getI (dGet dX11_feed (j := 22) rfl) F11_78 et8 ?_
      have hq := Option.some.inj hf
      subst hq
      exact r_iret (dGet dX11_feed (j := 23) rfl) rfl rfl
    · rw [if_neg c2] at hf
      refine r_icmp_le_f (dGet dX11_feed (j := 3) rfl) rfl c2 ?_
      refine r_iconst (dGet dX11_feed (j := 4) rfl) kI_m1 ?_
      have hq := Option.some.inj hf
      subst hq
      exact r_iret (dGet dX11_feed (j := 5) rfl) rfl rfl
  · rw [if_neg hc] at hf; cases hf
def eX11_heap : List (Nat × Instr × Nat) := [(0, .iload_n 1, 1), (1, .bipush 10, 2), (3, .if_icmp .lt 10, 3), (6, .iload_n 1, 1), (7, .sipush 10000, 3), (10, .if_icmp .le 5, 3), (13, .iconst (-1), 1), (14, .ireturn, 1), (15, .aload_n 0, 1), (16, .iload_n 1, 1), (17, .putfield 82, 3), (20, .iconst 1, 1), (21, .ireturn, 1)]
theorem dX11_heap : dChk (pCd 5199) eX11_heap = true := by decide +kernel
def fX11_heap (N : Nat) (v0 : Nat) (v1 : Int32) (h : pH) : Option (Int32 × pH) := if isO h v0 11 = true then (
  if v1 < (10 : Int32) then (
  some ((-1 : Int32), h)) else (
  if v1 ≤ (10000 : Int32) then (
  (putI h v0 11 9 v1).bind fun h3 =>
  some ((1 : Int32), h3)) else (
  some ((-1 : Int32), h)))) else none
theorem oX11_heap {N : Nat} {v0 : Nat} {v1 : Int32} {h : pH} {q : Int32 × pH} (hf : fX11_heap N v0 v1 h = some q) : isO h v0 11 = true := by
  unfold fX11_heap at hf
  by_cases hc : isO h v0 11 = true
  · exact hc
  · rw [if_neg hc] at hf; cases hf
theorem cX11_heap (X : pX) (N d : Nat) (v0 : Nat) (v1 : Int32) (h : pH) (q : Int32 × pH) (hf : fX11_heap N v0 v1 h = some q) : Calls X (d + 0) 164 [.ref v0, .int v1] h (some (.int q.1), q.2, 0, 0) := by
  refine Calls.of M164 (Nat.le_of_ble_eq_true rfl) ?_
  show Run X (d + 0) 11 false (pCd 5199) 2 (some .int) 0 [(0, .ref v0), (1, .int v1)] [] h 0 0 (some (.int q.1), q.2, 0, 0)
  unfold fX11_heap at hf
  by_cases hc : isO h v0 11 = true
  · rw [if_pos hc] at hf
    have nv0 : ¬ v0 = 4 := isO_ne hc
    refine r_iload_n (dGet dX11_heap (j := 0) rfl) rfl ?_
    refine r_bipush (dGet dX11_heap (j := 1) rfl) kB_10 ?_
    by_cases c1 : v1 < (10 : Int32)
    · rw [if_pos c1] at hf
      refine r_icmp_lt_t (dGet dX11_heap (j := 2) rfl) rfl c1 ?_
      refine r_iconst (dGet dX11_heap (j := 6) rfl) kI_m1 ?_
      have hq := Option.some.inj hf
      subst hq
      exact r_iret (dGet dX11_heap (j := 7) rfl) rfl rfl
    · rw [if_neg c1] at hf
      refine r_icmp_lt_f (dGet dX11_heap (j := 2) rfl) rfl c1 ?_
      refine r_iload_n (dGet dX11_heap (j := 3) rfl) rfl ?_
      refine r_sipush (dGet dX11_heap (j := 4) rfl) kS_10000 ?_
      by_cases c2 : v1 ≤ (10000 : Int32)
      · rw [if_pos c2] at hf
        refine r_icmp_le_t (dGet dX11_heap (j := 5) rfl) rfl c2 ?_
        refine r_aload_n (dGet dX11_heap (j := 8) rfl) nv0 rfl ?_
        refine r_iload_n (dGet dX11_heap (j := 9) rfl) rfl ?_
        obtain ⟨h3, eh3, hf⟩ := Option.bind_eq_some_iff.mp hf
        refine r_putI (dGet dX11_heap (j := 10) rfl) F11_82 rfl rfl eh3 ?_
        refine r_iconst (dGet dX11_heap (j := 11) rfl) kI_1 ?_
        have hq := Option.some.inj hf
        subst hq
        exact r_iret (dGet dX11_heap (j := 12) rfl) rfl rfl
      · rw [if_neg c2] at hf
        refine r_icmp_le_f (dGet dX11_heap (j := 5) rfl) rfl c2 ?_
        refine r_iconst (dGet dX11_heap (j := 6) rfl) kI_m1 ?_
        have hq := Option.some.inj hf
        subst hq
        exact r_iret (dGet dX11_heap (j := 7) rfl) rfl rfl
  · rw [if_neg hc] at hf; cases hf
def eX11_input : List (Nat × Instr × Nat) := [(0, .aload_n 0, 1), (1, .getfield 65, 3), (4, .iload_n 1, 1), (5, .iload_n 2, 1), (6, .iload_n 3, 1), (7, .invokevirtual 113, 3), (10, .ireturn, 1)]
theorem dX11_input : dChk (pCd 5203) eX11_input = true := by decide +kernel
def fX11_input (N : Nat) (v0 : Nat) (v1 : Int32) (v2 : Int32) (v3 : Int32) (h : pH) : Option (Int32 × pH) := if isO h v0 11 = true then (
  (getR h v0 11 6).bind fun t1 =>
  (fX4_addThree N t1 v1 v2 v3 h).bind fun q2 =>
  some (q2.1, q2.2)) else none
theorem oX11_input {N : Nat} {v0 : Nat} {v1 : Int32} {v2 : Int32} {v3 : Int32} {h : pH} {q : Int32 × pH} (hf : fX11_input N v0 v1 v2 v3 h = some q) : isO h v0 11 = true := by
  unfold fX11_input at hf
  by_cases hc : isO h v0 11 = true
  · exact hc
  · rw [if_neg hc] at hf; cases hf
theorem cX11_input (X : pX) (N d : Nat) (v0 : Nat) (v1 : Int32) (v2 : Int32) (v3 : Int32) (h : pH) (q : Int32 × pH) (hf : fX11_input N v0 v1 v2 v3 h = some q) : Calls X (d + 2) 165 [.ref v0, .int v1, .int v2, .int v3] h (some (.int q.1), q.2, 0, 0) := by
  refine Calls.of M165 (Nat.le_of_ble_eq_true rfl) ?_
  show Run X (d + 2) 11 false (pCd 5203) 4 (some .int) 0 [(0, .ref v0), (1, .int v1), (2, .int v2), (3, .int v3)] [] h 0 0 (some (.int q.1), q.2, 0, 0)
  unfold fX11_input at hf
  by_cases hc : isO h v0 11 = true
  · rw [if_pos hc] at hf
    have nv0 : ¬ v0 = 4 := isO_ne hc
    refine r_aload_n (dGet dX11_input (j := 0) rfl) nv0 rfl ?_
    obtain ⟨t1, et1, hf⟩ := Option.bind_eq_some_iff.mp hf
    refine r_getR (dGet dX11_input (j := 1) rfl) F11_65 et1 ?_
    refine r_iload_n (dGet dX11_input (j := 2) rfl) rfl ?_
    refine r_iload_n (dGet dX11_input (j := 3) rfl) rfl ?_
    refine r_iload_n (dGet dX11_input (j := 4) rfl) rfl ?_
    obtain ⟨q2, eq2, hf⟩ := Option.bind_eq_some_iff.mp hf
    refine r_virtual (dGet dX11_input (j := 5) rfl) L11_113 M166 rfl rfl (Nat.le_of_ble_eq_true rfl) (oX4_addThree eq2) (cX4_addThree X N (d + 0) t1 v1 v2 v3 h q2 eq2) ?_
    have hq := Option.some.inj hf
    subst hq
    exact r_iret (dGet dX11_input (j := 6) rfl) rfl rfl
  · rw [if_neg hc] at hf; cases hf
def eX11_output : List (Nat × Instr × Nat) := [(0, .aload_n 0, 1), (1, .getfield 74, 3), (4, .iload_n 1, 1), (5, .invokevirtual 126, 3), (8, .ireturn, 1)]
theorem dX11_output : dChk (pCd 6222) eX11_output = true := by decide +kernel
def fX11_output (N : Nat) (v0 : Nat) (v1 : Int32) (h : pH) : Option (Int32 × pH) := if isO h v0 11 = true then (
  (getR h v0 11 7).bind fun t1 =>
  (fX5_printedAt N t1 v1 h).bind fun q2 =>
  some (q2.1, q2.2)) else none
theorem oX11_output {N : Nat} {v0 : Nat} {v1 : Int32} {h : pH} {q : Int32 × pH} (hf : fX11_output N v0 v1 h = some q) : isO h v0 11 = true := by
  unfold fX11_output at hf
  by_cases hc : isO h v0 11 = true
  · exact hc
  · rw [if_neg hc] at hf; cases hf
theorem cX11_output (X : pX) (N d : Nat) (v0 : Nat) (v1 : Int32) (h : pH) (q : Int32 × pH) (hf : fX11_output N v0 v1 h = some q) : Calls X (d + 1) 224 [.ref v0, .int v1] h (some (.int q.1), q.2, 0, 0) := by
  refine Calls.of M224 (Nat.le_of_ble_eq_true rfl) ?_
  show Run X (d + 1) 11 false (pCd 6222) 2 (some .int) 0 [(0, .ref v0), (1, .int v1)] [] h 0 0 (some (.int q.1), q.2, 0, 0)
  unfold fX11_output at hf
  by_cases hc : isO h v0 11 = true
  · rw [if_pos hc] at hf
    have nv0 : ¬ v0 = 4 := isO_ne hc
    refine r_aload_n (dGet dX11_output (j := 0) rfl) nv0 rfl ?_
    obtain ⟨t1, et1, hf⟩ := Option.bind_eq_some_iff.mp hf
    refine r_getR (dGet dX11_output (j := 1) rfl) F11_74 et1 ?_
    refine r_iload_n (dGet dX11_output (j := 2) rfl) rfl ?_
    obtain ⟨q2, eq2, hf⟩ := Option.bind_eq_some_iff.mp hf
    refine r_virtual (dGet dX11_output (j := 3) rfl) L11_126 M225 rfl rfl (Nat.le_of_ble_eq_true rfl) (oX5_printedAt eq2) (cX5_printedAt X N (d + 0) t1 v1 h q2 eq2) ?_
    have hq := Option.some.inj hf
    subst hq
    exact r_iret (dGet dX11_output (j := 4) rfl) rfl rfl
  · rw [if_neg hc] at hf; cases hf
def eX11_program : List (Nat × Instr × Nat) := [(0, .aload_n 0, 1), (1, .getfield 78, 3), (4, .istore_n 1, 1), (5, .aload_n 0, 1), (6, .iconst 0, 1), (7, .putfield 78, 3), (10, .aload_n 0, 1), (11, .iconst 0, 1), (12, .putfield 85, 3), (15, .aload_n 0, 1), (16, .getfield 74, 3), (19, .invokevirtual 93, 3), (22, .aload_n 0, 1), (23, .getfield 16, 3), (26, .aload_n 0, 1), (27, .getfield 9, 3), (30, .iload_n 1, 1), (31, .invokevirtual 96, 3), (34, .aload_n 0, 1), (35, .getfield 40, 3), (38, .invokevirtual 100, 3), (41, .istore_n 2, 1), (42, .iload_n 2, 1), (43, .ifCond .lt 7, 3), (46, .iconst (-1), 1), (47, .iload_n 2, 1), (48, .isub, 1), (49, .ireturn, 1), (50, .aload_n 0, 1), (51, .getfield 49, 3), (54, .iload_n 1, 1), (55, .invokevirtual 104, 3), (58, .istore_n 3, 1), (59, .iload_n 3, 1), (60, .ifCond .ge 11, 3), (63, .aload_n 0, 1), (64, .getfield 58, 3), (67, .invokevirtual 108, 3), (70, .istore_n 3, 1), (71, .iload_n 3, 1), (72, .ifCond .lt 9, 3), (75, .sipush (-10000), 3), (78, .iload_n 3, 1), (79, .isub, 1), (80, .ireturn, 1), (81, .aload_n 0, 1), (82, .iconst 1, 1), (83, .putfield 85, 3), (86, .aload_n 0, 1), (87, .getfield 23, 3), (90, .invokevirtual 110, 3), (93, .ireturn, 1)]
theorem dX11_program : dChk (pCd 3074) eX11_program = true := by decide +kernel
def fX11_program_71 (N : Nat) (v0 : Nat) (v3 : Int32) (h : pH) : Option (Int32 × pH) :=
  if v3 < 0 then (
  (putZ h v0 11 10 (1 : Int32)).bind fun h2 =>
  (getR h2 v0 11 2).bind fun t3 =>
  (fX1_told N t3 h2).bind fun q4 =>
  some (q4.1, q4.2)) else (
  some (((-10000 : Int32) - v3), h))
theorem lX11_program_71 (X : pX) (N d : Nat)  (v0 : Nat) (v3 : Int32) (h : pH) (q : Int32 × pH) (hf : fX11_program_71 N v0 v3 h = some q) (nv0 : ¬ v0 = 4) : Run X (d + 805) 11 false (pCd 3074) 4 (some .int) 71 [(0, .ref v0), (3, .int v3)] [] h 0 0 (some (.int q.1), q.2, 0, 0) := by
  unfold fX11_program_71 at hf
  refine r_iload_n (dGet dX11_program (j := 39) rfl) rfl ?_
  by_cases c1 : v3 < 0
  · rw [if_pos c1] at hf
    refine r_if_lt_t (dGet dX11_program (j := 40) rfl) rfl c1 ?_
    refine r_aload_n (dGet dX11_program (j := 45) rfl) nv0 rfl ?_
    refine r_iconst (dGet dX11_program (j := 46) rfl) kI_1 ?_
    obtain ⟨h2, eh2, hf⟩ := Option.bind_eq_some_iff.mp hf
    refine r_putZ (dGet dX11_program (j := 47) rfl) F11_85 rfl rfl eh2 ?_
    refine r_aload_n (dGet dX11_program (j := 48) rfl) nv0 rfl ?_
    obtain ⟨t3, et3, hf⟩ := Option.bind_eq_some_iff.mp hf
    refine r_getR (dGet dX11_program (j := 49) rfl) F11_23 et3 ?_
    obtain ⟨q4, eq4, hf⟩ := Option.bind_eq_some_iff.mp hf
    refine r_virtual (dGet dX11_program (j := 50) rfl) L11_110 M163 rfl rfl (Nat.le_of_ble_eq_true rfl) (oX1_told eq4) (cX1_told X N (d + 804) t3 h2 q4 eq4) ?_
    have hq := Option.some.inj hf
    subst hq
    exact r_iret (dGet dX11_program (j := 51) rfl) rfl rfl
  · rw [if_neg c1] at hf
    refine r_if_lt_f (dGet dX11_program (j := 40) rfl) rfl c1 ?_
    refine r_sipush (dGet dX11_program (j := 41) rfl) kS_m10000 ?_
    refine r_iload_n (dGet dX11_program (j := 42) rfl) rfl ?_
    refine r_isub (dGet dX11_program (j := 43) rfl) ?_
    have hq := Option.some.inj hf
    subst hq
    exact r_iret (dGet dX11_program (j := 44) rfl) rfl rfl
def fX11_program (N : Nat) (v0 : Nat) (h : pH) : Option (Int32 × pH) := if isO h v0 11 = true then (
  (getI h v0 11 8).bind fun t5 =>
  (putI h v0 11 8 (0 : Int32)).bind fun h6 =>
  (putZ h6 v0 11 10 (0 : Int32)).bind fun h7 =>
  (getR h7 v0 11 7).bind fun t8 =>
  (fX5_forget N t8 h7).bind fun h9 =>
  (getR h9 v0 11 1).bind fun t10 =>
  (getR h9 v0 11 0).bind fun t11 =>
  (fX10_split N t10 t11 t5 h9).bind fun h12 =>
  (getR h12 v0 11 3).bind fun t13 =>
  (fX7_read N t13 h12).bind fun q14 =>
  if q14.1 < 0 then (
  (getR q14.2 v0 11 4).bind fun t16 =>
  (fX0_check N t16 t5 q14.2).bind fun q17 =>
  if 0 ≤ q17.1 then (
  fX11_program_71 N v0 q17.1 q17.2) else (
  (getR q17.2 v0 11 5).bind fun t19 =>
  (fX9_check N t19 q17.2).bind fun q20 =>
  fX11_program_71 N v0 q20.1 q20.2)) else (
  some (((-1 : Int32) - q14.1), q14.2))) else none
theorem oX11_program {N : Nat} {v0 : Nat} {h : pH} {q : Int32 × pH} (hf : fX11_program N v0 h = some q) : isO h v0 11 = true := by
  unfold fX11_program at hf
  by_cases hc : isO h v0 11 = true
  · exact hc
  · rw [if_neg hc] at hf; cases hf
theorem cX11_program (X : pX) (N d : Nat) (v0 : Nat) (h : pH) (q : Int32 × pH) (hf : fX11_program N v0 h = some q) : Calls X (d + 805) 17 [.ref v0] h (some (.int q.1), q.2, 0, 0) := by
  refine Calls.of M17 (Nat.le_of_ble_eq_true rfl) ?_
  show Run X (d + 805) 11 false (pCd 3074) 4 (some .int) 0 [(0, .ref v0)] [] h 0 0 (some (.int q.1), q.2, 0, 0)
  unfold fX11_program at hf
  by_cases hc : isO h v0 11 = true
  · rw [if_pos hc] at hf
    have nv0 : ¬ v0 = 4 := isO_ne hc
    refine r_aload_n (dGet dX11_program (j := 0) rfl) nv0 rfl ?_
    obtain ⟨t5, et5, hf⟩ := Option.bind_eq_some_iff.mp hf
    refine r_getI (dGet dX11_program (j := 1) rfl) F11_78 et5 ?_
    refine r_istore_n (lv' := [(1, .int t5), (0, .ref v0)]) (dGet dX11_program (j := 2) rfl) (by decide) rfl ?_
    refine r_aload_n (dGet dX11_program (j := 3) rfl) nv0 rfl ?_
    refine r_iconst (dGet dX11_program (j := 4) rfl) kI_0 ?_
    obtain ⟨h6, eh6, hf⟩ := Option.bind_eq_some_iff.mp hf
    refine r_putI (dGet dX11_program (j := 5) rfl) F11_78 rfl rfl eh6 ?_
    refine r_aload_n (dGet dX11_program (j := 6) rfl) nv0 rfl ?_
    refine r_iconst (dGet dX11_program (j := 7) rfl) kI_0 ?_
    obtain ⟨h7, eh7, hf⟩ := Option.bind_eq_some_iff.mp hf
    refine r_putZ (dGet dX11_program (j := 8) rfl) F11_85 rfl rfl eh7 ?_
    refine r_aload_n (dGet dX11_program (j := 9) rfl) nv0 rfl ?_
    obtain ⟨t8, et8, hf⟩ := Option.bind_eq_some_iff.mp hf
    refine r_getR (dGet dX11_program (j := 10) rfl) F11_74 et8 ?_
    obtain ⟨h9, eh9, hf⟩ := Option.bind_eq_some_iff.mp hf
    refine r_virtual (dGet dX11_program (j := 11) rfl) L11_93 M18 rfl rfl (Nat.le_of_ble_eq_true rfl) (oX5_forget eh9) (cX5_forget X N (d + 804) t8 h7 h9 eh9) ?_
    refine r_aload_n (dGet dX11_program (j := 12) rfl) nv0 rfl ?_
    obtain ⟨t10, et10, hf⟩ := Option.bind_eq_some_iff.mp hf
    refine r_getR (dGet dX11_program (j := 13) rfl) F11_16 et10 ?_
    refine r_aload_n (dGet dX11_program (j := 14) rfl) nv0 rfl ?_
    obtain ⟨t11, et11, hf⟩ := Option.bind_eq_some_iff.mp hf
    refine r_getR (dGet dX11_program (j := 15) rfl) F11_9 et11 ?_
    refine r_iload_n (dGet dX11_program (j := 16) rfl) rfl ?_
    obtain ⟨h12, eh12, hf⟩ := Option.bind_eq_some_iff.mp hf
    refine r_virtual (dGet dX11_program (j := 17) rfl) L11_96 M19 rfl rfl (Nat.le_of_ble_eq_true rfl) (oX10_split eh12) (cX10_split X N (d + 796) t10 t11 t5 h9 h12 eh12) ?_
    refine r_aload_n (dGet dX11_program (j := 18) rfl) nv0 rfl ?_
    obtain ⟨t13, et13, hf⟩ := Option.bind_eq_some_iff.mp hf
    refine r_getR (dGet dX11_program (j := 19) rfl) F11_40 et13 ?_
    obtain ⟨q14, eq14, hf⟩ := Option.bind_eq_some_iff.mp hf
    refine r_virtual (dGet dX11_program (j := 20) rfl) L11_100 M53 rfl rfl (Nat.le_of_ble_eq_true rfl) (oX7_read eq14) (cX7_read X N (d + 0) t13 h12 q14 eq14) ?_
    refine r_istore_n (lv' := [(2, .int q14.1), (1, .int t5), (0, .ref v0)]) (dGet dX11_program (j := 21) rfl) (by decide) rfl ?_
    refine r_iload_n (dGet dX11_program (j := 22) rfl) rfl ?_
    by_cases c15 : q14.1 < 0
    · rw [if_pos c15] at hf
      refine r_if_lt_t (dGet dX11_program (j := 23) rfl) rfl c15 ?_
      refine r_aload_n (dGet dX11_program (j := 28) rfl) nv0 rfl ?_
      obtain ⟨t16, et16, hf⟩ := Option.bind_eq_some_iff.mp hf
      refine r_getR (dGet dX11_program (j := 29) rfl) F11_49 et16 ?_
      refine r_iload_n (dGet dX11_program (j := 30) rfl) rfl ?_
      obtain ⟨q17, eq17, hf⟩ := Option.bind_eq_some_iff.mp hf
      refine r_virtual (dGet dX11_program (j := 31) rfl) L11_104 M105 rfl rfl (Nat.le_of_ble_eq_true rfl) (oX0_check eq17) (cX0_check X N (d + 800) t16 t5 q14.2 q17 eq17) ?_
      refine r_istore_n (lv' := [(3, .int q17.1), (2, .int q14.1), (1, .int t5), (0, .ref v0)]) (dGet dX11_program (j := 32) rfl) (by decide) rfl ?_
      refine r_iload_n (dGet dX11_program (j := 33) rfl) rfl ?_
      by_cases c18 : 0 ≤ q17.1
      · rw [if_pos c18] at hf
        refine r_if_ge_t (dGet dX11_program (j := 34) rfl) rfl c18 ?_
        refine Run.weak [(0, .ref v0), (3, .int q17.1)] (by simp) (by simp [pNd]) ?_
        exact lX11_program_71 X N d v0 q17.1 q17.2 q hf nv0
      · rw [if_neg c18] at hf
        refine r_if_ge_f (dGet dX11_program (j := 34) rfl) rfl c18 ?_
        refine r_aload_n (dGet dX11_program (j := 35) rfl) nv0 rfl ?_
        obtain ⟨t19, et19, hf⟩ := Option.bind_eq_some_iff.mp hf
        refine r_getR (dGet dX11_program (j := 36) rfl) F11_58 et19 ?_
        obtain ⟨q20, eq20, hf⟩ := Option.bind_eq_some_iff.mp hf
        refine r_virtual (dGet dX11_program (j := 37) rfl) L11_108 M125 rfl rfl (Nat.le_of_ble_eq_true rfl) (oX9_check eq20) (cX9_check X N (d + 798) t19 q17.2 q20 eq20) ?_
        refine r_istore_n (lv' := [(3, .int q20.1), (2, .int q14.1), (1, .int t5), (0, .ref v0)]) (dGet dX11_program (j := 38) rfl) (by decide) rfl ?_
        refine Run.weak [(0, .ref v0), (3, .int q20.1)] (by simp) (by simp [pNd]) ?_
        exact lX11_program_71 X N d v0 q20.1 q20.2 q hf nv0
    · rw [if_neg c15] at hf
      refine r_if_lt_f (dGet dX11_program (j := 23) rfl) rfl c15 ?_
      refine r_iconst (dGet dX11_program (j := 24) rfl) kI_m1 ?_
      refine r_iload_n (dGet dX11_program (j := 25) rfl) rfl ?_
      refine r_isub (dGet dX11_program (j := 26) rfl) ?_
      have hq := Option.some.inj hf
      subst hq
      exact r_iret (dGet dX11_program (j := 27) rfl) rfl rfl
  · rw [if_neg hc] at hf; cases hf
def eX11_result : List (Nat × Instr × Nat) := [(0, .aload_n 0, 1), (1, .getfield 74, 3), (4, .getfield 123, 3), (7, .ireturn, 1)]
theorem dX11_result : dChk (pCd 6218) eX11_result = true := by decide +kernel
def fX11_result (N : Nat) (v0 : Nat) (h : pH) : Option (Int32 × pH) := if isO h v0 11 = true then (
  (getR h v0 11 7).bind fun t1 =>
  (getI h t1 5 14).bind fun t2 =>
  some (t2, h)) else none
theorem oX11_result {N : Nat} {v0 : Nat} {h : pH} {q : Int32 × pH} (hf : fX11_result N v0 h = some q) : isO h v0 11 = true := by
  unfold fX11_result at hf
  by_cases hc : isO h v0 11 = true
  · exact hc
  · rw [if_neg hc] at hf; cases hf
theorem cX11_result (X : pX) (N d : Nat) (v0 : Nat) (h : pH) (q : Int32 × pH) (hf : fX11_result N v0 h = some q) : Calls X (d + 0) 223 [.ref v0] h (some (.int q.1), q.2, 0, 0) := by
  refine Calls.of M223 (Nat.le_of_ble_eq_true rfl) ?_
  show Run X (d + 0) 11 false (pCd 6218) 1 (some .int) 0 [(0, .ref v0)] [] h 0 0 (some (.int q.1), q.2, 0, 0)
  unfold fX11_result at hf
  by_cases hc : isO h v0 11 = true
  · rw [if_pos hc] at hf
    have nv0 : ¬ v0 = 4 := isO_ne hc
    refine r_aload_n (dGet dX11_result (j := 0) rfl) nv0 rfl ?_
    obtain ⟨t1, et1, hf⟩ := Option.bind_eq_some_iff.mp hf
    refine r_getR (dGet dX11_result (j := 1) rfl) F11_74 et1 ?_
    obtain ⟨t2, et2, hf⟩ := Option.bind_eq_some_iff.mp hf
    refine r_getI (dGet dX11_result (j := 2) rfl) F11_123 et2 ?_
    have hq := Option.some.inj hf
    subst hq
    exact r_iret (dGet dX11_result (j := 3) rfl) rfl rfl
  · rw [if_neg hc] at hf; cases hf
def eX11_start : List (Nat × Instr × Nat) := [(0, .aload_n 0, 1), (1, .getfield 85, 3), (4, .ifCond .ne 5, 3), (7, .iconst 0, 1), (8, .ireturn, 1), (9, .aload_n 0, 1), (10, .getfield 74, 3), (13, .aload_n 0, 1), (14, .getfield 82, 3), (17, .invokevirtual 117, 3), (20, .iconst 1, 1), (21, .ireturn, 1)]
theorem dX11_start : dChk (pCd 5215) eX11_start = true := by decide +kernel
def fX11_start (N : Nat) (v0 : Nat) (h : pH) : Option (Int32 × pH × Nat × Nat) := if isO h v0 11 = true then (
  (getI h v0 11 10).bind fun t1 =>
  if t1 = 0 then (
  some ((0 : Int32), h, 0, 0)) else (
  (getR h v0 11 7).bind fun t3 =>
  (getI h v0 11 9).bind fun t4 =>
  (fX5_begin N t3 t4 h).bind fun q5 =>
  some ((1 : Int32), q5.1, (0 + q5.2.1), (0 + q5.2.2)))) else none
theorem oX11_start {N : Nat} {v0 : Nat} {h : pH} {q : Int32 × pH × Nat × Nat} (hf : fX11_start N v0 h = some q) : isO h v0 11 = true := by
  unfold fX11_start at hf
  by_cases hc : isO h v0 11 = true
  · exact hc
  · rw [if_neg hc] at hf; cases hf
theorem cX11_start (X : pX) (N d : Nat) (v0 : Nat) (h : pH) (q : Int32 × pH × Nat × Nat) (hf : fX11_start N v0 h = some q) : Calls X (d + 5) 168 [.ref v0] h (some (.int q.1), q.2.1, q.2.2.1, q.2.2.2) := by
  refine Calls.of M168 (Nat.le_of_ble_eq_true rfl) ?_
  show Run X (d + 5) 11 false (pCd 5215) 1 (some .int) 0 [(0, .ref v0)] [] h 0 0 (some (.int q.1), q.2.1, q.2.2.1, q.2.2.2)
  unfold fX11_start at hf
  by_cases hc : isO h v0 11 = true
  · rw [if_pos hc] at hf
    have nv0 : ¬ v0 = 4 := isO_ne hc
    refine r_aload_n (dGet dX11_start (j := 0) rfl) nv0 rfl ?_
    obtain ⟨t1, et1, hf⟩ := Option.bind_eq_some_iff.mp hf
    refine r_getI (dGet dX11_start (j := 1) rfl) F11_85 et1 ?_
    by_cases c2 : t1 = 0
    · rw [if_pos c2] at hf
      refine r_if_ne_f (dGet dX11_start (j := 2) rfl) rfl c2 ?_
      refine r_iconst (dGet dX11_start (j := 3) rfl) kI_0 ?_
      have hq := Option.some.inj hf
      subst hq
      exact r_iret (dGet dX11_start (j := 4) rfl) rfl rfl
    · rw [if_neg c2] at hf
      refine r_if_ne_t (dGet dX11_start (j := 2) rfl) rfl c2 ?_
      refine r_aload_n (dGet dX11_start (j := 5) rfl) nv0 rfl ?_
      obtain ⟨t3, et3, hf⟩ := Option.bind_eq_some_iff.mp hf
      refine r_getR (dGet dX11_start (j := 6) rfl) F11_74 et3 ?_
      refine r_aload_n (dGet dX11_start (j := 7) rfl) nv0 rfl ?_
      obtain ⟨t4, et4, hf⟩ := Option.bind_eq_some_iff.mp hf
      refine r_getI (dGet dX11_start (j := 8) rfl) F11_82 et4 ?_
      obtain ⟨q5, eq5, hf⟩ := Option.bind_eq_some_iff.mp hf
      refine r_virtual (dGet dX11_start (j := 9) rfl) L11_117 M169 rfl rfl (Nat.le_of_ble_eq_true rfl) (oX5_begin eq5) (cX5_begin X N (d + 0) t3 t4 h q5 eq5) ?_
      refine r_iconst (dGet dX11_start (j := 10) rfl) kI_1 ?_
      have hq := Option.some.inj hf
      subst hq
      exact r_iret (dGet dX11_start (j := 11) rfl) rfl rfl
  · rw [if_neg hc] at hf; cases hf
def eX11_step : List (Nat × Instr × Nat) := [(0, .iload_n 1, 1), (1, .ifCond .lt 10, 3), (4, .iload_n 1, 1), (5, .sipush 20000, 3), (8, .if_icmp .le 5, 3), (11, .iconst (-1), 1), (12, .ireturn, 1), (13, .aload_n 0, 1), (14, .getfield 74, 3), (17, .iload_n 1, 1), (18, .invokevirtual 120, 3), (21, .ireturn, 1)]
theorem dX11_step : dChk (pCd 6058) eX11_step = true := by decide +kernel
def fX11_step (N : Nat) (v0 : Nat) (v1 : Int32) (h : pH) : Option (Int32 × pH × Nat × Nat) := if isO h v0 11 = true then (
  if v1 < 0 then (
  some ((-1 : Int32), h, 0, 0)) else (
  if v1 ≤ (20000 : Int32) then (
  (getR h v0 11 7).bind fun t3 =>
  (fX5_run N t3 v1 h).bind fun q4 =>
  some (q4.1, q4.2.1, (0 + q4.2.2.1), (0 + q4.2.2.2))) else (
  some ((-1 : Int32), h, 0, 0)))) else none
theorem oX11_step {N : Nat} {v0 : Nat} {v1 : Int32} {h : pH} {q : Int32 × pH × Nat × Nat} (hf : fX11_step N v0 v1 h = some q) : isO h v0 11 = true := by
  unfold fX11_step at hf
  by_cases hc : isO h v0 11 = true
  · exact hc
  · rw [if_neg hc] at hf; cases hf
theorem cX11_step (X : pX) (N d : Nat) (v0 : Nat) (v1 : Int32) (h : pH) (q : Int32 × pH × Nat × Nat) (hf : fX11_step N v0 v1 h = some q) : Calls X (d + 7) 185 [.ref v0, .int v1] h (some (.int q.1), q.2.1, q.2.2.1, q.2.2.2) := by
  refine Calls.of M185 (Nat.le_of_ble_eq_true rfl) ?_
  show Run X (d + 7) 11 false (pCd 6058) 2 (some .int) 0 [(0, .ref v0), (1, .int v1)] [] h 0 0 (some (.int q.1), q.2.1, q.2.2.1, q.2.2.2)
  unfold fX11_step at hf
  by_cases hc : isO h v0 11 = true
  · rw [if_pos hc] at hf
    have nv0 : ¬ v0 = 4 := isO_ne hc
    refine r_iload_n (dGet dX11_step (j := 0) rfl) rfl ?_
    by_cases c1 : v1 < 0
    · rw [if_pos c1] at hf
      refine r_if_lt_t (dGet dX11_step (j := 1) rfl) rfl c1 ?_
      refine r_iconst (dGet dX11_step (j := 5) rfl) kI_m1 ?_
      have hq := Option.some.inj hf
      subst hq
      exact r_iret (dGet dX11_step (j := 6) rfl) rfl rfl
    · rw [if_neg c1] at hf
      refine r_if_lt_f (dGet dX11_step (j := 1) rfl) rfl c1 ?_
      refine r_iload_n (dGet dX11_step (j := 2) rfl) rfl ?_
      refine r_sipush (dGet dX11_step (j := 3) rfl) kS_20000 ?_
      by_cases c2 : v1 ≤ (20000 : Int32)
      · rw [if_pos c2] at hf
        refine r_icmp_le_t (dGet dX11_step (j := 4) rfl) rfl c2 ?_
        refine r_aload_n (dGet dX11_step (j := 7) rfl) nv0 rfl ?_
        obtain ⟨t3, et3, hf⟩ := Option.bind_eq_some_iff.mp hf
        refine r_getR (dGet dX11_step (j := 8) rfl) F11_74 et3 ?_
        refine r_iload_n (dGet dX11_step (j := 9) rfl) rfl ?_
        obtain ⟨q4, eq4, hf⟩ := Option.bind_eq_some_iff.mp hf
        refine r_virtual (dGet dX11_step (j := 10) rfl) L11_120 M186 rfl rfl (Nat.le_of_ble_eq_true rfl) (oX5_run eq4) (cX5_run X N (d + 0) t3 v1 h q4 eq4) ?_
        have hq := Option.some.inj hf
        subst hq
        exact r_iret (dGet dX11_step (j := 11) rfl) rfl rfl
      · rw [if_neg c2] at hf
        refine r_icmp_le_f (dGet dX11_step (j := 4) rfl) rfl c2 ?_
        refine r_iconst (dGet dX11_step (j := 5) rfl) kI_m1 ?_
        have hq := Option.some.inj hf
        subst hq
        exact r_iret (dGet dX11_step (j := 6) rfl) rfl rfl
  · rw [if_neg hc] at hf; cases hf
