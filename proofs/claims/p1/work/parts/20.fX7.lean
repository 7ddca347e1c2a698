def eX7_advance : List (Nat × Instr × Nat) := [(0, .aload_n 0, 1), (1, .getfield 78, 3), (4, .iconst (-1), 1), (5, .if_icmp .ne 45, 3), (8, .aload_n 0, 1), (9, .getfield 47, 3), (12, .iconst 1, 1), (13, .iadd, 1), (14, .aload_n 0, 1), (15, .getfield 7, 3), (18, .getfield 97, 3), (21, .if_icmp .ge 29, 3), (24, .aload_n 0, 1), (25, .dup, 1), (26, .getfield 47, 3), (29, .iconst 1, 1), (30, .iadd, 1), (31, .putfield 47, 3), (34, .aload_n 0, 1), (35, .aload_n 0, 1), (36, .getfield 7, 3), (39, .getfield 81, 3), (42, .aload_n 0, 1), (43, .getfield 47, 3), (46, .iaload, 1), (47, .putfield 57, 3), (50, .return_, 1)]
theorem dX7_advance : dChk (pCd 4016) eX7_advance = true := by decide +kernel
def fX7_advance (N : Nat) (v0 : Nat) (h : pH) : Option (pH) := if isO h v0 7 = true then (
  (getI h v0 7 11).bind fun t1 =>
  if t1 = (-1 : Int32) then (
  (getI h v0 7 8).bind fun t3 =>
  (getR h v0 7 0).bind fun t4 =>
  (getI h t4 10 3).bind fun t5 =>
  if t5 ≤ (t3 + (1 : Int32)) then (
  some h) else (
  (getI h v0 7 8).bind fun t7 =>
  (putI h v0 7 8 (t7 + (1 : Int32))).bind fun h8 =>
  (getR h8 v0 7 0).bind fun t9 =>
  (getR h8 t9 10 0).bind fun t10 =>
  (getI h8 v0 7 8).bind fun t11 =>
  (ldI h8 t10 t11).bind fun t12 =>
  (putI h8 v0 7 9 t12).bind fun h13 =>
  some h13)) else (
  some h)) else none
theorem oX7_advance {N : Nat} {v0 : Nat} {h : pH} {q : pH} (hf : fX7_advance N v0 h = some q) : isO h v0 7 = true := by
  unfold fX7_advance at hf
  by_cases hc : isO h v0 7 = true
  · exact hc
  · rw [if_neg hc] at hf; cases hf
theorem cX7_advance (X : pX) (N d : Nat) (v0 : Nat) (h : pH) (q : pH) (hf : fX7_advance N v0 h = some q) : Calls X (d + 0) 60 [.ref v0] h (none, q, 0, 0) := by
  refine Calls.of M60 (Nat.le_of_ble_eq_true rfl) ?_
  show Run X (d + 0) 7 false (pCd 4016) 1 none 0 [(0, .ref v0)] [] h 0 0 (none, q, 0, 0)
  unfold fX7_advance at hf
  by_cases hc : isO h v0 7 = true
  · rw [if_pos hc] at hf
    have nv0 : ¬ v0 = 4 := isO_ne hc
    refine r_aload_n (dGet dX7_advance (j := 0) rfl) nv0 rfl ?_
    obtain ⟨t1, et1, hf⟩ := Option.bind_eq_some_iff.mp hf
    refine r_getI (dGet dX7_advance (j := 1) rfl) F7_78 et1 ?_
    refine r_iconst (dGet dX7_advance (j := 2) rfl) kI_m1 ?_
    by_cases c2 : t1 = (-1 : Int32)
    · rw [if_pos c2] at hf
      refine r_icmp_ne_f (dGet dX7_advance (j := 3) rfl) rfl c2 ?_
      refine r_aload_n (dGet dX7_advance (j := 4) rfl) nv0 rfl ?_
      obtain ⟨t3, et3, hf⟩ := Option.bind_eq_some_iff.mp hf
      refine r_getI (dGet dX7_advance (j := 5) rfl) F7_47 et3 ?_
      refine r_iconst (dGet dX7_advance (j := 6) rfl) kI_1 ?_
      refine r_iadd (dGet dX7_advance (j := 7) rfl) ?_
      refine r_aload_n (dGet dX7_advance (j := 8) rfl) nv0 rfl ?_
      obtain ⟨t4, et4, hf⟩ := Option.bind_eq_some_iff.mp hf
      refine r_getR (dGet dX7_advance (j := 9) rfl) F7_7 et4 ?_
      obtain ⟨t5, et5, hf⟩ := Option.bind_eq_some_iff.mp hf
      refine r_getI (dGet dX7_advance (j := 10) rfl) F7_97 et5 ?_
      by_cases c6 : t5 ≤ (t3 + (1 : Int32))
      · rw [if_pos c6] at hf
        refine r_icmp_ge_t (dGet dX7_advance (j := 11) rfl) rfl c6 ?_
        cases hf
        exact r_vret (dGet dX7_advance (j := 26) rfl) rfl
      · rw [if_neg c6] at hf
        refine r_icmp_ge_f (dGet dX7_advance (j := 11) rfl) rfl c6 ?_
        refine r_aload_n (dGet dX7_advance (j := 12) rfl) nv0 rfl ?_
        refine r_dup (dGet dX7_advance (j := 13) rfl) rfl ?_
        obtain ⟨t7, et7, hf⟩ := Option.bind_eq_some_iff.mp hf
        refine r_getI (dGet dX7_advance (j := 14) rfl) F7_47 et7 ?_
        refine r_iconst (dGet dX7_advance (j := 15) rfl) kI_1 ?_
        refine r_iadd (dGet dX7_advance (j := 16) rfl) ?_
        obtain ⟨h8, eh8, hf⟩ := Option.bind_eq_some_iff.mp hf
        refine r_putI (dGet dX7_advance (j := 17) rfl) F7_47 rfl rfl eh8 ?_
        refine r_aload_n (dGet dX7_advance (j := 18) rfl) nv0 rfl ?_
        refine r_aload_n (dGet dX7_advance (j := 19) rfl) nv0 rfl ?_
        obtain ⟨t9, et9, hf⟩ := Option.bind_eq_some_iff.mp hf
        refine r_getR (dGet dX7_advance (j := 20) rfl) F7_7 et9 ?_
        obtain ⟨t10, et10, hf⟩ := Option.bind_eq_some_iff.mp hf
        refine r_getR (dGet dX7_advance (j := 21) rfl) F7_81 et10 ?_
        refine r_aload_n (dGet dX7_advance (j := 22) rfl) nv0 rfl ?_
        obtain ⟨t11, et11, hf⟩ := Option.bind_eq_some_iff.mp hf
        refine r_getI (dGet dX7_advance (j := 23) rfl) F7_47 et11 ?_
        obtain ⟨t12, et12, hf⟩ := Option.bind_eq_some_iff.mp hf
        refine r_iald (dGet dX7_advance (j := 24) rfl) et12 ?_
        obtain ⟨h13, eh13, hf⟩ := Option.bind_eq_some_iff.mp hf
        refine r_putI (dGet dX7_advance (j := 25) rfl) F7_57 rfl rfl eh13 ?_
        cases hf
        exact r_vret (dGet dX7_advance (j := 26) rfl) rfl
    · rw [if_neg c2] at hf
      refine r_icmp_ne_t (dGet dX7_advance (j := 3) rfl) rfl c2 ?_
      cases hf
      exact r_vret (dGet dX7_advance (j := 26) rfl) rfl
  · rw [if_neg hc] at hf; cases hf
def eX7_begin : List (Nat × Instr × Nat) := [(0, .aload_n 0, 1), (1, .iconst 0, 1), (2, .putfield 47, 3), (5, .aload_n 0, 1), (6, .aload_n 0, 1), (7, .getfield 7, 3), (10, .getfield 81, 3), (13, .iconst 0, 1), (14, .iaload, 1), (15, .putfield 57, 3), (18, .aload_n 0, 1), (19, .iconst 0, 1), (20, .putfield 84, 3), (23, .aload_n 0, 1), (24, .iconst 0, 1), (25, .putfield 87, 3), (28, .aload_n 0, 1), (29, .iconst (-1), 1), (30, .putfield 78, 3), (33, .aload_n 0, 1), (34, .getfield 13, 3), (37, .invokevirtual 90, 3), (40, .aload_n 0, 1), (41, .getfield 17, 3), (44, .invokevirtual 93, 3), (47, .aload_n 0, 1), (48, .getfield 21, 3), (51, .invokevirtual 94, 3), (54, .return_, 1)]
theorem dX7_begin : dChk (pCd 3232) eX7_begin = true := by decide +kernel
def fX7_begin (N : Nat) (v0 : Nat) (h : pH) : Option (pH) := if isO h v0 7 = true then (
  (putI h v0 7 8 (0 : Int32)).bind fun h1 =>
  (getR h1 v0 7 0).bind fun t2 =>
  (getR h1 t2 10 0).bind fun t3 =>
  (ldI h1 t3 (0 : Int32)).bind fun t4 =>
  (putI h1 v0 7 9 t4).bind fun h5 =>
  (putI h5 v0 7 10 (0 : Int32)).bind fun h6 =>
  (putI h6 v0 7 7 (0 : Int32)).bind fun h7 =>
  (putI h7 v0 7 11 (-1 : Int32)).bind fun h8 =>
  (getR h8 v0 7 1).bind fun t9 =>
  (fX1_clear N t9 h8).bind fun h10 =>
  (getR h10 v0 7 2).bind fun t11 =>
  (fX6_clear N t11 h10).bind fun h12 =>
  (getR h12 v0 7 3).bind fun t13 =>
  (fX2_clear N t13 h12).bind fun h14 =>
  some h14) else none
theorem oX7_begin {N : Nat} {v0 : Nat} {h : pH} {q : pH} (hf : fX7_begin N v0 h = some q) : isO h v0 7 = true := by
  unfold fX7_begin at hf
  by_cases hc : isO h v0 7 = true
  · exact hc
  · rw [if_neg hc] at hf; cases hf
theorem cX7_begin (X : pX) (N d : Nat) (v0 : Nat) (h : pH) (q : pH) (hf : fX7_begin N v0 h = some q) : Calls X (d + 2) 54 [.ref v0] h (none, q, 0, 0) := by
  refine Calls.of M54 (Nat.le_of_ble_eq_true rfl) ?_
  show Run X (d + 2) 7 false (pCd 3232) 1 none 0 [(0, .ref v0)] [] h 0 0 (none, q, 0, 0)
  unfold fX7_begin at hf
  by_cases hc : isO h v0 7 = true
  · rw [if_pos hc] at hf
    have nv0 : ¬ v0 = 4 := isO_ne hc
    refine r_aload_n (dGet dX7_begin (j := 0) rfl) nv0 rfl ?_
    refine r_iconst (dGet dX7_begin (j := 1) rfl) kI_0 ?_
    obtain ⟨h1, eh1, hf⟩ := Option.bind_eq_some_iff.mp hf
    refine r_putI (dGet dX7_begin (j := 2) rfl) F7_47 rfl rfl eh1 ?_
    refine r_aload_n (dGet dX7_begin (j := 3) rfl) nv0 rfl ?_
    refine r_aload_n (dGet dX7_begin (j := 4) rfl) nv0 rfl ?_
    obtain ⟨t2, et2, hf⟩ := Option.bind_eq_some_iff.mp hf
    refine r_getR (dGet dX7_begin (j := 5) rfl) F7_7 et2 ?_
    obtain ⟨t3, et3, hf⟩ := Option.bind_eq_some_iff.mp hf
    refine r_getR (dGet dX7_begin (j := 6) rfl) F7_81 et3 ?_
    refine r_iconst (dGet dX7_begin (j := 7) rfl) kI_0 ?_
    obtain ⟨t4, et4, hf⟩ := Option.bind_eq_some_iff.mp hf
    refine r_iald (dGet dX7_begin (j := 8) rfl) et4 ?_
    obtain ⟨h5, eh5, hf⟩ := Option.bind_eq_some_iff.mp hf
    refine r_putI (dGet dX7_begin (j := 9) rfl) F7_57 rfl rfl eh5 ?_
    refine r_aload_n (dGet dX7_begin (j := 10) rfl) nv0 rfl ?_
    refine r_iconst (dGet dX7_begin (j := 11) rfl) kI_0 ?_
    obtain ⟨h6, eh6, hf⟩ := Option.bind_eq_some_iff.mp hf
    refine r_putI (dGet dX7_begin (j := 12) rfl) F7_84 rfl rfl eh6 ?_
    refine r_aload_n (dGet dX7_begin (j := 13) rfl) nv0 rfl ?_
    refine r_iconst (dGet dX7_begin (j := 14) rfl) kI_0 ?_
    obtain ⟨h7, eh7, hf⟩ := Option.bind_eq_some_iff.mp hf
    refine r_putI (dGet dX7_begin (j := 15) rfl) F7_87 rfl rfl eh7 ?_
    refine r_aload_n (dGet dX7_begin (j := 16) rfl) nv0 rfl ?_
    refine r_iconst (dGet dX7_begin (j := 17) rfl) kI_m1 ?_
    obtain ⟨h8, eh8, hf⟩ := Option.bind_eq_some_iff.mp hf
    refine r_putI (dGet dX7_begin (j := 18) rfl) F7_78 rfl rfl eh8 ?_
    refine r_aload_n (dGet dX7_begin (j := 19) rfl) nv0 rfl ?_
    obtain ⟨t9, et9, hf⟩ := Option.bind_eq_some_iff.mp hf
    refine r_getR (dGet dX7_begin (j := 20) rfl) F7_13 et9 ?_
    obtain ⟨h10, eh10, hf⟩ := Option.bind_eq_some_iff.mp hf
    refine r_virtual (dGet dX7_begin (j := 21) rfl) L7_90 M55 rfl rfl (Nat.le_of_ble_eq_true rfl) (oX1_clear eh10) (cX1_clear X N (d + 0) t9 h8 h10 eh10) ?_
    refine r_aload_n (dGet dX7_begin (j := 22) rfl) nv0 rfl ?_
    obtain ⟨t11, et11, hf⟩ := Option.bind_eq_some_iff.mp hf
    refine r_getR (dGet dX7_begin (j := 23) rfl) F7_17 et11 ?_
    obtain ⟨h12, eh12, hf⟩ := Option.bind_eq_some_iff.mp hf
    refine r_virtual (dGet dX7_begin (j := 24) rfl) L7_93 M57 rfl rfl (Nat.le_of_ble_eq_true rfl) (oX6_clear eh12) (cX6_clear X N (d + 1) t11 h10 h12 eh12) ?_
    refine r_aload_n (dGet dX7_begin (j := 25) rfl) nv0 rfl ?_
    obtain ⟨t13, et13, hf⟩ := Option.bind_eq_some_iff.mp hf
    refine r_getR (dGet dX7_begin (j := 26) rfl) F7_21 et13 ?_
    obtain ⟨h14, eh14, hf⟩ := Option.bind_eq_some_iff.mp hf
    refine r_virtual (dGet dX7_begin (j := 27) rfl) L7_94 M58 rfl rfl (Nat.le_of_ble_eq_true rfl) (oX2_clear eh14) (cX2_clear X N (d + 1) t13 h12 h14 eh14) ?_
    cases hf
    exact r_vret (dGet dX7_begin (j := 28) rfl) rfl
  · rw [if_neg hc] at hf; cases hf
def eX7_fail : List (Nat × Instr × Nat) := [(0, .aload_n 0, 1), (1, .getfield 78, 3), (4, .iconst (-1), 1), (5, .if_icmp .ne 25, 3), (8, .aload_n 0, 1), (9, .aload_n 0, 1), (10, .getfield 7, 3), (13, .getfield 44, 3), (16, .aload_n 0, 1), (17, .getfield 47, 3), (20, .iaload, 1), (21, .putfield 78, 3), (24, .aload_n 0, 1), (25, .bipush 24, 2), (27, .putfield 57, 3), (30, .return_, 1)]
theorem dX7_fail : dChk (pCd 4020) eX7_fail = true := by decide +kernel
def fX7_fail (N : Nat) (v0 : Nat) (h : pH) : Option (pH) := if isO h v0 7 = true then (
  (getI h v0 7 11).bind fun t1 =>
  if t1 = (-1 : Int32) then (
  (getR h v0 7 0).bind fun t3 =>
  (getR h t3 10 2).bind fun t4 =>
  (getI h v0 7 8).bind fun t5 =>
  (ldI h t4 t5).bind fun t6 =>
  (putI h v0 7 11 t6).bind fun h7 =>
  (putI h7 v0 7 9 (24 : Int32)).bind fun h8 =>
  some h8) else (
  some h)) else none
theorem oX7_fail {N : Nat} {v0 : Nat} {h : pH} {q : pH} (hf : fX7_fail N v0 h = some q) : isO h v0 7 = true := by
  unfold fX7_fail at hf
  by_cases hc : isO h v0 7 = true
  · exact hc
  · rw [if_neg hc] at hf; cases hf
theorem cX7_fail (X : pX) (N d : Nat) (v0 : Nat) (h : pH) (q : pH) (hf : fX7_fail N v0 h = some q) : Calls X (d + 0) 61 [.ref v0] h (none, q, 0, 0) := by
  refine Calls.of M61 (Nat.le_of_ble_eq_true rfl) ?_
  show Run X (d + 0) 7 false (pCd 4020) 1 none 0 [(0, .ref v0)] [] h 0 0 (none, q, 0, 0)
  unfold fX7_fail at hf
  by_cases hc : isO h v0 7 = true
  · rw [if_pos hc] at hf
    have nv0 : ¬ v0 = 4 := isO_ne hc
    refine r_aload_n (dGet dX7_fail (j := 0) rfl) nv0 rfl ?_
    obtain ⟨t1, et1, hf⟩ := Option.bind_eq_some_iff.mp hf
    refine r_getI (dGet dX7_fail (j := 1) rfl) F7_78 et1 ?_
    refine r_iconst (dGet dX7_fail (j := 2) rfl) kI_m1 ?_
    by_cases c2 : t1 = (-1 : Int32)
    · rw [if_pos c2] at hf
      refine r_icmp_ne_f (dGet dX7_fail (j := 3) rfl) rfl c2 ?_
      refine r_aload_n (dGet dX7_fail (j := 4) rfl) nv0 rfl ?_
      refine r_aload_n (dGet dX7_fail (j := 5) rfl) nv0 rfl ?_
      obtain ⟨t3, et3, hf⟩ := Option.bind_eq_some_iff.mp hf
      refine r_getR (dGet dX7_fail (j := 6) rfl) F7_7 et3 ?_
      obtain ⟨t4, et4, hf⟩ := Option.bind_eq_some_iff.mp hf
      refine r_getR (dGet dX7_fail (j := 7) rfl) F7_44 et4 ?_
      refine r_aload_n (dGet dX7_fail (j := 8) rfl) nv0 rfl ?_
      obtain ⟨t5, et5, hf⟩ := Option.bind_eq_some_iff.mp hf
      refine r_getI (dGet dX7_fail (j := 9) rfl) F7_47 et5 ?_
      obtain ⟨t6, et6, hf⟩ := Option.bind_eq_some_iff.mp hf
      refine r_iald (dGet dX7_fail (j := 10) rfl) et6 ?_
      obtain ⟨h7, eh7, hf⟩ := Option.bind_eq_some_iff.mp hf
      refine r_putI (dGet dX7_fail (j := 11) rfl) F7_78 rfl rfl eh7 ?_
      refine r_aload_n (dGet dX7_fail (j := 12) rfl) nv0 rfl ?_
      refine r_bipush (dGet dX7_fail (j := 13) rfl) kB_24 ?_
      obtain ⟨h8, eh8, hf⟩ := Option.bind_eq_some_iff.mp hf
      refine r_putI (dGet dX7_fail (j := 14) rfl) F7_57 rfl rfl eh8 ?_
      cases hf
      exact r_vret (dGet dX7_fail (j := 15) rfl) rfl
    · rw [if_neg c2] at hf
      refine r_icmp_ne_t (dGet dX7_fail (j := 3) rfl) rfl c2 ?_
      cases hf
      exact r_vret (dGet dX7_fail (j := 15) rfl) rfl
  · rw [if_neg hc] at hf; cases hf
def eX7_close : List (Nat × Instr × Nat) := [(0, .aload_n 0, 1), (1, .getfield 57, 3), (4, .iload_n 1, 1), (5, .if_icmp .ne 10, 3), (8, .aload_n 0, 1), (9, .invokevirtual 60, 3), (12, .goto 7, 3), (15, .aload_n 0, 1), (16, .invokevirtual 98, 3), (19, .aload_n 0, 1), (20, .dup, 1), (21, .getfield 84, 3), (24, .iconst 1, 1), (25, .isub, 1), (26, .putfield 84, 3), (29, .return_, 1)]
theorem dX7_close : dChk (pCd 4057) eX7_close = true := by decide +kernel
def fX7_close_19 (N : Nat) (v0 : Nat) (h : pH) : Option (pH) :=
  (getI h v0 7 10).bind fun t1 =>
  (putI h v0 7 10 (t1 - (1 : Int32))).bind fun h2 =>
  some h2
theorem lX7_close_19 (X : pX) (N d : Nat)  (v0 : Nat) (h : pH) (q : pH) (hf : fX7_close_19 N v0 h = some q) (nv0 : ¬ v0 = 4) : Run X (d + 1) 7 false (pCd 4057) 2 none 19 [(0, .ref v0)] [] h 0 0 (none, q, 0, 0) := by
  unfold fX7_close_19 at hf
  refine r_aload_n (dGet dX7_close (j := 9) rfl) nv0 rfl ?_
  refine r_dup (dGet dX7_close (j := 10) rfl) rfl ?_
  obtain ⟨t1, et1, hf⟩ := Option.bind_eq_some_iff.mp hf
  refine r_getI (dGet dX7_close (j := 11) rfl) F7_84 et1 ?_
  refine r_iconst (dGet dX7_close (j := 12) rfl) kI_1 ?_
  refine r_isub (dGet dX7_close (j := 13) rfl) ?_
  obtain ⟨h2, eh2, hf⟩ := Option.bind_eq_some_iff.mp hf
  refine r_putI (dGet dX7_close (j := 14) rfl) F7_84 rfl rfl eh2 ?_
  cases hf
  exact r_vret (dGet dX7_close (j := 15) rfl) rfl
def fX7_close (N : Nat) (v0 : Nat) (v1 : Int32) (h : pH) : Option (pH) := if isO h v0 7 = true then (
  (getI h v0 7 9).bind fun t3 =>
  if t3 = v1 then (
  (fX7_advance N v0 h).bind fun h6 =>
  fX7_close_19 N v0 h6) else (
  (fX7_fail N v0 h).bind fun h5 =>
  fX7_close_19 N v0 h5)) else none
theorem oX7_close {N : Nat} {v0 : Nat} {v1 : Int32} {h : pH} {q : pH} (hf : fX7_close N v0 v1 h = some q) : isO h v0 7 = true := by
  unfold fX7_close at hf
  by_cases hc : isO h v0 7 = true
  · exact hc
  · rw [if_neg hc] at hf; cases hf
theorem cX7_close (X : pX) (N d : Nat) (v0 : Nat) (v1 : Int32) (h : pH) (q : pH) (hf : fX7_close N v0 v1 h = some q) : Calls X (d + 1) 70 [.ref v0, .int v1] h (none, q, 0, 0) := by
  refine Calls.of M70 (Nat.le_of_ble_eq_true rfl) ?_
  show Run X (d + 1) 7 false (pCd 4057) 2 none 0 [(0, .ref v0), (1, .int v1)] [] h 0 0 (none, q, 0, 0)
  unfold fX7_close at hf
  by_cases hc : isO h v0 7 = true
  · rw [if_pos hc] at hf
    have nv0 : ¬ v0 = 4 := isO_ne hc
    refine r_aload_n (dGet dX7_close (j := 0) rfl) nv0 rfl ?_
    obtain ⟨t3, et3, hf⟩ := Option.bind_eq_some_iff.mp hf
    refine r_getI (dGet dX7_close (j := 1) rfl) F7_57 et3 ?_
    refine r_iload_n (dGet dX7_close (j := 2) rfl) rfl ?_
    by_cases c4 : t3 = v1
    · rw [if_pos c4] at hf
      refine r_icmp_ne_f (dGet dX7_close (j := 3) rfl) rfl c4 ?_
      refine r_aload_n (dGet dX7_close (j := 4) rfl) nv0 rfl ?_
      obtain ⟨h6, eh6, hf⟩ := Option.bind_eq_some_iff.mp hf
      refine r_virtual (dGet dX7_close (j := 5) rfl) L7_60 M60 rfl rfl (Nat.le_of_ble_eq_true rfl) (oX7_advance eh6) (cX7_advance X N (d + 0) v0 h h6 eh6) ?_
      refine r_goto (dGet dX7_close (j := 6) rfl) rfl ?_
      refine Run.weak [(0, .ref v0)] (by simp) (by simp [pNd]) ?_
      exact lX7_close_19 X N d v0 h6 q hf nv0
    · rw [if_neg c4] at hf
      refine r_icmp_ne_t (dGet dX7_close (j := 3) rfl) rfl c4 ?_
      refine r_aload_n (dGet dX7_close (j := 7) rfl) nv0 rfl ?_
      obtain ⟨h5, eh5, hf⟩ := Option.bind_eq_some_iff.mp hf
      refine r_virtual (dGet dX7_close (j := 8) rfl) L7_98 M61 rfl rfl (Nat.le_of_ble_eq_true rfl) (oX7_fail eh5) (cX7_fail X N (d + 0) v0 h h5 eh5) ?_
      refine Run.weak [(0, .ref v0)] (by simp) (by simp [pNd]) ?_
      exact lX7_close_19 X N d v0 h5 q hf nv0
  · rw [if_neg hc] at hf; cases hf
def eX7_open : List (Nat × Instr × Nat) := [(0, .aload_n 0, 1), (1, .getfield 57, 3), (4, .iload_n 1, 1), (5, .if_icmp .ne 19, 3), (8, .aload_n 0, 1), (9, .getfield 84, 3), (12, .bipush 30, 2), (14, .if_icmp .ge 10, 3), (17, .aload_n 0, 1), (18, .invokevirtual 60, 3), (21, .goto 7, 3), (24, .aload_n 0, 1), (25, .invokevirtual 98, 3), (28, .aload_n 0, 1), (29, .dup, 1), (30, .getfield 84, 3), (33, .iconst 1, 1), (34, .iadd, 1), (35, .putfield 84, 3), (38, .return_, 1)]
theorem dX7_open : dChk (pCd 4033) eX7_open = true := by decide +kernel
def fX7_open_28 (N : Nat) (v0 : Nat) (h : pH) : Option (pH) :=
  (getI h v0 7 10).bind fun t1 =>
  (putI h v0 7 10 (t1 + (1 : Int32))).bind fun h2 =>
  some h2
theorem lX7_open_28 (X : pX) (N d : Nat)  (v0 : Nat) (h : pH) (q : pH) (hf : fX7_open_28 N v0 h = some q) (nv0 : ¬ v0 = 4) : Run X (d + 1) 7 false (pCd 4033) 2 none 28 [(0, .ref v0)] [] h 0 0 (none, q, 0, 0) := by
  unfold fX7_open_28 at hf
  refine r_aload_n (dGet dX7_open (j := 13) rfl) nv0 rfl ?_
  refine r_dup (dGet dX7_open (j := 14) rfl) rfl ?_
  obtain ⟨t1, et1, hf⟩ := Option.bind_eq_some_iff.mp hf
  refine r_getI (dGet dX7_open (j := 15) rfl) F7_84 et1 ?_
  refine r_iconst (dGet dX7_open (j := 16) rfl) kI_1 ?_
  refine r_iadd (dGet dX7_open (j := 17) rfl) ?_
  obtain ⟨h2, eh2, hf⟩ := Option.bind_eq_some_iff.mp hf
  refine r_putI (dGet dX7_open (j := 18) rfl) F7_84 rfl rfl eh2 ?_
  cases hf
  exact r_vret (dGet dX7_open (j := 19) rfl) rfl
def fX7_open_24 (N : Nat) (v0 : Nat) (h : pH) : Option (pH) :=
  (fX7_fail N v0 h).bind fun h3 =>
  fX7_open_28 N v0 h3
theorem lX7_open_24 (X : pX) (N d : Nat)  (v0 : Nat) (h : pH) (q : pH) (hf : fX7_open_24 N v0 h = some q) (nv0 : ¬ v0 = 4) : Run X (d + 1) 7 false (pCd 4033) 2 none 24 [(0, .ref v0)] [] h 0 0 (none, q, 0, 0) := by
  unfold fX7_open_24 at hf
  refine r_aload_n (dGet dX7_open (j := 11) rfl) nv0 rfl ?_
  obtain ⟨h3, eh3, hf⟩ := Option.bind_eq_some_iff.mp hf
  refine r_virtual (dGet dX7_open (j := 12) rfl) L7_98 M61 rfl rfl (Nat.le_of_ble_eq_true rfl) (oX7_fail eh3) (cX7_fail X N (d + 0) v0 h h3 eh3) ?_
  exact lX7_open_28 X N d v0 h3 q hf nv0
def fX7_open (N : Nat) (v0 : Nat) (v1 : Int32) (h : pH) : Option (pH) := if isO h v0 7 = true then (
  (getI h v0 7 9).bind fun t4 =>
  if t4 = v1 then (
  (getI h v0 7 10).bind fun t6 =>
  if (30 : Int32) ≤ t6 then (
  fX7_open_24 N v0 h) else (
  (fX7_advance N v0 h).bind fun h8 =>
  fX7_open_28 N v0 h8)) else (
  fX7_open_24 N v0 h)) else none
theorem oX7_open {N : Nat} {v0 : Nat} {v1 : Int32} {h : pH} {q : pH} (hf : fX7_open N v0 v1 h = some q) : isO h v0 7 = true := by
  unfold fX7_open at hf
  by_cases hc : isO h v0 7 = true
  · exact hc
  · rw [if_neg hc] at hf; cases hf
theorem cX7_open (X : pX) (N d : Nat) (v0 : Nat) (v1 : Int32) (h : pH) (q : pH) (hf : fX7_open N v0 v1 h = some q) : Calls X (d + 1) 64 [.ref v0, .int v1] h (none, q, 0, 0) := by
  refine Calls.of M64 (Nat.le_of_ble_eq_true rfl) ?_
  show Run X (d + 1) 7 false (pCd 4033) 2 none 0 [(0, .ref v0), (1, .int v1)] [] h 0 0 (none, q, 0, 0)
  unfold fX7_open at hf
  by_cases hc : isO h v0 7 = true
  · rw [if_pos hc] at hf
    have nv0 : ¬ v0 = 4 := isO_ne hc
    refine r_aload_n (dGet dX7_open (j := 0) rfl) nv0 rfl ?_
    obtain ⟨t4, et4, hf⟩ := Option.bind_eq_some_iff.mp hf
    refine r_getI (dGet dX7_open (j := 1) rfl) F7_57 et4 ?_
    refine r_iload_n (dGet dX7_open (j := 2) rfl) rfl ?_
    by_cases c5 : t4 = v1
    · rw [if_pos c5] at hf
      refine r_icmp_ne_f (dGet dX7_open (j := 3) rfl) rfl c5 ?_
      refine r_aload_n (dGet dX7_open (j := 4) rfl) nv0 rfl ?_
      obtain ⟨t6, et6, hf⟩ := Option.bind_eq_some_iff.mp hf
      refine r_getI (dGet dX7_open (j := 5) rfl) F7_84 et6 ?_
      refine r_bipush (dGet dX7_open (j := 6) rfl) kB_30 ?_
      by_cases c7 : (30 : Int32) ≤ t6
      · rw [if_pos c7] at hf
        refine r_icmp_ge_t (dGet dX7_open (j := 7) rfl) rfl c7 ?_
        refine Run.weak [(0, .ref v0)] (by simp) (by simp [pNd]) ?_
        exact lX7_open_24 X N d v0 h q hf nv0
      · rw [if_neg c7] at hf
        refine r_icmp_ge_f (dGet dX7_open (j := 7) rfl) rfl c7 ?_
        refine r_aload_n (dGet dX7_open (j := 8) rfl) nv0 rfl ?_
        obtain ⟨h8, eh8, hf⟩ := Option.bind_eq_some_iff.mp hf
        refine r_virtual (dGet dX7_open (j := 9) rfl) L7_60 M60 rfl rfl (Nat.le_of_ble_eq_true rfl) (oX7_advance eh8) (cX7_advance X N (d + 0) v0 h h8 eh8) ?_
        refine r_goto (dGet dX7_open (j := 10) rfl) rfl ?_
        refine Run.weak [(0, .ref v0)] (by simp) (by simp [pNd]) ?_
        exact lX7_open_28 X N d v0 h8 q hf nv0
    · rw [if_neg c5] at hf
      refine r_icmp_ne_t (dGet dX7_open (j := 3) rfl) rfl c5 ?_
      refine Run.weak [(0, .ref v0)] (by simp) (by simp [pNd]) ?_
      exact lX7_open_24 X N d v0 h q hf nv0
  · rw [if_neg hc] at hf; cases hf
def eX7_giftOf : List (Nat × Instr × Nat) := [(0, .iload_n 0, 1), (1, .lookupswitch 44 #[(6, 35), (9, 38), (12, 41)], 35), (36, .bipush 31, 2), (38, .ireturn, 1), (39, .bipush 34, 2), (41, .ireturn, 1), (42, .bipush 36, 2), (44, .ireturn, 1), (45, .iconst (-1), 1), (46, .ireturn, 1)]
theorem dX7_giftOf : dChk (pCd 4180) eX7_giftOf = true := by decide +kernel
def fX7_giftOf (N : Nat) (v0 : Int32) (h : pH) : Option (Int32 × pH) :=
  if v0 = 6 then (
  some ((31 : Int32), h)) else
  if v0 = 9 then (
  some ((34 : Int32), h)) else
  if v0 = 12 then (
  some ((36 : Int32), h)) else
  some ((-1 : Int32), h)
theorem cX7_giftOf (X : pX) (N d : Nat) (v0 : Int32) (h : pH) (q : Int32 × pH) (hf : fX7_giftOf N v0 h = some q) : Calls X (d + 0) 102 [.int v0] h (some (.int q.1), q.2, 0, 0) := by
  refine Calls.of M102 (Nat.le_of_ble_eq_true rfl) ?_
  show Run X (d + 0) 7 false (pCd 4180) 1 (some .int) 0 [(0, .int v0)] [] h 0 0 (some (.int q.1), q.2, 0, 0)
  unfold fX7_giftOf at hf
  refine r_iload_n (dGet dX7_giftOf (j := 0) rfl) rfl ?_
  by_cases c1 : v0 = 6
  · rw [if_pos c1] at hf
    refine r_lookup (off := 35) (dGet dX7_giftOf (j := 1) rfl) (by rw [c1]; decide) rfl ?_
    refine r_bipush (dGet dX7_giftOf (j := 2) rfl) kB_31 ?_
    cases hf
    exact r_iret (dGet dX7_giftOf (j := 3) rfl) rfl rfl
  rw [if_neg c1] at hf
  by_cases c2 : v0 = 9
  · rw [if_pos c2] at hf
    refine r_lookup (off := 38) (dGet dX7_giftOf (j := 1) rfl) (by rw [c2]; decide) rfl ?_
    refine r_bipush (dGet dX7_giftOf (j := 4) rfl) kB_34 ?_
    cases hf
    exact r_iret (dGet dX7_giftOf (j := 5) rfl) rfl rfl
  rw [if_neg c2] at hf
  by_cases c3 : v0 = 12
  · rw [if_pos c3] at hf
    refine r_lookup (off := 41) (dGet dX7_giftOf (j := 1) rfl) (by rw [c3]; decide) rfl ?_
    refine r_bipush (dGet dX7_giftOf (j := 6) rfl) kB_36 ?_
    cases hf
    exact r_iret (dGet dX7_giftOf (j := 7) rfl) rfl rfl
  rw [if_neg c3] at hf
  refine r_lookup (dGet dX7_giftOf (j := 1) rfl) (pLookup_out (cs := [6, 9, 12]) (by decide) (by decide) (List.forall_mem_cons.mpr ⟨c1, List.forall_mem_cons.mpr ⟨c2, List.forall_mem_cons.mpr ⟨c3, fun _ h => absurd h List.not_mem_nil⟩⟩⟩)) rfl ?_
  refine r_iconst (dGet dX7_giftOf (j := 8) rfl) kI_m1 ?_
  cases hf
  exact r_iret (dGet dX7_giftOf (j := 9) rfl) rfl rfl
def eX7_fits : List (Nat × Instr × Nat) := [(0, .iload_n 2, 1), (1, .ifCond .eq 11, 3), (4, .aload_n 0, 1), (5, .getfield 87, 3), (8, .iload_n 1, 1), (9, .if_icmp .gt 13, 3), (12, .iload_n 2, 1), (13, .ifCond .le 7, 3), (16, .iconst 1, 1), (17, .goto 4, 3), (20, .iconst 0, 1), (21, .ireturn, 1), (22, .aload_n 0, 1), (23, .getfield 29, 3), (26, .aload_n 0, 1), (27, .getfield 87, 3), (30, .iconst 1, 1), (31, .isub, 1), (32, .iaload, 1), (33, .iload_n 2, 1), (34, .if_icmp .ge 23, 3), (37, .aload_n 0, 1), (38, .getfield 25, 3), (41, .aload_n 0, 1), (42, .getfield 87, 3), (45, .iconst 1, 1), (46, .isub, 1), (47, .iaload, 1), (48, .bipush 16, 2), (50, .if_icmp .eq 7, 3), (53, .iconst 1, 1), (54, .goto 4, 3), (57, .iconst 0, 1), (58, .ireturn, 1)]
theorem dX7_fits : dChk (pCd 4138) eX7_fits = true := by decide +kernel
def fX7_fits_12 (N : Nat) (v2 : Int32) (h : pH) : Option (Int32 × pH) :=
  if v2 ≤ 0 then (
  some ((0 : Int32), h)) else (
  some ((1 : Int32), h))
theorem lX7_fits_12 (X : pX) (N d : Nat)  (v2 : Int32) (h : pH) (q : Int32 × pH) (hf : fX7_fits_12 N v2 h = some q) : Run X (d + 0) 7 false (pCd 4138) 3 (some .boolean) 12 [(2, .int v2)] [] h 0 0 (some (.int q.1), q.2, 0, 0) := by
  unfold fX7_fits_12 at hf
  refine r_iload_n (dGet dX7_fits (j := 6) rfl) rfl ?_
  by_cases c1 : v2 ≤ 0
  · rw [if_pos c1] at hf
    refine r_if_le_t (dGet dX7_fits (j := 7) rfl) rfl c1 ?_
    refine r_iconst (dGet dX7_fits (j := 10) rfl) kI_0 ?_
    cases hf
    exact r_iret (dGet dX7_fits (j := 11) rfl) rfl (by decide)
  · rw [if_neg c1] at hf
    refine r_if_le_f (dGet dX7_fits (j := 7) rfl) rfl c1 ?_
    refine r_iconst (dGet dX7_fits (j := 8) rfl) kI_1 ?_
    refine r_goto (dGet dX7_fits (j := 9) rfl) rfl ?_
    cases hf
    exact r_iret (dGet dX7_fits (j := 11) rfl) rfl (by decide)
def fX7_fits (N : Nat) (v0 : Nat) (v1 : Int32) (v2 : Int32) (h : pH) : Option (Int32 × pH) := if isO h v0 7 = true then (
  if v2 = 0 then (
  fX7_fits_12 N v2 h) else (
  (getI h v0 7 7).bind fun t3 =>
  if v1 < t3 then (
  (getR h v0 7 5).bind fun t5 =>
  (getI h v0 7 7).bind fun t6 =>
  (ldI h t5 (t6 - (1 : Int32))).bind fun t7 =>
  if v2 ≤ t7 then (
  some ((0 : Int32), h)) else (
  (getR h v0 7 4).bind fun t9 =>
  (getI h v0 7 7).bind fun t10 =>
  (ldI h t9 (t10 - (1 : Int32))).bind fun t11 =>
  if t11 = (16 : Int32) then (
  some ((0 : Int32), h)) else (
  some ((1 : Int32), h)))) else (
  fX7_fits_12 N v2 h))) else none
theorem oX7_fits {N : Nat} {v0 : Nat} {v1 : Int32} {v2 : Int32} {h : pH} {q : Int32 × pH} (hf : fX7_fits N v0 v1 v2 h = some q) : isO h v0 7 = true := by
  unfold fX7_fits at hf
  by_cases hc : isO h v0 7 = true
  · exact hc
  · rw [if_neg hc] at hf; cases hf
theorem cX7_fits (X : pX) (N d : Nat) (v0 : Nat) (v1 : Int32) (v2 : Int32) (h : pH) (q : Int32 × pH) (hf : fX7_fits N v0 v1 v2 h = some q) : Calls X (d + 0) 91 [.ref v0, .int v1, .int v2] h (some (.int q.1), q.2, 0, 0) := by
  refine Calls.of M91 (Nat.le_of_ble_eq_true rfl) ?_
  show Run X (d + 0) 7 false (pCd 4138) 3 (some .boolean) 0 [(0, .ref v0), (1, .int v1), (2, .int v2)] [] h 0 0 (some (.int q.1), q.2, 0, 0)
  unfold fX7_fits at hf
  by_cases hc : isO h v0 7 = true
  · rw [if_pos hc] at hf
    have nv0 : ¬ v0 = 4 := isO_ne hc
    refine r_iload_n (dGet dX7_fits (j := 0) rfl) rfl ?_
    by_cases c2 : v2 = 0
    · rw [if_pos c2] at hf
      refine r_if_eq_t (dGet dX7_fits (j := 1) rfl) rfl c2 ?_
      refine Run.weak [(2, .int v2)] (by simp) (by simp [pNd]) ?_
      exact lX7_fits_12 X N d v2 h q hf 
    · rw [if_neg c2] at hf
      refine r_if_eq_f (dGet dX7_fits (j := 1) rfl) rfl c2 ?_
      refine r_aload_n (dGet dX7_fits (j := 2) rfl) nv0 rfl ?_
      obtain ⟨t3, et3, hf⟩ := Option.bind_eq_some_iff.mp hf
      refine r_getI (dGet dX7_fits (j := 3) rfl) F7_87 et3 ?_
      refine r_iload_n (dGet dX7_fits (j := 4) rfl) rfl ?_
      by_cases c4 : v1 < t3
      · rw [if_pos c4] at hf
        refine r_icmp_gt_t (dGet dX7_fits (j := 5) rfl) rfl c4 ?_
        refine r_aload_n (dGet dX7_fits (j := 12) rfl) nv0 rfl ?_
        obtain ⟨t5, et5, hf⟩ := Option.bind_eq_some_iff.mp hf
        refine r_getR (dGet dX7_fits (j := 13) rfl) F7_29 et5 ?_
        refine r_aload_n (dGet dX7_fits (j := 14) rfl) nv0 rfl ?_
        obtain ⟨t6, et6, hf⟩ := Option.bind_eq_some_iff.mp hf
        refine r_getI (dGet dX7_fits (j := 15) rfl) F7_87 et6 ?_
        refine r_iconst (dGet dX7_fits (j := 16) rfl) kI_1 ?_
        refine r_isub (dGet dX7_fits (j := 17) rfl) ?_
        obtain ⟨t7, et7, hf⟩ := Option.bind_eq_some_iff.mp hf
        refine r_iald (dGet dX7_fits (j := 18) rfl) et7 ?_
        refine r_iload_n (dGet dX7_fits (j := 19) rfl) rfl ?_
        by_cases c8 : v2 ≤ t7
        · rw [if_pos c8] at hf
          refine r_icmp_ge_t (dGet dX7_fits (j := 20) rfl) rfl c8 ?_
          refine r_iconst (dGet dX7_fits (j := 32) rfl) kI_0 ?_
          cases hf
          exact r_iret (dGet dX7_fits (j := 33) rfl) rfl (by decide)
        · rw [if_neg c8] at hf
          refine r_icmp_ge_f (dGet dX7_fits (j := 20) rfl) rfl c8 ?_
          refine r_aload_n (dGet dX7_fits (j := 21) rfl) nv0 rfl ?_
          obtain ⟨t9, et9, hf⟩ := Option.bind_eq_some_iff.mp hf
          refine r_getR (dGet dX7_fits (j := 22) rfl) F7_25 et9 ?_
          refine r_aload_n (dGet dX7_fits (j := 23) rfl) nv0 rfl ?_
          obtain ⟨t10, et10, hf⟩ := Option.bind_eq_some_iff.mp hf
          refine r_getI (dGet dX7_fits (j := 24) rfl) F7_87 et10 ?_
          refine r_iconst (dGet dX7_fits (j := 25) rfl) kI_1 ?_
          refine r_isub (dGet dX7_fits (j := 26) rfl) ?_
          obtain ⟨t11, et11, hf⟩ := Option.bind_eq_some_iff.mp hf
          refine r_iald (dGet dX7_fits (j := 27) rfl) et11 ?_
          refine r_bipush (dGet dX7_fits (j := 28) rfl) kB_16 ?_
          by_cases c12 : t11 = (16 : Int32)
          · rw [if_pos c12] at hf
            refine r_icmp_eq_t (dGet dX7_fits (j := 29) rfl) rfl c12 ?_
            refine r_iconst (dGet dX7_fits (j := 32) rfl) kI_0 ?_
            cases hf
            exact r_iret (dGet dX7_fits (j := 33) rfl) rfl (by decide)
          · rw [if_neg c12] at hf
            refine r_icmp_eq_f (dGet dX7_fits (j := 29) rfl) rfl c12 ?_
            refine r_iconst (dGet dX7_fits (j := 30) rfl) kI_1 ?_
            refine r_goto (dGet dX7_fits (j := 31) rfl) rfl ?_
            cases hf
            exact r_iret (dGet dX7_fits (j := 33) rfl) rfl (by decide)
      · rw [if_neg c4] at hf
        refine r_icmp_gt_f (dGet dX7_fits (j := 5) rfl) rfl c4 ?_
        refine Run.weak [(2, .int v2)] (by simp) (by simp [pNd]) ?_
        exact lX7_fits_12 X N d v2 h q hf 
  · rw [if_neg hc] at hf; cases hf
def eX7_leastReleased : List (Nat × Instr × Nat) := [(0, .iload_n 0, 1), (1, .iconst 3, 1), (2, .if_icmp .eq 8, 3), (5, .iload_n 0, 1), (6, .iconst 4, 1), (7, .if_icmp .ne 9, 3), (10, .iload_n 0, 1), (11, .iconst 1, 1), (12, .iadd, 1), (13, .goto 4, 3), (16, .iload_n 0, 1), (17, .ireturn, 1)]
theorem dX7_leastReleased : dChk (pCd 4134) eX7_leastReleased = true := by decide +kernel
def fX7_leastReleased (N : Nat) (v0 : Int32) (h : pH) : Option (Int32 × pH) :=
  if v0 = (3 : Int32) then (
  some ((v0 + (1 : Int32)), h)) else (
  if v0 = (4 : Int32) then (
  some ((v0 + (1 : Int32)), h)) else (
  some (v0, h)))
theorem cX7_leastReleased (X : pX) (N d : Nat) (v0 : Int32) (h : pH) (q : Int32 × pH) (hf : fX7_leastReleased N v0 h = some q) : Calls X (d + 0) 90 [.int v0] h (some (.int q.1), q.2, 0, 0) := by
  refine Calls.of M90 (Nat.le_of_ble_eq_true rfl) ?_
  show Run X (d + 0) 7 false (pCd 4134) 1 (some .int) 0 [(0, .int v0)] [] h 0 0 (some (.int q.1), q.2, 0, 0)
  unfold fX7_leastReleased at hf
  refine r_iload_n (dGet dX7_leastReleased (j := 0) rfl) rfl ?_
  refine r_iconst (dGet dX7_leastReleased (j := 1) rfl) kI_3 ?_
  by_cases c1 : v0 = (3 : Int32)
  · rw [if_pos c1] at hf
    refine r_icmp_eq_t (dGet dX7_leastReleased (j := 2) rfl) rfl c1 ?_
    refine r_iload_n (dGet dX7_leastReleased (j := 6) rfl) rfl ?_
    refine r_iconst (dGet dX7_leastReleased (j := 7) rfl) kI_1 ?_
    refine r_iadd (dGet dX7_leastReleased (j := 8) rfl) ?_
    refine r_goto (dGet dX7_leastReleased (j := 9) rfl) rfl ?_
    cases hf
    exact r_iret (dGet dX7_leastReleased (j := 11) rfl) rfl rfl
  · rw [if_neg c1] at hf
    refine r_icmp_eq_f (dGet dX7_leastReleased (j := 2) rfl) rfl c1 ?_
    refine r_iload_n (dGet dX7_leastReleased (j := 3) rfl) rfl ?_
    refine r_iconst (dGet dX7_leastReleased (j := 4) rfl) kI_4 ?_
    by_cases c2 : v0 = (4 : Int32)
    · rw [if_pos c2] at hf
      refine r_icmp_ne_f (dGet dX7_leastReleased (j := 5) rfl) rfl c2 ?_
      refine r_iload_n (dGet dX7_leastReleased (j := 6) rfl) rfl ?_
      refine r_iconst (dGet dX7_leastReleased (j := 7) rfl) kI_1 ?_
      refine r_iadd (dGet dX7_leastReleased (j := 8) rfl) ?_
      refine r_goto (dGet dX7_leastReleased (j := 9) rfl) rfl ?_
      cases hf
      exact r_iret (dGet dX7_leastReleased (j := 11) rfl) rfl rfl
    · rw [if_neg c2] at hf
      refine r_icmp_ne_t (dGet dX7_leastReleased (j := 5) rfl) rfl c2 ?_
      refine r_iload_n (dGet dX7_leastReleased (j := 10) rfl) rfl ?_
      cases hf
      exact r_iret (dGet dX7_leastReleased (j := 11) rfl) rfl rfl
def eX7_levelOf : List (Nat × Instr × Nat) := [(0, .iload_n 0, 1), (1, .lookupswitch 120 #[(21, 113), (37, 117), (42, 117), (43, 115), (45, 115), (47, 117), (60, 113), (128, 111), (129, 111), (130, 113), (131, 109), (132, 107)], 107), (108, .iconst 1, 1), (109, .ireturn, 1), (110, .iconst 2, 1), (111, .ireturn, 1), (112, .iconst 3, 1), (113, .ireturn, 1), (114, .iconst 4, 1), (115, .ireturn, 1), (116, .iconst 5, 1), (117, .ireturn, 1), (118, .bipush 6, 2), (120, .ireturn, 1), (121, .iconst 0, 1), (122, .ireturn, 1)]
theorem dX7_levelOf : dChk (pCd 4131) eX7_levelOf = true := by decide +kernel
def fX7_levelOf (N : Nat) (v0 : Int32) (h : pH) : Option (Int32 × pH) :=
  if v0 = 21 then (
  some ((4 : Int32), h)) else
  if v0 = 37 then (
  some ((6 : Int32), h)) else
  if v0 = 42 then (
  some ((6 : Int32), h)) else
  if v0 = 43 then (
  some ((5 : Int32), h)) else
  if v0 = 45 then (
  some ((5 : Int32), h)) else
  if v0 = 47 then (
  some ((6 : Int32), h)) else
  if v0 = 60 then (
  some ((4 : Int32), h)) else
  if v0 = 128 then (
  some ((3 : Int32), h)) else
  if v0 = 129 then (
  some ((3 : Int32), h)) else
  if v0 = 130 then (
  some ((4 : Int32), h)) else
  if v0 = 131 then (
  some ((2 : Int32), h)) else
  if v0 = 132 then (
  some ((1 : Int32), h)) else
  some ((0 : Int32), h)
theorem cX7_levelOf (X : pX) (N d : Nat) (v0 : Int32) (h : pH) (q : Int32 × pH) (hf : fX7_levelOf N v0 h = some q) : Calls X (d + 0) 89 [.int v0] h (some (.int q.1), q.2, 0, 0) := by
  refine Calls.of M89 (Nat.le_of_ble_eq_true rfl) ?_
  show Run X (d + 0) 7 false (pCd 4131) 1 (some .int) 0 [(0, .int v0)] [] h 0 0 (some (.int q.1), q.2, 0, 0)
  unfold fX7_levelOf at hf
  refine r_iload_n (dGet dX7_levelOf (j := 0) rfl) rfl ?_
  by_cases c1 : v0 = 21
  · rw [if_pos c1] at hf
    refine r_lookup (off := 113) (dGet dX7_levelOf (j := 1) rfl) (by rw [c1]; decide) rfl ?_
    refine r_iconst (dGet dX7_levelOf (j := 8) rfl) kI_4 ?_
    cases hf
    exact r_iret (dGet dX7_levelOf (j := 9) rfl) rfl rfl
  rw [if_neg c1] at hf
  by_cases c2 : v0 = 37
  · rw [if_pos c2] at hf
    refine r_lookup (off := 117) (dGet dX7_levelOf (j := 1) rfl) (by rw [c2]; decide) rfl ?_
    refine r_bipush (dGet dX7_levelOf (j := 12) rfl) kB_6 ?_
    cases hf
    exact r_iret (dGet dX7_levelOf (j := 13) rfl) rfl rfl
  rw [if_neg c2] at hf
  by_cases c3 : v0 = 42
  · rw [if_pos c3] at hf
    refine r_lookup (off := 117) (dGet dX7_levelOf (j := 1) rfl) (by rw [c3]; decide) rfl ?_
    refine r_bipush (dGet dX7_levelOf (j := 12) rfl) kB_6 ?_
    cases hf
    exact r_iret (dGet dX7_levelOf (j := 13) rfl) rfl rfl
  rw [if_neg c3] at hf
  by_cases c4 : v0 = 43
  · rw [if_pos c4] at hf
    refine r_lookup (off := 115) (dGet dX7_levelOf (j := 1) rfl) (by rw [c4]; decide) rfl ?_
    refine r_iconst (dGet dX7_levelOf (j := 10) rfl) kI_5 ?_
    cases hf
    exact r_iret (dGet dX7_levelOf (j := 11) rfl) rfl rfl
  rw [if_neg c4] at hf
  by_cases c5 : v0 = 45
  · rw [if_pos c5] at hf
    refine r_lookup (off := 115) (dGet dX7_levelOf (j := 1) rfl) (by rw [c5]; decide) rfl ?_
    refine r_iconst (dGet dX7_levelOf (j := 10) rfl) kI_5 ?_
    cases hf
    exact r_iret (dGet dX7_levelOf (j := 11) rfl) rfl rfl
  rw [if_neg c5] at hf
  by_cases c6 : v0 = 47
  · rw [if_pos c6] at hf
    refine r_lookup (off := 117) (dGet dX7_levelOf (j := 1) rfl) (by rw [c6]; decide) rfl ?_
    refine r_bipush (dGet dX7_levelOf (j := 12) rfl) kB_6 ?_
    cases hf
    exact r_iret (dGet dX7_levelOf (j := 13) rfl) rfl rfl
  rw [if_neg c6] at hf
  by_cases c7 : v0 = 60
  · rw [if_pos c7] at hf
    refine r_lookup (off := 113) (dGet dX7_levelOf (j := 1) rfl) (by rw [c7]; decide) rfl ?_
    refine r_iconst (dGet dX7_levelOf (j := 8) rfl) kI_4 ?_
    cases hf
    exact r_iret (dGet dX7_levelOf (j := 9) rfl) rfl rfl
  rw [if_neg c7] at hf
  by_cases c8 : v0 = 128
  · rw [if_pos c8] at hf
    refine r_lookup (off := 111) (dGet dX7_levelOf (j := 1) rfl) (by rw [c8]; decide) rfl ?_
    refine r_iconst (dGet dX7_levelOf (j := 6) rfl) kI_3 ?_
    cases hf
    exact r_iret (dGet dX7_levelOf (j := 7) rfl) rfl rfl
  rw [if_neg c8] at hf
  by_cases c9 : v0 = 129
  · rw [if_pos c9] at hf
    refine r_lookup (off := 111) (dGet dX7_levelOf (j := 1) rfl) (by rw [c9]; decide) rfl ?_
    refine r_iconst (dGet dX7_levelOf (j := 6) rfl) kI_3 ?_
    cases hf
    exact r_iret (dGet dX7_levelOf (j := 7) rfl) rfl rfl
  rw [if_neg c9] at hf
  by_cases c10 : v0 = 130
  · rw [if_pos c10] at hf
    refine r_lookup (off := 113) (dGet dX7_levelOf (j := 1) rfl) (by rw [c10]; decide) rfl ?_
    refine r_iconst (dGet dX7_levelOf (j := 8) rfl) kI_4 ?_
    cases hf
    exact r_iret (dGet dX7_levelOf (j := 9) rfl) rfl rfl
  rw [if_neg c10] at hf
  by_cases c11 : v0 = 131
  · rw [if_pos c11] at hf
    refine r_lookup (off := 109) (dGet dX7_levelOf (j := 1) rfl) (by rw [c11]; decide) rfl ?_
    refine r_iconst (dGet dX7_levelOf (j := 4) rfl) kI_2 ?_
    cases hf
    exact r_iret (dGet dX7_levelOf (j := 5) rfl) rfl rfl
  rw [if_neg c11] at hf
  by_cases c12 : v0 = 132
  · rw [if_pos c12] at hf
    refine r_lookup (off := 107) (dGet dX7_levelOf (j := 1) rfl) (by rw [c12]; decide) rfl ?_
    refine r_iconst (dGet dX7_levelOf (j := 2) rfl) kI_1 ?_
    cases hf
    exact r_iret (dGet dX7_levelOf (j := 3) rfl) rfl rfl
  rw [if_neg c12] at hf
  refine r_lookup (dGet dX7_levelOf (j := 1) rfl) (pLookup_out (cs := [21, 37, 42, 43, 45, 47, 60, 128, 129, 130, 131, 132]) (by decide) (by decide) (List.forall_mem_cons.mpr ⟨c1, List.forall_mem_cons.mpr ⟨c2, List.forall_mem_cons.mpr ⟨c3, List.forall_mem_cons.mpr ⟨c4, List.forall_mem_cons.mpr ⟨c5, List.forall_mem_cons.mpr ⟨c6, List.forall_mem_cons.mpr ⟨c7, List.forall_mem_cons.mpr ⟨c8, List.forall_mem_cons.mpr ⟨c9, List.forall_mem_cons.mpr ⟨c10, List.forall_mem_cons.mpr ⟨c11, List.forall_mem_cons.mpr ⟨c12, fun _ h => absurd h List.not_mem_nil⟩⟩⟩⟩⟩⟩⟩⟩⟩⟩⟩⟩)) rfl ?_
  refine r_iconst (dGet dX7_levelOf (j := 14) rfl) kI_0 ?_
  cases hf
  exact r_iret (dGet dX7_levelOf (j := 15) rfl) rfl rfl
def eX7_await : List (Nat × Instr × Nat) := [(0, .aload_n 0, 1), (1, .getfield 87, 3), (4, .sipush 400, 3), (7, .if_icmp .ge 43, 3), (10, .aload_n 0, 1), (11, .getfield 25, 3), (14, .aload_n 0, 1), (15, .getfield 87, 3), (18, .iload_n 1, 1), (19, .iastore, 1), (20, .aload_n 0, 1), (21, .getfield 29, 3), (24, .aload_n 0, 1), (25, .getfield 87, 3), (28, .iload_n 2, 1), (29, .iastore, 1), (30, .aload_n 0, 1), (31, .getfield 32, 3), (34, .aload_n 0, 1), (35, .getfield 87, 3), (38, .iload_n 3, 1), (39, .iastore, 1), (40, .aload_n 0, 1), (41, .dup, 1), (42, .getfield 87, 3), (45, .iconst 1, 1), (46, .iadd, 1), (47, .putfield 87, 3), (50, .return_, 1)]
theorem dX7_await : dChk (pCd 4089) eX7_await = true := by decide +kernel
def fX7_await (N : Nat) (v0 : Nat) (v1 : Int32) (v2 : Int32) (v3 : Int32) (h : pH) : Option (pH) := if isO h v0 7 = true then (
  (getI h v0 7 7).bind fun t1 =>
  if (400 : Int32) ≤ t1 then (
  some h) else (
  (getR h v0 7 4).bind fun t3 =>
  (getI h v0 7 7).bind fun t4 =>
  (stI h t3 t4 v1).bind fun h5 =>
  (getR h5 v0 7 5).bind fun t6 =>
  (getI h5 v0 7 7).bind fun t7 =>
  (stI h5 t6 t7 v2).bind fun h8 =>
  (getR h8 v0 7 6).bind fun t9 =>
  (getI h8 v0 7 7).bind fun t10 =>
  (stI h8 t9 t10 v3).bind fun h11 =>
  (getI h11 v0 7 7).bind fun t12 =>
  (putI h11 v0 7 7 (t12 + (1 : Int32))).bind fun h13 =>
  some h13)) else none
theorem oX7_await {N : Nat} {v0 : Nat} {v1 : Int32} {v2 : Int32} {v3 : Int32} {h : pH} {q : pH} (hf : fX7_await N v0 v1 v2 v3 h = some q) : isO h v0 7 = true := by
  unfold fX7_await at hf
  by_cases hc : isO h v0 7 = true
  · exact hc
  · rw [if_neg hc] at hf; cases hf
theorem cX7_await (X : pX) (N d : Nat) (v0 : Nat) (v1 : Int32) (v2 : Int32) (v3 : Int32) (h : pH) (q : pH) (hf : fX7_await N v0 v1 v2 v3 h = some q) : Calls X (d + 0) 78 [.ref v0, .int v1, .int v2, .int v3] h (none, q, 0, 0) := by
  refine Calls.of M78 (Nat.le_of_ble_eq_true rfl) ?_
  show Run X (d + 0) 7 false (pCd 4089) 4 none 0 [(0, .ref v0), (1, .int v1), (2, .int v2), (3, .int v3)] [] h 0 0 (none, q, 0, 0)
  unfold fX7_await at hf
  by_cases hc : isO h v0 7 = true
  · rw [if_pos hc] at hf
    have nv0 : ¬ v0 = 4 := isO_ne hc
    refine r_aload_n (dGet dX7_await (j := 0) rfl) nv0 rfl ?_
    obtain ⟨t1, et1, hf⟩ := Option.bind_eq_some_iff.mp hf
    refine r_getI (dGet dX7_await (j := 1) rfl) F7_87 et1 ?_
    refine r_sipush (dGet dX7_await (j := 2) rfl) kS_400 ?_
    by_cases c2 : (400 : Int32) ≤ t1
    · rw [if_pos c2] at hf
      refine r_icmp_ge_t (dGet dX7_await (j := 3) rfl) rfl c2 ?_
      cases hf
      exact r_vret (dGet dX7_await (j := 28) rfl) rfl
    · rw [if_neg c2] at hf
      refine r_icmp_ge_f (dGet dX7_await (j := 3) rfl) rfl c2 ?_
      refine r_aload_n (dGet dX7_await (j := 4) rfl) nv0 rfl ?_
      obtain ⟨t3, et3, hf⟩ := Option.bind_eq_some_iff.mp hf
      refine r_getR (dGet dX7_await (j := 5) rfl) F7_25 et3 ?_
      refine r_aload_n (dGet dX7_await (j := 6) rfl) nv0 rfl ?_
      obtain ⟨t4, et4, hf⟩ := Option.bind_eq_some_iff.mp hf
      refine r_getI (dGet dX7_await (j := 7) rfl) F7_87 et4 ?_
      refine r_iload_n (dGet dX7_await (j := 8) rfl) rfl ?_
      obtain ⟨h5, eh5, hf⟩ := Option.bind_eq_some_iff.mp hf
      refine r_iast (dGet dX7_await (j := 9) rfl) eh5 ?_
      refine r_aload_n (dGet dX7_await (j := 10) rfl) nv0 rfl ?_
      obtain ⟨t6, et6, hf⟩ := Option.bind_eq_some_iff.mp hf
      refine r_getR (dGet dX7_await (j := 11) rfl) F7_29 et6 ?_
      refine r_aload_n (dGet dX7_await (j := 12) rfl) nv0 rfl ?_
      obtain ⟨t7, et7, hf⟩ := Option.bind_eq_some_iff.mp hf
      refine r_getI (dGet dX7_await (j := 13) rfl) F7_87 et7 ?_
      refine r_iload_n (dGet dX7_await (j := 14) rfl) rfl ?_
      obtain ⟨h8, eh8, hf⟩ := Option.bind_eq_some_iff.mp hf
      refine r_iast (dGet dX7_await (j := 15) rfl) eh8 ?_
      refine r_aload_n (dGet dX7_await (j := 16) rfl) nv0 rfl ?_
      obtain ⟨t9, et9, hf⟩ := Option.bind_eq_some_iff.mp hf
      refine r_getR (dGet dX7_await (j := 17) rfl) F7_32 et9 ?_
      refine r_aload_n (dGet dX7_await (j := 18) rfl) nv0 rfl ?_
      obtain ⟨t10, et10, hf⟩ := Option.bind_eq_some_iff.mp hf
      refine r_getI (dGet dX7_await (j := 19) rfl) F7_87 et10 ?_
      refine r_iload_n (dGet dX7_await (j := 20) rfl) rfl ?_
      obtain ⟨h11, eh11, hf⟩ := Option.bind_eq_some_iff.mp hf
      refine r_iast (dGet dX7_await (j := 21) rfl) eh11 ?_
      refine r_aload_n (dGet dX7_await (j := 22) rfl) nv0 rfl ?_
      refine r_dup (dGet dX7_await (j := 23) rfl) rfl ?_
      obtain ⟨t12, et12, hf⟩ := Option.bind_eq_some_iff.mp hf
      refine r_getI (dGet dX7_await (j := 24) rfl) F7_87 et12 ?_
      refine r_iconst (dGet dX7_await (j := 25) rfl) kI_1 ?_
      refine r_iadd (dGet dX7_await (j := 26) rfl) ?_
      obtain ⟨h13, eh13, hf⟩ := Option.bind_eq_some_iff.mp hf
      refine r_putI (dGet dX7_await (j := 27) rfl) F7_87 rfl rfl eh13 ?_
      cases hf
      exact r_vret (dGet dX7_await (j := 28) rfl) rfl
  · rw [if_neg hc] at hf; cases hf
def eX7_isBehindFirst : List (Nat × Instr × Nat) := [(0, .iload_n 0, 1), (1, .bipush 46, 2), (3, .if_icmp .eq 15, 3), (6, .iload_n 0, 1), (7, .bipush 91, 2), (9, .if_icmp .eq 9, 3), (12, .iload_n 0, 1), (13, .bipush 20, 2), (15, .if_icmp .ne 7, 3), (18, .iconst 1, 1), (19, .goto 4, 3), (22, .iconst 0, 1), (23, .ireturn, 1)]
theorem dX7_isBehindFirst : dChk (pCd 4120) eX7_isBehindFirst = true := by decide +kernel
def fX7_isBehindFirst (N : Nat) (v0 : Int32) (h : pH) : Option (Int32 × pH) :=
  if v0 = (46 : Int32) then (
  some ((1 : Int32), h)) else (
  if v0 = (91 : Int32) then (
  some ((1 : Int32), h)) else (
  if v0 = (20 : Int32) then (
  some ((1 : Int32), h)) else (
  some ((0 : Int32), h))))
theorem cX7_isBehindFirst (X : pX) (N d : Nat) (v0 : Int32) (h : pH) (q : Int32 × pH) (hf : fX7_isBehindFirst N v0 h = some q) : Calls X (d + 0) 86 [.int v0] h (some (.int q.1), q.2, 0, 0) := by
  refine Calls.of M86 (Nat.le_of_ble_eq_true rfl) ?_
  show Run X (d + 0) 7 false (pCd 4120) 1 (some .boolean) 0 [(0, .int v0)] [] h 0 0 (some (.int q.1), q.2, 0, 0)
  unfold fX7_isBehindFirst at hf
  refine r_iload_n (dGet dX7_isBehindFirst (j := 0) rfl) rfl ?_
  refine r_bipush (dGet dX7_isBehindFirst (j := 1) rfl) kB_46 ?_
  by_cases c1 : v0 = (46 : Int32)
  · rw [if_pos c1] at hf
    refine r_icmp_eq_t (dGet dX7_isBehindFirst (j := 2) rfl) rfl c1 ?_
    refine r_iconst (dGet dX7_isBehindFirst (j := 9) rfl) kI_1 ?_
    refine r_goto (dGet dX7_isBehindFirst (j := 10) rfl) rfl ?_
    cases hf
    exact r_iret (dGet dX7_isBehindFirst (j := 12) rfl) rfl (by decide)
  · rw [if_neg c1] at hf
    refine r_icmp_eq_f (dGet dX7_isBehindFirst (j := 2) rfl) rfl c1 ?_
    refine r_iload_n (dGet dX7_isBehindFirst (j := 3) rfl) rfl ?_
    refine r_bipush (dGet dX7_isBehindFirst (j := 4) rfl) kB_91 ?_
    by_cases c2 : v0 = (91 : Int32)
    · rw [if_pos c2] at hf
      refine r_icmp_eq_t (dGet dX7_isBehindFirst (j := 5) rfl) rfl c2 ?_
      refine r_iconst (dGet dX7_isBehindFirst (j := 9) rfl) kI_1 ?_
      refine r_goto (dGet dX7_isBehindFirst (j := 10) rfl) rfl ?_
      cases hf
      exact r_iret (dGet dX7_isBehindFirst (j := 12) rfl) rfl (by decide)
    · rw [if_neg c2] at hf
      refine r_icmp_eq_f (dGet dX7_isBehindFirst (j := 5) rfl) rfl c2 ?_
      refine r_iload_n (dGet dX7_isBehindFirst (j := 6) rfl) rfl ?_
      refine r_bipush (dGet dX7_isBehindFirst (j := 7) rfl) kB_20 ?_
      by_cases c3 : v0 = (20 : Int32)
      · rw [if_pos c3] at hf
        refine r_icmp_ne_f (dGet dX7_isBehindFirst (j := 8) rfl) rfl c3 ?_
        refine r_iconst (dGet dX7_isBehindFirst (j := 9) rfl) kI_1 ?_
        refine r_goto (dGet dX7_isBehindFirst (j := 10) rfl) rfl ?_
        cases hf
        exact r_iret (dGet dX7_isBehindFirst (j := 12) rfl) rfl (by decide)
      · rw [if_neg c3] at hf
        refine r_icmp_ne_t (dGet dX7_isBehindFirst (j := 8) rfl) rfl c3 ?_
        refine r_iconst (dGet dX7_isBehindFirst (j := 11) rfl) kI_0 ?_
        cases hf
        exact r_iret (dGet dX7_isBehindFirst (j := 12) rfl) rfl (by decide)
def eX7_takeName : List (Nat × Instr × Nat) := [(0, .aload_n 0, 1), (1, .getfield 7, 3), (4, .getfield 101, 3), (7, .aload_n 0, 1), (8, .getfield 47, 3), (11, .iaload, 1), (12, .istore_n 1, 1), (13, .aload_n 0, 1), (14, .getfield 57, 3), (17, .bipush 22, 2), (19, .if_icmp .ne 10, 3), (22, .aload_n 0, 1), (23, .invokevirtual 60, 3), (26, .goto 7, 3), (29, .aload_n 0, 1), (30, .invokevirtual 98, 3), (33, .iload_n 1, 1), (34, .ireturn, 1)]
theorem dX7_takeName : dChk (pCd 4024) eX7_takeName = true := by decide +kernel
def fX7_takeName (N : Nat) (v0 : Nat) (h : pH) : Option (Int32 × pH) := if isO h v0 7 = true then (
  (getR h v0 7 0).bind fun t1 =>
  (getR h t1 10 1).bind fun t2 =>
  (getI h v0 7 8).bind fun t3 =>
  (ldI h t2 t3).bind fun t4 =>
  (getI h v0 7 9).bind fun t5 =>
  if t5 = (22 : Int32) then (
  (fX7_advance N v0 h).bind fun h8 =>
  some (t4, h8)) else (
  (fX7_fail N v0 h).bind fun h7 =>
  some (t4, h7))) else none
theorem oX7_takeName {N : Nat} {v0 : Nat} {h : pH} {q : Int32 × pH} (hf : fX7_takeName N v0 h = some q) : isO h v0 7 = true := by
  unfold fX7_takeName at hf
  by_cases hc : isO h v0 7 = true
  · exact hc
  · rw [if_neg hc] at hf; cases hf
theorem cX7_takeName (X : pX) (N d : Nat) (v0 : Nat) (h : pH) (q : Int32 × pH) (hf : fX7_takeName N v0 h = some q) : Calls X (d + 1) 62 [.ref v0] h (some (.int q.1), q.2, 0, 0) := by
  refine Calls.of M62 (Nat.le_of_ble_eq_true rfl) ?_
  show Run X (d + 1) 7 false (pCd 4024) 2 (some .int) 0 [(0, .ref v0)] [] h 0 0 (some (.int q.1), q.2, 0, 0)
  unfold fX7_takeName at hf
  by_cases hc : isO h v0 7 = true
  · rw [if_pos hc] at hf
    have nv0 : ¬ v0 = 4 := isO_ne hc
    refine r_aload_n (dGet dX7_takeName (j := 0) rfl) nv0 rfl ?_
    obtain ⟨t1, et1, hf⟩ := Option.bind_eq_some_iff.mp hf
    refine r_getR (dGet dX7_takeName (j := 1) rfl) F7_7 et1 ?_
    obtain ⟨t2, et2, hf⟩ := Option.bind_eq_some_iff.mp hf
    refine r_getR (dGet dX7_takeName (j := 2) rfl) F7_101 et2 ?_
    refine r_aload_n (dGet dX7_takeName (j := 3) rfl) nv0 rfl ?_
    obtain ⟨t3, et3, hf⟩ := Option.bind_eq_some_iff.mp hf
    refine r_getI (dGet dX7_takeName (j := 4) rfl) F7_47 et3 ?_
    obtain ⟨t4, et4, hf⟩ := Option.bind_eq_some_iff.mp hf
    refine r_iald (dGet dX7_takeName (j := 5) rfl) et4 ?_
    refine r_istore_n (lv' := [(1, .int t4), (0, .ref v0)]) (dGet dX7_takeName (j := 6) rfl) (by decide) rfl ?_
    refine r_aload_n (dGet dX7_takeName (j := 7) rfl) nv0 rfl ?_
    obtain ⟨t5, et5, hf⟩ := Option.bind_eq_some_iff.mp hf
    refine r_getI (dGet dX7_takeName (j := 8) rfl) F7_57 et5 ?_
    refine r_bipush (dGet dX7_takeName (j := 9) rfl) kB_22 ?_
    by_cases c6 : t5 = (22 : Int32)
    · rw [if_pos c6] at hf
      refine r_icmp_ne_f (dGet dX7_takeName (j := 10) rfl) rfl c6 ?_
      refine r_aload_n (dGet dX7_takeName (j := 11) rfl) nv0 rfl ?_
      obtain ⟨h8, eh8, hf⟩ := Option.bind_eq_some_iff.mp hf
      refine r_virtual (dGet dX7_takeName (j := 12) rfl) L7_60 M60 rfl rfl (Nat.le_of_ble_eq_true rfl) (oX7_advance eh8) (cX7_advance X N (d + 0) v0 h h8 eh8) ?_
      refine r_goto (dGet dX7_takeName (j := 13) rfl) rfl ?_
      refine r_iload_n (dGet dX7_takeName (j := 16) rfl) rfl ?_
      cases hf
      exact r_iret (dGet dX7_takeName (j := 17) rfl) rfl rfl
    · rw [if_neg c6] at hf
      refine r_icmp_ne_t (dGet dX7_takeName (j := 10) rfl) rfl c6 ?_
      refine r_aload_n (dGet dX7_takeName (j := 14) rfl) nv0 rfl ?_
      obtain ⟨h7, eh7, hf⟩ := Option.bind_eq_some_iff.mp hf
      refine r_virtual (dGet dX7_takeName (j := 15) rfl) L7_98 M61 rfl rfl (Nat.le_of_ble_eq_true rfl) (oX7_fail eh7) (cX7_fail X N (d + 0) v0 h h7 eh7) ?_
      refine r_iload_n (dGet dX7_takeName (j := 16) rfl) rfl ?_
      cases hf
      exact r_iret (dGet dX7_takeName (j := 17) rfl) rfl rfl
  · rw [if_neg hc] at hf; cases hf
def eX7_readSingle : List (Nat × Instr × Nat) := [(0, .aload_n 0, 1), (1, .invokevirtual 60, 3), (4, .aload_n 0, 1), (5, .getfield 21, 3), (8, .iload_n 1, 1), (9, .iload_n 2, 1), (10, .iconst 0, 1), (11, .invokevirtual 126, 3), (14, .pop, 1), (15, .return_, 1)]
theorem dX7_readSingle : dChk (pCd 4097) eX7_readSingle = true := by decide +kernel
def fX7_readSingle (N : Nat) (v0 : Nat) (v1 : Int32) (v2 : Int32) (h : pH) : Option (pH) := if isO h v0 7 = true then (
  (fX7_advance N v0 h).bind fun h1 =>
  (getR h1 v0 7 3).bind fun t2 =>
  (fX2_emit N t2 v1 v2 (0 : Int32) h1).bind fun q3 =>
  some q3.2) else none
theorem oX7_readSingle {N : Nat} {v0 : Nat} {v1 : Int32} {v2 : Int32} {h : pH} {q : pH} (hf : fX7_readSingle N v0 v1 v2 h = some q) : isO h v0 7 = true := by
  unfold fX7_readSingle at hf
  by_cases hc : isO h v0 7 = true
  · exact hc
  · rw [if_neg hc] at hf; cases hf
theorem cX7_readSingle (X : pX) (N d : Nat) (v0 : Nat) (v1 : Int32) (v2 : Int32) (h : pH) (q : pH) (hf : fX7_readSingle N v0 v1 v2 h = some q) : Calls X (d + 1) 80 [.ref v0, .int v1, .int v2] h (none, q, 0, 0) := by
  refine Calls.of M80 (Nat.le_of_ble_eq_true rfl) ?_
  show Run X (d + 1) 7 false (pCd 4097) 3 none 0 [(0, .ref v0), (1, .int v1), (2, .int v2)] [] h 0 0 (none, q, 0, 0)
  unfold fX7_readSingle at hf
  by_cases hc : isO h v0 7 = true
  · rw [if_pos hc] at hf
    have nv0 : ¬ v0 = 4 := isO_ne hc
    refine r_aload_n (dGet dX7_readSingle (j := 0) rfl) nv0 rfl ?_
    obtain ⟨h1, eh1, hf⟩ := Option.bind_eq_some_iff.mp hf
    refine r_virtual (dGet dX7_readSingle (j := 1) rfl) L7_60 M60 rfl rfl (Nat.le_of_ble_eq_true rfl) (oX7_advance eh1) (cX7_advance X N (d + 0) v0 h h1 eh1) ?_
    refine r_aload_n (dGet dX7_readSingle (j := 2) rfl) nv0 rfl ?_
    obtain ⟨t2, et2, hf⟩ := Option.bind_eq_some_iff.mp hf
    refine r_getR (dGet dX7_readSingle (j := 3) rfl) F7_21 et2 ?_
    refine r_iload_n (dGet dX7_readSingle (j := 4) rfl) rfl ?_
    refine r_iload_n (dGet dX7_readSingle (j := 5) rfl) rfl ?_
    refine r_iconst (dGet dX7_readSingle (j := 6) rfl) kI_0 ?_
    obtain ⟨q3, eq3, hf⟩ := Option.bind_eq_some_iff.mp hf
    refine r_virtual (dGet dX7_readSingle (j := 7) rfl) L7_126 M81 rfl rfl (Nat.le_of_ble_eq_true rfl) (oX2_emit eq3) (cX2_emit X N (d + 0) t2 v1 v2 (0 : Int32) h1 q3 eq3) ?_
    refine r_pop (dGet dX7_readSingle (j := 8) rfl) rfl ?_
    cases hf
    exact r_vret (dGet dX7_readSingle (j := 9) rfl) rfl
  · rw [if_neg hc] at hf; cases hf
def eX7_release : List (Nat × Instr × Nat) := [(0, .aload_n 0, 1), (1, .getfield 87, 3), (4, .iload_n 1, 1), (5, .if_icmp .le 100, 3), (8, .aload_n 0, 1), (9, .getfield 29, 3), (12, .aload_n 0, 1), (13, .getfield 87, 3), (16, .iconst 1, 1), (17, .isub, 1), (18, .iaload, 1), (19, .iload_n 2, 1), (20, .if_icmp .lt 85, 3), (23, .aload_n 0, 1), (24, .dup, 1), (25, .getfield 87, 3), (28, .iconst 1, 1), (29, .isub, 1), (30, .putfield 87, 3), (33, .aload_n 0, 1), (34, .getfield 25, 3), (37, .aload_n 0, 1), (38, .getfield 87, 3), (41, .iaload, 1), (42, .istore_n 3, 1), (43, .aload_n 0, 1), (44, .getfield 32, 3), (47, .aload_n 0, 1), (48, .getfield 87, 3), (51, .iaload, 1), (52, .istore 4, 2), (54, .iload_n 3, 1), (55, .bipush 28, 2), (57, .if_icmp .eq 9, 3), (60, .iload_n 3, 1), (61, .bipush 29, 2), (63, .if_icmp .ne 27, 3), (66, .aload_n 0, 1), (67, .getfield 21, 3), (70, .getfield 174, 3), (73, .iload 4, 2), (75, .aload_n 0, 1), (76, .getfield 21, 3), (79, .bipush 51, 2), (81, .iconst 0, 1), (82, .iconst 0, 1), (83, .invokevirtual 126, 3), (86, .iastore, 1), (87, .goto 15, 3), (90, .aload_n 0, 1), (91, .getfield 21, 3), (94, .iload_n 3, 1), (95, .iload 4, 2), (97, .iconst 0, 1), (98, .invokevirtual 126, 3), (101, .pop, 1), (102, .goto (-102), 3), (105, .return_, 1)]
theorem dX7_release : dChk (pCd 4128) eX7_release = true := by decide +kernel
def fX7_release_102 (N : Nat) (k0 : Nat → Int32 → Int32 → pH → Option (pH)) (v0 : Nat) (v1 : Int32) (v2 : Int32) (h : pH) : Option (pH) :=
  k0 v0 v1 v2 h
theorem lX7_release_102 (X : pX) (N d : Nat)  (k0 : Nat → Int32 → Int32 → pH → Option (pH)) (K0 : ∀ (w0 : Nat) (w1 : Int32) (w2 : Int32) (h : pH) (q : pH), k0 w0 w1 w2 h = some q → ¬ w0 = 4 → Run X (d + 1) 7 false (pCd 4128) 5 none 0 [(0, .ref w0), (1, .int w1), (2, .int w2)] [] h 0 0 (none, q, 0, 0)) (v0 : Nat) (v1 : Int32) (v2 : Int32) (h : pH) (q : pH) (hf : fX7_release_102 N k0 v0 v1 v2 h = some q) (nv0 : ¬ v0 = 4) : Run X (d + 1) 7 false (pCd 4128) 5 none 102 [(0, .ref v0), (1, .int v1), (2, .int v2)] [] h 0 0 (none, q, 0, 0) := by
  unfold fX7_release_102 at hf
  refine r_goto (dGet dX7_release (j := 56) rfl) rfl ?_
  exact K0 v0 v1 v2 h q hf nv0
def fX7_release_66 (N : Nat) (k0 : Nat → Int32 → Int32 → pH → Option (pH)) (v0 : Nat) (v1 : Int32) (v2 : Int32) (v4 : Int32) (h : pH) : Option (pH) :=
  (getR h v0 7 3).bind fun t1 =>
  (getR h t1 2 3).bind fun t2 =>
  (getR h v0 7 3).bind fun t3 =>
  (fX2_emit N t3 (51 : Int32) (0 : Int32) (0 : Int32) h).bind fun q4 =>
  (stI q4.2 t2 v4 q4.1).bind fun h5 =>
  fX7_release_102 N k0 v0 v1 v2 h5
theorem lX7_release_66 (X : pX) (N d : Nat)  (k0 : Nat → Int32 → Int32 → pH → Option (pH)) (K0 : ∀ (w0 : Nat) (w1 : Int32) (w2 : Int32) (h : pH) (q : pH), k0 w0 w1 w2 h = some q → ¬ w0 = 4 → Run X (d + 1) 7 false (pCd 4128) 5 none 0 [(0, .ref w0), (1, .int w1), (2, .int w2)] [] h 0 0 (none, q, 0, 0)) (v0 : Nat) (v1 : Int32) (v2 : Int32) (v4 : Int32) (h : pH) (q : pH) (hf : fX7_release_66 N k0 v0 v1 v2 v4 h = some q) (nv0 : ¬ v0 = 4) : Run X (d + 1) 7 false (pCd 4128) 5 none 66 [(0, .ref v0), (1, .int v1), (2, .int v2), (4, .int v4)] [] h 0 0 (none, q, 0, 0) := by
  unfold fX7_release_66 at hf
  refine r_aload_n (dGet dX7_release (j := 37) rfl) nv0 rfl ?_
  obtain ⟨t1, et1, hf⟩ := Option.bind_eq_some_iff.mp hf
  refine r_getR (dGet dX7_release (j := 38) rfl) F7_21 et1 ?_
  obtain ⟨t2, et2, hf⟩ := Option.bind_eq_some_iff.mp hf
  refine r_getR (dGet dX7_release (j := 39) rfl) F7_174 et2 ?_
  refine r_iload (dGet dX7_release (j := 40) rfl) rfl ?_
  refine r_aload_n (dGet dX7_release (j := 41) rfl) nv0 rfl ?_
  obtain ⟨t3, et3, hf⟩ := Option.bind_eq_some_iff.mp hf
  refine r_getR (dGet dX7_release (j := 42) rfl) F7_21 et3 ?_
  refine r_bipush (dGet dX7_release (j := 43) rfl) kB_51 ?_
  refine r_iconst (dGet dX7_release (j := 44) rfl) kI_0 ?_
  refine r_iconst (dGet dX7_release (j := 45) rfl) kI_0 ?_
  obtain ⟨q4, eq4, hf⟩ := Option.bind_eq_some_iff.mp hf
  refine r_virtual (dGet dX7_release (j := 46) rfl) L7_126 M81 rfl rfl (Nat.le_of_ble_eq_true rfl) (oX2_emit eq4) (cX2_emit X N (d + 0) t3 (51 : Int32) (0 : Int32) (0 : Int32) h q4 eq4) ?_
  obtain ⟨h5, eh5, hf⟩ := Option.bind_eq_some_iff.mp hf
  refine r_iast (dGet dX7_release (j := 47) rfl) eh5 ?_
  refine r_goto (dGet dX7_release (j := 48) rfl) rfl ?_
  refine Run.weak [(0, .ref v0), (1, .int v1), (2, .int v2)] (by simp) (by simp [pNd]) ?_
  exact lX7_release_102 X N d k0 K0 v0 v1 v2 h5 q hf nv0
def fX7_release_0 (N : Nat) : Nat → Nat → Int32 → Int32 → pH → Option (pH)
  | 0, _, _, _, _ => none
  | n + 1, v0, v1, v2, h => (getI h v0 7 7).bind fun t6 =>
  if t6 ≤ v1 then (
  some h) else (
  (getR h v0 7 5).bind fun t8 =>
  (getI h v0 7 7).bind fun t9 =>
  (ldI h t8 (t9 - (1 : Int32))).bind fun t10 =>
  if t10 < v2 then (
  some h) else (
  (getI h v0 7 7).bind fun t12 =>
  (putI h v0 7 7 (t12 - (1 : Int32))).bind fun h13 =>
  (getR h13 v0 7 4).bind fun t14 =>
  (getI h13 v0 7 7).bind fun t15 =>
  (ldI h13 t14 t15).bind fun t16 =>
  (getR h13 v0 7 6).bind fun t17 =>
  (getI h13 v0 7 7).bind fun t18 =>
  (ldI h13 t17 t18).bind fun t19 =>
  if t16 = (28 : Int32) then (
  fX7_release_66 N (fX7_release_0 N n) v0 v1 v2 t19 h13) else (
  if t16 = (29 : Int32) then (
  fX7_release_66 N (fX7_release_0 N n) v0 v1 v2 t19 h13) else (
  (getR h13 v0 7 3).bind fun t22 =>
  (fX2_emit N t22 t16 t19 (0 : Int32) h13).bind fun q23 =>
  fX7_release_102 N (fX7_release_0 N n) v0 v1 v2 q23.2))))
theorem lX7_release_0 (X : pX) (N d : Nat)  : ∀ (n : Nat) (v0 : Nat) (v1 : Int32) (v2 : Int32) (h : pH) (q : pH), fX7_release_0 N n v0 v1 v2 h = some q → ¬ v0 = 4 → Run X (d + 1) 7 false (pCd 4128) 5 none 0 [(0, .ref v0), (1, .int v1), (2, .int v2)] [] h 0 0 (none, q, 0, 0) := by
  intro n
  induction n with
  | zero => intro v0 v1 v2 h q hf; cases hf
  | succ n ih =>
    intro v0 v1 v2 h q hf nv0
    unfold fX7_release_0 at hf
    refine r_aload_n (dGet dX7_release (j := 0) rfl) nv0 rfl ?_
    obtain ⟨t6, et6, hf⟩ := Option.bind_eq_some_iff.mp hf
    refine r_getI (dGet dX7_release (j := 1) rfl) F7_87 et6 ?_
    refine r_iload_n (dGet dX7_release (j := 2) rfl) rfl ?_
    by_cases c7 : t6 ≤ v1
    · rw [if_pos c7] at hf
      refine r_icmp_le_t (dGet dX7_release (j := 3) rfl) rfl c7 ?_
      cases hf
      exact r_vret (dGet dX7_release (j := 57) rfl) rfl
    · rw [if_neg c7] at hf
      refine r_icmp_le_f (dGet dX7_release (j := 3) rfl) rfl c7 ?_
      refine r_aload_n (dGet dX7_release (j := 4) rfl) nv0 rfl ?_
      obtain ⟨t8, et8, hf⟩ := Option.bind_eq_some_iff.mp hf
      refine r_getR (dGet dX7_release (j := 5) rfl) F7_29 et8 ?_
      refine r_aload_n (dGet dX7_release (j := 6) rfl) nv0 rfl ?_
      obtain ⟨t9, et9, hf⟩ := Option.bind_eq_some_iff.mp hf
      refine r_getI (dGet dX7_release (j := 7) rfl) F7_87 et9 ?_
      refine r_iconst (dGet dX7_release (j := 8) rfl) kI_1 ?_
      refine r_isub (dGet dX7_release (j := 9) rfl) ?_
      obtain ⟨t10, et10, hf⟩ := Option.bind_eq_some_iff.mp hf
      refine r_iald (dGet dX7_release (j := 10) rfl) et10 ?_
      refine r_iload_n (dGet dX7_release (j := 11) rfl) rfl ?_
      by_cases c11 : t10 < v2
      · rw [if_pos c11] at hf
        refine r_icmp_lt_t (dGet dX7_release (j := 12) rfl) rfl c11 ?_
        cases hf
        exact r_vret (dGet dX7_release (j := 57) rfl) rfl
      · rw [if_neg c11] at hf
        refine r_icmp_lt_f (dGet dX7_release (j := 12) rfl) rfl c11 ?_
        refine r_aload_n (dGet dX7_release (j := 13) rfl) nv0 rfl ?_
        refine r_dup (dGet dX7_release (j := 14) rfl) rfl ?_
        obtain ⟨t12, et12, hf⟩ := Option.bind_eq_some_iff.mp hf
        refine r_getI (dGet dX7_release (j := 15) rfl) F7_87 et12 ?_
        refine r_iconst (dGet dX7_release (j := 16) rfl) kI_1 ?_
        refine r_isub (dGet dX7_release (j := 17) rfl) ?_
        obtain ⟨h13, eh13, hf⟩ := Option.bind_eq_some_iff.mp hf
        refine r_putI (dGet dX7_release (j := 18) rfl) F7_87 rfl rfl eh13 ?_
        refine r_aload_n (dGet dX7_release (j := 19) rfl) nv0 rfl ?_
        obtain ⟨t14, et14, hf⟩ := Option.bind_eq_some_iff.mp hf
        refine r_getR (dGet dX7_release (j := 20) rfl) F7_25 et14 ?_
        refine r_aload_n (dGet dX7_release (j := 21) rfl) nv0 rfl ?_
        obtain ⟨t15, et15, hf⟩ := Option.bind_eq_some_iff.mp hf
        refine r_getI (dGet dX7_release (j := 22) rfl) F7_87 et15 ?_
        obtain ⟨t16, et16, hf⟩ := Option.bind_eq_some_iff.mp hf
        refine r_iald (dGet dX7_release (j := 23) rfl) et16 ?_
        refine r_istore_n (lv' := [(3, .int t16), (0, .ref v0), (1, .int v1), (2, .int v2)]) (dGet dX7_release (j := 24) rfl) (by decide) rfl ?_
        refine r_aload_n (dGet dX7_release (j := 25) rfl) nv0 rfl ?_
        obtain ⟨t17, et17, hf⟩ := Option.bind_eq_some_iff.mp hf
        refine r_getR (dGet dX7_release (j := 26) rfl) F7_32 et17 ?_
        refine r_aload_n (dGet dX7_release (j := 27) rfl) nv0 rfl ?_
        obtain ⟨t18, et18, hf⟩ := Option.bind_eq_some_iff.mp hf
        refine r_getI (dGet dX7_release (j := 28) rfl) F7_87 et18 ?_
        obtain ⟨t19, et19, hf⟩ := Option.bind_eq_some_iff.mp hf
        refine r_iald (dGet dX7_release (j := 29) rfl) et19 ?_
        refine r_istore (lv' := [(4, .int t19), (3, .int t16), (0, .ref v0), (1, .int v1), (2, .int v2)]) (dGet dX7_release (j := 30) rfl) (by decide) rfl ?_
        refine r_iload_n (dGet dX7_release (j := 31) rfl) rfl ?_
        refine r_bipush (dGet dX7_release (j := 32) rfl) kB_28 ?_
        by_cases c20 : t16 = (28 : Int32)
        · rw [if_pos c20] at hf
          refine r_icmp_eq_t (dGet dX7_release (j := 33) rfl) rfl c20 ?_
          refine Run.weak [(0, .ref v0), (1, .int v1), (2, .int v2), (4, .int t19)] (by simp) (by simp [pNd]) ?_
          exact lX7_release_66 X N d (fX7_release_0 N n) ih v0 v1 v2 t19 h13 q hf nv0
        · rw [if_neg c20] at hf
          refine r_icmp_eq_f (dGet dX7_release (j := 33) rfl) rfl c20 ?_
          refine r_iload_n (dGet dX7_release (j := 34) rfl) rfl ?_
          refine r_bipush (dGet dX7_release (j := 35) rfl) kB_29 ?_
          by_cases c21 : t16 = (29 : Int32)
          · rw [if_pos c21] at hf
            refine r_icmp_ne_f (dGet dX7_release (j := 36) rfl) rfl c21 ?_
            refine Run.weak [(0, .ref v0), (1, .int v1), (2, .int v2), (4, .int t19)] (by simp) (by simp [pNd]) ?_
            exact lX7_release_66 X N d (fX7_release_0 N n) ih v0 v1 v2 t19 h13 q hf nv0
          · rw [if_neg c21] at hf
            refine r_icmp_ne_t (dGet dX7_release (j := 36) rfl) rfl c21 ?_
            refine r_aload_n (dGet dX7_release (j := 49) rfl) nv0 rfl ?_
            obtain ⟨t22, et22, hf⟩ := Option.bind_eq_some_iff.mp hf
            refine r_getR (dGet dX7_release (j := 50) rfl) F7_21 et22 ?_
            refine r_iload_n (dGet dX7_release (j := 51) rfl) rfl ?_
            refine r_iload (dGet dX7_release (j := 52) rfl) rfl ?_
            refine r_iconst (dGet dX7_release (j := 53) rfl) kI_0 ?_
            obtain ⟨q23, eq23, hf⟩ := Option.bind_eq_some_iff.mp hf
            refine r_virtual (dGet dX7_release (j := 54) rfl) L7_126 M81 rfl rfl (Nat.le_of_ble_eq_true rfl) (oX2_emit eq23) (cX2_emit X N (d + 0) t22 t16 t19 (0 : Int32) h13 q23 eq23) ?_
            refine r_pop (dGet dX7_release (j := 55) rfl) rfl ?_
            refine Run.weak [(0, .ref v0), (1, .int v1), (2, .int v2)] (by simp) (by simp [pNd]) ?_
            exact lX7_release_102 X N d (fX7_release_0 N n) ih v0 v1 v2 q23.2 q hf nv0
def fX7_release (N : Nat) (v0 : Nat) (v1 : Int32) (v2 : Int32) (h : pH) : Option (pH) := if isO h v0 7 = true then (
  fX7_release_0 N N v0 v1 v2 h) else none
theorem oX7_release {N : Nat} {v0 : Nat} {v1 : Int32} {v2 : Int32} {h : pH} {q : pH} (hf : fX7_release N v0 v1 v2 h = some q) : isO h v0 7 = true := by
  unfold fX7_release at hf
  by_cases hc : isO h v0 7 = true
  · exact hc
  · rw [if_neg hc] at hf; cases hf
theorem cX7_release (X : pX) (N d : Nat) (v0 : Nat) (v1 : Int32) (v2 : Int32) (h : pH) (q : pH) (hf : fX7_release N v0 v1 v2 h = some q) : Calls X (d + 1) 88 [.ref v0, .int v1, .int v2] h (none, q, 0, 0) := by
  refine Calls.of M88 (Nat.le_of_ble_eq_true rfl) ?_
  show Run X (d + 1) 7 false (pCd 4128) 5 none 0 [(0, .ref v0), (1, .int v1), (2, .int v2)] [] h 0 0 (none, q, 0, 0)
  unfold fX7_release at hf
  by_cases hc : isO h v0 7 = true
  · rw [if_pos hc] at hf
    have nv0 : ¬ v0 = 4 := isO_ne hc
    exact lX7_release_0 X N d N v0 v1 v2 h q hf nv0
  · rw [if_neg hc] at hf; cases hf
def eX7_opOf : List (Nat × Instr × Nat) := [(0, .iload_n 0, 1), (1, .lookupswitch 121 #[(42, 115), (43, 109), (45, 112), (47, 118), (60, 103), (128, 97), (129, 100), (130, 106), (131, 94), (132, 91)], 91), (92, .bipush 29, 2), (94, .ireturn, 1), (95, .bipush 28, 2), (97, .ireturn, 1), (98, .bipush 26, 2), (100, .ireturn, 1), (101, .bipush 27, 2), (103, .ireturn, 1), (104, .bipush 24, 2), (106, .ireturn, 1), (107, .bipush 25, 2), (109, .ireturn, 1), (110, .bipush 22, 2), (112, .ireturn, 1), (113, .bipush 23, 2), (115, .ireturn, 1), (116, .bipush 19, 2), (118, .ireturn, 1), (119, .bipush 20, 2), (121, .ireturn, 1), (122, .bipush 21, 2), (124, .ireturn, 1)]
theorem dX7_opOf : dChk (pCd 4145) eX7_opOf = true := by decide +kernel
def fX7_opOf (N : Nat) (v0 : Int32) (h : pH) : Option (Int32 × pH) :=
  if v0 = 42 then (
  some ((19 : Int32), h)) else
  if v0 = 43 then (
  some ((22 : Int32), h)) else
  if v0 = 45 then (
  some ((23 : Int32), h)) else
  if v0 = 47 then (
  some ((20 : Int32), h)) else
  if v0 = 60 then (
  some ((24 : Int32), h)) else
  if v0 = 128 then (
  some ((26 : Int32), h)) else
  if v0 = 129 then (
  some ((27 : Int32), h)) else
  if v0 = 130 then (
  some ((25 : Int32), h)) else
  if v0 = 131 then (
  some ((28 : Int32), h)) else
  if v0 = 132 then (
  some ((29 : Int32), h)) else
  some ((21 : Int32), h)
theorem cX7_opOf (X : pX) (N d : Nat) (v0 : Int32) (h : pH) (q : Int32 × pH) (hf : fX7_opOf N v0 h = some q) : Calls X (d + 0) 93 [.int v0] h (some (.int q.1), q.2, 0, 0) := by
  refine Calls.of M93 (Nat.le_of_ble_eq_true rfl) ?_
  show Run X (d + 0) 7 false (pCd 4145) 1 (some .int) 0 [(0, .int v0)] [] h 0 0 (some (.int q.1), q.2, 0, 0)
  unfold fX7_opOf at hf
  refine r_iload_n (dGet dX7_opOf (j := 0) rfl) rfl ?_
  by_cases c1 : v0 = 42
  · rw [if_pos c1] at hf
    refine r_lookup (off := 115) (dGet dX7_opOf (j := 1) rfl) (by rw [c1]; decide) rfl ?_
    refine r_bipush (dGet dX7_opOf (j := 18) rfl) kB_19 ?_
    cases hf
    exact r_iret (dGet dX7_opOf (j := 19) rfl) rfl rfl
  rw [if_neg c1] at hf
  by_cases c2 : v0 = 43
  · rw [if_pos c2] at hf
    refine r_lookup (off := 109) (dGet dX7_opOf (j := 1) rfl) (by rw [c2]; decide) rfl ?_
    refine r_bipush (dGet dX7_opOf (j := 14) rfl) kB_22 ?_
    cases hf
    exact r_iret (dGet dX7_opOf (j := 15) rfl) rfl rfl
  rw [if_neg c2] at hf
  by_cases c3 : v0 = 45
  · rw [if_pos c3] at hf
    refine r_lookup (off := 112) (dGet dX7_opOf (j := 1) rfl) (by rw [c3]; decide) rfl ?_
    refine r_bipush (dGet dX7_opOf (j := 16) rfl) kB_23 ?_
    cases hf
    exact r_iret (dGet dX7_opOf (j := 17) rfl) rfl rfl
  rw [if_neg c3] at hf
  by_cases c4 : v0 = 47
  · rw [if_pos c4] at hf
    refine r_lookup (off := 118) (dGet dX7_opOf (j := 1) rfl) (by rw [c4]; decide) rfl ?_
    refine r_bipush (dGet dX7_opOf (j := 20) rfl) kB_20 ?_
    cases hf
    exact r_iret (dGet dX7_opOf (j := 21) rfl) rfl rfl
  rw [if_neg c4] at hf
  by_cases c5 : v0 = 60
  · rw [if_pos c5] at hf
    refine r_lookup (off := 103) (dGet dX7_opOf (j := 1) rfl) (by rw [c5]; decide) rfl ?_
    refine r_bipush (dGet dX7_opOf (j := 10) rfl) kB_24 ?_
    cases hf
    exact r_iret (dGet dX7_opOf (j := 11) rfl) rfl rfl
  rw [if_neg c5] at hf
  by_cases c6 : v0 = 128
  · rw [if_pos c6] at hf
    refine r_lookup (off := 97) (dGet dX7_opOf (j := 1) rfl) (by rw [c6]; decide) rfl ?_
    refine r_bipush (dGet dX7_opOf (j := 6) rfl) kB_26 ?_
    cases hf
    exact r_iret (dGet dX7_opOf (j := 7) rfl) rfl rfl
  rw [if_neg c6] at hf
  by_cases c7 : v0 = 129
  · rw [if_pos c7] at hf
    refine r_lookup (off := 100) (dGet dX7_opOf (j := 1) rfl) (by rw [c7]; decide) rfl ?_
    refine r_bipush (dGet dX7_opOf (j := 8) rfl) kB_27 ?_
    cases hf
    exact r_iret (dGet dX7_opOf (j := 9) rfl) rfl rfl
  rw [if_neg c7] at hf
  by_cases c8 : v0 = 130
  · rw [if_pos c8] at hf
    refine r_lookup (off := 106) (dGet dX7_opOf (j := 1) rfl) (by rw [c8]; decide) rfl ?_
    refine r_bipush (dGet dX7_opOf (j := 12) rfl) kB_25 ?_
    cases hf
    exact r_iret (dGet dX7_opOf (j := 13) rfl) rfl rfl
  rw [if_neg c8] at hf
  by_cases c9 : v0 = 131
  · rw [if_pos c9] at hf
    refine r_lookup (off := 94) (dGet dX7_opOf (j := 1) rfl) (by rw [c9]; decide) rfl ?_
    refine r_bipush (dGet dX7_opOf (j := 4) rfl) kB_28 ?_
    cases hf
    exact r_iret (dGet dX7_opOf (j := 5) rfl) rfl rfl
  rw [if_neg c9] at hf
  by_cases c10 : v0 = 132
  · rw [if_pos c10] at hf
    refine r_lookup (off := 91) (dGet dX7_opOf (j := 1) rfl) (by rw [c10]; decide) rfl ?_
    refine r_bipush (dGet dX7_opOf (j := 2) rfl) kB_29 ?_
    cases hf
    exact r_iret (dGet dX7_opOf (j := 3) rfl) rfl rfl
  rw [if_neg c10] at hf
  refine r_lookup (dGet dX7_opOf (j := 1) rfl) (pLookup_out (cs := [42, 43, 45, 47, 60, 128, 129, 130, 131, 132]) (by decide) (by decide) (List.forall_mem_cons.mpr ⟨c1, List.forall_mem_cons.mpr ⟨c2, List.forall_mem_cons.mpr ⟨c3, List.forall_mem_cons.mpr ⟨c4, List.forall_mem_cons.mpr ⟨c5, List.forall_mem_cons.mpr ⟨c6, List.forall_mem_cons.mpr ⟨c7, List.forall_mem_cons.mpr ⟨c8, List.forall_mem_cons.mpr ⟨c9, List.forall_mem_cons.mpr ⟨c10, fun _ h => absurd h List.not_mem_nil⟩⟩⟩⟩⟩⟩⟩⟩⟩⟩)) rfl ?_
  refine r_bipush (dGet dX7_opOf (j := 22) rfl) kB_21 ?_
  cases hf
  exact r_iret (dGet dX7_opOf (j := 23) rfl) rfl rfl
def eX7_readSign : List (Nat × Instr × Nat) := [(0, .aload_n 0, 1), (1, .getfield 57, 3), (4, .invokestatic 212, 3), (7, .istore_n 2, 1), (8, .aload_n 0, 1), (9, .getfield 57, 3), (12, .bipush 21, 2), (14, .if_icmp .ne 7, 3), (17, .iconst 1, 1), (18, .goto 4, 3), (21, .iconst 0, 1), (22, .istore_n 3, 1), (23, .aload_n 0, 1), (24, .invokevirtual 60, 3), (27, .iload_n 3, 1), (28, .ifCond .eq 15, 3), (31, .aload_n 0, 1), (32, .bipush 16, 2), (34, .iload_n 1, 1), (35, .aload_n 0, 1), (36, .invokevirtual 51, 3), (39, .invokevirtual 215, 3), (42, .return_, 1), (43, .iconst 0, 1), (44, .istore 4, 2), (46, .iload_n 1, 1), (47, .iconst 1, 1), (48, .if_icmp .eq 8, 3), (51, .iload_n 1, 1), (52, .iconst 2, 1), (53, .if_icmp .ne 15, 3), (56, .aload_n 0, 1), (57, .getfield 21, 3), (60, .iload_n 2, 1), (61, .iconst 0, 1), (62, .iconst 0, 1), (63, .invokevirtual 126, 3), (66, .istore 4, 2), (68, .aload_n 0, 1), (69, .iload_n 2, 1), (70, .iload_n 1, 1), (71, .iload 4, 2), (73, .invokevirtual 215, 3), (76, .aload_n 0, 1), (77, .invokevirtual 193, 3), (80, .return_, 1)]
theorem dX7_readSign : dChk (pCd 4142) eX7_readSign = true := by decide +kernel
def fX7_readSign_68 (N : Nat) (rc : Nat → List Value → pH → Option (Option Value × pH)) (v0 : Nat) (v1 : Int32) (v2 : Int32) (v4 : Int32) (h : pH) : Option (pH) :=
  (fX7_await N v0 v2 v1 v4 h).bind fun h1 =>
  (if isO h1 v0 7 = true then some () else none).bind fun _ =>
  (rcV rc 77 [.ref v0] h1).bind fun h3 =>
  some h3
theorem lX7_readSign_68 (X : pX) (N d : Nat) (rc : Nat → List Value → pH → Option (Option Value × pH)) (hrc : ∀ mn as h q, rc mn as h = some q → Calls X (d + 1) mn as h (q.1, q.2, 0, 0))  (v0 : Nat) (v1 : Int32) (v2 : Int32) (v4 : Int32) (h : pH) (q : pH) (hf : fX7_readSign_68 N rc v0 v1 v2 v4 h = some q) (nv0 : ¬ v0 = 4) : Run X (d + 2) 7 false (pCd 4142) 5 none 68 [(0, .ref v0), (1, .int v1), (2, .int v2), (4, .int v4)] [] h 0 0 (none, q, 0, 0) := by
  unfold fX7_readSign_68 at hf
  refine r_aload_n (dGet dX7_readSign (j := 38) rfl) nv0 rfl ?_
  refine r_iload_n (dGet dX7_readSign (j := 39) rfl) rfl ?_
  refine r_iload_n (dGet dX7_readSign (j := 40) rfl) rfl ?_
  refine r_iload (dGet dX7_readSign (j := 41) rfl) rfl ?_
  obtain ⟨h1, eh1, hf⟩ := Option.bind_eq_some_iff.mp hf
  refine r_virtual (dGet dX7_readSign (j := 42) rfl) L7_215 M78 rfl rfl (Nat.le_of_ble_eq_true rfl) (oX7_await eh1) (cX7_await X N (d + 1) v0 v2 v1 v4 h h1 eh1) ?_
  refine r_aload_n (dGet dX7_readSign (j := 43) rfl) nv0 rfl ?_
  obtain ⟨_, ec2, hf⟩ := Option.bind_eq_some_iff.mp hf
  obtain ⟨h3, eh3, hf⟩ := Option.bind_eq_some_iff.mp hf
  refine r_virtual (dGet dX7_readSign (j := 44) rfl) L7_193 M77 rfl rfl (Nat.le_of_ble_eq_true rfl) (guard_of ec2) (rcV_calls hrc eh3) ?_
  cases hf
  exact r_vret (dGet dX7_readSign (j := 45) rfl) rfl
def fX7_readSign_56 (N : Nat) (rc : Nat → List Value → pH → Option (Option Value × pH)) (v0 : Nat) (v1 : Int32) (v2 : Int32) (h : pH) : Option (pH) :=
  (getR h v0 7 3).bind fun t4 =>
  (fX2_emit N t4 v2 (0 : Int32) (0 : Int32) h).bind fun q5 =>
  fX7_readSign_68 N rc v0 v1 v2 q5.1 q5.2
theorem lX7_readSign_56 (X : pX) (N d : Nat) (rc : Nat → List Value → pH → Option (Option Value × pH)) (hrc : ∀ mn as h q, rc mn as h = some q → Calls X (d + 1) mn as h (q.1, q.2, 0, 0))  (v0 : Nat) (v1 : Int32) (v2 : Int32) (h : pH) (q : pH) (hf : fX7_readSign_56 N rc v0 v1 v2 h = some q) (nv0 : ¬ v0 = 4) : Run X (d + 2) 7 false (pCd 4142) 5 none 56 [(0, .ref v0), (1, .int v1), (2, .int v2)] [] h 0 0 (none, q, 0, 0) := by
  unfold fX7_readSign_56 at hf
  refine r_aload_n (dGet dX7_readSign (j := 31) rfl) nv0 rfl ?_
  obtain ⟨t4, et4, hf⟩ := Option.bind_eq_some_iff.mp hf
  refine r_getR (dGet dX7_readSign (j := 32) rfl) F7_21 et4 ?_
  refine r_iload_n (dGet dX7_readSign (j := 33) rfl) rfl ?_
  refine r_iconst (dGet dX7_readSign (j := 34) rfl) kI_0 ?_
  refine r_iconst (dGet dX7_readSign (j := 35) rfl) kI_0 ?_
  obtain ⟨q5, eq5, hf⟩ := Option.bind_eq_some_iff.mp hf
  refine r_virtual (dGet dX7_readSign (j := 36) rfl) L7_126 M81 rfl rfl (Nat.le_of_ble_eq_true rfl) (oX2_emit eq5) (cX2_emit X N (d + 1) t4 v2 (0 : Int32) (0 : Int32) h q5 eq5) ?_
  refine r_istore (lv' := [(4, .int q5.1), (0, .ref v0), (1, .int v1), (2, .int v2)]) (dGet dX7_readSign (j := 37) rfl) (by decide) rfl ?_
  refine Run.weak [(0, .ref v0), (1, .int v1), (2, .int v2), (4, .int q5.1)] (by simp) (by simp [pNd]) ?_
  exact lX7_readSign_68 X N d rc hrc v0 v1 v2 q5.1 q5.2 q hf nv0
def fX7_readSign_22 (N : Nat) (rc : Nat → List Value → pH → Option (Option Value × pH)) (v0 : Nat) (v1 : Int32) (v2 : Int32) (s0 : Int32) (h : pH) : Option (pH) :=
  (fX7_advance N v0 h).bind fun h6 =>
  if s0 = 0 then (
  if v1 = (1 : Int32) then (
  fX7_readSign_56 N rc v0 v1 v2 h6) else (
  if v1 = (2 : Int32) then (
  fX7_readSign_56 N rc v0 v1 v2 h6) else (
  fX7_readSign_68 N rc v0 v1 v2 (0 : Int32) h6))) else (
  (fX7_takeName N v0 h6).bind fun q10 =>
  (fX7_await N v0 (16 : Int32) v1 q10.1 q10.2).bind fun h11 =>
  some h11)
theorem lX7_readSign_22 (X : pX) (N d : Nat) (rc : Nat → List Value → pH → Option (Option Value × pH)) (hrc : ∀ mn as h q, rc mn as h = some q → Calls X (d + 1) mn as h (q.1, q.2, 0, 0))  (v0 : Nat) (v1 : Int32) (v2 : Int32) (s0 : Int32) (h : pH) (q : pH) (hf : fX7_readSign_22 N rc v0 v1 v2 s0 h = some q) (nv0 : ¬ v0 = 4) : Run X (d + 2) 7 false (pCd 4142) 5 none 22 [(0, .ref v0), (1, .int v1), (2, .int v2)] [.int s0] h 0 0 (none, q, 0, 0) := by
  unfold fX7_readSign_22 at hf
  refine r_istore_n (lv' := [(3, .int s0), (0, .ref v0), (1, .int v1), (2, .int v2)]) (dGet dX7_readSign (j := 11) rfl) (by decide) rfl ?_
  refine r_aload_n (dGet dX7_readSign (j := 12) rfl) nv0 rfl ?_
  obtain ⟨h6, eh6, hf⟩ := Option.bind_eq_some_iff.mp hf
  refine r_virtual (dGet dX7_readSign (j := 13) rfl) L7_60 M60 rfl rfl (Nat.le_of_ble_eq_true rfl) (oX7_advance eh6) (cX7_advance X N (d + 1) v0 h h6 eh6) ?_
  refine r_iload_n (dGet dX7_readSign (j := 14) rfl) rfl ?_
  by_cases c7 : s0 = 0
  · rw [if_pos c7] at hf
    refine r_if_eq_t (dGet dX7_readSign (j := 15) rfl) rfl c7 ?_
    refine r_iconst (dGet dX7_readSign (j := 23) rfl) kI_0 ?_
    refine r_istore (lv' := [(4, .int (0 : Int32)), (3, .int s0), (0, .ref v0), (1, .int v1), (2, .int v2)]) (dGet dX7_readSign (j := 24) rfl) (by decide) rfl ?_
    refine r_iload_n (dGet dX7_readSign (j := 25) rfl) rfl ?_
    refine r_iconst (dGet dX7_readSign (j := 26) rfl) kI_1 ?_
    by_cases c8 : v1 = (1 : Int32)
    · rw [if_pos c8] at hf
      refine r_icmp_eq_t (dGet dX7_readSign (j := 27) rfl) rfl c8 ?_
      refine Run.weak [(0, .ref v0), (1, .int v1), (2, .int v2)] (by simp) (by simp [pNd]) ?_
      exact lX7_readSign_56 X N d rc hrc v0 v1 v2 h6 q hf nv0
    · rw [if_neg c8] at hf
      refine r_icmp_eq_f (dGet dX7_readSign (j := 27) rfl) rfl c8 ?_
      refine r_iload_n (dGet dX7_readSign (j := 28) rfl) rfl ?_
      refine r_iconst (dGet dX7_readSign (j := 29) rfl) kI_2 ?_
      by_cases c9 : v1 = (2 : Int32)
      · rw [if_pos c9] at hf
        refine r_icmp_ne_f (dGet dX7_readSign (j := 30) rfl) rfl c9 ?_
        refine Run.weak [(0, .ref v0), (1, .int v1), (2, .int v2)] (by simp) (by simp [pNd]) ?_
        exact lX7_readSign_56 X N d rc hrc v0 v1 v2 h6 q hf nv0
      · rw [if_neg c9] at hf
        refine r_icmp_ne_t (dGet dX7_readSign (j := 30) rfl) rfl c9 ?_
        refine Run.weak [(0, .ref v0), (1, .int v1), (2, .int v2), (4, .int (0 : Int32))] (by simp) (by simp [pNd]) ?_
        exact lX7_readSign_68 X N d rc hrc v0 v1 v2 (0 : Int32) h6 q hf nv0
  · rw [if_neg c7] at hf
    refine r_if_eq_f (dGet dX7_readSign (j := 15) rfl) rfl c7 ?_
    refine r_aload_n (dGet dX7_readSign (j := 16) rfl) nv0 rfl ?_
    refine r_bipush (dGet dX7_readSign (j := 17) rfl) kB_16 ?_
    refine r_iload_n (dGet dX7_readSign (j := 18) rfl) rfl ?_
    refine r_aload_n (dGet dX7_readSign (j := 19) rfl) nv0 rfl ?_
    obtain ⟨q10, eq10, hf⟩ := Option.bind_eq_some_iff.mp hf
    refine r_virtual (dGet dX7_readSign (j := 20) rfl) L7_51 M62 rfl rfl (Nat.le_of_ble_eq_true rfl) (oX7_takeName eq10) (cX7_takeName X N (d + 0) v0 h6 q10 eq10) ?_
    obtain ⟨h11, eh11, hf⟩ := Option.bind_eq_some_iff.mp hf
    refine r_virtual (dGet dX7_readSign (j := 21) rfl) L7_215 M78 rfl rfl (Nat.le_of_ble_eq_true rfl) (oX7_await eh11) (cX7_await X N (d + 1) v0 (16 : Int32) v1 q10.1 q10.2 h11 eh11) ?_
    cases hf
    exact r_vret (dGet dX7_readSign (j := 22) rfl) rfl
def fX7_readSign (N : Nat) (rc : Nat → List Value → pH → Option (Option Value × pH)) (v0 : Nat) (v1 : Int32) (h : pH) : Option (pH) := if isO h v0 7 = true then (
  (getI h v0 7 9).bind fun t12 =>
  (fX7_opOf N t12 h).bind fun q13 =>
  (getI q13.2 v0 7 9).bind fun t14 =>
  if t14 = (21 : Int32) then (
  fX7_readSign_22 N rc v0 v1 q13.1 (1 : Int32) q13.2) else (
  fX7_readSign_22 N rc v0 v1 q13.1 (0 : Int32) q13.2)) else none
theorem oX7_readSign {N : Nat} {rc : Nat → List Value → pH → Option (Option Value × pH)} {v0 : Nat} {v1 : Int32} {h : pH} {q : pH} (hf : fX7_readSign N rc v0 v1 h = some q) : isO h v0 7 = true := by
  unfold fX7_readSign at hf
  by_cases hc : isO h v0 7 = true
  · exact hc
  · rw [if_neg hc] at hf; cases hf
theorem cX7_readSign (X : pX) (N d : Nat) (rc : Nat → List Value → pH → Option (Option Value × pH)) (hrc : ∀ mn as h q, rc mn as h = some q → Calls X (d + 1) mn as h (q.1, q.2, 0, 0)) (v0 : Nat) (v1 : Int32) (h : pH) (q : pH) (hf : fX7_readSign N rc v0 v1 h = some q) : Calls X (d + 2) 92 [.ref v0, .int v1] h (none, q, 0, 0) := by
  refine Calls.of M92 (Nat.le_of_ble_eq_true rfl) ?_
  show Run X (d + 2) 7 false (pCd 4142) 5 none 0 [(0, .ref v0), (1, .int v1)] [] h 0 0 (none, q, 0, 0)
  unfold fX7_readSign at hf
  by_cases hc : isO h v0 7 = true
  · rw [if_pos hc] at hf
    have nv0 : ¬ v0 = 4 := isO_ne hc
    refine r_aload_n (dGet dX7_readSign (j := 0) rfl) nv0 rfl ?_
    obtain ⟨t12, et12, hf⟩ := Option.bind_eq_some_iff.mp hf
    refine r_getI (dGet dX7_readSign (j := 1) rfl) F7_57 et12 ?_
    obtain ⟨q13, eq13, hf⟩ := Option.bind_eq_some_iff.mp hf
    refine r_static (dGet dX7_readSign (j := 2) rfl) (by decide +kernel) (by decide +kernel) L7_212 M93 rfl rfl (Nat.le_of_ble_eq_true rfl) (cX7_opOf X N (d + 1) t12 h q13 eq13) ?_
    refine r_istore_n (lv' := [(2, .int q13.1), (0, .ref v0), (1, .int v1)]) (dGet dX7_readSign (j := 3) rfl) (by decide) rfl ?_
    refine r_aload_n (dGet dX7_readSign (j := 4) rfl) nv0 rfl ?_
    obtain ⟨t14, et14, hf⟩ := Option.bind_eq_some_iff.mp hf
    refine r_getI (dGet dX7_readSign (j := 5) rfl) F7_57 et14 ?_
    refine r_bipush (dGet dX7_readSign (j := 6) rfl) kB_21 ?_
    by_cases c15 : t14 = (21 : Int32)
    · rw [if_pos c15] at hf
      refine r_icmp_ne_f (dGet dX7_readSign (j := 7) rfl) rfl c15 ?_
      refine r_iconst (dGet dX7_readSign (j := 8) rfl) kI_1 ?_
      refine r_goto (dGet dX7_readSign (j := 9) rfl) rfl ?_
      refine Run.weak [(0, .ref v0), (1, .int v1), (2, .int q13.1)] (by simp) (by simp [pNd]) ?_
      exact lX7_readSign_22 X N d rc hrc v0 v1 q13.1 (1 : Int32) q13.2 q hf nv0
    · rw [if_neg c15] at hf
      refine r_icmp_ne_t (dGet dX7_readSign (j := 7) rfl) rfl c15 ?_
      refine r_iconst (dGet dX7_readSign (j := 10) rfl) kI_0 ?_
      refine Run.weak [(0, .ref v0), (1, .int v1), (2, .int q13.1)] (by simp) (by simp [pNd]) ?_
      exact lX7_readSign_22 X N d rc hrc v0 v1 q13.1 (0 : Int32) q13.2 q hf nv0
  · rw [if_neg hc] at hf; cases hf
def eX7_readNew : List (Nat × Instr × Nat) := [(0, .aload_n 0, 1), (1, .invokevirtual 60, 3), (4, .aload_n 0, 1), (5, .getfield 57, 3), (8, .iconst 4, 1), (9, .if_icmp .ne 26, 3), (12, .aload_n 0, 1), (13, .invokevirtual 60, 3), (16, .aload_n 0, 1), (17, .invokevirtual 229, 3), (20, .aload_n 0, 1), (21, .getfield 21, 3), (24, .bipush 14, 2), (26, .iconst 0, 1), (27, .iconst 0, 1), (28, .invokevirtual 126, 3), (31, .pop, 1), (32, .goto 18, 3), (35, .aload_n 0, 1), (36, .getfield 21, 3), (39, .bipush 13, 2), (41, .aload_n 0, 1), (42, .invokevirtual 51, 3), (45, .iconst 0, 1), (46, .invokevirtual 126, 3), (49, .pop, 1), (50, .return_, 1)]
theorem dX7_readNew : dChk (pCd 4113) eX7_readNew = true := by decide +kernel
def fX7_readNew (N : Nat) (rc : Nat → List Value → pH → Option (Option Value × pH)) (v0 : Nat) (h : pH) : Option (pH) := if isO h v0 7 = true then (
  (fX7_advance N v0 h).bind fun h1 =>
  (getI h1 v0 7 9).bind fun t2 =>
  if t2 = (4 : Int32) then (
  (fX7_advance N v0 h1).bind fun h7 =>
  (if isO h7 v0 7 = true then some () else none).bind fun _ =>
  (rcV rc 85 [.ref v0] h7).bind fun h9 =>
  (getR h9 v0 7 3).bind fun t10 =>
  (fX2_emit N t10 (14 : Int32) (0 : Int32) (0 : Int32) h9).bind fun q11 =>
  some q11.2) else (
  (getR h1 v0 7 3).bind fun t4 =>
  (fX7_takeName N v0 h1).bind fun q5 =>
  (fX2_emit N t4 (13 : Int32) q5.1 (0 : Int32) q5.2).bind fun q6 =>
  some q6.2)) else none
theorem oX7_readNew {N : Nat} {rc : Nat → List Value → pH → Option (Option Value × pH)} {v0 : Nat} {h : pH} {q : pH} (hf : fX7_readNew N rc v0 h = some q) : isO h v0 7 = true := by
  unfold fX7_readNew at hf
  by_cases hc : isO h v0 7 = true
  · exact hc
  · rw [if_neg hc] at hf; cases hf
theorem cX7_readNew (X : pX) (N d : Nat) (rc : Nat → List Value → pH → Option (Option Value × pH)) (hrc : ∀ mn as h q, rc mn as h = some q → Calls X (d + 1) mn as h (q.1, q.2, 0, 0)) (v0 : Nat) (h : pH) (q : pH) (hf : fX7_readNew N rc v0 h = some q) : Calls X (d + 2) 84 [.ref v0] h (none, q, 0, 0) := by
  refine Calls.of M84 (Nat.le_of_ble_eq_true rfl) ?_
  show Run X (d + 2) 7 false (pCd 4113) 1 none 0 [(0, .ref v0)] [] h 0 0 (none, q, 0, 0)
  unfold fX7_readNew at hf
  by_cases hc : isO h v0 7 = true
  · rw [if_pos hc] at hf
    have nv0 : ¬ v0 = 4 := isO_ne hc
    refine r_aload_n (dGet dX7_readNew (j := 0) rfl) nv0 rfl ?_
    obtain ⟨h1, eh1, hf⟩ := Option.bind_eq_some_iff.mp hf
    refine r_virtual (dGet dX7_readNew (j := 1) rfl) L7_60 M60 rfl rfl (Nat.le_of_ble_eq_true rfl) (oX7_advance eh1) (cX7_advance X N (d + 1) v0 h h1 eh1) ?_
    refine r_aload_n (dGet dX7_readNew (j := 2) rfl) nv0 rfl ?_
    obtain ⟨t2, et2, hf⟩ := Option.bind_eq_some_iff.mp hf
    refine r_getI (dGet dX7_readNew (j := 3) rfl) F7_57 et2 ?_
    refine r_iconst (dGet dX7_readNew (j := 4) rfl) kI_4 ?_
    by_cases c3 : t2 = (4 : Int32)
    · rw [if_pos c3] at hf
      refine r_icmp_ne_f (dGet dX7_readNew (j := 5) rfl) rfl c3 ?_
      refine r_aload_n (dGet dX7_readNew (j := 6) rfl) nv0 rfl ?_
      obtain ⟨h7, eh7, hf⟩ := Option.bind_eq_some_iff.mp hf
      refine r_virtual (dGet dX7_readNew (j := 7) rfl) L7_60 M60 rfl rfl (Nat.le_of_ble_eq_true rfl) (oX7_advance eh7) (cX7_advance X N (d + 1) v0 h1 h7 eh7) ?_
      refine r_aload_n (dGet dX7_readNew (j := 8) rfl) nv0 rfl ?_
      obtain ⟨_, ec8, hf⟩ := Option.bind_eq_some_iff.mp hf
      obtain ⟨h9, eh9, hf⟩ := Option.bind_eq_some_iff.mp hf
      refine r_virtual (dGet dX7_readNew (j := 9) rfl) L7_229 M85 rfl rfl (Nat.le_of_ble_eq_true rfl) (guard_of ec8) (rcV_calls hrc eh9) ?_
      refine r_aload_n (dGet dX7_readNew (j := 10) rfl) nv0 rfl ?_
      obtain ⟨t10, et10, hf⟩ := Option.bind_eq_some_iff.mp hf
      refine r_getR (dGet dX7_readNew (j := 11) rfl) F7_21 et10 ?_
      refine r_bipush (dGet dX7_readNew (j := 12) rfl) kB_14 ?_
      refine r_iconst (dGet dX7_readNew (j := 13) rfl) kI_0 ?_
      refine r_iconst (dGet dX7_readNew (j := 14) rfl) kI_0 ?_
      obtain ⟨q11, eq11, hf⟩ := Option.bind_eq_some_iff.mp hf
      refine r_virtual (dGet dX7_readNew (j := 15) rfl) L7_126 M81 rfl rfl (Nat.le_of_ble_eq_true rfl) (oX2_emit eq11) (cX2_emit X N (d + 1) t10 (14 : Int32) (0 : Int32) (0 : Int32) h9 q11 eq11) ?_
      refine r_pop (dGet dX7_readNew (j := 16) rfl) rfl ?_
      refine r_goto (dGet dX7_readNew (j := 17) rfl) rfl ?_
      cases hf
      exact r_vret (dGet dX7_readNew (j := 26) rfl) rfl
    · rw [if_neg c3] at hf
      refine r_icmp_ne_t (dGet dX7_readNew (j := 5) rfl) rfl c3 ?_
      refine r_aload_n (dGet dX7_readNew (j := 18) rfl) nv0 rfl ?_
      obtain ⟨t4, et4, hf⟩ := Option.bind_eq_some_iff.mp hf
      refine r_getR (dGet dX7_readNew (j := 19) rfl) F7_21 et4 ?_
      refine r_bipush (dGet dX7_readNew (j := 20) rfl) kB_13 ?_
      refine r_aload_n (dGet dX7_readNew (j := 21) rfl) nv0 rfl ?_
      obtain ⟨q5, eq5, hf⟩ := Option.bind_eq_some_iff.mp hf
      refine r_virtual (dGet dX7_readNew (j := 22) rfl) L7_51 M62 rfl rfl (Nat.le_of_ble_eq_true rfl) (oX7_takeName eq5) (cX7_takeName X N (d + 0) v0 h1 q5 eq5) ?_
      refine r_iconst (dGet dX7_readNew (j := 23) rfl) kI_0 ?_
      obtain ⟨q6, eq6, hf⟩ := Option.bind_eq_some_iff.mp hf
      refine r_virtual (dGet dX7_readNew (j := 24) rfl) L7_126 M81 rfl rfl (Nat.le_of_ble_eq_true rfl) (oX2_emit eq6) (cX2_emit X N (d + 1) t4 (13 : Int32) q5.1 (0 : Int32) q5.2 q6 eq6) ?_
      refine r_pop (dGet dX7_readNew (j := 25) rfl) rfl ?_
      cases hf
      exact r_vret (dGet dX7_readNew (j := 26) rfl) rfl
  · rw [if_neg hc] at hf; cases hf
def eX7_readNamed : List (Nat × Instr × Nat) := [(0, .aload_n 0, 1), (1, .invokevirtual 51, 3), (4, .istore_n 1, 1), (5, .aload_n 0, 1), (6, .getfield 57, 3), (9, .bipush 40, 2), (11, .if_icmp .eq 16, 3), (14, .aload_n 0, 1), (15, .getfield 21, 3), (18, .bipush 6, 2), (20, .iload_n 1, 1), (21, .iconst 0, 1), (22, .invokevirtual 126, 3), (25, .pop, 1), (26, .return_, 1), (27, .aload_n 0, 1), (28, .getfield 21, 3), (31, .bipush 50, 2), (33, .iconst 0, 1), (34, .iconst 0, 1), (35, .invokevirtual 126, 3), (38, .pop, 1), (39, .aload_n 0, 1), (40, .invokevirtual 232, 3), (43, .istore_n 2, 1), (44, .aload_n 0, 1), (45, .getfield 21, 3), (48, .bipush 30, 2), (50, .iload_n 1, 1), (51, .iload_n 2, 1), (52, .invokevirtual 126, 3), (55, .pop, 1), (56, .return_, 1)]
theorem dX7_readNamed : dChk (pCd 4105) eX7_readNamed = true := by decide +kernel
def fX7_readNamed (N : Nat) (rc : Nat → List Value → pH → Option (Option Value × pH)) (v0 : Nat) (h : pH) : Option (pH) := if isO h v0 7 = true then (
  (fX7_takeName N v0 h).bind fun q1 =>
  (getI q1.2 v0 7 9).bind fun t2 =>
  if t2 = (40 : Int32) then (
  (getR q1.2 v0 7 3).bind fun t4 =>
  (fX2_emit N t4 (50 : Int32) (0 : Int32) (0 : Int32) q1.2).bind fun q5 =>
  (if isO q5.2 v0 7 = true then some () else none).bind fun _ =>
  (rcI rc 83 [.ref v0] q5.2).bind fun q7 =>
  (getR q7.2 v0 7 3).bind fun t8 =>
  (fX2_emit N t8 (30 : Int32) q1.1 q7.1 q7.2).bind fun q9 =>
  some q9.2) else (
  (getR q1.2 v0 7 3).bind fun t10 =>
  (fX2_emit N t10 (6 : Int32) q1.1 (0 : Int32) q1.2).bind fun q11 =>
  some q11.2)) else none
theorem oX7_readNamed {N : Nat} {rc : Nat → List Value → pH → Option (Option Value × pH)} {v0 : Nat} {h : pH} {q : pH} (hf : fX7_readNamed N rc v0 h = some q) : isO h v0 7 = true := by
  unfold fX7_readNamed at hf
  by_cases hc : isO h v0 7 = true
  · exact hc
  · rw [if_neg hc] at hf; cases hf
theorem cX7_readNamed (X : pX) (N d : Nat) (rc : Nat → List Value → pH → Option (Option Value × pH)) (hrc : ∀ mn as h q, rc mn as h = some q → Calls X (d + 1) mn as h (q.1, q.2, 0, 0)) (v0 : Nat) (h : pH) (q : pH) (hf : fX7_readNamed N rc v0 h = some q) : Calls X (d + 2) 82 [.ref v0] h (none, q, 0, 0) := by
  refine Calls.of M82 (Nat.le_of_ble_eq_true rfl) ?_
  show Run X (d + 2) 7 false (pCd 4105) 3 none 0 [(0, .ref v0)] [] h 0 0 (none, q, 0, 0)
  unfold fX7_readNamed at hf
  by_cases hc : isO h v0 7 = true
  · rw [if_pos hc] at hf
    have nv0 : ¬ v0 = 4 := isO_ne hc
    refine r_aload_n (dGet dX7_readNamed (j := 0) rfl) nv0 rfl ?_
    obtain ⟨q1, eq1, hf⟩ := Option.bind_eq_some_iff.mp hf
    refine r_virtual (dGet dX7_readNamed (j := 1) rfl) L7_51 M62 rfl rfl (Nat.le_of_ble_eq_true rfl) (oX7_takeName eq1) (cX7_takeName X N (d + 0) v0 h q1 eq1) ?_
    refine r_istore_n (lv' := [(1, .int q1.1), (0, .ref v0)]) (dGet dX7_readNamed (j := 2) rfl) (by decide) rfl ?_
    refine r_aload_n (dGet dX7_readNamed (j := 3) rfl) nv0 rfl ?_
    obtain ⟨t2, et2, hf⟩ := Option.bind_eq_some_iff.mp hf
    refine r_getI (dGet dX7_readNamed (j := 4) rfl) F7_57 et2 ?_
    refine r_bipush (dGet dX7_readNamed (j := 5) rfl) kB_40 ?_
    by_cases c3 : t2 = (40 : Int32)
    · rw [if_pos c3] at hf
      refine r_icmp_eq_t (dGet dX7_readNamed (j := 6) rfl) rfl c3 ?_
      refine r_aload_n (dGet dX7_readNamed (j := 15) rfl) nv0 rfl ?_
      obtain ⟨t4, et4, hf⟩ := Option.bind_eq_some_iff.mp hf
      refine r_getR (dGet dX7_readNamed (j := 16) rfl) F7_21 et4 ?_
      refine r_bipush (dGet dX7_readNamed (j := 17) rfl) kB_50 ?_
      refine r_iconst (dGet dX7_readNamed (j := 18) rfl) kI_0 ?_
      refine r_iconst (dGet dX7_readNamed (j := 19) rfl) kI_0 ?_
      obtain ⟨q5, eq5, hf⟩ := Option.bind_eq_some_iff.mp hf
      refine r_virtual (dGet dX7_readNamed (j := 20) rfl) L7_126 M81 rfl rfl (Nat.le_of_ble_eq_true rfl) (oX2_emit eq5) (cX2_emit X N (d + 1) t4 (50 : Int32) (0 : Int32) (0 : Int32) q1.2 q5 eq5) ?_
      refine r_pop (dGet dX7_readNamed (j := 21) rfl) rfl ?_
      refine r_aload_n (dGet dX7_readNamed (j := 22) rfl) nv0 rfl ?_
      obtain ⟨_, ec6, hf⟩ := Option.bind_eq_some_iff.mp hf
      obtain ⟨q7, eq7, hf⟩ := Option.bind_eq_some_iff.mp hf
      refine r_virtual (dGet dX7_readNamed (j := 23) rfl) L7_232 M83 rfl rfl (Nat.le_of_ble_eq_true rfl) (guard_of ec6) (rcI_calls hrc eq7) ?_
      refine r_istore_n (lv' := [(2, .int q7.1), (1, .int q1.1), (0, .ref v0)]) (dGet dX7_readNamed (j := 24) rfl) (by decide) rfl ?_
      refine r_aload_n (dGet dX7_readNamed (j := 25) rfl) nv0 rfl ?_
      obtain ⟨t8, et8, hf⟩ := Option.bind_eq_some_iff.mp hf
      refine r_getR (dGet dX7_readNamed (j := 26) rfl) F7_21 et8 ?_
      refine r_bipush (dGet dX7_readNamed (j := 27) rfl) kB_30 ?_
      refine r_iload_n (dGet dX7_readNamed (j := 28) rfl) rfl ?_
      refine r_iload_n (dGet dX7_readNamed (j := 29) rfl) rfl ?_
      obtain ⟨q9, eq9, hf⟩ := Option.bind_eq_some_iff.mp hf
      refine r_virtual (dGet dX7_readNamed (j := 30) rfl) L7_126 M81 rfl rfl (Nat.le_of_ble_eq_true rfl) (oX2_emit eq9) (cX2_emit X N (d + 1) t8 (30 : Int32) q1.1 q7.1 q7.2 q9 eq9) ?_
      refine r_pop (dGet dX7_readNamed (j := 31) rfl) rfl ?_
      cases hf
      exact r_vret (dGet dX7_readNamed (j := 32) rfl) rfl
    · rw [if_neg c3] at hf
      refine r_icmp_eq_f (dGet dX7_readNamed (j := 6) rfl) rfl c3 ?_
      refine r_aload_n (dGet dX7_readNamed (j := 7) rfl) nv0 rfl ?_
      obtain ⟨t10, et10, hf⟩ := Option.bind_eq_some_iff.mp hf
      refine r_getR (dGet dX7_readNamed (j := 8) rfl) F7_21 et10 ?_
      refine r_bipush (dGet dX7_readNamed (j := 9) rfl) kB_6 ?_
      refine r_iload_n (dGet dX7_readNamed (j := 10) rfl) rfl ?_
      refine r_iconst (dGet dX7_readNamed (j := 11) rfl) kI_0 ?_
      obtain ⟨q11, eq11, hf⟩ := Option.bind_eq_some_iff.mp hf
      refine r_virtual (dGet dX7_readNamed (j := 12) rfl) L7_126 M81 rfl rfl (Nat.le_of_ble_eq_true rfl) (oX2_emit eq11) (cX2_emit X N (d + 1) t10 (6 : Int32) q1.1 (0 : Int32) q1.2 q11 eq11) ?_
      refine r_pop (dGet dX7_readNamed (j := 13) rfl) rfl ?_
      cases hf
      exact r_vret (dGet dX7_readNamed (j := 14) rfl) rfl
  · rw [if_neg hc] at hf; cases hf
def eX7_readBracketed : List (Nat × Instr × Nat) := [(0, .aload_n 0, 1), (1, .bipush 40, 2), (3, .invokevirtual 104, 3), (6, .aload_n 0, 1), (7, .invokevirtual 168, 3), (10, .aload_n 0, 1), (11, .bipush 41, 2), (13, .invokevirtual 130, 3), (16, .return_, 1)]
theorem dX7_readBracketed : dChk (pCd 4077) eX7_readBracketed = true := by decide +kernel
def fX7_readBracketed (N : Nat) (rc : Nat → List Value → pH → Option (Option Value × pH)) (v0 : Nat) (h : pH) : Option (pH) := if isO h v0 7 = true then (
  (fX7_open N v0 (40 : Int32) h).bind fun h1 =>
  (if isO h1 v0 7 = true then some () else none).bind fun _ =>
  (rcV rc 76 [.ref v0] h1).bind fun h3 =>
  (fX7_close N v0 (41 : Int32) h3).bind fun h4 =>
  some h4) else none
theorem oX7_readBracketed {N : Nat} {rc : Nat → List Value → pH → Option (Option Value × pH)} {v0 : Nat} {h : pH} {q : pH} (hf : fX7_readBracketed N rc v0 h = some q) : isO h v0 7 = true := by
  unfold fX7_readBracketed at hf
  by_cases hc : isO h v0 7 = true
  · exact hc
  · rw [if_neg hc] at hf; cases hf
theorem cX7_readBracketed (X : pX) (N d : Nat) (rc : Nat → List Value → pH → Option (Option Value × pH)) (hrc : ∀ mn as h q, rc mn as h = some q → Calls X (d + 1) mn as h (q.1, q.2, 0, 0)) (v0 : Nat) (h : pH) (q : pH) (hf : fX7_readBracketed N rc v0 h = some q) : Calls X (d + 2) 75 [.ref v0] h (none, q, 0, 0) := by
  refine Calls.of M75 (Nat.le_of_ble_eq_true rfl) ?_
  show Run X (d + 2) 7 false (pCd 4077) 1 none 0 [(0, .ref v0)] [] h 0 0 (none, q, 0, 0)
  unfold fX7_readBracketed at hf
  by_cases hc : isO h v0 7 = true
  · rw [if_pos hc] at hf
    have nv0 : ¬ v0 = 4 := isO_ne hc
    refine r_aload_n (dGet dX7_readBracketed (j := 0) rfl) nv0 rfl ?_
    refine r_bipush (dGet dX7_readBracketed (j := 1) rfl) kB_40 ?_
    obtain ⟨h1, eh1, hf⟩ := Option.bind_eq_some_iff.mp hf
    refine r_virtual (dGet dX7_readBracketed (j := 2) rfl) L7_104 M64 rfl rfl (Nat.le_of_ble_eq_true rfl) (oX7_open eh1) (cX7_open X N (d + 0) v0 (40 : Int32) h h1 eh1) ?_
    refine r_aload_n (dGet dX7_readBracketed (j := 3) rfl) nv0 rfl ?_
    obtain ⟨_, ec2, hf⟩ := Option.bind_eq_some_iff.mp hf
    obtain ⟨h3, eh3, hf⟩ := Option.bind_eq_some_iff.mp hf
    refine r_virtual (dGet dX7_readBracketed (j := 4) rfl) L7_168 M76 rfl rfl (Nat.le_of_ble_eq_true rfl) (guard_of ec2) (rcV_calls hrc eh3) ?_
    refine r_aload_n (dGet dX7_readBracketed (j := 5) rfl) nv0 rfl ?_
    refine r_bipush (dGet dX7_readBracketed (j := 6) rfl) kB_41 ?_
    obtain ⟨h4, eh4, hf⟩ := Option.bind_eq_some_iff.mp hf
    refine r_virtual (dGet dX7_readBracketed (j := 7) rfl) L7_130 M70 rfl rfl (Nat.le_of_ble_eq_true rfl) (oX7_close eh4) (cX7_close X N (d + 0) v0 (41 : Int32) h3 h4 eh4) ?_
    cases hf
    exact r_vret (dGet dX7_readBracketed (j := 8) rfl) rfl
  · rw [if_neg hc] at hf; cases hf
def eX7_readFirst : List (Nat × Instr × Nat) := [(0, .aload_n 0, 1), (1, .getfield 57, 3), (4, .tableswitch 210 14 40 #[196, 162, 144, 153, 171, 180, 210, 210, 189, 124, 210, 210, 210, 210, 210, 210, 210, 210, 210, 210, 210, 210, 210, 210, 210, 210, 203], 124), (128, .aload_n 0, 1), (129, .iconst 1, 1), (130, .aload_n 0, 1), (131, .getfield 7, 3), (134, .getfield 101, 3), (137, .aload_n 0, 1), (138, .getfield 47, 3), (141, .iaload, 1), (142, .invokevirtual 235, 3), (145, .goto 73, 3), (148, .aload_n 0, 1), (149, .iconst 2, 1), (150, .iconst 1, 1), (151, .invokevirtual 235, 3), (154, .goto 64, 3), (157, .aload_n 0, 1), (158, .iconst 2, 1), (159, .iconst 0, 1), (160, .invokevirtual 235, 3), (163, .goto 55, 3), (166, .aload_n 0, 1), (167, .iconst 3, 1), (168, .iconst 0, 1), (169, .invokevirtual 235, 3), (172, .goto 46, 3), (175, .aload_n 0, 1), (176, .iconst 4, 1), (177, .iconst 0, 1), (178, .invokevirtual 235, 3), (181, .goto 37, 3), (184, .aload_n 0, 1), (185, .iconst 5, 1), (186, .iconst 0, 1), (187, .invokevirtual 235, 3), (190, .goto 28, 3), (193, .aload_n 0, 1), (194, .invokevirtual 238, 3), (197, .goto 21, 3), (200, .aload_n 0, 1), (201, .invokevirtual 241, 3), (204, .goto 14, 3), (207, .aload_n 0, 1), (208, .invokevirtual 171, 3), (211, .goto 7, 3), (214, .aload_n 0, 1), (215, .invokevirtual 98, 3), (218, .return_, 1)]
theorem dX7_readFirst : dChk (pCd 4093) eX7_readFirst = true := by decide +kernel
def fX7_readFirst_214 (N : Nat) (rc : Nat → List Value → pH → Option (Option Value × pH)) (v0 : Nat) (h : pH) : Option (pH) :=
  (fX7_fail N v0 h).bind fun h1 =>
  some h1
theorem lX7_readFirst_214 (X : pX) (N d : Nat) (rc : Nat → List Value → pH → Option (Option Value × pH)) (hrc : ∀ mn as h q, rc mn as h = some q → Calls X (d + 1) mn as h (q.1, q.2, 0, 0))  (v0 : Nat) (h : pH) (q : pH) (hf : fX7_readFirst_214 N rc v0 h = some q) (nv0 : ¬ v0 = 4) : Run X (d + 2) 7 false (pCd 4093) 1 none 214 [(0, .ref v0)] [] h 0 0 (none, q, 0, 0) := by
  unfold fX7_readFirst_214 at hf
  refine r_aload_n (dGet dX7_readFirst (j := 47) rfl) nv0 rfl ?_
  obtain ⟨h1, eh1, hf⟩ := Option.bind_eq_some_iff.mp hf
  refine r_virtual (dGet dX7_readFirst (j := 48) rfl) L7_98 M61 rfl rfl (Nat.le_of_ble_eq_true rfl) (oX7_fail eh1) (cX7_fail X N (d + 1) v0 h h1 eh1) ?_
  cases hf
  exact r_vret (dGet dX7_readFirst (j := 49) rfl) rfl
def fX7_readFirst (N : Nat) (rc : Nat → List Value → pH → Option (Option Value × pH)) (v0 : Nat) (h : pH) : Option (pH) := if isO h v0 7 = true then (
  (getI h v0 7 9).bind fun t2 =>
  if t2 = 14 then (
  (if isO h v0 7 = true then some () else none).bind fun _ =>
  (rcV rc 84 [.ref v0] h).bind fun h31 =>
  some h31) else
  if t2 = 15 then (
  (fX7_readSingle N v0 (3 : Int32) (0 : Int32) h).bind fun h32 =>
  some h32) else
  if t2 = 16 then (
  (fX7_readSingle N v0 (2 : Int32) (1 : Int32) h).bind fun h33 =>
  some h33) else
  if t2 = 17 then (
  (fX7_readSingle N v0 (2 : Int32) (0 : Int32) h).bind fun h34 =>
  some h34) else
  if t2 = 18 then (
  (fX7_readSingle N v0 (4 : Int32) (0 : Int32) h).bind fun h35 =>
  some h35) else
  if t2 = 19 then (
  (fX7_readSingle N v0 (5 : Int32) (0 : Int32) h).bind fun h36 =>
  some h36) else
  if t2 = 20 then (
  fX7_readFirst_214 N rc v0 h) else
  if t2 = 21 then (
  fX7_readFirst_214 N rc v0 h) else
  if t2 = 22 then (
  (if isO h v0 7 = true then some () else none).bind fun _ =>
  (rcV rc 82 [.ref v0] h).bind fun h38 =>
  some h38) else
  if t2 = 23 then (
  (getR h v0 7 0).bind fun t39 =>
  (getR h t39 10 1).bind fun t40 =>
  (getI h v0 7 8).bind fun t41 =>
  (ldI h t40 t41).bind fun t42 =>
  (fX7_readSingle N v0 (1 : Int32) t42 h).bind fun h43 =>
  some h43) else
  if t2 = 24 then (
  fX7_readFirst_214 N rc v0 h) else
  if t2 = 25 then (
  fX7_readFirst_214 N rc v0 h) else
  if t2 = 26 then (
  fX7_readFirst_214 N rc v0 h) else
  if t2 = 27 then (
  fX7_readFirst_214 N rc v0 h) else
  if t2 = 28 then (
  fX7_readFirst_214 N rc v0 h) else
  if t2 = 29 then (
  fX7_readFirst_214 N rc v0 h) else
  if t2 = 30 then (
  fX7_readFirst_214 N rc v0 h) else
  if t2 = 31 then (
  fX7_readFirst_214 N rc v0 h) else
  if t2 = 32 then (
  fX7_readFirst_214 N rc v0 h) else
  if t2 = 33 then (
  fX7_readFirst_214 N rc v0 h) else
  if t2 = 34 then (
  fX7_readFirst_214 N rc v0 h) else
  if t2 = 35 then (
  fX7_readFirst_214 N rc v0 h) else
  if t2 = 36 then (
  fX7_readFirst_214 N rc v0 h) else
  if t2 = 37 then (
  fX7_readFirst_214 N rc v0 h) else
  if t2 = 38 then (
  fX7_readFirst_214 N rc v0 h) else
  if t2 = 39 then (
  fX7_readFirst_214 N rc v0 h) else
  if t2 = 40 then (
  (if isO h v0 7 = true then some () else none).bind fun _ =>
  (rcV rc 75 [.ref v0] h).bind fun h45 =>
  some h45) else
  fX7_readFirst_214 N rc v0 h) else none
theorem oX7_readFirst {N : Nat} {rc : Nat → List Value → pH → Option (Option Value × pH)} {v0 : Nat} {h : pH} {q : pH} (hf : fX7_readFirst N rc v0 h = some q) : isO h v0 7 = true := by
  unfold fX7_readFirst at hf
  by_cases hc : isO h v0 7 = true
  · exact hc
  · rw [if_neg hc] at hf; cases hf
theorem cX7_readFirst (X : pX) (N d : Nat) (rc : Nat → List Value → pH → Option (Option Value × pH)) (hrc : ∀ mn as h q, rc mn as h = some q → Calls X (d + 1) mn as h (q.1, q.2, 0, 0)) (v0 : Nat) (h : pH) (q : pH) (hf : fX7_readFirst N rc v0 h = some q) : Calls X (d + 2) 79 [.ref v0] h (none, q, 0, 0) := by
  refine Calls.of M79 (Nat.le_of_ble_eq_true rfl) ?_
  show Run X (d + 2) 7 false (pCd 4093) 1 none 0 [(0, .ref v0)] [] h 0 0 (none, q, 0, 0)
  unfold fX7_readFirst at hf
  by_cases hc : isO h v0 7 = true
  · rw [if_pos hc] at hf
    have nv0 : ¬ v0 = 4 := isO_ne hc
    refine r_aload_n (dGet dX7_readFirst (j := 0) rfl) nv0 rfl ?_
    obtain ⟨t2, et2, hf⟩ := Option.bind_eq_some_iff.mp hf
    refine r_getI (dGet dX7_readFirst (j := 1) rfl) F7_57 et2 ?_
    by_cases c3 : t2 = 14
    · rw [if_pos c3] at hf
      refine r_table (off := 196) (dGet dX7_readFirst (j := 2) rfl) (by rw [c3]; decide) rfl ?_
      refine r_aload_n (dGet dX7_readFirst (j := 41) rfl) nv0 rfl ?_
      obtain ⟨_, ec30, hf⟩ := Option.bind_eq_some_iff.mp hf
      obtain ⟨h31, eh31, hf⟩ := Option.bind_eq_some_iff.mp hf
      refine r_virtual (dGet dX7_readFirst (j := 42) rfl) L7_241 M84 rfl rfl (Nat.le_of_ble_eq_true rfl) (guard_of ec30) (rcV_calls hrc eh31) ?_
      refine r_goto (dGet dX7_readFirst (j := 43) rfl) rfl ?_
      cases hf
      exact r_vret (dGet dX7_readFirst (j := 49) rfl) rfl
    rw [if_neg c3] at hf
    by_cases c4 : t2 = 15
    · rw [if_pos c4] at hf
      refine r_table (off := 162) (dGet dX7_readFirst (j := 2) rfl) (by rw [c4]; decide) rfl ?_
      refine r_aload_n (dGet dX7_readFirst (j := 23) rfl) nv0 rfl ?_
      refine r_iconst (dGet dX7_readFirst (j := 24) rfl) kI_3 ?_
      refine r_iconst (dGet dX7_readFirst (j := 25) rfl) kI_0 ?_
      obtain ⟨h32, eh32, hf⟩ := Option.bind_eq_some_iff.mp hf
      refine r_virtual (dGet dX7_readFirst (j := 26) rfl) L7_235 M80 rfl rfl (Nat.le_of_ble_eq_true rfl) (oX7_readSingle eh32) (cX7_readSingle X N (d + 0) v0 (3 : Int32) (0 : Int32) h h32 eh32) ?_
      refine r_goto (dGet dX7_readFirst (j := 27) rfl) rfl ?_
      cases hf
      exact r_vret (dGet dX7_readFirst (j := 49) rfl) rfl
    rw [if_neg c4] at hf
    by_cases c5 : t2 = 16
    · rw [if_pos c5] at hf
      refine r_table (off := 144) (dGet dX7_readFirst (j := 2) rfl) (by rw [c5]; decide) rfl ?_
      refine r_aload_n (dGet dX7_readFirst (j := 13) rfl) nv0 rfl ?_
      refine r_iconst (dGet dX7_readFirst (j := 14) rfl) kI_2 ?_
      refine r_iconst (dGet dX7_readFirst (j := 15) rfl) kI_1 ?_
      obtain ⟨h33, eh33, hf⟩ := Option.bind_eq_some_iff.mp hf
      refine r_virtual (dGet dX7_readFirst (j := 16) rfl) L7_235 M80 rfl rfl (Nat.le_of_ble_eq_true rfl) (oX7_readSingle eh33) (cX7_readSingle X N (d + 0) v0 (2 : Int32) (1 : Int32) h h33 eh33) ?_
      refine r_goto (dGet dX7_readFirst (j := 17) rfl) rfl ?_
      cases hf
      exact r_vret (dGet dX7_readFirst (j := 49) rfl) rfl
    rw [if_neg c5] at hf
    by_cases c6 : t2 = 17
    · rw [if_pos c6] at hf
      refine r_table (off := 153) (dGet dX7_readFirst (j := 2) rfl) (by rw [c6]; decide) rfl ?_
      refine r_aload_n (dGet dX7_readFirst (j := 18) rfl) nv0 rfl ?_
      refine r_iconst (dGet dX7_readFirst (j := 19) rfl) kI_2 ?_
      refine r_iconst (dGet dX7_readFirst (j := 20) rfl) kI_0 ?_
      obtain ⟨h34, eh34, hf⟩ := Option.bind_eq_some_iff.mp hf
      refine r_virtual (dGet dX7_readFirst (j := 21) rfl) L7_235 M80 rfl rfl (Nat.le_of_ble_eq_true rfl) (oX7_readSingle eh34) (cX7_readSingle X N (d + 0) v0 (2 : Int32) (0 : Int32) h h34 eh34) ?_
      refine r_goto (dGet dX7_readFirst (j := 22) rfl) rfl ?_
      cases hf
      exact r_vret (dGet dX7_readFirst (j := 49) rfl) rfl
    rw [if_neg c6] at hf
    by_cases c7 : t2 = 18
    · rw [if_pos c7] at hf
      refine r_table (off := 171) (dGet dX7_readFirst (j := 2) rfl) (by rw [c7]; decide) rfl ?_
      refine r_aload_n (dGet dX7_readFirst (j := 28) rfl) nv0 rfl ?_
      refine r_iconst (dGet dX7_readFirst (j := 29) rfl) kI_4 ?_
      refine r_iconst (dGet dX7_readFirst (j := 30) rfl) kI_0 ?_
      obtain ⟨h35, eh35, hf⟩ := Option.bind_eq_some_iff.mp hf
      refine r_virtual (dGet dX7_readFirst (j := 31) rfl) L7_235 M80 rfl rfl (Nat.le_of_ble_eq_true rfl) (oX7_readSingle eh35) (cX7_readSingle X N (d + 0) v0 (4 : Int32) (0 : Int32) h h35 eh35) ?_
      refine r_goto (dGet dX7_readFirst (j := 32) rfl) rfl ?_
      cases hf
      exact r_vret (dGet dX7_readFirst (j := 49) rfl) rfl
    rw [if_neg c7] at hf
    by_cases c8 : t2 = 19
    · rw [if_pos c8] at hf
      refine r_table (off := 180) (dGet dX7_readFirst (j := 2) rfl) (by rw [c8]; decide) rfl ?_
      refine r_aload_n (dGet dX7_readFirst (j := 33) rfl) nv0 rfl ?_
      refine r_iconst (dGet dX7_readFirst (j := 34) rfl) kI_5 ?_
      refine r_iconst (dGet dX7_readFirst (j := 35) rfl) kI_0 ?_
      obtain ⟨h36, eh36, hf⟩ := Option.bind_eq_some_iff.mp hf
      refine r_virtual (dGet dX7_readFirst (j := 36) rfl) L7_235 M80 rfl rfl (Nat.le_of_ble_eq_true rfl) (oX7_readSingle eh36) (cX7_readSingle X N (d + 0) v0 (5 : Int32) (0 : Int32) h h36 eh36) ?_
      refine r_goto (dGet dX7_readFirst (j := 37) rfl) rfl ?_
      cases hf
      exact r_vret (dGet dX7_readFirst (j := 49) rfl) rfl
    rw [if_neg c8] at hf
    by_cases c9 : t2 = 20
    · rw [if_pos c9] at hf
      refine r_table (off := 210) (dGet dX7_readFirst (j := 2) rfl) (by rw [c9]; decide) rfl ?_
      exact lX7_readFirst_214 X N d rc hrc v0 h q hf nv0
    rw [if_neg c9] at hf
    by_cases c10 : t2 = 21
    · rw [if_pos c10] at hf
      refine r_table (off := 210) (dGet dX7_readFirst (j := 2) rfl) (by rw [c10]; decide) rfl ?_
      exact lX7_readFirst_214 X N d rc hrc v0 h q hf nv0
    rw [if_neg c10] at hf
    by_cases c11 : t2 = 22
    · rw [if_pos c11] at hf
      refine r_table (off := 189) (dGet dX7_readFirst (j := 2) rfl) (by rw [c11]; decide) rfl ?_
      refine r_aload_n (dGet dX7_readFirst (j := 38) rfl) nv0 rfl ?_
      obtain ⟨_, ec37, hf⟩ := Option.bind_eq_some_iff.mp hf
      obtain ⟨h38, eh38, hf⟩ := Option.bind_eq_some_iff.mp hf
      refine r_virtual (dGet dX7_readFirst (j := 39) rfl) L7_238 M82 rfl rfl (Nat.le_of_ble_eq_true rfl) (guard_of ec37) (rcV_calls hrc eh38) ?_
      refine r_goto (dGet dX7_readFirst (j := 40) rfl) rfl ?_
      cases hf
      exact r_vret (dGet dX7_readFirst (j := 49) rfl) rfl
    rw [if_neg c11] at hf
    by_cases c12 : t2 = 23
    · rw [if_pos c12] at hf
      refine r_table (off := 124) (dGet dX7_readFirst (j := 2) rfl) (by rw [c12]; decide) rfl ?_
      refine r_aload_n (dGet dX7_readFirst (j := 3) rfl) nv0 rfl ?_
      refine r_iconst (dGet dX7_readFirst (j := 4) rfl) kI_1 ?_
      refine r_aload_n (dGet dX7_readFirst (j := 5) rfl) nv0 rfl ?_
      obtain ⟨t39, et39, hf⟩ := Option.bind_eq_some_iff.mp hf
      refine r_getR (dGet dX7_readFirst (j := 6) rfl) F7_7 et39 ?_
      obtain ⟨t40, et40, hf⟩ := Option.bind_eq_some_iff.mp hf
      refine r_getR (dGet dX7_readFirst (j := 7) rfl) F7_101 et40 ?_
      refine r_aload_n (dGet dX7_readFirst (j := 8) rfl) nv0 rfl ?_
      obtain ⟨t41, et41, hf⟩ := Option.bind_eq_some_iff.mp hf
      refine r_getI (dGet dX7_readFirst (j := 9) rfl) F7_47 et41 ?_
      obtain ⟨t42, et42, hf⟩ := Option.bind_eq_some_iff.mp hf
      refine r_iald (dGet dX7_readFirst (j := 10) rfl) et42 ?_
      obtain ⟨h43, eh43, hf⟩ := Option.bind_eq_some_iff.mp hf
      refine r_virtual (dGet dX7_readFirst (j := 11) rfl) L7_235 M80 rfl rfl (Nat.le_of_ble_eq_true rfl) (oX7_readSingle eh43) (cX7_readSingle X N (d + 0) v0 (1 : Int32) t42 h h43 eh43) ?_
      refine r_goto (dGet dX7_readFirst (j := 12) rfl) rfl ?_
      cases hf
      exact r_vret (dGet dX7_readFirst (j := 49) rfl) rfl
    rw [if_neg c12] at hf
    by_cases c13 : t2 = 24
    · rw [if_pos c13] at hf
      refine r_table (off := 210) (dGet dX7_readFirst (j := 2) rfl) (by rw [c13]; decide) rfl ?_
      exact lX7_readFirst_214 X N d rc hrc v0 h q hf nv0
    rw [if_neg c13] at hf
    by_cases c14 : t2 = 25
    · rw [if_pos c14] at hf
      refine r_table (off := 210) (dGet dX7_readFirst (j := 2) rfl) (by rw [c14]; decide) rfl ?_
      exact lX7_readFirst_214 X N d rc hrc v0 h q hf nv0
    rw [if_neg c14] at hf
    by_cases c15 : t2 = 26
    · rw [if_pos c15] at hf
      refine r_table (off := 210) (dGet dX7_readFirst (j := 2) rfl) (by rw [c15]; decide) rfl ?_
      exact lX7_readFirst_214 X N d rc hrc v0 h q hf nv0
    rw [if_neg c15] at hf
    by_cases c16 : t2 = 27
    · rw [if_pos c16] at hf
      refine r_table (off := 210) (dGet dX7_readFirst (j := 2) rfl) (by rw [c16]; decide) rfl ?_
      exact lX7_readFirst_214 X N d rc hrc v0 h q hf nv0
    rw [if_neg c16] at hf
    by_cases c17 : t2 = 28
    · rw [if_pos c17] at hf
      refine r_table (off := 210) (dGet dX7_readFirst (j := 2) rfl) (by rw [c17]; decide) rfl ?_
      exact lX7_readFirst_214 X N d rc hrc v0 h q hf nv0
    rw [if_neg c17] at hf
    by_cases c18 : t2 = 29
    · rw [if_pos c18] at hf
      refine r_table (off := 210) (dGet dX7_readFirst (j := 2) rfl) (by rw [c18]; decide) rfl ?_
      exact lX7_readFirst_214 X N d rc hrc v0 h q hf nv0
    rw [if_neg c18] at hf
    by_cases c19 : t2 = 30
    · rw [if_pos c19] at hf
      refine r_table (off := 210) (dGet dX7_readFirst (j := 2) rfl) (by rw [c19]; decide) rfl ?_
      exact lX7_readFirst_214 X N d rc hrc v0 h q hf nv0
    rw [if_neg c19] at hf
    by_cases c20 : t2 = 31
    · rw [if_pos c20] at hf
      refine r_table (off := 210) (dGet dX7_readFirst (j := 2) rfl) (by rw [c20]; decide) rfl ?_
      exact lX7_readFirst_214 X N d rc hrc v0 h q hf nv0
    rw [if_neg c20] at hf
    by_cases c21 : t2 = 32
    · rw [if_pos c21] at hf
      refine r_table (off := 210) (dGet dX7_readFirst (j := 2) rfl) (by rw [c21]; decide) rfl ?_
      exact lX7_readFirst_214 X N d rc hrc v0 h q hf nv0
    rw [if_neg c21] at hf
    by_cases c22 : t2 = 33
    · rw [if_pos c22] at hf
      refine r_table (off := 210) (dGet dX7_readFirst (j := 2) rfl) (by rw [c22]; decide) rfl ?_
      exact lX7_readFirst_214 X N d rc hrc v0 h q hf nv0
    rw [if_neg c22] at hf
    by_cases c23 : t2 = 34
    · rw [if_pos c23] at hf
      refine r_table (off := 210) (dGet dX7_readFirst (j := 2) rfl) (by rw [c23]; decide) rfl ?_
      exact lX7_readFirst_214 X N d rc hrc v0 h q hf nv0
    rw [if_neg c23] at hf
    by_cases c24 : t2 = 35
    · rw [if_pos c24] at hf
      refine r_table (off := 210) (dGet dX7_readFirst (j := 2) rfl) (by rw [c24]; decide) rfl ?_
      exact lX7_readFirst_214 X N d rc hrc v0 h q hf nv0
    rw [if_neg c24] at hf
    by_cases c25 : t2 = 36
    · rw [if_pos c25] at hf
      refine r_table (off := 210) (dGet dX7_readFirst (j := 2) rfl) (by rw [c25]; decide) rfl ?_
      exact lX7_readFirst_214 X N d rc hrc v0 h q hf nv0
    rw [if_neg c25] at hf
    by_cases c26 : t2 = 37
    · rw [if_pos c26] at hf
      refine r_table (off := 210) (dGet dX7_readFirst (j := 2) rfl) (by rw [c26]; decide) rfl ?_
      exact lX7_readFirst_214 X N d rc hrc v0 h q hf nv0
    rw [if_neg c26] at hf
    by_cases c27 : t2 = 38
    · rw [if_pos c27] at hf
      refine r_table (off := 210) (dGet dX7_readFirst (j := 2) rfl) (by rw [c27]; decide) rfl ?_
      exact lX7_readFirst_214 X N d rc hrc v0 h q hf nv0
    rw [if_neg c27] at hf
    by_cases c28 : t2 = 39
    · rw [if_pos c28] at hf
      refine r_table (off := 210) (dGet dX7_readFirst (j := 2) rfl) (by rw [c28]; decide) rfl ?_
      exact lX7_readFirst_214 X N d rc hrc v0 h q hf nv0
    rw [if_neg c28] at hf
    by_cases c29 : t2 = 40
    · rw [if_pos c29] at hf
      refine r_table (off := 203) (dGet dX7_readFirst (j := 2) rfl) (by rw [c29]; decide) rfl ?_
      refine r_aload_n (dGet dX7_readFirst (j := 44) rfl) nv0 rfl ?_
      obtain ⟨_, ec44, hf⟩ := Option.bind_eq_some_iff.mp hf
      obtain ⟨h45, eh45, hf⟩ := Option.bind_eq_some_iff.mp hf
      refine r_virtual (dGet dX7_readFirst (j := 45) rfl) L7_171 M75 rfl rfl (Nat.le_of_ble_eq_true rfl) (guard_of ec44) (rcV_calls hrc eh45) ?_
      refine r_goto (dGet dX7_readFirst (j := 46) rfl) rfl ?_
      cases hf
      exact r_vret (dGet dX7_readFirst (j := 49) rfl) rfl
    rw [if_neg c29] at hf
    refine r_table (dGet dX7_readFirst (j := 2) rfl) (pTable_out (cs := [14, 15, 16, 17, 18, 19, 20, 21, 22, 23, 24, 25, 26, 27, 28, 29, 30, 31, 32, 33, 34, 35, 36, 37, 38, 39, 40]) (by decide) (by decide) (by decide) (List.forall_mem_cons.mpr ⟨c3, List.forall_mem_cons.mpr ⟨c4, List.forall_mem_cons.mpr ⟨c5, List.forall_mem_cons.mpr ⟨c6, List.forall_mem_cons.mpr ⟨c7, List.forall_mem_cons.mpr ⟨c8, List.forall_mem_cons.mpr ⟨c9, List.forall_mem_cons.mpr ⟨c10, List.forall_mem_cons.mpr ⟨c11, List.forall_mem_cons.mpr ⟨c12, List.forall_mem_cons.mpr ⟨c13, List.forall_mem_cons.mpr ⟨c14, List.forall_mem_cons.mpr ⟨c15, List.forall_mem_cons.mpr ⟨c16, List.forall_mem_cons.mpr ⟨c17, List.forall_mem_cons.mpr ⟨c18, List.forall_mem_cons.mpr ⟨c19, List.forall_mem_cons.mpr ⟨c20, List.forall_mem_cons.mpr ⟨c21, List.forall_mem_cons.mpr ⟨c22, List.forall_mem_cons.mpr ⟨c23, List.forall_mem_cons.mpr ⟨c24, List.forall_mem_cons.mpr ⟨c25, List.forall_mem_cons.mpr ⟨c26, List.forall_mem_cons.mpr ⟨c27, List.forall_mem_cons.mpr ⟨c28, List.forall_mem_cons.mpr ⟨c29, fun _ h => absurd h List.not_mem_nil⟩⟩⟩⟩⟩⟩⟩⟩⟩⟩⟩⟩⟩⟩⟩⟩⟩⟩⟩⟩⟩⟩⟩⟩⟩⟩⟩)) rfl ?_
    exact lX7_readFirst_214 X N d rc hrc v0 h q hf nv0
  · rw [if_neg hc] at hf; cases hf
def eX7_readIndex : List (Nat × Instr × Nat) := [(0, .aload_n 0, 1), (1, .bipush 91, 2), (3, .invokevirtual 104, 3), (6, .aload_n 0, 1), (7, .invokevirtual 168, 3), (10, .aload_n 0, 1), (11, .bipush 93, 2), (13, .invokevirtual 130, 3), (16, .return_, 1)]
theorem dX7_readIndex : dChk (pCd 4117) eX7_readIndex = true := by decide +kernel
def fX7_readIndex (N : Nat) (rc : Nat → List Value → pH → Option (Option Value × pH)) (v0 : Nat) (h : pH) : Option (pH) := if isO h v0 7 = true then (
  (fX7_open N v0 (91 : Int32) h).bind fun h1 =>
  (if isO h1 v0 7 = true then some () else none).bind fun _ =>
  (rcV rc 76 [.ref v0] h1).bind fun h3 =>
  (fX7_close N v0 (93 : Int32) h3).bind fun h4 =>
  some h4) else none
theorem oX7_readIndex {N : Nat} {rc : Nat → List Value → pH → Option (Option Value × pH)} {v0 : Nat} {h : pH} {q : pH} (hf : fX7_readIndex N rc v0 h = some q) : isO h v0 7 = true := by
  unfold fX7_readIndex at hf
  by_cases hc : isO h v0 7 = true
  · exact hc
  · rw [if_neg hc] at hf; cases hf
theorem cX7_readIndex (X : pX) (N d : Nat) (rc : Nat → List Value → pH → Option (Option Value × pH)) (hrc : ∀ mn as h q, rc mn as h = some q → Calls X (d + 1) mn as h (q.1, q.2, 0, 0)) (v0 : Nat) (h : pH) (q : pH) (hf : fX7_readIndex N rc v0 h = some q) : Calls X (d + 2) 85 [.ref v0] h (none, q, 0, 0) := by
  refine Calls.of M85 (Nat.le_of_ble_eq_true rfl) ?_
  show Run X (d + 2) 7 false (pCd 4117) 1 none 0 [(0, .ref v0)] [] h 0 0 (none, q, 0, 0)
  unfold fX7_readIndex at hf
  by_cases hc : isO h v0 7 = true
  · rw [if_pos hc] at hf
    have nv0 : ¬ v0 = 4 := isO_ne hc
    refine r_aload_n (dGet dX7_readIndex (j := 0) rfl) nv0 rfl ?_
    refine r_bipush (dGet dX7_readIndex (j := 1) rfl) kB_91 ?_
    obtain ⟨h1, eh1, hf⟩ := Option.bind_eq_some_iff.mp hf
    refine r_virtual (dGet dX7_readIndex (j := 2) rfl) L7_104 M64 rfl rfl (Nat.le_of_ble_eq_true rfl) (oX7_open eh1) (cX7_open X N (d + 0) v0 (91 : Int32) h h1 eh1) ?_
    refine r_aload_n (dGet dX7_readIndex (j := 3) rfl) nv0 rfl ?_
    obtain ⟨_, ec2, hf⟩ := Option.bind_eq_some_iff.mp hf
    obtain ⟨h3, eh3, hf⟩ := Option.bind_eq_some_iff.mp hf
    refine r_virtual (dGet dX7_readIndex (j := 4) rfl) L7_168 M76 rfl rfl (Nat.le_of_ble_eq_true rfl) (guard_of ec2) (rcV_calls hrc eh3) ?_
    refine r_aload_n (dGet dX7_readIndex (j := 5) rfl) nv0 rfl ?_
    refine r_bipush (dGet dX7_readIndex (j := 6) rfl) kB_93 ?_
    obtain ⟨h4, eh4, hf⟩ := Option.bind_eq_some_iff.mp hf
    refine r_virtual (dGet dX7_readIndex (j := 7) rfl) L7_130 M70 rfl rfl (Nat.le_of_ble_eq_true rfl) (oX7_close eh4) (cX7_close X N (d + 0) v0 (93 : Int32) h3 h4 eh4) ?_
    cases hf
    exact r_vret (dGet dX7_readIndex (j := 8) rfl) rfl
  · rw [if_neg hc] at hf; cases hf
def eX7_readArguments : List (Nat × Instr × Nat) := [(0, .iconst 0, 1), (1, .istore_n 1, 1), (2, .aload_n 0, 1), (3, .bipush 40, 2), (5, .invokevirtual 104, 3), (8, .aload_n 0, 1), (9, .getfield 57, 3), (12, .bipush 41, 2), (14, .if_icmp .eq 45, 3), (17, .aload_n 0, 1), (18, .invokevirtual 168, 3), (21, .iinc 1 1, 3), (24, .iconst 0, 1), (25, .istore_n 2, 1), (26, .iload_n 2, 1), (27, .sipush 3100, 3), (30, .if_icmp .ge 29, 3), (33, .aload_n 0, 1), (34, .getfield 57, 3), (37, .bipush 44, 2), (39, .if_icmp .ne 20, 3), (42, .aload_n 0, 1), (43, .invokevirtual 60, 3), (46, .aload_n 0, 1), (47, .invokevirtual 168, 3), (50, .iinc 1 1, 3), (53, .iinc 2 1, 3), (56, .goto (-30), 3), (59, .aload_n 0, 1), (60, .bipush 41, 2), (62, .invokevirtual 130, 3), (65, .iload_n 1, 1), (66, .ireturn, 1)]
theorem dX7_readArguments : dChk (pCd 4109) eX7_readArguments = true := by decide +kernel
def fX7_readArguments_59 (N : Nat) (rc : Nat → List Value → pH → Option (Option Value × pH)) (v0 : Nat) (v1 : Int32) (h : pH) : Option (Int32 × pH) :=
  (fX7_close N v0 (41 : Int32) h).bind fun h1 =>
  some (v1, h1)
theorem lX7_readArguments_59 (X : pX) (N d : Nat) (rc : Nat → List Value → pH → Option (Option Value × pH)) (hrc : ∀ mn as h q, rc mn as h = some q → Calls X (d + 1) mn as h (q.1, q.2, 0, 0))  (v0 : Nat) (v1 : Int32) (h : pH) (q : Int32 × pH) (hf : fX7_readArguments_59 N rc v0 v1 h = some q) (nv0 : ¬ v0 = 4) : Run X (d + 2) 7 false (pCd 4109) 3 (some .int) 59 [(0, .ref v0), (1, .int v1)] [] h 0 0 (some (.int q.1), q.2, 0, 0) := by
  unfold fX7_readArguments_59 at hf
  refine r_aload_n (dGet dX7_readArguments (j := 28) rfl) nv0 rfl ?_
  refine r_bipush (dGet dX7_readArguments (j := 29) rfl) kB_41 ?_
  obtain ⟨h1, eh1, hf⟩ := Option.bind_eq_some_iff.mp hf
  refine r_virtual (dGet dX7_readArguments (j := 30) rfl) L7_130 M70 rfl rfl (Nat.le_of_ble_eq_true rfl) (oX7_close eh1) (cX7_close X N (d + 0) v0 (41 : Int32) h h1 eh1) ?_
  refine r_iload_n (dGet dX7_readArguments (j := 31) rfl) rfl ?_
  cases hf
  exact r_iret (dGet dX7_readArguments (j := 32) rfl) rfl rfl
def fX7_readArguments_26 (N : Nat) (rc : Nat → List Value → pH → Option (Option Value × pH)) : Nat → Nat → Int32 → Int32 → pH → Option (Int32 × pH)
  | 0, _, _, _, _ => none
  | n + 1, v0, v1, v2, h => if (3100 : Int32) ≤ v2 then (
  fX7_readArguments_59 N rc v0 v1 h) else (
  (getI h v0 7 9).bind fun t3 =>
  if t3 = (44 : Int32) then (
  (fX7_advance N v0 h).bind fun h5 =>
  (if isO h5 v0 7 = true then some () else none).bind fun _ =>
  (rcV rc 76 [.ref v0] h5).bind fun h7 =>
  fX7_readArguments_26 N rc n v0 (v1 + (1 : Int32)) (v2 + (1 : Int32)) h7) else (
  fX7_readArguments_59 N rc v0 v1 h))
theorem lX7_readArguments_26 (X : pX) (N d : Nat) (rc : Nat → List Value → pH → Option (Option Value × pH)) (hrc : ∀ mn as h q, rc mn as h = some q → Calls X (d + 1) mn as h (q.1, q.2, 0, 0))  : ∀ (n : Nat) (v0 : Nat) (v1 : Int32) (v2 : Int32) (h : pH) (q : Int32 × pH), fX7_readArguments_26 N rc n v0 v1 v2 h = some q → ¬ v0 = 4 → Run X (d + 2) 7 false (pCd 4109) 3 (some .int) 26 [(0, .ref v0), (1, .int v1), (2, .int v2)] [] h 0 0 (some (.int q.1), q.2, 0, 0) := by
  intro n
  induction n with
  | zero => intro v0 v1 v2 h q hf; cases hf
  | succ n ih =>
    intro v0 v1 v2 h q hf nv0
    unfold fX7_readArguments_26 at hf
    refine r_iload_n (dGet dX7_readArguments (j := 14) rfl) rfl ?_
    refine r_sipush (dGet dX7_readArguments (j := 15) rfl) kS_3100 ?_
    by_cases c2 : (3100 : Int32) ≤ v2
    · rw [if_pos c2] at hf
      refine r_icmp_ge_t (dGet dX7_readArguments (j := 16) rfl) rfl c2 ?_
      refine Run.weak [(0, .ref v0), (1, .int v1)] (by simp) (by simp [pNd]) ?_
      exact lX7_readArguments_59 X N d rc hrc v0 v1 h q hf nv0
    · rw [if_neg c2] at hf
      refine r_icmp_ge_f (dGet dX7_readArguments (j := 16) rfl) rfl c2 ?_
      refine r_aload_n (dGet dX7_readArguments (j := 17) rfl) nv0 rfl ?_
      obtain ⟨t3, et3, hf⟩ := Option.bind_eq_some_iff.mp hf
      refine r_getI (dGet dX7_readArguments (j := 18) rfl) F7_57 et3 ?_
      refine r_bipush (dGet dX7_readArguments (j := 19) rfl) kB_44 ?_
      by_cases c4 : t3 = (44 : Int32)
      · rw [if_pos c4] at hf
        refine r_icmp_ne_f (dGet dX7_readArguments (j := 20) rfl) rfl c4 ?_
        refine r_aload_n (dGet dX7_readArguments (j := 21) rfl) nv0 rfl ?_
        obtain ⟨h5, eh5, hf⟩ := Option.bind_eq_some_iff.mp hf
        refine r_virtual (dGet dX7_readArguments (j := 22) rfl) L7_60 M60 rfl rfl (Nat.le_of_ble_eq_true rfl) (oX7_advance eh5) (cX7_advance X N (d + 1) v0 h h5 eh5) ?_
        refine r_aload_n (dGet dX7_readArguments (j := 23) rfl) nv0 rfl ?_
        obtain ⟨_, ec6, hf⟩ := Option.bind_eq_some_iff.mp hf
        obtain ⟨h7, eh7, hf⟩ := Option.bind_eq_some_iff.mp hf
        refine r_virtual (dGet dX7_readArguments (j := 24) rfl) L7_168 M76 rfl rfl (Nat.le_of_ble_eq_true rfl) (guard_of ec6) (rcV_calls hrc eh7) ?_
        refine r_iinc (lv' := [(1, .int (v1 + (1 : Int32))), (0, .ref v0), (2, .int v2)]) (dGet dX7_readArguments (j := 25) rfl) rfl (by decide) kI_1 rfl ?_
        refine r_iinc (lv' := [(2, .int (v2 + (1 : Int32))), (1, .int (v1 + (1 : Int32))), (0, .ref v0)]) (dGet dX7_readArguments (j := 26) rfl) rfl (by decide) kI_1 rfl ?_
        refine r_goto (dGet dX7_readArguments (j := 27) rfl) rfl ?_
        refine Run.weak [(0, .ref v0), (1, .int (v1 + (1 : Int32))), (2, .int (v2 + (1 : Int32)))] (by simp) (by simp [pNd]) ?_
        exact ih v0 (v1 + (1 : Int32)) (v2 + (1 : Int32)) h7 q hf nv0
      · rw [if_neg c4] at hf
        refine r_icmp_ne_t (dGet dX7_readArguments (j := 20) rfl) rfl c4 ?_
        refine Run.weak [(0, .ref v0), (1, .int v1)] (by simp) (by simp [pNd]) ?_
        exact lX7_readArguments_59 X N d rc hrc v0 v1 h q hf nv0
def fX7_readArguments (N : Nat) (rc : Nat → List Value → pH → Option (Option Value × pH)) (v0 : Nat) (h : pH) : Option (Int32 × pH) := if isO h v0 7 = true then (
  (fX7_open N v0 (40 : Int32) h).bind fun h8 =>
  (getI h8 v0 7 9).bind fun t9 =>
  if t9 = (41 : Int32) then (
  fX7_readArguments_59 N rc v0 (0 : Int32) h8) else (
  (if isO h8 v0 7 = true then some () else none).bind fun _ =>
  (rcV rc 76 [.ref v0] h8).bind fun h12 =>
  fX7_readArguments_26 N rc N v0 ((0 : Int32) + (1 : Int32)) (0 : Int32) h12)) else none
theorem oX7_readArguments {N : Nat} {rc : Nat → List Value → pH → Option (Option Value × pH)} {v0 : Nat} {h : pH} {q : Int32 × pH} (hf : fX7_readArguments N rc v0 h = some q) : isO h v0 7 = true := by
  unfold fX7_readArguments at hf
  by_cases hc : isO h v0 7 = true
  · exact hc
  · rw [if_neg hc] at hf; cases hf
theorem cX7_readArguments (X : pX) (N d : Nat) (rc : Nat → List Value → pH → Option (Option Value × pH)) (hrc : ∀ mn as h q, rc mn as h = some q → Calls X (d + 1) mn as h (q.1, q.2, 0, 0)) (v0 : Nat) (h : pH) (q : Int32 × pH) (hf : fX7_readArguments N rc v0 h = some q) : Calls X (d + 2) 83 [.ref v0] h (some (.int q.1), q.2, 0, 0) := by
  refine Calls.of M83 (Nat.le_of_ble_eq_true rfl) ?_
  show Run X (d + 2) 7 false (pCd 4109) 3 (some .int) 0 [(0, .ref v0)] [] h 0 0 (some (.int q.1), q.2, 0, 0)
  unfold fX7_readArguments at hf
  by_cases hc : isO h v0 7 = true
  · rw [if_pos hc] at hf
    have nv0 : ¬ v0 = 4 := isO_ne hc
    refine r_iconst (dGet dX7_readArguments (j := 0) rfl) kI_0 ?_
    refine r_istore_n (lv' := [(1, .int (0 : Int32)), (0, .ref v0)]) (dGet dX7_readArguments (j := 1) rfl) (by decide) rfl ?_
    refine r_aload_n (dGet dX7_readArguments (j := 2) rfl) nv0 rfl ?_
    refine r_bipush (dGet dX7_readArguments (j := 3) rfl) kB_40 ?_
    obtain ⟨h8, eh8, hf⟩ := Option.bind_eq_some_iff.mp hf
    refine r_virtual (dGet dX7_readArguments (j := 4) rfl) L7_104 M64 rfl rfl (Nat.le_of_ble_eq_true rfl) (oX7_open eh8) (cX7_open X N (d + 0) v0 (40 : Int32) h h8 eh8) ?_
    refine r_aload_n (dGet dX7_readArguments (j := 5) rfl) nv0 rfl ?_
    obtain ⟨t9, et9, hf⟩ := Option.bind_eq_some_iff.mp hf
    refine r_getI (dGet dX7_readArguments (j := 6) rfl) F7_57 et9 ?_
    refine r_bipush (dGet dX7_readArguments (j := 7) rfl) kB_41 ?_
    by_cases c10 : t9 = (41 : Int32)
    · rw [if_pos c10] at hf
      refine r_icmp_eq_t (dGet dX7_readArguments (j := 8) rfl) rfl c10 ?_
      refine Run.weak [(0, .ref v0), (1, .int (0 : Int32))] (by simp) (by simp [pNd]) ?_
      exact lX7_readArguments_59 X N d rc hrc v0 (0 : Int32) h8 q hf nv0
    · rw [if_neg c10] at hf
      refine r_icmp_eq_f (dGet dX7_readArguments (j := 8) rfl) rfl c10 ?_
      refine r_aload_n (dGet dX7_readArguments (j := 9) rfl) nv0 rfl ?_
      obtain ⟨_, ec11, hf⟩ := Option.bind_eq_some_iff.mp hf
      obtain ⟨h12, eh12, hf⟩ := Option.bind_eq_some_iff.mp hf
      refine r_virtual (dGet dX7_readArguments (j := 10) rfl) L7_168 M76 rfl rfl (Nat.le_of_ble_eq_true rfl) (guard_of ec11) (rcV_calls hrc eh12) ?_
      refine r_iinc (lv' := [(1, .int ((0 : Int32) + (1 : Int32))), (0, .ref v0)]) (dGet dX7_readArguments (j := 11) rfl) rfl (by decide) kI_1 rfl ?_
      refine r_iconst (dGet dX7_readArguments (j := 12) rfl) kI_0 ?_
      refine r_istore_n (lv' := [(2, .int (0 : Int32)), (1, .int ((0 : Int32) + (1 : Int32))), (0, .ref v0)]) (dGet dX7_readArguments (j := 13) rfl) (by decide) rfl ?_
      refine Run.weak [(0, .ref v0), (1, .int ((0 : Int32) + (1 : Int32))), (2, .int (0 : Int32))] (by simp) (by simp [pNd]) ?_
      exact lX7_readArguments_26 X N d rc hrc N v0 ((0 : Int32) + (1 : Int32)) (0 : Int32) h12 q hf nv0
  · rw [if_neg hc] at hf; cases hf
def eX7_readBehind : List (Nat × Instr × Nat) := [(0, .aload_n 0, 1), (1, .getfield 57, 3), (4, .bipush 91, 2), (6, .if_icmp .ne 20, 3), (9, .aload_n 0, 1), (10, .invokevirtual 229, 3), (13, .aload_n 0, 1), (14, .getfield 21, 3), (17, .bipush 12, 2), (19, .iconst 0, 1), (20, .iconst 0, 1), (21, .invokevirtual 126, 3), (24, .pop, 1), (25, .return_, 1), (26, .aload_n 0, 1), (27, .getfield 57, 3), (30, .bipush 20, 2), (32, .if_icmp .ne 7, 3), (35, .iconst 1, 1), (36, .goto 4, 3), (39, .iconst 0, 1), (40, .istore_n 1, 1), (41, .aload_n 0, 1), (42, .invokevirtual 60, 3), (45, .aload_n 0, 1), (46, .invokevirtual 51, 3), (49, .istore_n 2, 1), (50, .iload_n 1, 1), (51, .ifCond .eq 18, 3), (54, .aload_n 0, 1), (55, .getfield 21, 3), (58, .bipush 15, 2), (60, .iload_n 2, 1), (61, .iconst 0, 1), (62, .invokevirtual 126, 3), (65, .pop, 1), (66, .goto 44, 3), (69, .aload_n 0, 1), (70, .getfield 57, 3), (73, .bipush 40, 2), (75, .if_icmp .ne 23, 3), (78, .aload_n 0, 1), (79, .invokevirtual 232, 3), (82, .istore_n 3, 1), (83, .aload_n 0, 1), (84, .getfield 21, 3), (87, .bipush 30, 2), (89, .iload_n 2, 1), (90, .iload_n 3, 1), (91, .invokevirtual 126, 3), (94, .pop, 1), (95, .goto 15, 3), (98, .aload_n 0, 1), (99, .getfield 21, 3), (102, .bipush 9, 2), (104, .iload_n 2, 1), (105, .iconst 0, 1), (106, .invokevirtual 126, 3), (109, .pop, 1), (110, .return_, 1)]
theorem dX7_readBehind : dChk (pCd 4124) eX7_readBehind = true := by decide +kernel
def fX7_readBehind_40 (N : Nat) (rc : Nat → List Value → pH → Option (Option Value × pH)) (v0 : Nat) (s0 : Int32) (h : pH) : Option (pH) :=
  (fX7_advance N v0 h).bind fun h1 =>
  (fX7_takeName N v0 h1).bind fun q2 =>
  if s0 = 0 then (
  (getI q2.2 v0 7 9).bind fun t4 =>
  if t4 = (40 : Int32) then (
  (if isO q2.2 v0 7 = true then some () else none).bind fun _ =>
  (rcI rc 83 [.ref v0] q2.2).bind fun q9 =>
  (getR q9.2 v0 7 3).bind fun t10 =>
  (fX2_emit N t10 (30 : Int32) q2.1 q9.1 q9.2).bind fun q11 =>
  some q11.2) else (
  (getR q2.2 v0 7 3).bind fun t6 =>
  (fX2_emit N t6 (9 : Int32) q2.1 (0 : Int32) q2.2).bind fun q7 =>
  some q7.2)) else (
  (getR q2.2 v0 7 3).bind fun t12 =>
  (fX2_emit N t12 (15 : Int32) q2.1 (0 : Int32) q2.2).bind fun q13 =>
  some q13.2)
theorem lX7_readBehind_40 (X : pX) (N d : Nat) (rc : Nat → List Value → pH → Option (Option Value × pH)) (hrc : ∀ mn as h q, rc mn as h = some q → Calls X (d + 1) mn as h (q.1, q.2, 0, 0))  (v0 : Nat) (s0 : Int32) (h : pH) (q : pH) (hf : fX7_readBehind_40 N rc v0 s0 h = some q) (nv0 : ¬ v0 = 4) : Run X (d + 2) 7 false (pCd 4124) 4 none 40 [(0, .ref v0)] [.int s0] h 0 0 (none, q, 0, 0) := by
  unfold fX7_readBehind_40 at hf
  refine r_istore_n (lv' := [(1, .int s0), (0, .ref v0)]) (dGet dX7_readBehind (j := 21) rfl) (by decide) rfl ?_
  refine r_aload_n (dGet dX7_readBehind (j := 22) rfl) nv0 rfl ?_
  obtain ⟨h1, eh1, hf⟩ := Option.bind_eq_some_iff.mp hf
  refine r_virtual (dGet dX7_readBehind (j := 23) rfl) L7_60 M60 rfl rfl (Nat.le_of_ble_eq_true rfl) (oX7_advance eh1) (cX7_advance X N (d + 1) v0 h h1 eh1) ?_
  refine r_aload_n (dGet dX7_readBehind (j := 24) rfl) nv0 rfl ?_
  obtain ⟨q2, eq2, hf⟩ := Option.bind_eq_some_iff.mp hf
  refine r_virtual (dGet dX7_readBehind (j := 25) rfl) L7_51 M62 rfl rfl (Nat.le_of_ble_eq_true rfl) (oX7_takeName eq2) (cX7_takeName X N (d + 0) v0 h1 q2 eq2) ?_
  refine r_istore_n (lv' := [(2, .int q2.1), (1, .int s0), (0, .ref v0)]) (dGet dX7_readBehind (j := 26) rfl) (by decide) rfl ?_
  refine r_iload_n (dGet dX7_readBehind (j := 27) rfl) rfl ?_
  by_cases c3 : s0 = 0
  · rw [if_pos c3] at hf
    refine r_if_eq_t (dGet dX7_readBehind (j := 28) rfl) rfl c3 ?_
    refine r_aload_n (dGet dX7_readBehind (j := 37) rfl) nv0 rfl ?_
    obtain ⟨t4, et4, hf⟩ := Option.bind_eq_some_iff.mp hf
    refine r_getI (dGet dX7_readBehind (j := 38) rfl) F7_57 et4 ?_
    refine r_bipush (dGet dX7_readBehind (j := 39) rfl) kB_40 ?_
    by_cases c5 : t4 = (40 : Int32)
    · rw [if_pos c5] at hf
      refine r_icmp_ne_f (dGet dX7_readBehind (j := 40) rfl) rfl c5 ?_
      refine r_aload_n (dGet dX7_readBehind (j := 41) rfl) nv0 rfl ?_
      obtain ⟨_, ec8, hf⟩ := Option.bind_eq_some_iff.mp hf
      obtain ⟨q9, eq9, hf⟩ := Option.bind_eq_some_iff.mp hf
      refine r_virtual (dGet dX7_readBehind (j := 42) rfl) L7_232 M83 rfl rfl (Nat.le_of_ble_eq_true rfl) (guard_of ec8) (rcI_calls hrc eq9) ?_
      refine r_istore_n (lv' := [(3, .int q9.1), (2, .int q2.1), (1, .int s0), (0, .ref v0)]) (dGet dX7_readBehind (j := 43) rfl) (by decide) rfl ?_
      refine r_aload_n (dGet dX7_readBehind (j := 44) rfl) nv0 rfl ?_
      obtain ⟨t10, et10, hf⟩ := Option.bind_eq_some_iff.mp hf
      refine r_getR (dGet dX7_readBehind (j := 45) rfl) F7_21 et10 ?_
      refine r_bipush (dGet dX7_readBehind (j := 46) rfl) kB_30 ?_
      refine r_iload_n (dGet dX7_readBehind (j := 47) rfl) rfl ?_
      refine r_iload_n (dGet dX7_readBehind (j := 48) rfl) rfl ?_
      obtain ⟨q11, eq11, hf⟩ := Option.bind_eq_some_iff.mp hf
      refine r_virtual (dGet dX7_readBehind (j := 49) rfl) L7_126 M81 rfl rfl (Nat.le_of_ble_eq_true rfl) (oX2_emit eq11) (cX2_emit X N (d + 1) t10 (30 : Int32) q2.1 q9.1 q9.2 q11 eq11) ?_
      refine r_pop (dGet dX7_readBehind (j := 50) rfl) rfl ?_
      refine r_goto (dGet dX7_readBehind (j := 51) rfl) rfl ?_
      cases hf
      exact r_vret (dGet dX7_readBehind (j := 59) rfl) rfl
    · rw [if_neg c5] at hf
      refine r_icmp_ne_t (dGet dX7_readBehind (j := 40) rfl) rfl c5 ?_
      refine r_aload_n (dGet dX7_readBehind (j := 52) rfl) nv0 rfl ?_
      obtain ⟨t6, et6, hf⟩ := Option.bind_eq_some_iff.mp hf
      refine r_getR (dGet dX7_readBehind (j := 53) rfl) F7_21 et6 ?_
      refine r_bipush (dGet dX7_readBehind (j := 54) rfl) kB_9 ?_
      refine r_iload_n (dGet dX7_readBehind (j := 55) rfl) rfl ?_
      refine r_iconst (dGet dX7_readBehind (j := 56) rfl) kI_0 ?_
      obtain ⟨q7, eq7, hf⟩ := Option.bind_eq_some_iff.mp hf
      refine r_virtual (dGet dX7_readBehind (j := 57) rfl) L7_126 M81 rfl rfl (Nat.le_of_ble_eq_true rfl) (oX2_emit eq7) (cX2_emit X N (d + 1) t6 (9 : Int32) q2.1 (0 : Int32) q2.2 q7 eq7) ?_
      refine r_pop (dGet dX7_readBehind (j := 58) rfl) rfl ?_
      cases hf
      exact r_vret (dGet dX7_readBehind (j := 59) rfl) rfl
  · rw [if_neg c3] at hf
    refine r_if_eq_f (dGet dX7_readBehind (j := 28) rfl) rfl c3 ?_
    refine r_aload_n (dGet dX7_readBehind (j := 29) rfl) nv0 rfl ?_
    obtain ⟨t12, et12, hf⟩ := Option.bind_eq_some_iff.mp hf
    refine r_getR (dGet dX7_readBehind (j := 30) rfl) F7_21 et12 ?_
    refine r_bipush (dGet dX7_readBehind (j := 31) rfl) kB_15 ?_
    refine r_iload_n (dGet dX7_readBehind (j := 32) rfl) rfl ?_
    refine r_iconst (dGet dX7_readBehind (j := 33) rfl) kI_0 ?_
    obtain ⟨q13, eq13, hf⟩ := Option.bind_eq_some_iff.mp hf
    refine r_virtual (dGet dX7_readBehind (j := 34) rfl) L7_126 M81 rfl rfl (Nat.le_of_ble_eq_true rfl) (oX2_emit eq13) (cX2_emit X N (d + 1) t12 (15 : Int32) q2.1 (0 : Int32) q2.2 q13 eq13) ?_
    refine r_pop (dGet dX7_readBehind (j := 35) rfl) rfl ?_
    refine r_goto (dGet dX7_readBehind (j := 36) rfl) rfl ?_
    cases hf
    exact r_vret (dGet dX7_readBehind (j := 59) rfl) rfl
def fX7_readBehind (N : Nat) (rc : Nat → List Value → pH → Option (Option Value × pH)) (v0 : Nat) (h : pH) : Option (pH) := if isO h v0 7 = true then (
  (getI h v0 7 9).bind fun t14 =>
  if t14 = (91 : Int32) then (
  (if isO h v0 7 = true then some () else none).bind fun _ =>
  (rcV rc 85 [.ref v0] h).bind fun h19 =>
  (getR h19 v0 7 3).bind fun t20 =>
  (fX2_emit N t20 (12 : Int32) (0 : Int32) (0 : Int32) h19).bind fun q21 =>
  some q21.2) else (
  (getI h v0 7 9).bind fun t16 =>
  if t16 = (20 : Int32) then (
  fX7_readBehind_40 N rc v0 (1 : Int32) h) else (
  fX7_readBehind_40 N rc v0 (0 : Int32) h))) else none
theorem oX7_readBehind {N : Nat} {rc : Nat → List Value → pH → Option (Option Value × pH)} {v0 : Nat} {h : pH} {q : pH} (hf : fX7_readBehind N rc v0 h = some q) : isO h v0 7 = true := by
  unfold fX7_readBehind at hf
  by_cases hc : isO h v0 7 = true
  · exact hc
  · rw [if_neg hc] at hf; cases hf
theorem cX7_readBehind (X : pX) (N d : Nat) (rc : Nat → List Value → pH → Option (Option Value × pH)) (hrc : ∀ mn as h q, rc mn as h = some q → Calls X (d + 1) mn as h (q.1, q.2, 0, 0)) (v0 : Nat) (h : pH) (q : pH) (hf : fX7_readBehind N rc v0 h = some q) : Calls X (d + 2) 87 [.ref v0] h (none, q, 0, 0) := by
  refine Calls.of M87 (Nat.le_of_ble_eq_true rfl) ?_
  show Run X (d + 2) 7 false (pCd 4124) 4 none 0 [(0, .ref v0)] [] h 0 0 (none, q, 0, 0)
  unfold fX7_readBehind at hf
  by_cases hc : isO h v0 7 = true
  · rw [if_pos hc] at hf
    have nv0 : ¬ v0 = 4 := isO_ne hc
    refine r_aload_n (dGet dX7_readBehind (j := 0) rfl) nv0 rfl ?_
    obtain ⟨t14, et14, hf⟩ := Option.bind_eq_some_iff.mp hf
    refine r_getI (dGet dX7_readBehind (j := 1) rfl) F7_57 et14 ?_
    refine r_bipush (dGet dX7_readBehind (j := 2) rfl) kB_91 ?_
    by_cases c15 : t14 = (91 : Int32)
    · rw [if_pos c15] at hf
      refine r_icmp_ne_f (dGet dX7_readBehind (j := 3) rfl) rfl c15 ?_
      refine r_aload_n (dGet dX7_readBehind (j := 4) rfl) nv0 rfl ?_
      obtain ⟨_, ec18, hf⟩ := Option.bind_eq_some_iff.mp hf
      obtain ⟨h19, eh19, hf⟩ := Option.bind_eq_some_iff.mp hf
      refine r_virtual (dGet dX7_readBehind (j := 5) rfl) L7_229 M85 rfl rfl (Nat.le_of_ble_eq_true rfl) (guard_of ec18) (rcV_calls hrc eh19) ?_
      refine r_aload_n (dGet dX7_readBehind (j := 6) rfl) nv0 rfl ?_
      obtain ⟨t20, et20, hf⟩ := Option.bind_eq_some_iff.mp hf
      refine r_getR (dGet dX7_readBehind (j := 7) rfl) F7_21 et20 ?_
      refine r_bipush (dGet dX7_readBehind (j := 8) rfl) kB_12 ?_
      refine r_iconst (dGet dX7_readBehind (j := 9) rfl) kI_0 ?_
      refine r_iconst (dGet dX7_readBehind (j := 10) rfl) kI_0 ?_
      obtain ⟨q21, eq21, hf⟩ := Option.bind_eq_some_iff.mp hf
      refine r_virtual (dGet dX7_readBehind (j := 11) rfl) L7_126 M81 rfl rfl (Nat.le_of_ble_eq_true rfl) (oX2_emit eq21) (cX2_emit X N (d + 1) t20 (12 : Int32) (0 : Int32) (0 : Int32) h19 q21 eq21) ?_
      refine r_pop (dGet dX7_readBehind (j := 12) rfl) rfl ?_
      cases hf
      exact r_vret (dGet dX7_readBehind (j := 13) rfl) rfl
    · rw [if_neg c15] at hf
      refine r_icmp_ne_t (dGet dX7_readBehind (j := 3) rfl) rfl c15 ?_
      refine r_aload_n (dGet dX7_readBehind (j := 14) rfl) nv0 rfl ?_
      obtain ⟨t16, et16, hf⟩ := Option.bind_eq_some_iff.mp hf
      refine r_getI (dGet dX7_readBehind (j := 15) rfl) F7_57 et16 ?_
      refine r_bipush (dGet dX7_readBehind (j := 16) rfl) kB_20 ?_
      by_cases c17 : t16 = (20 : Int32)
      · rw [if_pos c17] at hf
        refine r_icmp_ne_f (dGet dX7_readBehind (j := 17) rfl) rfl c17 ?_
        refine r_iconst (dGet dX7_readBehind (j := 18) rfl) kI_1 ?_
        refine r_goto (dGet dX7_readBehind (j := 19) rfl) rfl ?_
        exact lX7_readBehind_40 X N d rc hrc v0 (1 : Int32) h q hf nv0
      · rw [if_neg c17] at hf
        refine r_icmp_ne_t (dGet dX7_readBehind (j := 17) rfl) rfl c17 ?_
        refine r_iconst (dGet dX7_readBehind (j := 20) rfl) kI_0 ?_
        exact lX7_readBehind_40 X N d rc hrc v0 (0 : Int32) h q hf nv0
  · rw [if_neg hc] at hf; cases hf
def eX7_readOne : List (Nat × Instr × Nat) := [(0, .aload_n 0, 1), (1, .getfield 87, 3), (4, .istore_n 1, 1), (5, .iconst 0, 1), (6, .istore_n 2, 1), (7, .iload_n 2, 1), (8, .sipush 3100, 3), (11, .if_icmp .ge 58, 3), (14, .aload_n 0, 1), (15, .getfield 57, 3), (18, .bipush 45, 2), (20, .if_icmp .eq 12, 3), (23, .aload_n 0, 1), (24, .getfield 57, 3), (27, .bipush 33, 2), (29, .if_icmp .ne 40, 3), (32, .aload_n 0, 1), (33, .aload_n 0, 1), (34, .getfield 57, 3), (37, .bipush 45, 2), (39, .if_icmp .ne 8, 3), (42, .bipush 17, 2), (44, .goto 5, 3), (47, .bipush 18, 2), (49, .bipush 7, 2), (51, .iconst 0, 1), (52, .invokevirtual 215, 3), (55, .aload_n 0, 1), (56, .aload_n 0, 1), (57, .getfield 57, 3), (60, .invokevirtual 104, 3), (63, .iinc 2 1, 3), (66, .goto (-59), 3), (69, .aload_n 0, 1), (70, .invokevirtual 219, 3), (73, .iconst 0, 1), (74, .istore_n 2, 1), (75, .iload_n 2, 1), (76, .sipush 3100, 3), (79, .if_icmp .ge 23, 3), (82, .aload_n 0, 1), (83, .getfield 57, 3), (86, .invokestatic 222, 3), (89, .ifCond .eq 13, 3), (92, .aload_n 0, 1), (93, .invokevirtual 226, 3), (96, .iinc 2 1, 3), (99, .goto (-24), 3), (102, .aload_n 0, 1), (103, .dup, 1), (104, .getfield 84, 3), (107, .aload_n 0, 1), (108, .getfield 87, 3), (111, .iload_n 1, 1), (112, .isub, 1), (113, .isub, 1), (114, .putfield 84, 3), (117, .aload_n 0, 1), (118, .iload_n 1, 1), (119, .bipush 7, 2), (121, .invokevirtual 202, 3), (124, .return_, 1)]
theorem dX7_readOne : dChk (pCd 4085) eX7_readOne = true := by decide +kernel
def fX7_readOne_102 (N : Nat) (rc : Nat → List Value → pH → Option (Option Value × pH)) (v0 : Nat) (v1 : Int32) (h : pH) : Option (pH) :=
  (getI h v0 7 10).bind fun t1 =>
  (getI h v0 7 7).bind fun t2 =>
  (putI h v0 7 10 (t1 - (t2 - v1))).bind fun h3 =>
  (fX7_release N v0 v1 (7 : Int32) h3).bind fun h4 =>
  some h4
theorem lX7_readOne_102 (X : pX) (N d : Nat) (rc : Nat → List Value → pH → Option (Option Value × pH)) (hrc : ∀ mn as h q, rc mn as h = some q → Calls X (d + 1) mn as h (q.1, q.2, 0, 0))  (v0 : Nat) (v1 : Int32) (h : pH) (q : pH) (hf : fX7_readOne_102 N rc v0 v1 h = some q) (nv0 : ¬ v0 = 4) : Run X (d + 2) 7 false (pCd 4085) 3 none 102 [(0, .ref v0), (1, .int v1)] [] h 0 0 (none, q, 0, 0) := by
  unfold fX7_readOne_102 at hf
  refine r_aload_n (dGet dX7_readOne (j := 48) rfl) nv0 rfl ?_
  refine r_dup (dGet dX7_readOne (j := 49) rfl) rfl ?_
  obtain ⟨t1, et1, hf⟩ := Option.bind_eq_some_iff.mp hf
  refine r_getI (dGet dX7_readOne (j := 50) rfl) F7_84 et1 ?_
  refine r_aload_n (dGet dX7_readOne (j := 51) rfl) nv0 rfl ?_
  obtain ⟨t2, et2, hf⟩ := Option.bind_eq_some_iff.mp hf
  refine r_getI (dGet dX7_readOne (j := 52) rfl) F7_87 et2 ?_
  refine r_iload_n (dGet dX7_readOne (j := 53) rfl) rfl ?_
  refine r_isub (dGet dX7_readOne (j := 54) rfl) ?_
  refine r_isub (dGet dX7_readOne (j := 55) rfl) ?_
  obtain ⟨h3, eh3, hf⟩ := Option.bind_eq_some_iff.mp hf
  refine r_putI (dGet dX7_readOne (j := 56) rfl) F7_84 rfl rfl eh3 ?_
  refine r_aload_n (dGet dX7_readOne (j := 57) rfl) nv0 rfl ?_
  refine r_iload_n (dGet dX7_readOne (j := 58) rfl) rfl ?_
  refine r_bipush (dGet dX7_readOne (j := 59) rfl) kB_7 ?_
  obtain ⟨h4, eh4, hf⟩ := Option.bind_eq_some_iff.mp hf
  refine r_virtual (dGet dX7_readOne (j := 60) rfl) L7_202 M88 rfl rfl (Nat.le_of_ble_eq_true rfl) (oX7_release eh4) (cX7_release X N (d + 0) v0 v1 (7 : Int32) h3 h4 eh4) ?_
  cases hf
  exact r_vret (dGet dX7_readOne (j := 61) rfl) rfl
def fX7_readOne_75 (N : Nat) (rc : Nat → List Value → pH → Option (Option Value × pH)) : Nat → Nat → Int32 → Int32 → pH → Option (pH)
  | 0, _, _, _, _ => none
  | n + 1, v0, v1, v2, h => if (3100 : Int32) ≤ v2 then (
  fX7_readOne_102 N rc v0 v1 h) else (
  (getI h v0 7 9).bind fun t6 =>
  (fX7_isBehindFirst N t6 h).bind fun q7 =>
  if q7.1 = 0 then (
  fX7_readOne_102 N rc v0 v1 q7.2) else (
  (if isO q7.2 v0 7 = true then some () else none).bind fun _ =>
  (rcV rc 87 [.ref v0] q7.2).bind fun h10 =>
  fX7_readOne_75 N rc n v0 v1 (v2 + (1 : Int32)) h10))
theorem lX7_readOne_75 (X : pX) (N d : Nat) (rc : Nat → List Value → pH → Option (Option Value × pH)) (hrc : ∀ mn as h q, rc mn as h = some q → Calls X (d + 1) mn as h (q.1, q.2, 0, 0))  : ∀ (n : Nat) (v0 : Nat) (v1 : Int32) (v2 : Int32) (h : pH) (q : pH), fX7_readOne_75 N rc n v0 v1 v2 h = some q → ¬ v0 = 4 → Run X (d + 2) 7 false (pCd 4085) 3 none 75 [(0, .ref v0), (1, .int v1), (2, .int v2)] [] h 0 0 (none, q, 0, 0) := by
  intro n
  induction n with
  | zero => intro v0 v1 v2 h q hf; cases hf
  | succ n ih =>
    intro v0 v1 v2 h q hf nv0
    unfold fX7_readOne_75 at hf
    refine r_iload_n (dGet dX7_readOne (j := 37) rfl) rfl ?_
    refine r_sipush (dGet dX7_readOne (j := 38) rfl) kS_3100 ?_
    by_cases c5 : (3100 : Int32) ≤ v2
    · rw [if_pos c5] at hf
      refine r_icmp_ge_t (dGet dX7_readOne (j := 39) rfl) rfl c5 ?_
      refine Run.weak [(0, .ref v0), (1, .int v1)] (by simp) (by simp [pNd]) ?_
      exact lX7_readOne_102 X N d rc hrc v0 v1 h q hf nv0
    · rw [if_neg c5] at hf
      refine r_icmp_ge_f (dGet dX7_readOne (j := 39) rfl) rfl c5 ?_
      refine r_aload_n (dGet dX7_readOne (j := 40) rfl) nv0 rfl ?_
      obtain ⟨t6, et6, hf⟩ := Option.bind_eq_some_iff.mp hf
      refine r_getI (dGet dX7_readOne (j := 41) rfl) F7_57 et6 ?_
      obtain ⟨q7, eq7, hf⟩ := Option.bind_eq_some_iff.mp hf
      refine r_static (dGet dX7_readOne (j := 42) rfl) (by decide +kernel) (by decide +kernel) L7_222 M86 rfl rfl (Nat.le_of_ble_eq_true rfl) (cX7_isBehindFirst X N (d + 1) t6 h q7 eq7) ?_
      by_cases c8 : q7.1 = 0
      · rw [if_pos c8] at hf
        refine r_if_eq_t (dGet dX7_readOne (j := 43) rfl) rfl c8 ?_
        refine Run.weak [(0, .ref v0), (1, .int v1)] (by simp) (by simp [pNd]) ?_
        exact lX7_readOne_102 X N d rc hrc v0 v1 q7.2 q hf nv0
      · rw [if_neg c8] at hf
        refine r_if_eq_f (dGet dX7_readOne (j := 43) rfl) rfl c8 ?_
        refine r_aload_n (dGet dX7_readOne (j := 44) rfl) nv0 rfl ?_
        obtain ⟨_, ec9, hf⟩ := Option.bind_eq_some_iff.mp hf
        obtain ⟨h10, eh10, hf⟩ := Option.bind_eq_some_iff.mp hf
        refine r_virtual (dGet dX7_readOne (j := 45) rfl) L7_226 M87 rfl rfl (Nat.le_of_ble_eq_true rfl) (guard_of ec9) (rcV_calls hrc eh10) ?_
        refine r_iinc (lv' := [(2, .int (v2 + (1 : Int32))), (0, .ref v0), (1, .int v1)]) (dGet dX7_readOne (j := 46) rfl) rfl (by decide) kI_1 rfl ?_
        refine r_goto (dGet dX7_readOne (j := 47) rfl) rfl ?_
        refine Run.weak [(0, .ref v0), (1, .int v1), (2, .int (v2 + (1 : Int32)))] (by simp) (by simp [pNd]) ?_
        exact ih v0 v1 (v2 + (1 : Int32)) h10 q hf nv0
def fX7_readOne_69 (N : Nat) (rc : Nat → List Value → pH → Option (Option Value × pH)) (v0 : Nat) (v1 : Int32) (h : pH) : Option (pH) :=
  (if isO h v0 7 = true then some () else none).bind fun _ =>
  (rcV rc 79 [.ref v0] h).bind fun h12 =>
  fX7_readOne_75 N rc N v0 v1 (0 : Int32) h12
theorem lX7_readOne_69 (X : pX) (N d : Nat) (rc : Nat → List Value → pH → Option (Option Value × pH)) (hrc : ∀ mn as h q, rc mn as h = some q → Calls X (d + 1) mn as h (q.1, q.2, 0, 0))  (v0 : Nat) (v1 : Int32) (h : pH) (q : pH) (hf : fX7_readOne_69 N rc v0 v1 h = some q) (nv0 : ¬ v0 = 4) : Run X (d + 2) 7 false (pCd 4085) 3 none 69 [(0, .ref v0), (1, .int v1)] [] h 0 0 (none, q, 0, 0) := by
  unfold fX7_readOne_69 at hf
  refine r_aload_n (dGet dX7_readOne (j := 33) rfl) nv0 rfl ?_
  obtain ⟨_, ec11, hf⟩ := Option.bind_eq_some_iff.mp hf
  obtain ⟨h12, eh12, hf⟩ := Option.bind_eq_some_iff.mp hf
  refine r_virtual (dGet dX7_readOne (j := 34) rfl) L7_219 M79 rfl rfl (Nat.le_of_ble_eq_true rfl) (guard_of ec11) (rcV_calls hrc eh12) ?_
  refine r_iconst (dGet dX7_readOne (j := 35) rfl) kI_0 ?_
  refine r_istore_n (lv' := [(2, .int (0 : Int32)), (0, .ref v0), (1, .int v1)]) (dGet dX7_readOne (j := 36) rfl) (by decide) rfl ?_
  refine Run.weak [(0, .ref v0), (1, .int v1), (2, .int (0 : Int32))] (by simp) (by simp [pNd]) ?_
  exact lX7_readOne_75 X N d rc hrc N v0 v1 (0 : Int32) h12 q hf nv0
def fX7_readOne_49 (N : Nat) (rc : Nat → List Value → pH → Option (Option Value × pH)) (k7 : Nat → Int32 → Int32 → pH → Option (pH)) (v0 : Nat) (v1 : Int32) (v2 : Int32) (s0 : Nat) (s1 : Int32) (h : pH) : Option (pH) :=
  (fX7_await N s0 s1 (7 : Int32) (0 : Int32) h).bind fun h13 =>
  (getI h13 v0 7 9).bind fun t14 =>
  (fX7_open N v0 t14 h13).bind fun h15 =>
  k7 v0 v1 (v2 + (1 : Int32)) h15
theorem lX7_readOne_49 (X : pX) (N d : Nat) (rc : Nat → List Value → pH → Option (Option Value × pH)) (hrc : ∀ mn as h q, rc mn as h = some q → Calls X (d + 1) mn as h (q.1, q.2, 0, 0))  (k7 : Nat → Int32 → Int32 → pH → Option (pH)) (K7 : ∀ (w0 : Nat) (w1 : Int32) (w2 : Int32) (h : pH) (q : pH), k7 w0 w1 w2 h = some q → ¬ w0 = 4 → Run X (d + 2) 7 false (pCd 4085) 3 none 7 [(0, .ref w0), (1, .int w1), (2, .int w2)] [] h 0 0 (none, q, 0, 0)) (v0 : Nat) (v1 : Int32) (v2 : Int32) (s0 : Nat) (s1 : Int32) (h : pH) (q : pH) (hf : fX7_readOne_49 N rc k7 v0 v1 v2 s0 s1 h = some q) (nv0 : ¬ v0 = 4) (ns0 : ¬ s0 = 4) : Run X (d + 2) 7 false (pCd 4085) 3 none 49 [(0, .ref v0), (1, .int v1), (2, .int v2)] [.int s1, .ref s0] h 0 0 (none, q, 0, 0) := by
  unfold fX7_readOne_49 at hf
  refine r_bipush (dGet dX7_readOne (j := 24) rfl) kB_7 ?_
  refine r_iconst (dGet dX7_readOne (j := 25) rfl) kI_0 ?_
  obtain ⟨h13, eh13, hf⟩ := Option.bind_eq_some_iff.mp hf
  refine r_virtual (dGet dX7_readOne (j := 26) rfl) L7_215 M78 rfl rfl (Nat.le_of_ble_eq_true rfl) (oX7_await eh13) (cX7_await X N (d + 1) s0 s1 (7 : Int32) (0 : Int32) h h13 eh13) ?_
  refine r_aload_n (dGet dX7_readOne (j := 27) rfl) nv0 rfl ?_
  refine r_aload_n (dGet dX7_readOne (j := 28) rfl) nv0 rfl ?_
  obtain ⟨t14, et14, hf⟩ := Option.bind_eq_some_iff.mp hf
  refine r_getI (dGet dX7_readOne (j := 29) rfl) F7_57 et14 ?_
  obtain ⟨h15, eh15, hf⟩ := Option.bind_eq_some_iff.mp hf
  refine r_virtual (dGet dX7_readOne (j := 30) rfl) L7_104 M64 rfl rfl (Nat.le_of_ble_eq_true rfl) (oX7_open eh15) (cX7_open X N (d + 0) v0 t14 h13 h15 eh15) ?_
  refine r_iinc (lv' := [(2, .int (v2 + (1 : Int32))), (0, .ref v0), (1, .int v1)]) (dGet dX7_readOne (j := 31) rfl) rfl (by decide) kI_1 rfl ?_
  refine r_goto (dGet dX7_readOne (j := 32) rfl) rfl ?_
  refine Run.weak [(0, .ref v0), (1, .int v1), (2, .int (v2 + (1 : Int32)))] (by simp) (by simp [pNd]) ?_
  exact K7 v0 v1 (v2 + (1 : Int32)) h15 q hf nv0
def fX7_readOne_32 (N : Nat) (rc : Nat → List Value → pH → Option (Option Value × pH)) (k7 : Nat → Int32 → Int32 → pH → Option (pH)) (v0 : Nat) (v1 : Int32) (v2 : Int32) (h : pH) : Option (pH) :=
  (getI h v0 7 9).bind fun t16 =>
  if t16 = (45 : Int32) then (
  fX7_readOne_49 N rc k7 v0 v1 v2 v0 (17 : Int32) h) else (
  fX7_readOne_49 N rc k7 v0 v1 v2 v0 (18 : Int32) h)
theorem lX7_readOne_32 (X : pX) (N d : Nat) (rc : Nat → List Value → pH → Option (Option Value × pH)) (hrc : ∀ mn as h q, rc mn as h = some q → Calls X (d + 1) mn as h (q.1, q.2, 0, 0))  (k7 : Nat → Int32 → Int32 → pH → Option (pH)) (K7 : ∀ (w0 : Nat) (w1 : Int32) (w2 : Int32) (h : pH) (q : pH), k7 w0 w1 w2 h = some q → ¬ w0 = 4 → Run X (d + 2) 7 false (pCd 4085) 3 none 7 [(0, .ref w0), (1, .int w1), (2, .int w2)] [] h 0 0 (none, q, 0, 0)) (v0 : Nat) (v1 : Int32) (v2 : Int32) (h : pH) (q : pH) (hf : fX7_readOne_32 N rc k7 v0 v1 v2 h = some q) (nv0 : ¬ v0 = 4) : Run X (d + 2) 7 false (pCd 4085) 3 none 32 [(0, .ref v0), (1, .int v1), (2, .int v2)] [] h 0 0 (none, q, 0, 0) := by
  unfold fX7_readOne_32 at hf
  refine r_aload_n (dGet dX7_readOne (j := 16) rfl) nv0 rfl ?_
  refine r_aload_n (dGet dX7_readOne (j := 17) rfl) nv0 rfl ?_
  obtain ⟨t16, et16, hf⟩ := Option.bind_eq_some_iff.mp hf
  refine r_getI (dGet dX7_readOne (j := 18) rfl) F7_57 et16 ?_
  refine r_bipush (dGet dX7_readOne (j := 19) rfl) kB_45 ?_
  by_cases c17 : t16 = (45 : Int32)
  · rw [if_pos c17] at hf
    refine r_icmp_ne_f (dGet dX7_readOne (j := 20) rfl) rfl c17 ?_
    refine r_bipush (dGet dX7_readOne (j := 21) rfl) kB_17 ?_
    refine r_goto (dGet dX7_readOne (j := 22) rfl) rfl ?_
    exact lX7_readOne_49 X N d rc hrc k7 K7 v0 v1 v2 v0 (17 : Int32) h q hf nv0 nv0
  · rw [if_neg c17] at hf
    refine r_icmp_ne_t (dGet dX7_readOne (j := 20) rfl) rfl c17 ?_
    refine r_bipush (dGet dX7_readOne (j := 23) rfl) kB_18 ?_
    exact lX7_readOne_49 X N d rc hrc k7 K7 v0 v1 v2 v0 (18 : Int32) h q hf nv0 nv0
def fX7_readOne_7 (N : Nat) (rc : Nat → List Value → pH → Option (Option Value × pH)) : Nat → Nat → Int32 → Int32 → pH → Option (pH)
  | 0, _, _, _, _ => none
  | n + 1, v0, v1, v2, h => if (3100 : Int32) ≤ v2 then (
  fX7_readOne_69 N rc v0 v1 h) else (
  (getI h v0 7 9).bind fun t19 =>
  if t19 = (45 : Int32) then (
  fX7_readOne_32 N rc (fX7_readOne_7 N rc n) v0 v1 v2 h) else (
  (getI h v0 7 9).bind fun t21 =>
  if t21 = (33 : Int32) then (
  fX7_readOne_32 N rc (fX7_readOne_7 N rc n) v0 v1 v2 h) else (
  fX7_readOne_69 N rc v0 v1 h)))
theorem lX7_readOne_7 (X : pX) (N d : Nat) (rc : Nat → List Value → pH → Option (Option Value × pH)) (hrc : ∀ mn as h q, rc mn as h = some q → Calls X (d + 1) mn as h (q.1, q.2, 0, 0))  : ∀ (n : Nat) (v0 : Nat) (v1 : Int32) (v2 : Int32) (h : pH) (q : pH), fX7_readOne_7 N rc n v0 v1 v2 h = some q → ¬ v0 = 4 → Run X (d + 2) 7 false (pCd 4085) 3 none 7 [(0, .ref v0), (1, .int v1), (2, .int v2)] [] h 0 0 (none, q, 0, 0) := by
  intro n
  induction n with
  | zero => intro v0 v1 v2 h q hf; cases hf
  | succ n ih =>
    intro v0 v1 v2 h q hf nv0
    unfold fX7_readOne_7 at hf
    refine r_iload_n (dGet dX7_readOne (j := 5) rfl) rfl ?_
    refine r_sipush (dGet dX7_readOne (j := 6) rfl) kS_3100 ?_
    by_cases c18 : (3100 : Int32) ≤ v2
    · rw [if_pos c18] at hf
      refine r_icmp_ge_t (dGet dX7_readOne (j := 7) rfl) rfl c18 ?_
      refine Run.weak [(0, .ref v0), (1, .int v1)] (by simp) (by simp [pNd]) ?_
      exact lX7_readOne_69 X N d rc hrc v0 v1 h q hf nv0
    · rw [if_neg c18] at hf
      refine r_icmp_ge_f (dGet dX7_readOne (j := 7) rfl) rfl c18 ?_
      refine r_aload_n (dGet dX7_readOne (j := 8) rfl) nv0 rfl ?_
      obtain ⟨t19, et19, hf⟩ := Option.bind_eq_some_iff.mp hf
      refine r_getI (dGet dX7_readOne (j := 9) rfl) F7_57 et19 ?_
      refine r_bipush (dGet dX7_readOne (j := 10) rfl) kB_45 ?_
      by_cases c20 : t19 = (45 : Int32)
      · rw [if_pos c20] at hf
        refine r_icmp_eq_t (dGet dX7_readOne (j := 11) rfl) rfl c20 ?_
        exact lX7_readOne_32 X N d rc hrc (fX7_readOne_7 N rc n) ih v0 v1 v2 h q hf nv0
      · rw [if_neg c20] at hf
        refine r_icmp_eq_f (dGet dX7_readOne (j := 11) rfl) rfl c20 ?_
        refine r_aload_n (dGet dX7_readOne (j := 12) rfl) nv0 rfl ?_
        obtain ⟨t21, et21, hf⟩ := Option.bind_eq_some_iff.mp hf
        refine r_getI (dGet dX7_readOne (j := 13) rfl) F7_57 et21 ?_
        refine r_bipush (dGet dX7_readOne (j := 14) rfl) kB_33 ?_
        by_cases c22 : t21 = (33 : Int32)
        · rw [if_pos c22] at hf
          refine r_icmp_ne_f (dGet dX7_readOne (j := 15) rfl) rfl c22 ?_
          exact lX7_readOne_32 X N d rc hrc (fX7_readOne_7 N rc n) ih v0 v1 v2 h q hf nv0
        · rw [if_neg c22] at hf
          refine r_icmp_ne_t (dGet dX7_readOne (j := 15) rfl) rfl c22 ?_
          refine Run.weak [(0, .ref v0), (1, .int v1)] (by simp) (by simp [pNd]) ?_
          exact lX7_readOne_69 X N d rc hrc v0 v1 h q hf nv0
def fX7_readOne (N : Nat) (rc : Nat → List Value → pH → Option (Option Value × pH)) (v0 : Nat) (h : pH) : Option (pH) := if isO h v0 7 = true then (
  (getI h v0 7 7).bind fun t23 =>
  fX7_readOne_7 N rc N v0 t23 (0 : Int32) h) else none
theorem oX7_readOne {N : Nat} {rc : Nat → List Value → pH → Option (Option Value × pH)} {v0 : Nat} {h : pH} {q : pH} (hf : fX7_readOne N rc v0 h = some q) : isO h v0 7 = true := by
  unfold fX7_readOne at hf
  by_cases hc : isO h v0 7 = true
  · exact hc
  · rw [if_neg hc] at hf; cases hf
theorem cX7_readOne (X : pX) (N d : Nat) (rc : Nat → List Value → pH → Option (Option Value × pH)) (hrc : ∀ mn as h q, rc mn as h = some q → Calls X (d + 1) mn as h (q.1, q.2, 0, 0)) (v0 : Nat) (h : pH) (q : pH) (hf : fX7_readOne N rc v0 h = some q) : Calls X (d + 2) 77 [.ref v0] h (none, q, 0, 0) := by
  refine Calls.of M77 (Nat.le_of_ble_eq_true rfl) ?_
  show Run X (d + 2) 7 false (pCd 4085) 3 none 0 [(0, .ref v0)] [] h 0 0 (none, q, 0, 0)
  unfold fX7_readOne at hf
  by_cases hc : isO h v0 7 = true
  · rw [if_pos hc] at hf
    have nv0 : ¬ v0 = 4 := isO_ne hc
    refine r_aload_n (dGet dX7_readOne (j := 0) rfl) nv0 rfl ?_
    obtain ⟨t23, et23, hf⟩ := Option.bind_eq_some_iff.mp hf
    refine r_getI (dGet dX7_readOne (j := 1) rfl) F7_87 et23 ?_
    refine r_istore_n (lv' := [(1, .int t23), (0, .ref v0)]) (dGet dX7_readOne (j := 2) rfl) (by decide) rfl ?_
    refine r_iconst (dGet dX7_readOne (j := 3) rfl) kI_0 ?_
    refine r_istore_n (lv' := [(2, .int (0 : Int32)), (1, .int t23), (0, .ref v0)]) (dGet dX7_readOne (j := 4) rfl) (by decide) rfl ?_
    refine Run.weak [(0, .ref v0), (1, .int t23), (2, .int (0 : Int32))] (by simp) (by simp [pNd]) ?_
    exact lX7_readOne_7 X N d rc hrc N v0 t23 (0 : Int32) h q hf nv0
  · rw [if_neg hc] at hf; cases hf
def eX7_readExpression : List (Nat × Instr × Nat) := [(0, .aload_n 0, 1), (1, .getfield 87, 3), (4, .istore_n 1, 1), (5, .aload_n 0, 1), (6, .invokevirtual 193, 3), (9, .aload_n 0, 1), (10, .getfield 57, 3), (13, .invokestatic 196, 3), (16, .istore_n 2, 1), (17, .aload_n 0, 1), (18, .iload_n 1, 1), (19, .iload_n 2, 1), (20, .invokestatic 199, 3), (23, .invokevirtual 202, 3), (26, .iconst 0, 1), (27, .istore_n 3, 1), (28, .iload_n 3, 1), (29, .sipush 3100, 3), (32, .if_icmp .ge 40, 3), (35, .aload_n 0, 1), (36, .iload_n 1, 1), (37, .iload_n 2, 1), (38, .invokevirtual 205, 3), (41, .ifCond .eq 31, 3), (44, .aload_n 0, 1), (45, .iload_n 2, 1), (46, .invokevirtual 209, 3), (49, .aload_n 0, 1), (50, .getfield 57, 3), (53, .invokestatic 196, 3), (56, .istore_n 2, 1), (57, .aload_n 0, 1), (58, .iload_n 1, 1), (59, .iload_n 2, 1), (60, .invokestatic 199, 3), (63, .invokevirtual 202, 3), (66, .iinc 3 1, 3), (69, .goto (-41), 3), (72, .aload_n 0, 1), (73, .iload_n 1, 1), (74, .iconst 0, 1), (75, .invokevirtual 202, 3), (78, .return_, 1)]
theorem dX7_readExpression : dChk (pCd 4081) eX7_readExpression = true := by decide +kernel
def fX7_readExpression_72 (N : Nat) (rc : Nat → List Value → pH → Option (Option Value × pH)) (v0 : Nat) (v1 : Int32) (h : pH) : Option (pH) :=
  (fX7_release N v0 v1 (0 : Int32) h).bind fun h1 =>
  some h1
theorem lX7_readExpression_72 (X : pX) (N d : Nat) (rc : Nat → List Value → pH → Option (Option Value × pH)) (hrc : ∀ mn as h q, rc mn as h = some q → Calls X (d + 1) mn as h (q.1, q.2, 0, 0))  (v0 : Nat) (v1 : Int32) (h : pH) (q : pH) (hf : fX7_readExpression_72 N rc v0 v1 h = some q) (nv0 : ¬ v0 = 4) : Run X (d + 2) 7 false (pCd 4081) 4 none 72 [(0, .ref v0), (1, .int v1)] [] h 0 0 (none, q, 0, 0) := by
  unfold fX7_readExpression_72 at hf
  refine r_aload_n (dGet dX7_readExpression (j := 38) rfl) nv0 rfl ?_
  refine r_iload_n (dGet dX7_readExpression (j := 39) rfl) rfl ?_
  refine r_iconst (dGet dX7_readExpression (j := 40) rfl) kI_0 ?_
  obtain ⟨h1, eh1, hf⟩ := Option.bind_eq_some_iff.mp hf
  refine r_virtual (dGet dX7_readExpression (j := 41) rfl) L7_202 M88 rfl rfl (Nat.le_of_ble_eq_true rfl) (oX7_release eh1) (cX7_release X N (d + 0) v0 v1 (0 : Int32) h h1 eh1) ?_
  cases hf
  exact r_vret (dGet dX7_readExpression (j := 42) rfl) rfl
def fX7_readExpression_28 (N : Nat) (rc : Nat → List Value → pH → Option (Option Value × pH)) : Nat → Nat → Int32 → Int32 → Int32 → pH → Option (pH)
  | 0, _, _, _, _, _ => none
  | n + 1, v0, v1, v2, v3, h => if (3100 : Int32) ≤ v3 then (
  fX7_readExpression_72 N rc v0 v1 h) else (
  (fX7_fits N v0 v1 v2 h).bind fun q3 =>
  if q3.1 = 0 then (
  fX7_readExpression_72 N rc v0 v1 q3.2) else (
  (if isO q3.2 v0 7 = true then some () else none).bind fun _ =>
  (rcV rc 92 [.ref v0, .int v2] q3.2).bind fun h6 =>
  (getI h6 v0 7 9).bind fun t7 =>
  (fX7_levelOf N t7 h6).bind fun q8 =>
  (fX7_leastReleased N q8.1 q8.2).bind fun q9 =>
  (fX7_release N v0 v1 q9.1 q9.2).bind fun h10 =>
  fX7_readExpression_28 N rc n v0 v1 q8.1 (v3 + (1 : Int32)) h10))
theorem lX7_readExpression_28 (X : pX) (N d : Nat) (rc : Nat → List Value → pH → Option (Option Value × pH)) (hrc : ∀ mn as h q, rc mn as h = some q → Calls X (d + 1) mn as h (q.1, q.2, 0, 0))  : ∀ (n : Nat) (v0 : Nat) (v1 : Int32) (v2 : Int32) (v3 : Int32) (h : pH) (q : pH), fX7_readExpression_28 N rc n v0 v1 v2 v3 h = some q → ¬ v0 = 4 → Run X (d + 2) 7 false (pCd 4081) 4 none 28 [(0, .ref v0), (1, .int v1), (2, .int v2), (3, .int v3)] [] h 0 0 (none, q, 0, 0) := by
  intro n
  induction n with
  | zero => intro v0 v1 v2 v3 h q hf; cases hf
  | succ n ih =>
    intro v0 v1 v2 v3 h q hf nv0
    unfold fX7_readExpression_28 at hf
    refine r_iload_n (dGet dX7_readExpression (j := 16) rfl) rfl ?_
    refine r_sipush (dGet dX7_readExpression (j := 17) rfl) kS_3100 ?_
    by_cases c2 : (3100 : Int32) ≤ v3
    · rw [if_pos c2] at hf
      refine r_icmp_ge_t (dGet dX7_readExpression (j := 18) rfl) rfl c2 ?_
      refine Run.weak [(0, .ref v0), (1, .int v1)] (by simp) (by simp [pNd]) ?_
      exact lX7_readExpression_72 X N d rc hrc v0 v1 h q hf nv0
    · rw [if_neg c2] at hf
      refine r_icmp_ge_f (dGet dX7_readExpression (j := 18) rfl) rfl c2 ?_
      refine r_aload_n (dGet dX7_readExpression (j := 19) rfl) nv0 rfl ?_
      refine r_iload_n (dGet dX7_readExpression (j := 20) rfl) rfl ?_
      refine r_iload_n (dGet dX7_readExpression (j := 21) rfl) rfl ?_
      obtain ⟨q3, eq3, hf⟩ := Option.bind_eq_some_iff.mp hf
      refine r_virtual (dGet dX7_readExpression (j := 22) rfl) L7_205 M91 rfl rfl (Nat.le_of_ble_eq_true rfl) (oX7_fits eq3) (cX7_fits X N (d + 1) v0 v1 v2 h q3 eq3) ?_
      by_cases c4 : q3.1 = 0
      · rw [if_pos c4] at hf
        refine r_if_eq_t (dGet dX7_readExpression (j := 23) rfl) rfl c4 ?_
        refine Run.weak [(0, .ref v0), (1, .int v1)] (by simp) (by simp [pNd]) ?_
        exact lX7_readExpression_72 X N d rc hrc v0 v1 q3.2 q hf nv0
      · rw [if_neg c4] at hf
        refine r_if_eq_f (dGet dX7_readExpression (j := 23) rfl) rfl c4 ?_
        refine r_aload_n (dGet dX7_readExpression (j := 24) rfl) nv0 rfl ?_
        refine r_iload_n (dGet dX7_readExpression (j := 25) rfl) rfl ?_
        obtain ⟨_, ec5, hf⟩ := Option.bind_eq_some_iff.mp hf
        obtain ⟨h6, eh6, hf⟩ := Option.bind_eq_some_iff.mp hf
        refine r_virtual (dGet dX7_readExpression (j := 26) rfl) L7_209 M92 rfl rfl (Nat.le_of_ble_eq_true rfl) (guard_of ec5) (rcV_calls hrc eh6) ?_
        refine r_aload_n (dGet dX7_readExpression (j := 27) rfl) nv0 rfl ?_
        obtain ⟨t7, et7, hf⟩ := Option.bind_eq_some_iff.mp hf
        refine r_getI (dGet dX7_readExpression (j := 28) rfl) F7_57 et7 ?_
        obtain ⟨q8, eq8, hf⟩ := Option.bind_eq_some_iff.mp hf
        refine r_static (dGet dX7_readExpression (j := 29) rfl) (by decide +kernel) (by decide +kernel) L7_196 M89 rfl rfl (Nat.le_of_ble_eq_true rfl) (cX7_levelOf X N (d + 1) t7 h6 q8 eq8) ?_
        refine r_istore_n (lv' := [(2, .int q8.1), (0, .ref v0), (1, .int v1), (3, .int v3)]) (dGet dX7_readExpression (j := 30) rfl) (by decide) rfl ?_
        refine r_aload_n (dGet dX7_readExpression (j := 31) rfl) nv0 rfl ?_
        refine r_iload_n (dGet dX7_readExpression (j := 32) rfl) rfl ?_
        refine r_iload_n (dGet dX7_readExpression (j := 33) rfl) rfl ?_
        obtain ⟨q9, eq9, hf⟩ := Option.bind_eq_some_iff.mp hf
        refine r_static (dGet dX7_readExpression (j := 34) rfl) (by decide +kernel) (by decide +kernel) L7_199 M90 rfl rfl (Nat.le_of_ble_eq_true rfl) (cX7_leastReleased X N (d + 1) q8.1 q8.2 q9 eq9) ?_
        obtain ⟨h10, eh10, hf⟩ := Option.bind_eq_some_iff.mp hf
        refine r_virtual (dGet dX7_readExpression (j := 35) rfl) L7_202 M88 rfl rfl (Nat.le_of_ble_eq_true rfl) (oX7_release eh10) (cX7_release X N (d + 0) v0 v1 q9.1 q9.2 h10 eh10) ?_
        refine r_iinc (lv' := [(3, .int (v3 + (1 : Int32))), (2, .int q8.1), (0, .ref v0), (1, .int v1)]) (dGet dX7_readExpression (j := 36) rfl) rfl (by decide) kI_1 rfl ?_
        refine r_goto (dGet dX7_readExpression (j := 37) rfl) rfl ?_
        refine Run.weak [(0, .ref v0), (1, .int v1), (2, .int q8.1), (3, .int (v3 + (1 : Int32)))] (by simp) (by simp [pNd]) ?_
        exact ih v0 v1 q8.1 (v3 + (1 : Int32)) h10 q hf nv0
def fX7_readExpression (N : Nat) (rc : Nat → List Value → pH → Option (Option Value × pH)) (v0 : Nat) (h : pH) : Option (pH) := if isO h v0 7 = true then (
  (getI h v0 7 7).bind fun t11 =>
  (if isO h v0 7 = true then some () else none).bind fun _ =>
  (rcV rc 77 [.ref v0] h).bind fun h13 =>
  (getI h13 v0 7 9).bind fun t14 =>
  (fX7_levelOf N t14 h13).bind fun q15 =>
  (fX7_leastReleased N q15.1 q15.2).bind fun q16 =>
  (fX7_release N v0 t11 q16.1 q16.2).bind fun h17 =>
  fX7_readExpression_28 N rc N v0 t11 q15.1 (0 : Int32) h17) else none
theorem oX7_readExpression {N : Nat} {rc : Nat → List Value → pH → Option (Option Value × pH)} {v0 : Nat} {h : pH} {q : pH} (hf : fX7_readExpression N rc v0 h = some q) : isO h v0 7 = true := by
  unfold fX7_readExpression at hf
  by_cases hc : isO h v0 7 = true
  · exact hc
  · rw [if_neg hc] at hf; cases hf
theorem cX7_readExpression (X : pX) (N d : Nat) (rc : Nat → List Value → pH → Option (Option Value × pH)) (hrc : ∀ mn as h q, rc mn as h = some q → Calls X (d + 1) mn as h (q.1, q.2, 0, 0)) (v0 : Nat) (h : pH) (q : pH) (hf : fX7_readExpression N rc v0 h = some q) : Calls X (d + 2) 76 [.ref v0] h (none, q, 0, 0) := by
  refine Calls.of M76 (Nat.le_of_ble_eq_true rfl) ?_
  show Run X (d + 2) 7 false (pCd 4081) 4 none 0 [(0, .ref v0)] [] h 0 0 (none, q, 0, 0)
  unfold fX7_readExpression at hf
  by_cases hc : isO h v0 7 = true
  · rw [if_pos hc] at hf
    have nv0 : ¬ v0 = 4 := isO_ne hc
    refine r_aload_n (dGet dX7_readExpression (j := 0) rfl) nv0 rfl ?_
    obtain ⟨t11, et11, hf⟩ := Option.bind_eq_some_iff.mp hf
    refine r_getI (dGet dX7_readExpression (j := 1) rfl) F7_87 et11 ?_
    refine r_istore_n (lv' := [(1, .int t11), (0, .ref v0)]) (dGet dX7_readExpression (j := 2) rfl) (by decide) rfl ?_
    refine r_aload_n (dGet dX7_readExpression (j := 3) rfl) nv0 rfl ?_
    obtain ⟨_, ec12, hf⟩ := Option.bind_eq_some_iff.mp hf
    obtain ⟨h13, eh13, hf⟩ := Option.bind_eq_some_iff.mp hf
    refine r_virtual (dGet dX7_readExpression (j := 4) rfl) L7_193 M77 rfl rfl (Nat.le_of_ble_eq_true rfl) (guard_of ec12) (rcV_calls hrc eh13) ?_
    refine r_aload_n (dGet dX7_readExpression (j := 5) rfl) nv0 rfl ?_
    obtain ⟨t14, et14, hf⟩ := Option.bind_eq_some_iff.mp hf
    refine r_getI (dGet dX7_readExpression (j := 6) rfl) F7_57 et14 ?_
    obtain ⟨q15, eq15, hf⟩ := Option.bind_eq_some_iff.mp hf
    refine r_static (dGet dX7_readExpression (j := 7) rfl) (by decide +kernel) (by decide +kernel) L7_196 M89 rfl rfl (Nat.le_of_ble_eq_true rfl) (cX7_levelOf X N (d + 1) t14 h13 q15 eq15) ?_
    refine r_istore_n (lv' := [(2, .int q15.1), (1, .int t11), (0, .ref v0)]) (dGet dX7_readExpression (j := 8) rfl) (by decide) rfl ?_
    refine r_aload_n (dGet dX7_readExpression (j := 9) rfl) nv0 rfl ?_
    refine r_iload_n (dGet dX7_readExpression (j := 10) rfl) rfl ?_
    refine r_iload_n (dGet dX7_readExpression (j := 11) rfl) rfl ?_
    obtain ⟨q16, eq16, hf⟩ := Option.bind_eq_some_iff.mp hf
    refine r_static (dGet dX7_readExpression (j := 12) rfl) (by decide +kernel) (by decide +kernel) L7_199 M90 rfl rfl (Nat.le_of_ble_eq_true rfl) (cX7_leastReleased X N (d + 1) q15.1 q15.2 q16 eq16) ?_
    obtain ⟨h17, eh17, hf⟩ := Option.bind_eq_some_iff.mp hf
    refine r_virtual (dGet dX7_readExpression (j := 13) rfl) L7_202 M88 rfl rfl (Nat.le_of_ble_eq_true rfl) (oX7_release eh17) (cX7_release X N (d + 0) v0 t11 q16.1 q16.2 h17 eh17) ?_
    refine r_iconst (dGet dX7_readExpression (j := 14) rfl) kI_0 ?_
    refine r_istore_n (lv' := [(3, .int (0 : Int32)), (2, .int q15.1), (1, .int t11), (0, .ref v0)]) (dGet dX7_readExpression (j := 15) rfl) (by decide) rfl ?_
    refine Run.weak [(0, .ref v0), (1, .int t11), (2, .int q15.1), (3, .int (0 : Int32))] (by simp) (by simp [pNd]) ?_
    exact lX7_readExpression_28 X N d rc hrc N v0 t11 q15.1 (0 : Int32) h17 q hf nv0
  · rw [if_neg hc] at hf; cases hf
def gX7_readSign (N : Nat) : Nat → Nat → List Value → pH → Option (Option Value × pH)
  | 0 => fun _ _ _ => none
  | j + 1 => fun mn as h =>
    if mn = 92 then (match as with
      | [.ref a0, .int a1] => (fX7_readSign N (gX7_readSign N j) a0 a1 h).map (fun q => (none, q))
      | _ => none) else
    if mn = 84 then (match as with
      | [.ref a0] => (fX7_readNew N (gX7_readSign N j) a0 h).map (fun q => (none, q))
      | _ => none) else
    if mn = 82 then (match as with
      | [.ref a0] => (fX7_readNamed N (gX7_readSign N j) a0 h).map (fun q => (none, q))
      | _ => none) else
    if mn = 75 then (match as with
      | [.ref a0] => (fX7_readBracketed N (gX7_readSign N j) a0 h).map (fun q => (none, q))
      | _ => none) else
    if mn = 79 then (match as with
      | [.ref a0] => (fX7_readFirst N (gX7_readSign N j) a0 h).map (fun q => (none, q))
      | _ => none) else
    if mn = 85 then (match as with
      | [.ref a0] => (fX7_readIndex N (gX7_readSign N j) a0 h).map (fun q => (none, q))
      | _ => none) else
    if mn = 83 then (match as with
      | [.ref a0] => (fX7_readArguments N (gX7_readSign N j) a0 h).map (fun q => (some (.int q.1), q.2))
      | _ => none) else
    if mn = 87 then (match as with
      | [.ref a0] => (fX7_readBehind N (gX7_readSign N j) a0 h).map (fun q => (none, q))
      | _ => none) else
    if mn = 77 then (match as with
      | [.ref a0] => (fX7_readOne N (gX7_readSign N j) a0 h).map (fun q => (none, q))
      | _ => none) else
    if mn = 76 then (match as with
      | [.ref a0] => (fX7_readExpression N (gX7_readSign N j) a0 h).map (fun q => (none, q))
      | _ => none) else
    none
theorem gX7_readSign_calls (X : pX) (N d : Nat) : ∀ (j mn : Nat) (as : List Value) (h : pH) (q : Option Value × pH), gX7_readSign N j mn as h = some q → Calls X (d + 1 + j) mn as h (q.1, q.2, 0, 0)
  | 0, _, _, _, _, hf => by cases hf
  | j + 1, mn, as, h, q, hf => by
    have ih := gX7_readSign_calls X N d j
    unfold gX7_readSign at hf
    by_cases c92 : mn = 92
    · rw [if_pos c92] at hf
      subst c92
      split at hf
      · rename_i a0 a1
        obtain ⟨x, e1, rfl⟩ := Option.map_eq_some_iff.mp hf
        have := cX7_readSign X N (d + j) (gX7_readSign N j) (fun mn as h q e => by have := ih mn as h q e; rw [show d + j + 1 = d + 1 + j by omega]; exact this) a0 a1 h x e1
        rw [show d + 1 + (j + 1) = d + j + 2 by omega]
        exact this
      · cases hf
    rw [if_neg c92] at hf
    by_cases c84 : mn = 84
    · rw [if_pos c84] at hf
      subst c84
      split at hf
      · rename_i a0
        obtain ⟨x, e1, rfl⟩ := Option.map_eq_some_iff.mp hf
        have := cX7_readNew X N (d + j) (gX7_readSign N j) (fun mn as h q e => by have := ih mn as h q e; rw [show d + j + 1 = d + 1 + j by omega]; exact this) a0 h x e1
        rw [show d + 1 + (j + 1) = d + j + 2 by omega]
        exact this
      · cases hf
    rw [if_neg c84] at hf
    by_cases c82 : mn = 82
    · rw [if_pos c82] at hf
      subst c82
      split at hf
      · rename_i a0
        obtain ⟨x, e1, rfl⟩ := Option.map_eq_some_iff.mp hf
        have := cX7_readNamed X N (d + j) (gX7_readSign N j) (fun mn as h q e => by have := ih mn as h q e; rw [show d + j + 1 = d + 1 + j by omega]; exact this) a0 h x e1
        rw [show d + 1 + (j + 1) = d + j + 2 by omega]
        exact this
      · cases hf
    rw [if_neg c82] at hf
    by_cases c75 : mn = 75
    · rw [if_pos c75] at hf
      subst c75
      split at hf
      · rename_i a0
        obtain ⟨x, e1, rfl⟩ := Option.map_eq_some_iff.mp hf
        have := cX7_readBracketed X N (d + j) (gX7_readSign N j) (fun mn as h q e => by have := ih mn as h q e; rw [show d + j + 1 = d + 1 + j by omega]; exact this) a0 h x e1
        rw [show d + 1 + (j + 1) = d + j + 2 by omega]
        exact this
      · cases hf
    rw [if_neg c75] at hf
    by_cases c79 : mn = 79
    · rw [if_pos c79] at hf
      subst c79
      split at hf
      · rename_i a0
        obtain ⟨x, e1, rfl⟩ := Option.map_eq_some_iff.mp hf
        have := cX7_readFirst X N (d + j) (gX7_readSign N j) (fun mn as h q e => by have := ih mn as h q e; rw [show d + j + 1 = d + 1 + j by omega]; exact this) a0 h x e1
        rw [show d + 1 + (j + 1) = d + j + 2 by omega]
        exact this
      · cases hf
    rw [if_neg c79] at hf
    by_cases c85 : mn = 85
    · rw [if_pos c85] at hf
      subst c85
      split at hf
      · rename_i a0
        obtain ⟨x, e1, rfl⟩ := Option.map_eq_some_iff.mp hf
        have := cX7_readIndex X N (d + j) (gX7_readSign N j) (fun mn as h q e => by have := ih mn as h q e; rw [show d + j + 1 = d + 1 + j by omega]; exact this) a0 h x e1
        rw [show d + 1 + (j + 1) = d + j + 2 by omega]
        exact this
      · cases hf
    rw [if_neg c85] at hf
    by_cases c83 : mn = 83
    · rw [if_pos c83] at hf
      subst c83
      split at hf
      · rename_i a0
        obtain ⟨x, e1, rfl⟩ := Option.map_eq_some_iff.mp hf
        have := cX7_readArguments X N (d + j) (gX7_readSign N j) (fun mn as h q e => by have := ih mn as h q e; rw [show d + j + 1 = d + 1 + j by omega]; exact this) a0 h x e1
        rw [show d + 1 + (j + 1) = d + j + 2 by omega]
        exact this
      · cases hf
    rw [if_neg c83] at hf
    by_cases c87 : mn = 87
    · rw [if_pos c87] at hf
      subst c87
      split at hf
      · rename_i a0
        obtain ⟨x, e1, rfl⟩ := Option.map_eq_some_iff.mp hf
        have := cX7_readBehind X N (d + j) (gX7_readSign N j) (fun mn as h q e => by have := ih mn as h q e; rw [show d + j + 1 = d + 1 + j by omega]; exact this) a0 h x e1
        rw [show d + 1 + (j + 1) = d + j + 2 by omega]
        exact this
      · cases hf
    rw [if_neg c87] at hf
    by_cases c77 : mn = 77
    · rw [if_pos c77] at hf
      subst c77
      split at hf
      · rename_i a0
        obtain ⟨x, e1, rfl⟩ := Option.map_eq_some_iff.mp hf
        have := cX7_readOne X N (d + j) (gX7_readSign N j) (fun mn as h q e => by have := ih mn as h q e; rw [show d + j + 1 = d + 1 + j by omega]; exact this) a0 h x e1
        rw [show d + 1 + (j + 1) = d + j + 2 by omega]
        exact this
      · cases hf
    rw [if_neg c77] at hf
    by_cases c76 : mn = 76
    · rw [if_pos c76] at hf
      subst c76
      split at hf
      · rename_i a0
        obtain ⟨x, e1, rfl⟩ := Option.map_eq_some_iff.mp hf
        have := cX7_readExpression X N (d + j) (gX7_readSign N j) (fun mn as h q e => by have := ih mn as h q e; rw [show d + j + 1 = d + 1 + j by omega]; exact this) a0 h x e1
        rw [show d + 1 + (j + 1) = d + j + 2 by omega]
        exact this
      · cases hf
    rw [if_neg c76] at hf
    cases hf
def eX7_take : List (Nat × Instr × Nat) := [(0, .aload_n 0, 1), (1, .getfield 57, 3), (4, .iload_n 1, 1), (5, .if_icmp .ne 10, 3), (8, .aload_n 0, 1), (9, .invokevirtual 60, 3), (12, .goto 7, 3), (15, .aload_n 0, 1), (16, .invokevirtual 98, 3), (19, .return_, 1)]
theorem dX7_take : dChk (pCd 4012) eX7_take = true := by decide +kernel
def fX7_take (N : Nat) (v0 : Nat) (v1 : Int32) (h : pH) : Option (pH) := if isO h v0 7 = true then (
  (getI h v0 7 9).bind fun t1 =>
  if t1 = v1 then (
  (fX7_advance N v0 h).bind fun h4 =>
  some h4) else (
  (fX7_fail N v0 h).bind fun h3 =>
  some h3)) else none
theorem oX7_take {N : Nat} {v0 : Nat} {v1 : Int32} {h : pH} {q : pH} (hf : fX7_take N v0 v1 h = some q) : isO h v0 7 = true := by
  unfold fX7_take at hf
  by_cases hc : isO h v0 7 = true
  · exact hc
  · rw [if_neg hc] at hf; cases hf
theorem cX7_take (X : pX) (N d : Nat) (v0 : Nat) (v1 : Int32) (h : pH) (q : pH) (hf : fX7_take N v0 v1 h = some q) : Calls X (d + 1) 59 [.ref v0, .int v1] h (none, q, 0, 0) := by
  refine Calls.of M59 (Nat.le_of_ble_eq_true rfl) ?_
  show Run X (d + 1) 7 false (pCd 4012) 2 none 0 [(0, .ref v0), (1, .int v1)] [] h 0 0 (none, q, 0, 0)
  unfold fX7_take at hf
  by_cases hc : isO h v0 7 = true
  · rw [if_pos hc] at hf
    have nv0 : ¬ v0 = 4 := isO_ne hc
    refine r_aload_n (dGet dX7_take (j := 0) rfl) nv0 rfl ?_
    obtain ⟨t1, et1, hf⟩ := Option.bind_eq_some_iff.mp hf
    refine r_getI (dGet dX7_take (j := 1) rfl) F7_57 et1 ?_
    refine r_iload_n (dGet dX7_take (j := 2) rfl) rfl ?_
    by_cases c2 : t1 = v1
    · rw [if_pos c2] at hf
      refine r_icmp_ne_f (dGet dX7_take (j := 3) rfl) rfl c2 ?_
      refine r_aload_n (dGet dX7_take (j := 4) rfl) nv0 rfl ?_
      obtain ⟨h4, eh4, hf⟩ := Option.bind_eq_some_iff.mp hf
      refine r_virtual (dGet dX7_take (j := 5) rfl) L7_60 M60 rfl rfl (Nat.le_of_ble_eq_true rfl) (oX7_advance eh4) (cX7_advance X N (d + 0) v0 h h4 eh4) ?_
      refine r_goto (dGet dX7_take (j := 6) rfl) rfl ?_
      cases hf
      exact r_vret (dGet dX7_take (j := 9) rfl) rfl
    · rw [if_neg c2] at hf
      refine r_icmp_ne_t (dGet dX7_take (j := 3) rfl) rfl c2 ?_
      refine r_aload_n (dGet dX7_take (j := 7) rfl) nv0 rfl ?_
      obtain ⟨h3, eh3, hf⟩ := Option.bind_eq_some_iff.mp hf
      refine r_virtual (dGet dX7_take (j := 8) rfl) L7_98 M61 rfl rfl (Nat.le_of_ble_eq_true rfl) (oX7_fail eh3) (cX7_fail X N (d + 0) v0 h h3 eh3) ?_
      cases hf
      exact r_vret (dGet dX7_take (j := 9) rfl) rfl
  · rw [if_neg hc] at hf; cases hf
def eX7_readCallOrGift : List (Nat × Instr × Nat) := [(0, .aload_n 0, 1), (1, .getfield 21, 3), (4, .getfield 116, 3), (7, .istore_n 1, 1), (8, .aload_n 0, 1), (9, .invokevirtual 168, 3), (12, .aload_n 0, 1), (13, .getfield 21, 3), (16, .iload_n 1, 1), (17, .invokevirtual 183, 3), (20, .istore_n 2, 1), (21, .iload_n 2, 1), (22, .invokestatic 187, 3), (25, .istore_n 3, 1), (26, .aload_n 0, 1), (27, .getfield 57, 3), (30, .bipush 61, 2), (32, .if_icmp .ne 40, 3), (35, .iload_n 3, 1), (36, .iconst (-1), 1), (37, .if_icmp .eq 35, 3), (40, .aload_n 0, 1), (41, .getfield 21, 3), (44, .invokevirtual 190, 3), (47, .istore 4, 2), (49, .aload_n 0, 1), (50, .invokevirtual 60, 3), (53, .aload_n 0, 1), (54, .invokevirtual 168, 3), (57, .aload_n 0, 1), (58, .getfield 21, 3), (61, .iload_n 3, 1), (62, .iload 4, 2), (64, .iconst 0, 1), (65, .invokevirtual 126, 3), (68, .pop, 1), (69, .goto 37, 3), (72, .aload_n 0, 1), (73, .getfield 57, 3), (76, .bipush 59, 2), (78, .if_icmp .ne 24, 3), (81, .iload_n 2, 1), (82, .bipush 30, 2), (84, .if_icmp .ne 18, 3), (87, .aload_n 0, 1), (88, .getfield 21, 3), (91, .bipush 52, 2), (93, .iconst 0, 1), (94, .iconst 0, 1), (95, .invokevirtual 126, 3), (98, .pop, 1), (99, .goto 7, 3), (102, .aload_n 0, 1), (103, .invokevirtual 98, 3), (106, .aload_n 0, 1), (107, .bipush 59, 2), (109, .invokevirtual 40, 3), (112, .return_, 1)]
theorem dX7_readCallOrGift : dChk (pCd 4173) eX7_readCallOrGift = true := by decide +kernel
def fX7_readCallOrGift_106 (N : Nat) (v0 : Nat) (h : pH) : Option (pH) :=
  (fX7_take N v0 (59 : Int32) h).bind fun h1 =>
  some h1
theorem lX7_readCallOrGift_106 (X : pX) (N d : Nat)  (v0 : Nat) (h : pH) (q : pH) (hf : fX7_readCallOrGift_106 N v0 h = some q) (nv0 : ¬ v0 = 4) : Run X (d + 602) 7 false (pCd 4173) 5 none 106 [(0, .ref v0)] [] h 0 0 (none, q, 0, 0) := by
  unfold fX7_readCallOrGift_106 at hf
  refine r_aload_n (dGet dX7_readCallOrGift (j := 54) rfl) nv0 rfl ?_
  refine r_bipush (dGet dX7_readCallOrGift (j := 55) rfl) kB_59 ?_
  obtain ⟨h1, eh1, hf⟩ := Option.bind_eq_some_iff.mp hf
  refine r_virtual (dGet dX7_readCallOrGift (j := 56) rfl) L7_40 M59 rfl rfl (Nat.le_of_ble_eq_true rfl) (oX7_take eh1) (cX7_take X N (d + 600) v0 (59 : Int32) h h1 eh1) ?_
  cases hf
  exact r_vret (dGet dX7_readCallOrGift (j := 57) rfl) rfl
def fX7_readCallOrGift_102 (N : Nat) (v0 : Nat) (h : pH) : Option (pH) :=
  (fX7_fail N v0 h).bind fun h2 =>
  fX7_readCallOrGift_106 N v0 h2
theorem lX7_readCallOrGift_102 (X : pX) (N d : Nat)  (v0 : Nat) (h : pH) (q : pH) (hf : fX7_readCallOrGift_102 N v0 h = some q) (nv0 : ¬ v0 = 4) : Run X (d + 602) 7 false (pCd 4173) 5 none 102 [(0, .ref v0)] [] h 0 0 (none, q, 0, 0) := by
  unfold fX7_readCallOrGift_102 at hf
  refine r_aload_n (dGet dX7_readCallOrGift (j := 52) rfl) nv0 rfl ?_
  obtain ⟨h2, eh2, hf⟩ := Option.bind_eq_some_iff.mp hf
  refine r_virtual (dGet dX7_readCallOrGift (j := 53) rfl) L7_98 M61 rfl rfl (Nat.le_of_ble_eq_true rfl) (oX7_fail eh2) (cX7_fail X N (d + 601) v0 h h2 eh2) ?_
  exact lX7_readCallOrGift_106 X N d v0 h2 q hf nv0
def fX7_readCallOrGift_72 (N : Nat) (v0 : Nat) (v2 : Int32) (h : pH) : Option (pH) :=
  (getI h v0 7 9).bind fun t3 =>
  if t3 = (59 : Int32) then (
  if v2 = (30 : Int32) then (
  (getR h v0 7 3).bind fun t6 =>
  (fX2_emit N t6 (52 : Int32) (0 : Int32) (0 : Int32) h).bind fun q7 =>
  fX7_readCallOrGift_106 N v0 q7.2) else (
  fX7_readCallOrGift_102 N v0 h)) else (
  fX7_readCallOrGift_102 N v0 h)
theorem lX7_readCallOrGift_72 (X : pX) (N d : Nat)  (v0 : Nat) (v2 : Int32) (h : pH) (q : pH) (hf : fX7_readCallOrGift_72 N v0 v2 h = some q) (nv0 : ¬ v0 = 4) : Run X (d + 602) 7 false (pCd 4173) 5 none 72 [(0, .ref v0), (2, .int v2)] [] h 0 0 (none, q, 0, 0) := by
  unfold fX7_readCallOrGift_72 at hf
  refine r_aload_n (dGet dX7_readCallOrGift (j := 37) rfl) nv0 rfl ?_
  obtain ⟨t3, et3, hf⟩ := Option.bind_eq_some_iff.mp hf
  refine r_getI (dGet dX7_readCallOrGift (j := 38) rfl) F7_57 et3 ?_
  refine r_bipush (dGet dX7_readCallOrGift (j := 39) rfl) kB_59 ?_
  by_cases c4 : t3 = (59 : Int32)
  · rw [if_pos c4] at hf
    refine r_icmp_ne_f (dGet dX7_readCallOrGift (j := 40) rfl) rfl c4 ?_
    refine r_iload_n (dGet dX7_readCallOrGift (j := 41) rfl) rfl ?_
    refine r_bipush (dGet dX7_readCallOrGift (j := 42) rfl) kB_30 ?_
    by_cases c5 : v2 = (30 : Int32)
    · rw [if_pos c5] at hf
      refine r_icmp_ne_f (dGet dX7_readCallOrGift (j := 43) rfl) rfl c5 ?_
      refine r_aload_n (dGet dX7_readCallOrGift (j := 44) rfl) nv0 rfl ?_
      obtain ⟨t6, et6, hf⟩ := Option.bind_eq_some_iff.mp hf
      refine r_getR (dGet dX7_readCallOrGift (j := 45) rfl) F7_21 et6 ?_
      refine r_bipush (dGet dX7_readCallOrGift (j := 46) rfl) kB_52 ?_
      refine r_iconst (dGet dX7_readCallOrGift (j := 47) rfl) kI_0 ?_
      refine r_iconst (dGet dX7_readCallOrGift (j := 48) rfl) kI_0 ?_
      obtain ⟨q7, eq7, hf⟩ := Option.bind_eq_some_iff.mp hf
      refine r_virtual (dGet dX7_readCallOrGift (j := 49) rfl) L7_126 M81 rfl rfl (Nat.le_of_ble_eq_true rfl) (oX2_emit eq7) (cX2_emit X N (d + 601) t6 (52 : Int32) (0 : Int32) (0 : Int32) h q7 eq7) ?_
      refine r_pop (dGet dX7_readCallOrGift (j := 50) rfl) rfl ?_
      refine r_goto (dGet dX7_readCallOrGift (j := 51) rfl) rfl ?_
      refine Run.weak [(0, .ref v0)] (by simp) (by simp [pNd]) ?_
      exact lX7_readCallOrGift_106 X N d v0 q7.2 q hf nv0
    · rw [if_neg c5] at hf
      refine r_icmp_ne_t (dGet dX7_readCallOrGift (j := 43) rfl) rfl c5 ?_
      refine Run.weak [(0, .ref v0)] (by simp) (by simp [pNd]) ?_
      exact lX7_readCallOrGift_102 X N d v0 h q hf nv0
  · rw [if_neg c4] at hf
    refine r_icmp_ne_t (dGet dX7_readCallOrGift (j := 40) rfl) rfl c4 ?_
    refine Run.weak [(0, .ref v0)] (by simp) (by simp [pNd]) ?_
    exact lX7_readCallOrGift_102 X N d v0 h q hf nv0
def fX7_readCallOrGift (N : Nat) (v0 : Nat) (h : pH) : Option (pH) := if isO h v0 7 = true then (
  (getR h v0 7 3).bind fun t8 =>
  (getI h t8 2 7).bind fun t9 =>
  (if isO h v0 7 = true then some () else none).bind fun _ =>
  (rcV (gX7_readSign N 600) 76 [.ref v0] h).bind fun h10 =>
  (getR h10 v0 7 3).bind fun t12 =>
  (fX2_lastOp N t12 t9 h10).bind fun q13 =>
  (fX7_giftOf N q13.1 q13.2).bind fun q14 =>
  (getI q14.2 v0 7 9).bind fun t15 =>
  if t15 = (61 : Int32) then (
  if q14.1 = (-1 : Int32) then (
  fX7_readCallOrGift_72 N v0 q13.1 q14.2) else (
  (getR q14.2 v0 7 3).bind fun t18 =>
  (fX2_takeBackLast N t18 q14.2).bind fun q19 =>
  (fX7_advance N v0 q19.2).bind fun h20 =>
  (if isO h20 v0 7 = true then some () else none).bind fun _ =>
  (rcV (gX7_readSign N 600) 76 [.ref v0] h20).bind fun h21 =>
  (getR h21 v0 7 3).bind fun t23 =>
  (fX2_emit N t23 q14.1 q19.1 (0 : Int32) h21).bind fun q24 =>
  fX7_readCallOrGift_106 N v0 q24.2)) else (
  fX7_readCallOrGift_72 N v0 q13.1 q14.2)) else none
theorem oX7_readCallOrGift {N : Nat} {v0 : Nat} {h : pH} {q : pH} (hf : fX7_readCallOrGift N v0 h = some q) : isO h v0 7 = true := by
  unfold fX7_readCallOrGift at hf
  by_cases hc : isO h v0 7 = true
  · exact hc
  · rw [if_neg hc] at hf; cases hf
theorem cX7_readCallOrGift (X : pX) (N d : Nat) (v0 : Nat) (h : pH) (q : pH) (hf : fX7_readCallOrGift N v0 h = some q) : Calls X (d + 602) 100 [.ref v0] h (none, q, 0, 0) := by
  refine Calls.of M100 (Nat.le_of_ble_eq_true rfl) ?_
  show Run X (d + 602) 7 false (pCd 4173) 5 none 0 [(0, .ref v0)] [] h 0 0 (none, q, 0, 0)
  unfold fX7_readCallOrGift at hf
  by_cases hc : isO h v0 7 = true
  · rw [if_pos hc] at hf
    have nv0 : ¬ v0 = 4 := isO_ne hc
    refine r_aload_n (dGet dX7_readCallOrGift (j := 0) rfl) nv0 rfl ?_
    obtain ⟨t8, et8, hf⟩ := Option.bind_eq_some_iff.mp hf
    refine r_getR (dGet dX7_readCallOrGift (j := 1) rfl) F7_21 et8 ?_
    obtain ⟨t9, et9, hf⟩ := Option.bind_eq_some_iff.mp hf
    refine r_getI (dGet dX7_readCallOrGift (j := 2) rfl) F7_116 et9 ?_
    refine r_istore_n (lv' := [(1, .int t9), (0, .ref v0)]) (dGet dX7_readCallOrGift (j := 3) rfl) (by decide) rfl ?_
    refine r_aload_n (dGet dX7_readCallOrGift (j := 4) rfl) nv0 rfl ?_
    obtain ⟨_, ec11, hf⟩ := Option.bind_eq_some_iff.mp hf
    obtain ⟨h10, eh10, hf⟩ := Option.bind_eq_some_iff.mp hf
    refine r_virtual (dGet dX7_readCallOrGift (j := 5) rfl) L7_168 M76 rfl rfl (Nat.le_of_ble_eq_true rfl) (guard_of ec11) (rcV_calls (gX7_readSign_calls X N (d + 0) 600) eh10) ?_
    refine r_aload_n (dGet dX7_readCallOrGift (j := 6) rfl) nv0 rfl ?_
    obtain ⟨t12, et12, hf⟩ := Option.bind_eq_some_iff.mp hf
    refine r_getR (dGet dX7_readCallOrGift (j := 7) rfl) F7_21 et12 ?_
    refine r_iload_n (dGet dX7_readCallOrGift (j := 8) rfl) rfl ?_
    obtain ⟨q13, eq13, hf⟩ := Option.bind_eq_some_iff.mp hf
    refine r_virtual (dGet dX7_readCallOrGift (j := 9) rfl) L7_183 M101 rfl rfl (Nat.le_of_ble_eq_true rfl) (oX2_lastOp eq13) (cX2_lastOp X N (d + 601) t12 t9 h10 q13 eq13) ?_
    refine r_istore_n (lv' := [(2, .int q13.1), (1, .int t9), (0, .ref v0)]) (dGet dX7_readCallOrGift (j := 10) rfl) (by decide) rfl ?_
    refine r_iload_n (dGet dX7_readCallOrGift (j := 11) rfl) rfl ?_
    obtain ⟨q14, eq14, hf⟩ := Option.bind_eq_some_iff.mp hf
    refine r_static (dGet dX7_readCallOrGift (j := 12) rfl) (by decide +kernel) (by decide +kernel) L7_187 M102 rfl rfl (Nat.le_of_ble_eq_true rfl) (cX7_giftOf X N (d + 601) q13.1 q13.2 q14 eq14) ?_
    refine r_istore_n (lv' := [(3, .int q14.1), (2, .int q13.1), (1, .int t9), (0, .ref v0)]) (dGet dX7_readCallOrGift (j := 13) rfl) (by decide) rfl ?_
    refine r_aload_n (dGet dX7_readCallOrGift (j := 14) rfl) nv0 rfl ?_
    obtain ⟨t15, et15, hf⟩ := Option.bind_eq_some_iff.mp hf
    refine r_getI (dGet dX7_readCallOrGift (j := 15) rfl) F7_57 et15 ?_
    refine r_bipush (dGet dX7_readCallOrGift (j := 16) rfl) kB_61 ?_
    by_cases c16 : t15 = (61 : Int32)
    · rw [if_pos c16] at hf
      refine r_icmp_ne_f (dGet dX7_readCallOrGift (j := 17) rfl) rfl c16 ?_
      refine r_iload_n (dGet dX7_readCallOrGift (j := 18) rfl) rfl ?_
      refine r_iconst (dGet dX7_readCallOrGift (j := 19) rfl) kI_m1 ?_
      by_cases c17 : q14.1 = (-1 : Int32)
      · rw [if_pos c17] at hf
        refine r_icmp_eq_t (dGet dX7_readCallOrGift (j := 20) rfl) rfl c17 ?_
        refine Run.weak [(0, .ref v0), (2, .int q13.1)] (by simp) (by simp [pNd]) ?_
        exact lX7_readCallOrGift_72 X N d v0 q13.1 q14.2 q hf nv0
      · rw [if_neg c17] at hf
        refine r_icmp_eq_f (dGet dX7_readCallOrGift (j := 20) rfl) rfl c17 ?_
        refine r_aload_n (dGet dX7_readCallOrGift (j := 21) rfl) nv0 rfl ?_
        obtain ⟨t18, et18, hf⟩ := Option.bind_eq_some_iff.mp hf
        refine r_getR (dGet dX7_readCallOrGift (j := 22) rfl) F7_21 et18 ?_
        obtain ⟨q19, eq19, hf⟩ := Option.bind_eq_some_iff.mp hf
        refine r_virtual (dGet dX7_readCallOrGift (j := 23) rfl) L7_190 M103 rfl rfl (Nat.le_of_ble_eq_true rfl) (oX2_takeBackLast eq19) (cX2_takeBackLast X N (d + 601) t18 q14.2 q19 eq19) ?_
        refine r_istore (lv' := [(4, .int q19.1), (3, .int q14.1), (2, .int q13.1), (1, .int t9), (0, .ref v0)]) (dGet dX7_readCallOrGift (j := 24) rfl) (by decide) rfl ?_
        refine r_aload_n (dGet dX7_readCallOrGift (j := 25) rfl) nv0 rfl ?_
        obtain ⟨h20, eh20, hf⟩ := Option.bind_eq_some_iff.mp hf
        refine r_virtual (dGet dX7_readCallOrGift (j := 26) rfl) L7_60 M60 rfl rfl (Nat.le_of_ble_eq_true rfl) (oX7_advance eh20) (cX7_advance X N (d + 601) v0 q19.2 h20 eh20) ?_
        refine r_aload_n (dGet dX7_readCallOrGift (j := 27) rfl) nv0 rfl ?_
        obtain ⟨_, ec22, hf⟩ := Option.bind_eq_some_iff.mp hf
        obtain ⟨h21, eh21, hf⟩ := Option.bind_eq_some_iff.mp hf
        refine r_virtual (dGet dX7_readCallOrGift (j := 28) rfl) L7_168 M76 rfl rfl (Nat.le_of_ble_eq_true rfl) (guard_of ec22) (rcV_calls (gX7_readSign_calls X N (d + 0) 600) eh21) ?_
        refine r_aload_n (dGet dX7_readCallOrGift (j := 29) rfl) nv0 rfl ?_
        obtain ⟨t23, et23, hf⟩ := Option.bind_eq_some_iff.mp hf
        refine r_getR (dGet dX7_readCallOrGift (j := 30) rfl) F7_21 et23 ?_
        refine r_iload_n (dGet dX7_readCallOrGift (j := 31) rfl) rfl ?_
        refine r_iload (dGet dX7_readCallOrGift (j := 32) rfl) rfl ?_
        refine r_iconst (dGet dX7_readCallOrGift (j := 33) rfl) kI_0 ?_
        obtain ⟨q24, eq24, hf⟩ := Option.bind_eq_some_iff.mp hf
        refine r_virtual (dGet dX7_readCallOrGift (j := 34) rfl) L7_126 M81 rfl rfl (Nat.le_of_ble_eq_true rfl) (oX2_emit eq24) (cX2_emit X N (d + 601) t23 q14.1 q19.1 (0 : Int32) h21 q24 eq24) ?_
        refine r_pop (dGet dX7_readCallOrGift (j := 35) rfl) rfl ?_
        refine r_goto (dGet dX7_readCallOrGift (j := 36) rfl) rfl ?_
        refine Run.weak [(0, .ref v0)] (by simp) (by simp [pNd]) ?_
        exact lX7_readCallOrGift_106 X N d v0 q24.2 q hf nv0
    · rw [if_neg c16] at hf
      refine r_icmp_ne_t (dGet dX7_readCallOrGift (j := 17) rfl) rfl c16 ?_
      refine Run.weak [(0, .ref v0), (2, .int q13.1)] (by simp) (by simp [pNd]) ?_
      exact lX7_readCallOrGift_72 X N d v0 q13.1 q14.2 q hf nv0
  · rw [if_neg hc] at hf; cases hf
def eX7_readReturn : List (Nat × Instr × Nat) := [(0, .aload_n 0, 1), (1, .invokevirtual 60, 3), (4, .aload_n 0, 1), (5, .getfield 57, 3), (8, .bipush 59, 2), (10, .if_icmp .ne 18, 3), (13, .aload_n 0, 1), (14, .getfield 21, 3), (17, .bipush 40, 2), (19, .iconst 0, 1), (20, .iconst 0, 1), (21, .invokevirtual 126, 3), (24, .pop, 1), (25, .goto 19, 3), (28, .aload_n 0, 1), (29, .invokevirtual 168, 3), (32, .aload_n 0, 1), (33, .getfield 21, 3), (36, .bipush 41, 2), (38, .iconst 0, 1), (39, .iconst 0, 1), (40, .invokevirtual 126, 3), (43, .pop, 1), (44, .aload_n 0, 1), (45, .bipush 59, 2), (47, .invokevirtual 40, 3), (50, .return_, 1)]
theorem dX7_readReturn : dChk (pCd 4157) eX7_readReturn = true := by decide +kernel
def fX7_readReturn_44 (N : Nat) (v0 : Nat) (h : pH) : Option (pH) :=
  (fX7_take N v0 (59 : Int32) h).bind fun h1 =>
  some h1
theorem lX7_readReturn_44 (X : pX) (N d : Nat)  (v0 : Nat) (h : pH) (q : pH) (hf : fX7_readReturn_44 N v0 h = some q) (nv0 : ¬ v0 = 4) : Run X (d + 602) 7 false (pCd 4157) 1 none 44 [(0, .ref v0)] [] h 0 0 (none, q, 0, 0) := by
  unfold fX7_readReturn_44 at hf
  refine r_aload_n (dGet dX7_readReturn (j := 23) rfl) nv0 rfl ?_
  refine r_bipush (dGet dX7_readReturn (j := 24) rfl) kB_59 ?_
  obtain ⟨h1, eh1, hf⟩ := Option.bind_eq_some_iff.mp hf
  refine r_virtual (dGet dX7_readReturn (j := 25) rfl) L7_40 M59 rfl rfl (Nat.le_of_ble_eq_true rfl) (oX7_take eh1) (cX7_take X N (d + 600) v0 (59 : Int32) h h1 eh1) ?_
  cases hf
  exact r_vret (dGet dX7_readReturn (j := 26) rfl) rfl
def fX7_readReturn (N : Nat) (v0 : Nat) (h : pH) : Option (pH) := if isO h v0 7 = true then (
  (fX7_advance N v0 h).bind fun h2 =>
  (getI h2 v0 7 9).bind fun t3 =>
  if t3 = (59 : Int32) then (
  (getR h2 v0 7 3).bind fun t9 =>
  (fX2_emit N t9 (40 : Int32) (0 : Int32) (0 : Int32) h2).bind fun q10 =>
  fX7_readReturn_44 N v0 q10.2) else (
  (if isO h2 v0 7 = true then some () else none).bind fun _ =>
  (rcV (gX7_readSign N 600) 76 [.ref v0] h2).bind fun h5 =>
  (getR h5 v0 7 3).bind fun t7 =>
  (fX2_emit N t7 (41 : Int32) (0 : Int32) (0 : Int32) h5).bind fun q8 =>
  fX7_readReturn_44 N v0 q8.2)) else none
theorem oX7_readReturn {N : Nat} {v0 : Nat} {h : pH} {q : pH} (hf : fX7_readReturn N v0 h = some q) : isO h v0 7 = true := by
  unfold fX7_readReturn at hf
  by_cases hc : isO h v0 7 = true
  · exact hc
  · rw [if_neg hc] at hf; cases hf
theorem cX7_readReturn (X : pX) (N d : Nat) (v0 : Nat) (h : pH) (q : pH) (hf : fX7_readReturn N v0 h = some q) : Calls X (d + 602) 96 [.ref v0] h (none, q, 0, 0) := by
  refine Calls.of M96 (Nat.le_of_ble_eq_true rfl) ?_
  show Run X (d + 602) 7 false (pCd 4157) 1 none 0 [(0, .ref v0)] [] h 0 0 (none, q, 0, 0)
  unfold fX7_readReturn at hf
  by_cases hc : isO h v0 7 = true
  · rw [if_pos hc] at hf
    have nv0 : ¬ v0 = 4 := isO_ne hc
    refine r_aload_n (dGet dX7_readReturn (j := 0) rfl) nv0 rfl ?_
    obtain ⟨h2, eh2, hf⟩ := Option.bind_eq_some_iff.mp hf
    refine r_virtual (dGet dX7_readReturn (j := 1) rfl) L7_60 M60 rfl rfl (Nat.le_of_ble_eq_true rfl) (oX7_advance eh2) (cX7_advance X N (d + 601) v0 h h2 eh2) ?_
    refine r_aload_n (dGet dX7_readReturn (j := 2) rfl) nv0 rfl ?_
    obtain ⟨t3, et3, hf⟩ := Option.bind_eq_some_iff.mp hf
    refine r_getI (dGet dX7_readReturn (j := 3) rfl) F7_57 et3 ?_
    refine r_bipush (dGet dX7_readReturn (j := 4) rfl) kB_59 ?_
    by_cases c4 : t3 = (59 : Int32)
    · rw [if_pos c4] at hf
      refine r_icmp_ne_f (dGet dX7_readReturn (j := 5) rfl) rfl c4 ?_
      refine r_aload_n (dGet dX7_readReturn (j := 6) rfl) nv0 rfl ?_
      obtain ⟨t9, et9, hf⟩ := Option.bind_eq_some_iff.mp hf
      refine r_getR (dGet dX7_readReturn (j := 7) rfl) F7_21 et9 ?_
      refine r_bipush (dGet dX7_readReturn (j := 8) rfl) kB_40 ?_
      refine r_iconst (dGet dX7_readReturn (j := 9) rfl) kI_0 ?_
      refine r_iconst (dGet dX7_readReturn (j := 10) rfl) kI_0 ?_
      obtain ⟨q10, eq10, hf⟩ := Option.bind_eq_some_iff.mp hf
      refine r_virtual (dGet dX7_readReturn (j := 11) rfl) L7_126 M81 rfl rfl (Nat.le_of_ble_eq_true rfl) (oX2_emit eq10) (cX2_emit X N (d + 601) t9 (40 : Int32) (0 : Int32) (0 : Int32) h2 q10 eq10) ?_
      refine r_pop (dGet dX7_readReturn (j := 12) rfl) rfl ?_
      refine r_goto (dGet dX7_readReturn (j := 13) rfl) rfl ?_
      exact lX7_readReturn_44 X N d v0 q10.2 q hf nv0
    · rw [if_neg c4] at hf
      refine r_icmp_ne_t (dGet dX7_readReturn (j := 5) rfl) rfl c4 ?_
      refine r_aload_n (dGet dX7_readReturn (j := 14) rfl) nv0 rfl ?_
      obtain ⟨_, ec6, hf⟩ := Option.bind_eq_some_iff.mp hf
      obtain ⟨h5, eh5, hf⟩ := Option.bind_eq_some_iff.mp hf
      refine r_virtual (dGet dX7_readReturn (j := 15) rfl) L7_168 M76 rfl rfl (Nat.le_of_ble_eq_true rfl) (guard_of ec6) (rcV_calls (gX7_readSign_calls X N (d + 0) 600) eh5) ?_
      refine r_aload_n (dGet dX7_readReturn (j := 16) rfl) nv0 rfl ?_
      obtain ⟨t7, et7, hf⟩ := Option.bind_eq_some_iff.mp hf
      refine r_getR (dGet dX7_readReturn (j := 17) rfl) F7_21 et7 ?_
      refine r_bipush (dGet dX7_readReturn (j := 18) rfl) kB_41 ?_
      refine r_iconst (dGet dX7_readReturn (j := 19) rfl) kI_0 ?_
      refine r_iconst (dGet dX7_readReturn (j := 20) rfl) kI_0 ?_
      obtain ⟨q8, eq8, hf⟩ := Option.bind_eq_some_iff.mp hf
      refine r_virtual (dGet dX7_readReturn (j := 21) rfl) L7_126 M81 rfl rfl (Nat.le_of_ble_eq_true rfl) (oX2_emit eq8) (cX2_emit X N (d + 601) t7 (41 : Int32) (0 : Int32) (0 : Int32) h5 q8 eq8) ?_
      refine r_pop (dGet dX7_readReturn (j := 22) rfl) rfl ?_
      exact lX7_readReturn_44 X N d v0 q8.2 q hf nv0
  · rw [if_neg hc] at hf; cases hf
def eX7_takeType : List (Nat × Instr × Nat) := [(0, .bipush (-6), 2), (2, .istore_n 1, 1), (3, .aload_n 0, 1), (4, .getfield 57, 3), (7, .bipush 22, 2), (9, .if_icmp .ne 19, 3), (12, .aload_n 0, 1), (13, .getfield 7, 3), (16, .getfield 101, 3), (19, .aload_n 0, 1), (20, .getfield 47, 3), (23, .iaload, 1), (24, .istore_n 1, 1), (25, .goto 41, 3), (28, .aload_n 0, 1), (29, .getfield 57, 3), (32, .iconst 2, 1), (33, .if_icmp .ne 8, 3), (36, .iconst (-1), 1), (37, .istore_n 1, 1), (38, .goto 28, 3), (41, .aload_n 0, 1), (42, .getfield 57, 3), (45, .iconst 3, 1), (46, .if_icmp .ne 9, 3), (49, .bipush (-2), 2), (51, .istore_n 1, 1), (52, .goto 14, 3), (55, .aload_n 0, 1), (56, .getfield 57, 3), (59, .iconst 4, 1), (60, .if_icmp .ne 6, 3), (63, .bipush (-3), 2), (65, .istore_n 1, 1), (66, .iload_n 1, 1), (67, .bipush (-6), 2), (69, .if_icmp .ne 10, 3), (72, .aload_n 0, 1), (73, .invokevirtual 98, 3), (76, .goto 7, 3), (79, .aload_n 0, 1), (80, .invokevirtual 60, 3), (83, .iload_n 1, 1), (84, .ireturn, 1)]
theorem dX7_takeType : dChk (pCd 4037) eX7_takeType = true := by decide +kernel
def fX7_takeType_66 (N : Nat) (v0 : Nat) (v1 : Int32) (h : pH) : Option (Int32 × pH) :=
  if v1 = (-6 : Int32) then (
  (fX7_fail N v0 h).bind fun h3 =>
  some (v1, h3)) else (
  (fX7_advance N v0 h).bind fun h2 =>
  some (v1, h2))
theorem lX7_takeType_66 (X : pX) (N d : Nat)  (v0 : Nat) (v1 : Int32) (h : pH) (q : Int32 × pH) (hf : fX7_takeType_66 N v0 v1 h = some q) (nv0 : ¬ v0 = 4) : Run X (d + 1) 7 false (pCd 4037) 2 (some .int) 66 [(0, .ref v0), (1, .int v1)] [] h 0 0 (some (.int q.1), q.2, 0, 0) := by
  unfold fX7_takeType_66 at hf
  refine r_iload_n (dGet dX7_takeType (j := 34) rfl) rfl ?_
  refine r_bipush (dGet dX7_takeType (j := 35) rfl) kB_m6 ?_
  by_cases c1 : v1 = (-6 : Int32)
  · rw [if_pos c1] at hf
    refine r_icmp_ne_f (dGet dX7_takeType (j := 36) rfl) rfl c1 ?_
    refine r_aload_n (dGet dX7_takeType (j := 37) rfl) nv0 rfl ?_
    obtain ⟨h3, eh3, hf⟩ := Option.bind_eq_some_iff.mp hf
    refine r_virtual (dGet dX7_takeType (j := 38) rfl) L7_98 M61 rfl rfl (Nat.le_of_ble_eq_true rfl) (oX7_fail eh3) (cX7_fail X N (d + 0) v0 h h3 eh3) ?_
    refine r_goto (dGet dX7_takeType (j := 39) rfl) rfl ?_
    refine r_iload_n (dGet dX7_takeType (j := 42) rfl) rfl ?_
    cases hf
    exact r_iret (dGet dX7_takeType (j := 43) rfl) rfl rfl
  · rw [if_neg c1] at hf
    refine r_icmp_ne_t (dGet dX7_takeType (j := 36) rfl) rfl c1 ?_
    refine r_aload_n (dGet dX7_takeType (j := 40) rfl) nv0 rfl ?_
    obtain ⟨h2, eh2, hf⟩ := Option.bind_eq_some_iff.mp hf
    refine r_virtual (dGet dX7_takeType (j := 41) rfl) L7_60 M60 rfl rfl (Nat.le_of_ble_eq_true rfl) (oX7_advance eh2) (cX7_advance X N (d + 0) v0 h h2 eh2) ?_
    refine r_iload_n (dGet dX7_takeType (j := 42) rfl) rfl ?_
    cases hf
    exact r_iret (dGet dX7_takeType (j := 43) rfl) rfl rfl
def fX7_takeType (N : Nat) (v0 : Nat) (h : pH) : Option (Int32 × pH) := if isO h v0 7 = true then (
  (getI h v0 7 9).bind fun t4 =>
  if t4 = (22 : Int32) then (
  (getR h v0 7 0).bind fun t12 =>
  (getR h t12 10 1).bind fun t13 =>
  (getI h v0 7 8).bind fun t14 =>
  (ldI h t13 t14).bind fun t15 =>
  fX7_takeType_66 N v0 t15 h) else (
  (getI h v0 7 9).bind fun t6 =>
  if t6 = (2 : Int32) then (
  fX7_takeType_66 N v0 (-1 : Int32) h) else (
  (getI h v0 7 9).bind fun t8 =>
  if t8 = (3 : Int32) then (
  fX7_takeType_66 N v0 (-2 : Int32) h) else (
  (getI h v0 7 9).bind fun t10 =>
  if t10 = (4 : Int32) then (
  fX7_takeType_66 N v0 (-3 : Int32) h) else (
  fX7_takeType_66 N v0 (-6 : Int32) h))))) else none
theorem oX7_takeType {N : Nat} {v0 : Nat} {h : pH} {q : Int32 × pH} (hf : fX7_takeType N v0 h = some q) : isO h v0 7 = true := by
  unfold fX7_takeType at hf
  by_cases hc : isO h v0 7 = true
  · exact hc
  · rw [if_neg hc] at hf; cases hf
theorem cX7_takeType (X : pX) (N d : Nat) (v0 : Nat) (h : pH) (q : Int32 × pH) (hf : fX7_takeType N v0 h = some q) : Calls X (d + 1) 65 [.ref v0] h (some (.int q.1), q.2, 0, 0) := by
  refine Calls.of M65 (Nat.le_of_ble_eq_true rfl) ?_
  show Run X (d + 1) 7 false (pCd 4037) 2 (some .int) 0 [(0, .ref v0)] [] h 0 0 (some (.int q.1), q.2, 0, 0)
  unfold fX7_takeType at hf
  by_cases hc : isO h v0 7 = true
  · rw [if_pos hc] at hf
    have nv0 : ¬ v0 = 4 := isO_ne hc
    refine r_bipush (dGet dX7_takeType (j := 0) rfl) kB_m6 ?_
    refine r_istore_n (lv' := [(1, .int (-6 : Int32)), (0, .ref v0)]) (dGet dX7_takeType (j := 1) rfl) (by decide) rfl ?_
    refine r_aload_n (dGet dX7_takeType (j := 2) rfl) nv0 rfl ?_
    obtain ⟨t4, et4, hf⟩ := Option.bind_eq_some_iff.mp hf
    refine r_getI (dGet dX7_takeType (j := 3) rfl) F7_57 et4 ?_
    refine r_bipush (dGet dX7_takeType (j := 4) rfl) kB_22 ?_
    by_cases c5 : t4 = (22 : Int32)
    · rw [if_pos c5] at hf
      refine r_icmp_ne_f (dGet dX7_takeType (j := 5) rfl) rfl c5 ?_
      refine r_aload_n (dGet dX7_takeType (j := 6) rfl) nv0 rfl ?_
      obtain ⟨t12, et12, hf⟩ := Option.bind_eq_some_iff.mp hf
      refine r_getR (dGet dX7_takeType (j := 7) rfl) F7_7 et12 ?_
      obtain ⟨t13, et13, hf⟩ := Option.bind_eq_some_iff.mp hf
      refine r_getR (dGet dX7_takeType (j := 8) rfl) F7_101 et13 ?_
      refine r_aload_n (dGet dX7_takeType (j := 9) rfl) nv0 rfl ?_
      obtain ⟨t14, et14, hf⟩ := Option.bind_eq_some_iff.mp hf
      refine r_getI (dGet dX7_takeType (j := 10) rfl) F7_47 et14 ?_
      obtain ⟨t15, et15, hf⟩ := Option.bind_eq_some_iff.mp hf
      refine r_iald (dGet dX7_takeType (j := 11) rfl) et15 ?_
      refine r_istore_n (lv' := [(1, .int t15), (0, .ref v0)]) (dGet dX7_takeType (j := 12) rfl) (by decide) rfl ?_
      refine r_goto (dGet dX7_takeType (j := 13) rfl) rfl ?_
      refine Run.weak [(0, .ref v0), (1, .int t15)] (by simp) (by simp [pNd]) ?_
      exact lX7_takeType_66 X N d v0 t15 h q hf nv0
    · rw [if_neg c5] at hf
      refine r_icmp_ne_t (dGet dX7_takeType (j := 5) rfl) rfl c5 ?_
      refine r_aload_n (dGet dX7_takeType (j := 14) rfl) nv0 rfl ?_
      obtain ⟨t6, et6, hf⟩ := Option.bind_eq_some_iff.mp hf
      refine r_getI (dGet dX7_takeType (j := 15) rfl) F7_57 et6 ?_
      refine r_iconst (dGet dX7_takeType (j := 16) rfl) kI_2 ?_
      by_cases c7 : t6 = (2 : Int32)
      · rw [if_pos c7] at hf
        refine r_icmp_ne_f (dGet dX7_takeType (j := 17) rfl) rfl c7 ?_
        refine r_iconst (dGet dX7_takeType (j := 18) rfl) kI_m1 ?_
        refine r_istore_n (lv' := [(1, .int (-1 : Int32)), (0, .ref v0)]) (dGet dX7_takeType (j := 19) rfl) (by decide) rfl ?_
        refine r_goto (dGet dX7_takeType (j := 20) rfl) rfl ?_
        refine Run.weak [(0, .ref v0), (1, .int (-1 : Int32))] (by simp) (by simp [pNd]) ?_
        exact lX7_takeType_66 X N d v0 (-1 : Int32) h q hf nv0
      · rw [if_neg c7] at hf
        refine r_icmp_ne_t (dGet dX7_takeType (j := 17) rfl) rfl c7 ?_
        refine r_aload_n (dGet dX7_takeType (j := 21) rfl) nv0 rfl ?_
        obtain ⟨t8, et8, hf⟩ := Option.bind_eq_some_iff.mp hf
        refine r_getI (dGet dX7_takeType (j := 22) rfl) F7_57 et8 ?_
        refine r_iconst (dGet dX7_takeType (j := 23) rfl) kI_3 ?_
        by_cases c9 : t8 = (3 : Int32)
        · rw [if_pos c9] at hf
          refine r_icmp_ne_f (dGet dX7_takeType (j := 24) rfl) rfl c9 ?_
          refine r_bipush (dGet dX7_takeType (j := 25) rfl) kB_m2 ?_
          refine r_istore_n (lv' := [(1, .int (-2 : Int32)), (0, .ref v0)]) (dGet dX7_takeType (j := 26) rfl) (by decide) rfl ?_
          refine r_goto (dGet dX7_takeType (j := 27) rfl) rfl ?_
          refine Run.weak [(0, .ref v0), (1, .int (-2 : Int32))] (by simp) (by simp [pNd]) ?_
          exact lX7_takeType_66 X N d v0 (-2 : Int32) h q hf nv0
        · rw [if_neg c9] at hf
          refine r_icmp_ne_t (dGet dX7_takeType (j := 24) rfl) rfl c9 ?_
          refine r_aload_n (dGet dX7_takeType (j := 28) rfl) nv0 rfl ?_
          obtain ⟨t10, et10, hf⟩ := Option.bind_eq_some_iff.mp hf
          refine r_getI (dGet dX7_takeType (j := 29) rfl) F7_57 et10 ?_
          refine r_iconst (dGet dX7_takeType (j := 30) rfl) kI_4 ?_
          by_cases c11 : t10 = (4 : Int32)
          · rw [if_pos c11] at hf
            refine r_icmp_ne_f (dGet dX7_takeType (j := 31) rfl) rfl c11 ?_
            refine r_bipush (dGet dX7_takeType (j := 32) rfl) kB_m3 ?_
            refine r_istore_n (lv' := [(1, .int (-3 : Int32)), (0, .ref v0)]) (dGet dX7_takeType (j := 33) rfl) (by decide) rfl ?_
            refine Run.weak [(0, .ref v0), (1, .int (-3 : Int32))] (by simp) (by simp [pNd]) ?_
            exact lX7_takeType_66 X N d v0 (-3 : Int32) h q hf nv0
          · rw [if_neg c11] at hf
            refine r_icmp_ne_t (dGet dX7_takeType (j := 31) rfl) rfl c11 ?_
            refine Run.weak [(0, .ref v0), (1, .int (-6 : Int32))] (by simp) (by simp [pNd]) ?_
            exact lX7_takeType_66 X N d v0 (-6 : Int32) h q hf nv0
  · rw [if_neg hc] at hf; cases hf
def eX7_readVariable : List (Nat × Instr × Nat) := [(0, .aload_n 0, 1), (1, .invokevirtual 107, 3), (4, .istore_n 1, 1), (5, .aload_n 0, 1), (6, .invokevirtual 51, 3), (9, .istore_n 2, 1), (10, .aload_n 0, 1), (11, .getfield 57, 3), (14, .bipush 61, 2), (16, .if_icmp .ne 26, 3), (19, .aload_n 0, 1), (20, .invokevirtual 60, 3), (23, .aload_n 0, 1), (24, .invokevirtual 168, 3), (27, .aload_n 0, 1), (28, .getfield 21, 3), (31, .bipush 37, 2), (33, .iload_n 2, 1), (34, .iload_n 1, 1), (35, .invokevirtual 126, 3), (38, .pop, 1), (39, .goto 15, 3), (42, .aload_n 0, 1), (43, .getfield 21, 3), (46, .bipush 53, 2), (48, .iload_n 2, 1), (49, .iload_n 1, 1), (50, .invokevirtual 126, 3), (53, .pop, 1), (54, .aload_n 0, 1), (55, .bipush 59, 2), (57, .invokevirtual 40, 3), (60, .return_, 1)]
theorem dX7_readVariable : dChk (pCd 4169) eX7_readVariable = true := by decide +kernel
def fX7_readVariable_54 (N : Nat) (v0 : Nat) (h : pH) : Option (pH) :=
  (fX7_take N v0 (59 : Int32) h).bind fun h1 =>
  some h1
theorem lX7_readVariable_54 (X : pX) (N d : Nat)  (v0 : Nat) (h : pH) (q : pH) (hf : fX7_readVariable_54 N v0 h = some q) (nv0 : ¬ v0 = 4) : Run X (d + 602) 7 false (pCd 4169) 3 none 54 [(0, .ref v0)] [] h 0 0 (none, q, 0, 0) := by
  unfold fX7_readVariable_54 at hf
  refine r_aload_n (dGet dX7_readVariable (j := 29) rfl) nv0 rfl ?_
  refine r_bipush (dGet dX7_readVariable (j := 30) rfl) kB_59 ?_
  obtain ⟨h1, eh1, hf⟩ := Option.bind_eq_some_iff.mp hf
  refine r_virtual (dGet dX7_readVariable (j := 31) rfl) L7_40 M59 rfl rfl (Nat.le_of_ble_eq_true rfl) (oX7_take eh1) (cX7_take X N (d + 600) v0 (59 : Int32) h h1 eh1) ?_
  cases hf
  exact r_vret (dGet dX7_readVariable (j := 32) rfl) rfl
def fX7_readVariable (N : Nat) (v0 : Nat) (h : pH) : Option (pH) := if isO h v0 7 = true then (
  (fX7_takeType N v0 h).bind fun q2 =>
  (fX7_takeName N v0 q2.2).bind fun q3 =>
  (getI q3.2 v0 7 9).bind fun t4 =>
  if t4 = (61 : Int32) then (
  (fX7_advance N v0 q3.2).bind fun h8 =>
  (if isO h8 v0 7 = true then some () else none).bind fun _ =>
  (rcV (gX7_readSign N 600) 76 [.ref v0] h8).bind fun h9 =>
  (getR h9 v0 7 3).bind fun t11 =>
  (fX2_emit N t11 (37 : Int32) q3.1 q2.1 h9).bind fun q12 =>
  fX7_readVariable_54 N v0 q12.2) else (
  (getR q3.2 v0 7 3).bind fun t6 =>
  (fX2_emit N t6 (53 : Int32) q3.1 q2.1 q3.2).bind fun q7 =>
  fX7_readVariable_54 N v0 q7.2)) else none
theorem oX7_readVariable {N : Nat} {v0 : Nat} {h : pH} {q : pH} (hf : fX7_readVariable N v0 h = some q) : isO h v0 7 = true := by
  unfold fX7_readVariable at hf
  by_cases hc : isO h v0 7 = true
  · exact hc
  · rw [if_neg hc] at hf; cases hf
theorem cX7_readVariable (X : pX) (N d : Nat) (v0 : Nat) (h : pH) (q : pH) (hf : fX7_readVariable N v0 h = some q) : Calls X (d + 602) 99 [.ref v0] h (none, q, 0, 0) := by
  refine Calls.of M99 (Nat.le_of_ble_eq_true rfl) ?_
  show Run X (d + 602) 7 false (pCd 4169) 3 none 0 [(0, .ref v0)] [] h 0 0 (none, q, 0, 0)
  unfold fX7_readVariable at hf
  by_cases hc : isO h v0 7 = true
  · rw [if_pos hc] at hf
    have nv0 : ¬ v0 = 4 := isO_ne hc
    refine r_aload_n (dGet dX7_readVariable (j := 0) rfl) nv0 rfl ?_
    obtain ⟨q2, eq2, hf⟩ := Option.bind_eq_some_iff.mp hf
    refine r_virtual (dGet dX7_readVariable (j := 1) rfl) L7_107 M65 rfl rfl (Nat.le_of_ble_eq_true rfl) (oX7_takeType eq2) (cX7_takeType X N (d + 600) v0 h q2 eq2) ?_
    refine r_istore_n (lv' := [(1, .int q2.1), (0, .ref v0)]) (dGet dX7_readVariable (j := 2) rfl) (by decide) rfl ?_
    refine r_aload_n (dGet dX7_readVariable (j := 3) rfl) nv0 rfl ?_
    obtain ⟨q3, eq3, hf⟩ := Option.bind_eq_some_iff.mp hf
    refine r_virtual (dGet dX7_readVariable (j := 4) rfl) L7_51 M62 rfl rfl (Nat.le_of_ble_eq_true rfl) (oX7_takeName eq3) (cX7_takeName X N (d + 600) v0 q2.2 q3 eq3) ?_
    refine r_istore_n (lv' := [(2, .int q3.1), (1, .int q2.1), (0, .ref v0)]) (dGet dX7_readVariable (j := 5) rfl) (by decide) rfl ?_
    refine r_aload_n (dGet dX7_readVariable (j := 6) rfl) nv0 rfl ?_
    obtain ⟨t4, et4, hf⟩ := Option.bind_eq_some_iff.mp hf
    refine r_getI (dGet dX7_readVariable (j := 7) rfl) F7_57 et4 ?_
    refine r_bipush (dGet dX7_readVariable (j := 8) rfl) kB_61 ?_
    by_cases c5 : t4 = (61 : Int32)
    · rw [if_pos c5] at hf
      refine r_icmp_ne_f (dGet dX7_readVariable (j := 9) rfl) rfl c5 ?_
      refine r_aload_n (dGet dX7_readVariable (j := 10) rfl) nv0 rfl ?_
      obtain ⟨h8, eh8, hf⟩ := Option.bind_eq_some_iff.mp hf
      refine r_virtual (dGet dX7_readVariable (j := 11) rfl) L7_60 M60 rfl rfl (Nat.le_of_ble_eq_true rfl) (oX7_advance eh8) (cX7_advance X N (d + 601) v0 q3.2 h8 eh8) ?_
      refine r_aload_n (dGet dX7_readVariable (j := 12) rfl) nv0 rfl ?_
      obtain ⟨_, ec10, hf⟩ := Option.bind_eq_some_iff.mp hf
      obtain ⟨h9, eh9, hf⟩ := Option.bind_eq_some_iff.mp hf
      refine r_virtual (dGet dX7_readVariable (j := 13) rfl) L7_168 M76 rfl rfl (Nat.le_of_ble_eq_true rfl) (guard_of ec10) (rcV_calls (gX7_readSign_calls X N (d + 0) 600) eh9) ?_
      refine r_aload_n (dGet dX7_readVariable (j := 14) rfl) nv0 rfl ?_
      obtain ⟨t11, et11, hf⟩ := Option.bind_eq_some_iff.mp hf
      refine r_getR (dGet dX7_readVariable (j := 15) rfl) F7_21 et11 ?_
      refine r_bipush (dGet dX7_readVariable (j := 16) rfl) kB_37 ?_
      refine r_iload_n (dGet dX7_readVariable (j := 17) rfl) rfl ?_
      refine r_iload_n (dGet dX7_readVariable (j := 18) rfl) rfl ?_
      obtain ⟨q12, eq12, hf⟩ := Option.bind_eq_some_iff.mp hf
      refine r_virtual (dGet dX7_readVariable (j := 19) rfl) L7_126 M81 rfl rfl (Nat.le_of_ble_eq_true rfl) (oX2_emit eq12) (cX2_emit X N (d + 601) t11 (37 : Int32) q3.1 q2.1 h9 q12 eq12) ?_
      refine r_pop (dGet dX7_readVariable (j := 20) rfl) rfl ?_
      refine r_goto (dGet dX7_readVariable (j := 21) rfl) rfl ?_
      refine Run.weak [(0, .ref v0)] (by simp) (by simp [pNd]) ?_
      exact lX7_readVariable_54 X N d v0 q12.2 q hf nv0
    · rw [if_neg c5] at hf
      refine r_icmp_ne_t (dGet dX7_readVariable (j := 9) rfl) rfl c5 ?_
      refine r_aload_n (dGet dX7_readVariable (j := 22) rfl) nv0 rfl ?_
      obtain ⟨t6, et6, hf⟩ := Option.bind_eq_some_iff.mp hf
      refine r_getR (dGet dX7_readVariable (j := 23) rfl) F7_21 et6 ?_
      refine r_bipush (dGet dX7_readVariable (j := 24) rfl) kB_53 ?_
      refine r_iload_n (dGet dX7_readVariable (j := 25) rfl) rfl ?_
      refine r_iload_n (dGet dX7_readVariable (j := 26) rfl) rfl ?_
      obtain ⟨q7, eq7, hf⟩ := Option.bind_eq_some_iff.mp hf
      refine r_virtual (dGet dX7_readVariable (j := 27) rfl) L7_126 M81 rfl rfl (Nat.le_of_ble_eq_true rfl) (oX2_emit eq7) (cX2_emit X N (d + 601) t6 (53 : Int32) q3.1 q2.1 q3.2 q7 eq7) ?_
      refine r_pop (dGet dX7_readVariable (j := 28) rfl) rfl ?_
      refine Run.weak [(0, .ref v0)] (by simp) (by simp [pNd]) ?_
      exact lX7_readVariable_54 X N d v0 q7.2 q hf nv0
  · rw [if_neg hc] at hf; cases hf
def eX7_readWork : List (Nat × Instr × Nat) := [(0, .aload_n 0, 1), (1, .invokevirtual 60, 3), (4, .aload_n 0, 1), (5, .invokevirtual 168, 3), (8, .aload_n 0, 1), (9, .getfield 21, 3), (12, .iload_n 1, 1), (13, .iconst 0, 1), (14, .iconst 0, 1), (15, .invokevirtual 126, 3), (18, .pop, 1), (19, .aload_n 0, 1), (20, .bipush 59, 2), (22, .invokevirtual 40, 3), (25, .return_, 1)]
theorem dX7_readWork : dChk (pCd 4161) eX7_readWork = true := by decide +kernel
def fX7_readWork (N : Nat) (v0 : Nat) (v1 : Int32) (h : pH) : Option (pH) := if isO h v0 7 = true then (
  (fX7_advance N v0 h).bind fun h1 =>
  (if isO h1 v0 7 = true then some () else none).bind fun _ =>
  (rcV (gX7_readSign N 600) 76 [.ref v0] h1).bind fun h2 =>
  (getR h2 v0 7 3).bind fun t4 =>
  (fX2_emit N t4 v1 (0 : Int32) (0 : Int32) h2).bind fun q5 =>
  (fX7_take N v0 (59 : Int32) q5.2).bind fun h6 =>
  some h6) else none
theorem oX7_readWork {N : Nat} {v0 : Nat} {v1 : Int32} {h : pH} {q : pH} (hf : fX7_readWork N v0 v1 h = some q) : isO h v0 7 = true := by
  unfold fX7_readWork at hf
  by_cases hc : isO h v0 7 = true
  · exact hc
  · rw [if_neg hc] at hf; cases hf
theorem cX7_readWork (X : pX) (N d : Nat) (v0 : Nat) (v1 : Int32) (h : pH) (q : pH) (hf : fX7_readWork N v0 v1 h = some q) : Calls X (d + 602) 97 [.ref v0, .int v1] h (none, q, 0, 0) := by
  refine Calls.of M97 (Nat.le_of_ble_eq_true rfl) ?_
  show Run X (d + 602) 7 false (pCd 4161) 2 none 0 [(0, .ref v0), (1, .int v1)] [] h 0 0 (none, q, 0, 0)
  unfold fX7_readWork at hf
  by_cases hc : isO h v0 7 = true
  · rw [if_pos hc] at hf
    have nv0 : ¬ v0 = 4 := isO_ne hc
    refine r_aload_n (dGet dX7_readWork (j := 0) rfl) nv0 rfl ?_
    obtain ⟨h1, eh1, hf⟩ := Option.bind_eq_some_iff.mp hf
    refine r_virtual (dGet dX7_readWork (j := 1) rfl) L7_60 M60 rfl rfl (Nat.le_of_ble_eq_true rfl) (oX7_advance eh1) (cX7_advance X N (d + 601) v0 h h1 eh1) ?_
    refine r_aload_n (dGet dX7_readWork (j := 2) rfl) nv0 rfl ?_
    obtain ⟨_, ec3, hf⟩ := Option.bind_eq_some_iff.mp hf
    obtain ⟨h2, eh2, hf⟩ := Option.bind_eq_some_iff.mp hf
    refine r_virtual (dGet dX7_readWork (j := 3) rfl) L7_168 M76 rfl rfl (Nat.le_of_ble_eq_true rfl) (guard_of ec3) (rcV_calls (gX7_readSign_calls X N (d + 0) 600) eh2) ?_
    refine r_aload_n (dGet dX7_readWork (j := 4) rfl) nv0 rfl ?_
    obtain ⟨t4, et4, hf⟩ := Option.bind_eq_some_iff.mp hf
    refine r_getR (dGet dX7_readWork (j := 5) rfl) F7_21 et4 ?_
    refine r_iload_n (dGet dX7_readWork (j := 6) rfl) rfl ?_
    refine r_iconst (dGet dX7_readWork (j := 7) rfl) kI_0 ?_
    refine r_iconst (dGet dX7_readWork (j := 8) rfl) kI_0 ?_
    obtain ⟨q5, eq5, hf⟩ := Option.bind_eq_some_iff.mp hf
    refine r_virtual (dGet dX7_readWork (j := 9) rfl) L7_126 M81 rfl rfl (Nat.le_of_ble_eq_true rfl) (oX2_emit eq5) (cX2_emit X N (d + 601) t4 v1 (0 : Int32) (0 : Int32) h2 q5 eq5) ?_
    refine r_pop (dGet dX7_readWork (j := 10) rfl) rfl ?_
    refine r_aload_n (dGet dX7_readWork (j := 11) rfl) nv0 rfl ?_
    refine r_bipush (dGet dX7_readWork (j := 12) rfl) kB_59 ?_
    obtain ⟨h6, eh6, hf⟩ := Option.bind_eq_some_iff.mp hf
    refine r_virtual (dGet dX7_readWork (j := 13) rfl) L7_40 M59 rfl rfl (Nat.le_of_ble_eq_true rfl) (oX7_take eh6) (cX7_take X N (d + 600) v0 (59 : Int32) q5.2 h6 eh6) ?_
    cases hf
    exact r_vret (dGet dX7_readWork (j := 14) rfl) rfl
  · rw [if_neg hc] at hf; cases hf
def eX7_tellsVariable : List (Nat × Instr × Nat) := [(0, .aload_n 0, 1), (1, .getfield 57, 3), (4, .bipush 22, 2), (6, .if_icmp .ne 44, 3), (9, .aload_n 0, 1), (10, .getfield 47, 3), (13, .iconst 1, 1), (14, .iadd, 1), (15, .aload_n 0, 1), (16, .getfield 7, 3), (19, .getfield 97, 3), (22, .if_icmp .ge 26, 3), (25, .aload_n 0, 1), (26, .getfield 7, 3), (29, .getfield 81, 3), (32, .aload_n 0, 1), (33, .getfield 47, 3), (36, .iconst 1, 1), (37, .iadd, 1), (38, .iaload, 1), (39, .bipush 22, 2), (41, .if_icmp .ne 7, 3), (44, .iconst 1, 1), (45, .goto 4, 3), (48, .iconst 0, 1), (49, .ireturn, 1), (50, .aload_n 0, 1), (51, .getfield 57, 3), (54, .iconst 2, 1), (55, .if_icmp .eq 19, 3), (58, .aload_n 0, 1), (59, .getfield 57, 3), (62, .iconst 3, 1), (63, .if_icmp .eq 11, 3), (66, .aload_n 0, 1), (67, .getfield 57, 3), (70, .iconst 4, 1), (71, .if_icmp .ne 7, 3), (74, .iconst 1, 1), (75, .goto 4, 3), (78, .iconst 0, 1), (79, .ireturn, 1)]
theorem dX7_tellsVariable : dChk (pCd 4165) eX7_tellsVariable = true := by decide +kernel
def fX7_tellsVariable (N : Nat) (v0 : Nat) (h : pH) : Option (Int32 × pH) := if isO h v0 7 = true then (
  (getI h v0 7 9).bind fun t1 =>
  if t1 = (22 : Int32) then (
  (getI h v0 7 8).bind fun t9 =>
  (getR h v0 7 0).bind fun t10 =>
  (getI h t10 10 3).bind fun t11 =>
  if t11 ≤ (t9 + (1 : Int32)) then (
  some ((0 : Int32), h)) else (
  (getR h v0 7 0).bind fun t13 =>
  (getR h t13 10 0).bind fun t14 =>
  (getI h v0 7 8).bind fun t15 =>
  (ldI h t14 (t15 + (1 : Int32))).bind fun t16 =>
  if t16 = (22 : Int32) then (
  some ((1 : Int32), h)) else (
  some ((0 : Int32), h)))) else (
  (getI h v0 7 9).bind fun t3 =>
  if t3 = (2 : Int32) then (
  some ((1 : Int32), h)) else (
  (getI h v0 7 9).bind fun t5 =>
  if t5 = (3 : Int32) then (
  some ((1 : Int32), h)) else (
  (getI h v0 7 9).bind fun t7 =>
  if t7 = (4 : Int32) then (
  some ((1 : Int32), h)) else (
  some ((0 : Int32), h)))))) else none
theorem oX7_tellsVariable {N : Nat} {v0 : Nat} {h : pH} {q : Int32 × pH} (hf : fX7_tellsVariable N v0 h = some q) : isO h v0 7 = true := by
  unfold fX7_tellsVariable at hf
  by_cases hc : isO h v0 7 = true
  · exact hc
  · rw [if_neg hc] at hf; cases hf
theorem cX7_tellsVariable (X : pX) (N d : Nat) (v0 : Nat) (h : pH) (q : Int32 × pH) (hf : fX7_tellsVariable N v0 h = some q) : Calls X (d + 0) 98 [.ref v0] h (some (.int q.1), q.2, 0, 0) := by
  refine Calls.of M98 (Nat.le_of_ble_eq_true rfl) ?_
  show Run X (d + 0) 7 false (pCd 4165) 1 (some .boolean) 0 [(0, .ref v0)] [] h 0 0 (some (.int q.1), q.2, 0, 0)
  unfold fX7_tellsVariable at hf
  by_cases hc : isO h v0 7 = true
  · rw [if_pos hc] at hf
    have nv0 : ¬ v0 = 4 := isO_ne hc
    refine r_aload_n (dGet dX7_tellsVariable (j := 0) rfl) nv0 rfl ?_
    obtain ⟨t1, et1, hf⟩ := Option.bind_eq_some_iff.mp hf
    refine r_getI (dGet dX7_tellsVariable (j := 1) rfl) F7_57 et1 ?_
    refine r_bipush (dGet dX7_tellsVariable (j := 2) rfl) kB_22 ?_
    by_cases c2 : t1 = (22 : Int32)
    · rw [if_pos c2] at hf
      refine r_icmp_ne_f (dGet dX7_tellsVariable (j := 3) rfl) rfl c2 ?_
      refine r_aload_n (dGet dX7_tellsVariable (j := 4) rfl) nv0 rfl ?_
      obtain ⟨t9, et9, hf⟩ := Option.bind_eq_some_iff.mp hf
      refine r_getI (dGet dX7_tellsVariable (j := 5) rfl) F7_47 et9 ?_
      refine r_iconst (dGet dX7_tellsVariable (j := 6) rfl) kI_1 ?_
      refine r_iadd (dGet dX7_tellsVariable (j := 7) rfl) ?_
      refine r_aload_n (dGet dX7_tellsVariable (j := 8) rfl) nv0 rfl ?_
      obtain ⟨t10, et10, hf⟩ := Option.bind_eq_some_iff.mp hf
      refine r_getR (dGet dX7_tellsVariable (j := 9) rfl) F7_7 et10 ?_
      obtain ⟨t11, et11, hf⟩ := Option.bind_eq_some_iff.mp hf
      refine r_getI (dGet dX7_tellsVariable (j := 10) rfl) F7_97 et11 ?_
      by_cases c12 : t11 ≤ (t9 + (1 : Int32))
      · rw [if_pos c12] at hf
        refine r_icmp_ge_t (dGet dX7_tellsVariable (j := 11) rfl) rfl c12 ?_
        refine r_iconst (dGet dX7_tellsVariable (j := 24) rfl) kI_0 ?_
        cases hf
        exact r_iret (dGet dX7_tellsVariable (j := 25) rfl) rfl (by decide)
      · rw [if_neg c12] at hf
        refine r_icmp_ge_f (dGet dX7_tellsVariable (j := 11) rfl) rfl c12 ?_
        refine r_aload_n (dGet dX7_tellsVariable (j := 12) rfl) nv0 rfl ?_
        obtain ⟨t13, et13, hf⟩ := Option.bind_eq_some_iff.mp hf
        refine r_getR (dGet dX7_tellsVariable (j := 13) rfl) F7_7 et13 ?_
        obtain ⟨t14, et14, hf⟩ := Option.bind_eq_some_iff.mp hf
        refine r_getR (dGet dX7_tellsVariable (j := 14) rfl) F7_81 et14 ?_
        refine r_aload_n (dGet dX7_tellsVariable (j := 15) rfl) nv0 rfl ?_
        obtain ⟨t15, et15, hf⟩ := Option.bind_eq_some_iff.mp hf
        refine r_getI (dGet dX7_tellsVariable (j := 16) rfl) F7_47 et15 ?_
        refine r_iconst (dGet dX7_tellsVariable (j := 17) rfl) kI_1 ?_
        refine r_iadd (dGet dX7_tellsVariable (j := 18) rfl) ?_
        obtain ⟨t16, et16, hf⟩ := Option.bind_eq_some_iff.mp hf
        refine r_iald (dGet dX7_tellsVariable (j := 19) rfl) et16 ?_
        refine r_bipush (dGet dX7_tellsVariable (j := 20) rfl) kB_22 ?_
        by_cases c17 : t16 = (22 : Int32)
        · rw [if_pos c17] at hf
          refine r_icmp_ne_f (dGet dX7_tellsVariable (j := 21) rfl) rfl c17 ?_
          refine r_iconst (dGet dX7_tellsVariable (j := 22) rfl) kI_1 ?_
          refine r_goto (dGet dX7_tellsVariable (j := 23) rfl) rfl ?_
          cases hf
          exact r_iret (dGet dX7_tellsVariable (j := 25) rfl) rfl (by decide)
        · rw [if_neg c17] at hf
          refine r_icmp_ne_t (dGet dX7_tellsVariable (j := 21) rfl) rfl c17 ?_
          refine r_iconst (dGet dX7_tellsVariable (j := 24) rfl) kI_0 ?_
          cases hf
          exact r_iret (dGet dX7_tellsVariable (j := 25) rfl) rfl (by decide)
    · rw [if_neg c2] at hf
      refine r_icmp_ne_t (dGet dX7_tellsVariable (j := 3) rfl) rfl c2 ?_
      refine r_aload_n (dGet dX7_tellsVariable (j := 26) rfl) nv0 rfl ?_
      obtain ⟨t3, et3, hf⟩ := Option.bind_eq_some_iff.mp hf
      refine r_getI (dGet dX7_tellsVariable (j := 27) rfl) F7_57 et3 ?_
      refine r_iconst (dGet dX7_tellsVariable (j := 28) rfl) kI_2 ?_
      by_cases c4 : t3 = (2 : Int32)
      · rw [if_pos c4] at hf
        refine r_icmp_eq_t (dGet dX7_tellsVariable (j := 29) rfl) rfl c4 ?_
        refine r_iconst (dGet dX7_tellsVariable (j := 38) rfl) kI_1 ?_
        refine r_goto (dGet dX7_tellsVariable (j := 39) rfl) rfl ?_
        cases hf
        exact r_iret (dGet dX7_tellsVariable (j := 41) rfl) rfl (by decide)
      · rw [if_neg c4] at hf
        refine r_icmp_eq_f (dGet dX7_tellsVariable (j := 29) rfl) rfl c4 ?_
        refine r_aload_n (dGet dX7_tellsVariable (j := 30) rfl) nv0 rfl ?_
        obtain ⟨t5, et5, hf⟩ := Option.bind_eq_some_iff.mp hf
        refine r_getI (dGet dX7_tellsVariable (j := 31) rfl) F7_57 et5 ?_
        refine r_iconst (dGet dX7_tellsVariable (j := 32) rfl) kI_3 ?_
        by_cases c6 : t5 = (3 : Int32)
        · rw [if_pos c6] at hf
          refine r_icmp_eq_t (dGet dX7_tellsVariable (j := 33) rfl) rfl c6 ?_
          refine r_iconst (dGet dX7_tellsVariable (j := 38) rfl) kI_1 ?_
          refine r_goto (dGet dX7_tellsVariable (j := 39) rfl) rfl ?_
          cases hf
          exact r_iret (dGet dX7_tellsVariable (j := 41) rfl) rfl (by decide)
        · rw [if_neg c6] at hf
          refine r_icmp_eq_f (dGet dX7_tellsVariable (j := 33) rfl) rfl c6 ?_
          refine r_aload_n (dGet dX7_tellsVariable (j := 34) rfl) nv0 rfl ?_
          obtain ⟨t7, et7, hf⟩ := Option.bind_eq_some_iff.mp hf
          refine r_getI (dGet dX7_tellsVariable (j := 35) rfl) F7_57 et7 ?_
          refine r_iconst (dGet dX7_tellsVariable (j := 36) rfl) kI_4 ?_
          by_cases c8 : t7 = (4 : Int32)
          · rw [if_pos c8] at hf
            refine r_icmp_ne_f (dGet dX7_tellsVariable (j := 37) rfl) rfl c8 ?_
            refine r_iconst (dGet dX7_tellsVariable (j := 38) rfl) kI_1 ?_
            refine r_goto (dGet dX7_tellsVariable (j := 39) rfl) rfl ?_
            cases hf
            exact r_iret (dGet dX7_tellsVariable (j := 41) rfl) rfl (by decide)
          · rw [if_neg c8] at hf
            refine r_icmp_ne_t (dGet dX7_tellsVariable (j := 37) rfl) rfl c8 ?_
            refine r_iconst (dGet dX7_tellsVariable (j := 40) rfl) kI_0 ?_
            cases hf
            exact r_iret (dGet dX7_tellsVariable (j := 41) rfl) rfl (by decide)
  · rw [if_neg hc] at hf; cases hf
def eX7_readWhile : List (Nat × Instr × Nat) := [(0, .aload_n 0, 1), (1, .invokevirtual 60, 3), (4, .aload_n 0, 1), (5, .getfield 21, 3), (8, .getfield 116, 3), (11, .istore_n 1, 1), (12, .aload_n 0, 1), (13, .invokevirtual 171, 3), (16, .aload_n 0, 1), (17, .getfield 21, 3), (20, .bipush 39, 2), (22, .iconst 0, 1), (23, .iconst 0, 1), (24, .invokevirtual 126, 3), (27, .istore_n 2, 1), (28, .aload_n 0, 1), (29, .invokevirtual 120, 3), (32, .pop, 1), (33, .aload_n 0, 1), (34, .getfield 21, 3), (37, .bipush 57, 2), (39, .iconst 0, 1), (40, .iconst 0, 1), (41, .invokevirtual 126, 3), (44, .istore_n 3, 1), (45, .aload_n 0, 1), (46, .getfield 21, 3), (49, .getfield 174, 3), (52, .iload_n 3, 1), (53, .iload_n 1, 1), (54, .iastore, 1), (55, .aload_n 0, 1), (56, .getfield 21, 3), (59, .getfield 174, 3), (62, .iload_n 2, 1), (63, .aload_n 0, 1), (64, .getfield 21, 3), (67, .getfield 116, 3), (70, .iastore, 1), (71, .return_, 1)]
theorem dX7_readWhile : dChk (pCd 4149) eX7_readWhile = true := by decide +kernel
def fX7_readWhile (N : Nat) (rc : Nat → List Value → pH → Option (Option Value × pH)) (v0 : Nat) (h : pH) : Option (pH) := if isO h v0 7 = true then (
  (fX7_advance N v0 h).bind fun h1 =>
  (getR h1 v0 7 3).bind fun t2 =>
  (getI h1 t2 2 7).bind fun t3 =>
  (if isO h1 v0 7 = true then some () else none).bind fun _ =>
  (rcV (gX7_readSign N 600) 75 [.ref v0] h1).bind fun h4 =>
  (getR h4 v0 7 3).bind fun t6 =>
  (fX2_emit N t6 (39 : Int32) (0 : Int32) (0 : Int32) h4).bind fun q7 =>
  (if isO q7.2 v0 7 = true then some () else none).bind fun _ =>
  (rcI rc 72 [.ref v0] q7.2).bind fun q9 =>
  (getR q9.2 v0 7 3).bind fun t10 =>
  (fX2_emit N t10 (57 : Int32) (0 : Int32) (0 : Int32) q9.2).bind fun q11 =>
  (getR q11.2 v0 7 3).bind fun t12 =>
  (getR q11.2 t12 2 3).bind fun t13 =>
  (stI q11.2 t13 q11.1 t3).bind fun h14 =>
  (getR h14 v0 7 3).bind fun t15 =>
  (getR h14 t15 2 3).bind fun t16 =>
  (getR h14 v0 7 3).bind fun t17 =>
  (getI h14 t17 2 7).bind fun t18 =>
  (stI h14 t16 q7.1 t18).bind fun h19 =>
  some h19) else none
theorem oX7_readWhile {N : Nat} {rc : Nat → List Value → pH → Option (Option Value × pH)} {v0 : Nat} {h : pH} {q : pH} (hf : fX7_readWhile N rc v0 h = some q) : isO h v0 7 = true := by
  unfold fX7_readWhile at hf
  by_cases hc : isO h v0 7 = true
  · exact hc
  · rw [if_neg hc] at hf; cases hf
theorem cX7_readWhile (X : pX) (N d : Nat) (rc : Nat → List Value → pH → Option (Option Value × pH)) (hrc : ∀ mn as h q, rc mn as h = some q → Calls X (d + 602) mn as h (q.1, q.2, 0, 0)) (v0 : Nat) (h : pH) (q : pH) (hf : fX7_readWhile N rc v0 h = some q) : Calls X (d + 603) 94 [.ref v0] h (none, q, 0, 0) := by
  refine Calls.of M94 (Nat.le_of_ble_eq_true rfl) ?_
  show Run X (d + 603) 7 false (pCd 4149) 4 none 0 [(0, .ref v0)] [] h 0 0 (none, q, 0, 0)
  unfold fX7_readWhile at hf
  by_cases hc : isO h v0 7 = true
  · rw [if_pos hc] at hf
    have nv0 : ¬ v0 = 4 := isO_ne hc
    refine r_aload_n (dGet dX7_readWhile (j := 0) rfl) nv0 rfl ?_
    obtain ⟨h1, eh1, hf⟩ := Option.bind_eq_some_iff.mp hf
    refine r_virtual (dGet dX7_readWhile (j := 1) rfl) L7_60 M60 rfl rfl (Nat.le_of_ble_eq_true rfl) (oX7_advance eh1) (cX7_advance X N (d + 602) v0 h h1 eh1) ?_
    refine r_aload_n (dGet dX7_readWhile (j := 2) rfl) nv0 rfl ?_
    obtain ⟨t2, et2, hf⟩ := Option.bind_eq_some_iff.mp hf
    refine r_getR (dGet dX7_readWhile (j := 3) rfl) F7_21 et2 ?_
    obtain ⟨t3, et3, hf⟩ := Option.bind_eq_some_iff.mp hf
    refine r_getI (dGet dX7_readWhile (j := 4) rfl) F7_116 et3 ?_
    refine r_istore_n (lv' := [(1, .int t3), (0, .ref v0)]) (dGet dX7_readWhile (j := 5) rfl) (by decide) rfl ?_
    refine r_aload_n (dGet dX7_readWhile (j := 6) rfl) nv0 rfl ?_
    obtain ⟨_, ec5, hf⟩ := Option.bind_eq_some_iff.mp hf
    obtain ⟨h4, eh4, hf⟩ := Option.bind_eq_some_iff.mp hf
    refine r_virtual (dGet dX7_readWhile (j := 7) rfl) L7_171 M75 rfl rfl (Nat.le_of_ble_eq_true rfl) (guard_of ec5) (rcV_calls (gX7_readSign_calls X N (d + 1) 600) eh4) ?_
    refine r_aload_n (dGet dX7_readWhile (j := 8) rfl) nv0 rfl ?_
    obtain ⟨t6, et6, hf⟩ := Option.bind_eq_some_iff.mp hf
    refine r_getR (dGet dX7_readWhile (j := 9) rfl) F7_21 et6 ?_
    refine r_bipush (dGet dX7_readWhile (j := 10) rfl) kB_39 ?_
    refine r_iconst (dGet dX7_readWhile (j := 11) rfl) kI_0 ?_
    refine r_iconst (dGet dX7_readWhile (j := 12) rfl) kI_0 ?_
    obtain ⟨q7, eq7, hf⟩ := Option.bind_eq_some_iff.mp hf
    refine r_virtual (dGet dX7_readWhile (j := 13) rfl) L7_126 M81 rfl rfl (Nat.le_of_ble_eq_true rfl) (oX2_emit eq7) (cX2_emit X N (d + 602) t6 (39 : Int32) (0 : Int32) (0 : Int32) h4 q7 eq7) ?_
    refine r_istore_n (lv' := [(2, .int q7.1), (1, .int t3), (0, .ref v0)]) (dGet dX7_readWhile (j := 14) rfl) (by decide) rfl ?_
    refine r_aload_n (dGet dX7_readWhile (j := 15) rfl) nv0 rfl ?_
    obtain ⟨_, ec8, hf⟩ := Option.bind_eq_some_iff.mp hf
    obtain ⟨q9, eq9, hf⟩ := Option.bind_eq_some_iff.mp hf
    refine r_virtual (dGet dX7_readWhile (j := 16) rfl) L7_120 M72 rfl rfl (Nat.le_of_ble_eq_true rfl) (guard_of ec8) (rcI_calls hrc eq9) ?_
    refine r_pop (dGet dX7_readWhile (j := 17) rfl) rfl ?_
    refine r_aload_n (dGet dX7_readWhile (j := 18) rfl) nv0 rfl ?_
    obtain ⟨t10, et10, hf⟩ := Option.bind_eq_some_iff.mp hf
    refine r_getR (dGet dX7_readWhile (j := 19) rfl) F7_21 et10 ?_
    refine r_bipush (dGet dX7_readWhile (j := 20) rfl) kB_57 ?_
    refine r_iconst (dGet dX7_readWhile (j := 21) rfl) kI_0 ?_
    refine r_iconst (dGet dX7_readWhile (j := 22) rfl) kI_0 ?_
    obtain ⟨q11, eq11, hf⟩ := Option.bind_eq_some_iff.mp hf
    refine r_virtual (dGet dX7_readWhile (j := 23) rfl) L7_126 M81 rfl rfl (Nat.le_of_ble_eq_true rfl) (oX2_emit eq11) (cX2_emit X N (d + 602) t10 (57 : Int32) (0 : Int32) (0 : Int32) q9.2 q11 eq11) ?_
    refine r_istore_n (lv' := [(3, .int q11.1), (2, .int q7.1), (1, .int t3), (0, .ref v0)]) (dGet dX7_readWhile (j := 24) rfl) (by decide) rfl ?_
    refine r_aload_n (dGet dX7_readWhile (j := 25) rfl) nv0 rfl ?_
    obtain ⟨t12, et12, hf⟩ := Option.bind_eq_some_iff.mp hf
    refine r_getR (dGet dX7_readWhile (j := 26) rfl) F7_21 et12 ?_
    obtain ⟨t13, et13, hf⟩ := Option.bind_eq_some_iff.mp hf
    refine r_getR (dGet dX7_readWhile (j := 27) rfl) F7_174 et13 ?_
    refine r_iload_n (dGet dX7_readWhile (j := 28) rfl) rfl ?_
    refine r_iload_n (dGet dX7_readWhile (j := 29) rfl) rfl ?_
    obtain ⟨h14, eh14, hf⟩ := Option.bind_eq_some_iff.mp hf
    refine r_iast (dGet dX7_readWhile (j := 30) rfl) eh14 ?_
    refine r_aload_n (dGet dX7_readWhile (j := 31) rfl) nv0 rfl ?_
    obtain ⟨t15, et15, hf⟩ := Option.bind_eq_some_iff.mp hf
    refine r_getR (dGet dX7_readWhile (j := 32) rfl) F7_21 et15 ?_
    obtain ⟨t16, et16, hf⟩ := Option.bind_eq_some_iff.mp hf
    refine r_getR (dGet dX7_readWhile (j := 33) rfl) F7_174 et16 ?_
    refine r_iload_n (dGet dX7_readWhile (j := 34) rfl) rfl ?_
    refine r_aload_n (dGet dX7_readWhile (j := 35) rfl) nv0 rfl ?_
    obtain ⟨t17, et17, hf⟩ := Option.bind_eq_some_iff.mp hf
    refine r_getR (dGet dX7_readWhile (j := 36) rfl) F7_21 et17 ?_
    obtain ⟨t18, et18, hf⟩ := Option.bind_eq_some_iff.mp hf
    refine r_getI (dGet dX7_readWhile (j := 37) rfl) F7_116 et18 ?_
    obtain ⟨h19, eh19, hf⟩ := Option.bind_eq_some_iff.mp hf
    refine r_iast (dGet dX7_readWhile (j := 38) rfl) eh19 ?_
    cases hf
    exact r_vret (dGet dX7_readWhile (j := 39) rfl) rfl
  · rw [if_neg hc] at hf; cases hf
def eX7_readTry : List (Nat × Instr × Nat) := [(0, .aload_n 0, 1), (1, .getfield 21, 3), (4, .getfield 123, 3), (7, .istore_n 1, 1), (8, .aload_n 0, 1), (9, .invokevirtual 60, 3), (12, .aload_n 0, 1), (13, .getfield 21, 3), (16, .getfield 177, 3), (19, .istore_n 2, 1), (20, .aload_n 0, 1), (21, .getfield 21, 3), (24, .bipush 58, 2), (26, .iconst 0, 1), (27, .iconst 0, 1), (28, .invokevirtual 126, 3), (31, .istore_n 3, 1), (32, .aload_n 0, 1), (33, .getfield 21, 3), (36, .iload_n 3, 1), (37, .putfield 177, 3), (40, .aload_n 0, 1), (41, .invokevirtual 120, 3), (44, .pop, 1), (45, .aload_n 0, 1), (46, .getfield 21, 3), (49, .iload_n 2, 1), (50, .putfield 177, 3), (53, .aload_n 0, 1), (54, .bipush 12, 2), (56, .invokevirtual 40, 3), (59, .aload_n 0, 1), (60, .bipush 40, 2), (62, .invokevirtual 104, 3), (65, .aload_n 0, 1), (66, .invokevirtual 51, 3), (69, .istore 4, 2), (71, .aload_n 0, 1), (72, .invokevirtual 51, 3), (75, .istore 5, 2), (77, .aload_n 0, 1), (78, .bipush 41, 2), (80, .invokevirtual 130, 3), (83, .aload_n 0, 1), (84, .getfield 21, 3), (87, .iload_n 1, 1), (88, .putfield 123, 3), (91, .aload_n 0, 1), (92, .getfield 21, 3), (95, .bipush 59, 2), (97, .iload 4, 2), (99, .iload 5, 2), (101, .invokevirtual 126, 3), (104, .istore 6, 2), (106, .aload_n 0, 1), (107, .getfield 21, 3), (110, .getfield 180, 3), (113, .iload_n 3, 1), (114, .iload 6, 2), (116, .iastore, 1), (117, .aload_n 0, 1), (118, .invokevirtual 120, 3), (121, .pop, 1), (122, .aload_n 0, 1), (123, .getfield 21, 3), (126, .getfield 174, 3), (129, .iload 6, 2), (131, .aload_n 0, 1), (132, .getfield 21, 3), (135, .bipush 60, 2), (137, .iconst 0, 1), (138, .iconst 0, 1), (139, .invokevirtual 126, 3), (142, .iastore, 1), (143, .return_, 1)]
theorem dX7_readTry : dChk (pCd 4153) eX7_readTry = true := by decide +kernel
def fX7_readTry (N : Nat) (rc : Nat → List Value → pH → Option (Option Value × pH)) (v0 : Nat) (h : pH) : Option (pH) := if isO h v0 7 = true then (
  (getR h v0 7 3).bind fun t1 =>
  (getI h t1 2 8).bind fun t2 =>
  (fX7_advance N v0 h).bind fun h3 =>
  (getR h3 v0 7 3).bind fun t4 =>
  (getI h3 t4 2 9).bind fun t5 =>
  (getR h3 v0 7 3).bind fun t6 =>
  (fX2_emit N t6 (58 : Int32) (0 : Int32) (0 : Int32) h3).bind fun q7 =>
  (getR q7.2 v0 7 3).bind fun t8 =>
  (putI q7.2 t8 2 9 q7.1).bind fun h9 =>
  (if isO h9 v0 7 = true then some () else none).bind fun _ =>
  (rcI rc 72 [.ref v0] h9).bind fun q11 =>
  (getR q11.2 v0 7 3).bind fun t12 =>
  (putI q11.2 t12 2 9 t5).bind fun h13 =>
  (fX7_take N v0 (12 : Int32) h13).bind fun h14 =>
  (fX7_open N v0 (40 : Int32) h14).bind fun h15 =>
  (fX7_takeName N v0 h15).bind fun q16 =>
  (fX7_takeName N v0 q16.2).bind fun q17 =>
  (fX7_close N v0 (41 : Int32) q17.2).bind fun h18 =>
  (getR h18 v0 7 3).bind fun t19 =>
  (putI h18 t19 2 8 t2).bind fun h20 =>
  (getR h20 v0 7 3).bind fun t21 =>
  (fX2_emit N t21 (59 : Int32) q16.1 q17.1 h20).bind fun q22 =>
  (getR q22.2 v0 7 3).bind fun t23 =>
  (getR q22.2 t23 2 1).bind fun t24 =>
  (stI q22.2 t24 q7.1 q22.1).bind fun h25 =>
  (if isO h25 v0 7 = true then some () else none).bind fun _ =>
  (rcI rc 72 [.ref v0] h25).bind fun q27 =>
  (getR q27.2 v0 7 3).bind fun t28 =>
  (getR q27.2 t28 2 3).bind fun t29 =>
  (getR q27.2 v0 7 3).bind fun t30 =>
  (fX2_emit N t30 (60 : Int32) (0 : Int32) (0 : Int32) q27.2).bind fun q31 =>
  (stI q31.2 t29 q22.1 q31.1).bind fun h32 =>
  some h32) else none
theorem oX7_readTry {N : Nat} {rc : Nat → List Value → pH → Option (Option Value × pH)} {v0 : Nat} {h : pH} {q : pH} (hf : fX7_readTry N rc v0 h = some q) : isO h v0 7 = true := by
  unfold fX7_readTry at hf
  by_cases hc : isO h v0 7 = true
  · exact hc
  · rw [if_neg hc] at hf; cases hf
theorem cX7_readTry (X : pX) (N d : Nat) (rc : Nat → List Value → pH → Option (Option Value × pH)) (hrc : ∀ mn as h q, rc mn as h = some q → Calls X (d + 602) mn as h (q.1, q.2, 0, 0)) (v0 : Nat) (h : pH) (q : pH) (hf : fX7_readTry N rc v0 h = some q) : Calls X (d + 603) 95 [.ref v0] h (none, q, 0, 0) := by
  refine Calls.of M95 (Nat.le_of_ble_eq_true rfl) ?_
  show Run X (d + 603) 7 false (pCd 4153) 7 none 0 [(0, .ref v0)] [] h 0 0 (none, q, 0, 0)
  unfold fX7_readTry at hf
  by_cases hc : isO h v0 7 = true
  · rw [if_pos hc] at hf
    have nv0 : ¬ v0 = 4 := isO_ne hc
    refine r_aload_n (dGet dX7_readTry (j := 0) rfl) nv0 rfl ?_
    obtain ⟨t1, et1, hf⟩ := Option.bind_eq_some_iff.mp hf
    refine r_getR (dGet dX7_readTry (j := 1) rfl) F7_21 et1 ?_
    obtain ⟨t2, et2, hf⟩ := Option.bind_eq_some_iff.mp hf
    refine r_getI (dGet dX7_readTry (j := 2) rfl) F7_123 et2 ?_
    refine r_istore_n (lv' := [(1, .int t2), (0, .ref v0)]) (dGet dX7_readTry (j := 3) rfl) (by decide) rfl ?_
    refine r_aload_n (dGet dX7_readTry (j := 4) rfl) nv0 rfl ?_
    obtain ⟨h3, eh3, hf⟩ := Option.bind_eq_some_iff.mp hf
    refine r_virtual (dGet dX7_readTry (j := 5) rfl) L7_60 M60 rfl rfl (Nat.le_of_ble_eq_true rfl) (oX7_advance eh3) (cX7_advance X N (d + 602) v0 h h3 eh3) ?_
    refine r_aload_n (dGet dX7_readTry (j := 6) rfl) nv0 rfl ?_
    obtain ⟨t4, et4, hf⟩ := Option.bind_eq_some_iff.mp hf
    refine r_getR (dGet dX7_readTry (j := 7) rfl) F7_21 et4 ?_
    obtain ⟨t5, et5, hf⟩ := Option.bind_eq_some_iff.mp hf
    refine r_getI (dGet dX7_readTry (j := 8) rfl) F7_177 et5 ?_
    refine r_istore_n (lv' := [(2, .int t5), (1, .int t2), (0, .ref v0)]) (dGet dX7_readTry (j := 9) rfl) (by decide) rfl ?_
    refine r_aload_n (dGet dX7_readTry (j := 10) rfl) nv0 rfl ?_
    obtain ⟨t6, et6, hf⟩ := Option.bind_eq_some_iff.mp hf
    refine r_getR (dGet dX7_readTry (j := 11) rfl) F7_21 et6 ?_
    refine r_bipush (dGet dX7_readTry (j := 12) rfl) kB_58 ?_
    refine r_iconst (dGet dX7_readTry (j := 13) rfl) kI_0 ?_
    refine r_iconst (dGet dX7_readTry (j := 14) rfl) kI_0 ?_
    obtain ⟨q7, eq7, hf⟩ := Option.bind_eq_some_iff.mp hf
    refine r_virtual (dGet dX7_readTry (j := 15) rfl) L7_126 M81 rfl rfl (Nat.le_of_ble_eq_true rfl) (oX2_emit eq7) (cX2_emit X N (d + 602) t6 (58 : Int32) (0 : Int32) (0 : Int32) h3 q7 eq7) ?_
    refine r_istore_n (lv' := [(3, .int q7.1), (2, .int t5), (1, .int t2), (0, .ref v0)]) (dGet dX7_readTry (j := 16) rfl) (by decide) rfl ?_
    refine r_aload_n (dGet dX7_readTry (j := 17) rfl) nv0 rfl ?_
    obtain ⟨t8, et8, hf⟩ := Option.bind_eq_some_iff.mp hf
    refine r_getR (dGet dX7_readTry (j := 18) rfl) F7_21 et8 ?_
    refine r_iload_n (dGet dX7_readTry (j := 19) rfl) rfl ?_
    obtain ⟨h9, eh9, hf⟩ := Option.bind_eq_some_iff.mp hf
    refine r_putI (dGet dX7_readTry (j := 20) rfl) F7_177 rfl rfl eh9 ?_
    refine r_aload_n (dGet dX7_readTry (j := 21) rfl) nv0 rfl ?_
    obtain ⟨_, ec10, hf⟩ := Option.bind_eq_some_iff.mp hf
    obtain ⟨q11, eq11, hf⟩ := Option.bind_eq_some_iff.mp hf
    refine r_virtual (dGet dX7_readTry (j := 22) rfl) L7_120 M72 rfl rfl (Nat.le_of_ble_eq_true rfl) (guard_of ec10) (rcI_calls hrc eq11) ?_
    refine r_pop (dGet dX7_readTry (j := 23) rfl) rfl ?_
    refine r_aload_n (dGet dX7_readTry (j := 24) rfl) nv0 rfl ?_
    obtain ⟨t12, et12, hf⟩ := Option.bind_eq_some_iff.mp hf
    refine r_getR (dGet dX7_readTry (j := 25) rfl) F7_21 et12 ?_
    refine r_iload_n (dGet dX7_readTry (j := 26) rfl) rfl ?_
    obtain ⟨h13, eh13, hf⟩ := Option.bind_eq_some_iff.mp hf
    refine r_putI (dGet dX7_readTry (j := 27) rfl) F7_177 rfl rfl eh13 ?_
    refine r_aload_n (dGet dX7_readTry (j := 28) rfl) nv0 rfl ?_
    refine r_bipush (dGet dX7_readTry (j := 29) rfl) kB_12 ?_
    obtain ⟨h14, eh14, hf⟩ := Option.bind_eq_some_iff.mp hf
    refine r_virtual (dGet dX7_readTry (j := 30) rfl) L7_40 M59 rfl rfl (Nat.le_of_ble_eq_true rfl) (oX7_take eh14) (cX7_take X N (d + 601) v0 (12 : Int32) h13 h14 eh14) ?_
    refine r_aload_n (dGet dX7_readTry (j := 31) rfl) nv0 rfl ?_
    refine r_bipush (dGet dX7_readTry (j := 32) rfl) kB_40 ?_
    obtain ⟨h15, eh15, hf⟩ := Option.bind_eq_some_iff.mp hf
    refine r_virtual (dGet dX7_readTry (j := 33) rfl) L7_104 M64 rfl rfl (Nat.le_of_ble_eq_true rfl) (oX7_open eh15) (cX7_open X N (d + 601) v0 (40 : Int32) h14 h15 eh15) ?_
    refine r_aload_n (dGet dX7_readTry (j := 34) rfl) nv0 rfl ?_
    obtain ⟨q16, eq16, hf⟩ := Option.bind_eq_some_iff.mp hf
    refine r_virtual (dGet dX7_readTry (j := 35) rfl) L7_51 M62 rfl rfl (Nat.le_of_ble_eq_true rfl) (oX7_takeName eq16) (cX7_takeName X N (d + 601) v0 h15 q16 eq16) ?_
    refine r_istore (lv' := [(4, .int q16.1), (3, .int q7.1), (2, .int t5), (1, .int t2), (0, .ref v0)]) (dGet dX7_readTry (j := 36) rfl) (by decide) rfl ?_
    refine r_aload_n (dGet dX7_readTry (j := 37) rfl) nv0 rfl ?_
    obtain ⟨q17, eq17, hf⟩ := Option.bind_eq_some_iff.mp hf
    refine r_virtual (dGet dX7_readTry (j := 38) rfl) L7_51 M62 rfl rfl (Nat.le_of_ble_eq_true rfl) (oX7_takeName eq17) (cX7_takeName X N (d + 601) v0 q16.2 q17 eq17) ?_
    refine r_istore (lv' := [(5, .int q17.1), (4, .int q16.1), (3, .int q7.1), (2, .int t5), (1, .int t2), (0, .ref v0)]) (dGet dX7_readTry (j := 39) rfl) (by decide) rfl ?_
    refine r_aload_n (dGet dX7_readTry (j := 40) rfl) nv0 rfl ?_
    refine r_bipush (dGet dX7_readTry (j := 41) rfl) kB_41 ?_
    obtain ⟨h18, eh18, hf⟩ := Option.bind_eq_some_iff.mp hf
    refine r_virtual (dGet dX7_readTry (j := 42) rfl) L7_130 M70 rfl rfl (Nat.le_of_ble_eq_true rfl) (oX7_close eh18) (cX7_close X N (d + 601) v0 (41 : Int32) q17.2 h18 eh18) ?_
    refine r_aload_n (dGet dX7_readTry (j := 43) rfl) nv0 rfl ?_
    obtain ⟨t19, et19, hf⟩ := Option.bind_eq_some_iff.mp hf
    refine r_getR (dGet dX7_readTry (j := 44) rfl) F7_21 et19 ?_
    refine r_iload_n (dGet dX7_readTry (j := 45) rfl) rfl ?_
    obtain ⟨h20, eh20, hf⟩ := Option.bind_eq_some_iff.mp hf
    refine r_putI (dGet dX7_readTry (j := 46) rfl) F7_123 rfl rfl eh20 ?_
    refine r_aload_n (dGet dX7_readTry (j := 47) rfl) nv0 rfl ?_
    obtain ⟨t21, et21, hf⟩ := Option.bind_eq_some_iff.mp hf
    refine r_getR (dGet dX7_readTry (j := 48) rfl) F7_21 et21 ?_
    refine r_bipush (dGet dX7_readTry (j := 49) rfl) kB_59 ?_
    refine r_iload (dGet dX7_readTry (j := 50) rfl) rfl ?_
    refine r_iload (dGet dX7_readTry (j := 51) rfl) rfl ?_
    obtain ⟨q22, eq22, hf⟩ := Option.bind_eq_some_iff.mp hf
    refine r_virtual (dGet dX7_readTry (j := 52) rfl) L7_126 M81 rfl rfl (Nat.le_of_ble_eq_true rfl) (oX2_emit eq22) (cX2_emit X N (d + 602) t21 (59 : Int32) q16.1 q17.1 h20 q22 eq22) ?_
    refine r_istore (lv' := [(6, .int q22.1), (5, .int q17.1), (4, .int q16.1), (3, .int q7.1), (2, .int t5), (1, .int t2), (0, .ref v0)]) (dGet dX7_readTry (j := 53) rfl) (by decide) rfl ?_
    refine r_aload_n (dGet dX7_readTry (j := 54) rfl) nv0 rfl ?_
    obtain ⟨t23, et23, hf⟩ := Option.bind_eq_some_iff.mp hf
    refine r_getR (dGet dX7_readTry (j := 55) rfl) F7_21 et23 ?_
    obtain ⟨t24, et24, hf⟩ := Option.bind_eq_some_iff.mp hf
    refine r_getR (dGet dX7_readTry (j := 56) rfl) F7_180 et24 ?_
    refine r_iload_n (dGet dX7_readTry (j := 57) rfl) rfl ?_
    refine r_iload (dGet dX7_readTry (j := 58) rfl) rfl ?_
    obtain ⟨h25, eh25, hf⟩ := Option.bind_eq_some_iff.mp hf
    refine r_iast (dGet dX7_readTry (j := 59) rfl) eh25 ?_
    refine r_aload_n (dGet dX7_readTry (j := 60) rfl) nv0 rfl ?_
    obtain ⟨_, ec26, hf⟩ := Option.bind_eq_some_iff.mp hf
    obtain ⟨q27, eq27, hf⟩ := Option.bind_eq_some_iff.mp hf
    refine r_virtual (dGet dX7_readTry (j := 61) rfl) L7_120 M72 rfl rfl (Nat.le_of_ble_eq_true rfl) (guard_of ec26) (rcI_calls hrc eq27) ?_
    refine r_pop (dGet dX7_readTry (j := 62) rfl) rfl ?_
    refine r_aload_n (dGet dX7_readTry (j := 63) rfl) nv0 rfl ?_
    obtain ⟨t28, et28, hf⟩ := Option.bind_eq_some_iff.mp hf
    refine r_getR (dGet dX7_readTry (j := 64) rfl) F7_21 et28 ?_
    obtain ⟨t29, et29, hf⟩ := Option.bind_eq_some_iff.mp hf
    refine r_getR (dGet dX7_readTry (j := 65) rfl) F7_174 et29 ?_
    refine r_iload (dGet dX7_readTry (j := 66) rfl) rfl ?_
    refine r_aload_n (dGet dX7_readTry (j := 67) rfl) nv0 rfl ?_
    obtain ⟨t30, et30, hf⟩ := Option.bind_eq_some_iff.mp hf
    refine r_getR (dGet dX7_readTry (j := 68) rfl) F7_21 et30 ?_
    refine r_bipush (dGet dX7_readTry (j := 69) rfl) kB_60 ?_
    refine r_iconst (dGet dX7_readTry (j := 70) rfl) kI_0 ?_
    refine r_iconst (dGet dX7_readTry (j := 71) rfl) kI_0 ?_
    obtain ⟨q31, eq31, hf⟩ := Option.bind_eq_some_iff.mp hf
    refine r_virtual (dGet dX7_readTry (j := 72) rfl) L7_126 M81 rfl rfl (Nat.le_of_ble_eq_true rfl) (oX2_emit eq31) (cX2_emit X N (d + 602) t30 (60 : Int32) (0 : Int32) (0 : Int32) q27.2 q31 eq31) ?_
    obtain ⟨h32, eh32, hf⟩ := Option.bind_eq_some_iff.mp hf
    refine r_iast (dGet dX7_readTry (j := 73) rfl) eh32 ?_
    cases hf
    exact r_vret (dGet dX7_readTry (j := 74) rfl) rfl
  · rw [if_neg hc] at hf; cases hf
def eX7_readIf : List (Nat × Instr × Nat) := [(0, .aload_n 0, 1), (1, .invokevirtual 60, 3), (4, .aload_n 0, 1), (5, .invokevirtual 171, 3), (8, .aload_n 0, 1), (9, .getfield 21, 3), (12, .bipush 38, 2), (14, .iconst 0, 1), (15, .iconst 0, 1), (16, .invokevirtual 126, 3), (19, .istore_n 1, 1), (20, .aload_n 0, 1), (21, .invokevirtual 120, 3), (24, .pop, 1), (25, .aload_n 0, 1), (26, .getfield 57, 3), (29, .bipush 7, 2), (31, .if_icmp .eq 24, 3), (34, .aload_n 0, 1), (35, .getfield 21, 3), (38, .getfield 174, 3), (41, .iload_n 1, 1), (42, .aload_n 0, 1), (43, .getfield 21, 3), (46, .bipush 55, 2), (48, .iconst 0, 1), (49, .iconst 0, 1), (50, .invokevirtual 126, 3), (53, .iastore, 1), (54, .return_, 1), (55, .aload_n 0, 1), (56, .invokevirtual 60, 3), (59, .aload_n 0, 1), (60, .getfield 21, 3), (63, .bipush 54, 2), (65, .iconst 0, 1), (66, .iconst 0, 1), (67, .invokevirtual 126, 3), (70, .istore_n 2, 1), (71, .aload_n 0, 1), (72, .getfield 21, 3), (75, .getfield 174, 3), (78, .iload_n 1, 1), (79, .aload_n 0, 1), (80, .getfield 21, 3), (83, .getfield 116, 3), (86, .iastore, 1), (87, .aload_n 0, 1), (88, .invokevirtual 120, 3), (91, .pop, 1), (92, .aload_n 0, 1), (93, .getfield 21, 3), (96, .getfield 174, 3), (99, .iload_n 2, 1), (100, .aload_n 0, 1), (101, .getfield 21, 3), (104, .bipush 56, 2), (106, .iconst 0, 1), (107, .iconst 0, 1), (108, .invokevirtual 126, 3), (111, .iastore, 1), (112, .return_, 1)]
theorem dX7_readIf : dChk (pCd 4073) eX7_readIf = true := by decide +kernel
def fX7_readIf (N : Nat) (rc : Nat → List Value → pH → Option (Option Value × pH)) (v0 : Nat) (h : pH) : Option (pH) := if isO h v0 7 = true then (
  (fX7_advance N v0 h).bind fun h1 =>
  (if isO h1 v0 7 = true then some () else none).bind fun _ =>
  (rcV (gX7_readSign N 600) 75 [.ref v0] h1).bind fun h2 =>
  (getR h2 v0 7 3).bind fun t4 =>
  (fX2_emit N t4 (38 : Int32) (0 : Int32) (0 : Int32) h2).bind fun q5 =>
  (if isO q5.2 v0 7 = true then some () else none).bind fun _ =>
  (rcI rc 72 [.ref v0] q5.2).bind fun q7 =>
  (getI q7.2 v0 7 9).bind fun t8 =>
  if t8 = (7 : Int32) then (
  (fX7_advance N v0 q7.2).bind fun h10 =>
  (getR h10 v0 7 3).bind fun t11 =>
  (fX2_emit N t11 (54 : Int32) (0 : Int32) (0 : Int32) h10).bind fun q12 =>
  (getR q12.2 v0 7 3).bind fun t13 =>
  (getR q12.2 t13 2 3).bind fun t14 =>
  (getR q12.2 v0 7 3).bind fun t15 =>
  (getI q12.2 t15 2 7).bind fun t16 =>
  (stI q12.2 t14 q5.1 t16).bind fun h17 =>
  (if isO h17 v0 7 = true then some () else none).bind fun _ =>
  (rcI rc 72 [.ref v0] h17).bind fun q19 =>
  (getR q19.2 v0 7 3).bind fun t20 =>
  (getR q19.2 t20 2 3).bind fun t21 =>
  (getR q19.2 v0 7 3).bind fun t22 =>
  (fX2_emit N t22 (56 : Int32) (0 : Int32) (0 : Int32) q19.2).bind fun q23 =>
  (stI q23.2 t21 q12.1 q23.1).bind fun h24 =>
  some h24) else (
  (getR q7.2 v0 7 3).bind fun t25 =>
  (getR q7.2 t25 2 3).bind fun t26 =>
  (getR q7.2 v0 7 3).bind fun t27 =>
  (fX2_emit N t27 (55 : Int32) (0 : Int32) (0 : Int32) q7.2).bind fun q28 =>
  (stI q28.2 t26 q5.1 q28.1).bind fun h29 =>
  some h29)) else none
theorem oX7_readIf {N : Nat} {rc : Nat → List Value → pH → Option (Option Value × pH)} {v0 : Nat} {h : pH} {q : pH} (hf : fX7_readIf N rc v0 h = some q) : isO h v0 7 = true := by
  unfold fX7_readIf at hf
  by_cases hc : isO h v0 7 = true
  · exact hc
  · rw [if_neg hc] at hf; cases hf
theorem cX7_readIf (X : pX) (N d : Nat) (rc : Nat → List Value → pH → Option (Option Value × pH)) (hrc : ∀ mn as h q, rc mn as h = some q → Calls X (d + 602) mn as h (q.1, q.2, 0, 0)) (v0 : Nat) (h : pH) (q : pH) (hf : fX7_readIf N rc v0 h = some q) : Calls X (d + 603) 74 [.ref v0] h (none, q, 0, 0) := by
  refine Calls.of M74 (Nat.le_of_ble_eq_true rfl) ?_
  show Run X (d + 603) 7 false (pCd 4073) 3 none 0 [(0, .ref v0)] [] h 0 0 (none, q, 0, 0)
  unfold fX7_readIf at hf
  by_cases hc : isO h v0 7 = true
  · rw [if_pos hc] at hf
    have nv0 : ¬ v0 = 4 := isO_ne hc
    refine r_aload_n (dGet dX7_readIf (j := 0) rfl) nv0 rfl ?_
    obtain ⟨h1, eh1, hf⟩ := Option.bind_eq_some_iff.mp hf
    refine r_virtual (dGet dX7_readIf (j := 1) rfl) L7_60 M60 rfl rfl (Nat.le_of_ble_eq_true rfl) (oX7_advance eh1) (cX7_advance X N (d + 602) v0 h h1 eh1) ?_
    refine r_aload_n (dGet dX7_readIf (j := 2) rfl) nv0 rfl ?_
    obtain ⟨_, ec3, hf⟩ := Option.bind_eq_some_iff.mp hf
    obtain ⟨h2, eh2, hf⟩ := Option.bind_eq_some_iff.mp hf
    refine r_virtual (dGet dX7_readIf (j := 3) rfl) L7_171 M75 rfl rfl (Nat.le_of_ble_eq_true rfl) (guard_of ec3) (rcV_calls (gX7_readSign_calls X N (d + 1) 600) eh2) ?_
    refine r_aload_n (dGet dX7_readIf (j := 4) rfl) nv0 rfl ?_
    obtain ⟨t4, et4, hf⟩ := Option.bind_eq_some_iff.mp hf
    refine r_getR (dGet dX7_readIf (j := 5) rfl) F7_21 et4 ?_
    refine r_bipush (dGet dX7_readIf (j := 6) rfl) kB_38 ?_
    refine r_iconst (dGet dX7_readIf (j := 7) rfl) kI_0 ?_
    refine r_iconst (dGet dX7_readIf (j := 8) rfl) kI_0 ?_
    obtain ⟨q5, eq5, hf⟩ := Option.bind_eq_some_iff.mp hf
    refine r_virtual (dGet dX7_readIf (j := 9) rfl) L7_126 M81 rfl rfl (Nat.le_of_ble_eq_true rfl) (oX2_emit eq5) (cX2_emit X N (d + 602) t4 (38 : Int32) (0 : Int32) (0 : Int32) h2 q5 eq5) ?_
    refine r_istore_n (lv' := [(1, .int q5.1), (0, .ref v0)]) (dGet dX7_readIf (j := 10) rfl) (by decide) rfl ?_
    refine r_aload_n (dGet dX7_readIf (j := 11) rfl) nv0 rfl ?_
    obtain ⟨_, ec6, hf⟩ := Option.bind_eq_some_iff.mp hf
    obtain ⟨q7, eq7, hf⟩ := Option.bind_eq_some_iff.mp hf
    refine r_virtual (dGet dX7_readIf (j := 12) rfl) L7_120 M72 rfl rfl (Nat.le_of_ble_eq_true rfl) (guard_of ec6) (rcI_calls hrc eq7) ?_
    refine r_pop (dGet dX7_readIf (j := 13) rfl) rfl ?_
    refine r_aload_n (dGet dX7_readIf (j := 14) rfl) nv0 rfl ?_
    obtain ⟨t8, et8, hf⟩ := Option.bind_eq_some_iff.mp hf
    refine r_getI (dGet dX7_readIf (j := 15) rfl) F7_57 et8 ?_
    refine r_bipush (dGet dX7_readIf (j := 16) rfl) kB_7 ?_
    by_cases c9 : t8 = (7 : Int32)
    · rw [if_pos c9] at hf
      refine r_icmp_eq_t (dGet dX7_readIf (j := 17) rfl) rfl c9 ?_
      refine r_aload_n (dGet dX7_readIf (j := 30) rfl) nv0 rfl ?_
      obtain ⟨h10, eh10, hf⟩ := Option.bind_eq_some_iff.mp hf
      refine r_virtual (dGet dX7_readIf (j := 31) rfl) L7_60 M60 rfl rfl (Nat.le_of_ble_eq_true rfl) (oX7_advance eh10) (cX7_advance X N (d + 602) v0 q7.2 h10 eh10) ?_
      refine r_aload_n (dGet dX7_readIf (j := 32) rfl) nv0 rfl ?_
      obtain ⟨t11, et11, hf⟩ := Option.bind_eq_some_iff.mp hf
      refine r_getR (dGet dX7_readIf (j := 33) rfl) F7_21 et11 ?_
      refine r_bipush (dGet dX7_readIf (j := 34) rfl) kB_54 ?_
      refine r_iconst (dGet dX7_readIf (j := 35) rfl) kI_0 ?_
      refine r_iconst (dGet dX7_readIf (j := 36) rfl) kI_0 ?_
      obtain ⟨q12, eq12, hf⟩ := Option.bind_eq_some_iff.mp hf
      refine r_virtual (dGet dX7_readIf (j := 37) rfl) L7_126 M81 rfl rfl (Nat.le_of_ble_eq_true rfl) (oX2_emit eq12) (cX2_emit X N (d + 602) t11 (54 : Int32) (0 : Int32) (0 : Int32) h10 q12 eq12) ?_
      refine r_istore_n (lv' := [(2, .int q12.1), (1, .int q5.1), (0, .ref v0)]) (dGet dX7_readIf (j := 38) rfl) (by decide) rfl ?_
      refine r_aload_n (dGet dX7_readIf (j := 39) rfl) nv0 rfl ?_
      obtain ⟨t13, et13, hf⟩ := Option.bind_eq_some_iff.mp hf
      refine r_getR (dGet dX7_readIf (j := 40) rfl) F7_21 et13 ?_
      obtain ⟨t14, et14, hf⟩ := Option.bind_eq_some_iff.mp hf
      refine r_getR (dGet dX7_readIf (j := 41) rfl) F7_174 et14 ?_
      refine r_iload_n (dGet dX7_readIf (j := 42) rfl) rfl ?_
      refine r_aload_n (dGet dX7_readIf (j := 43) rfl) nv0 rfl ?_
      obtain ⟨t15, et15, hf⟩ := Option.bind_eq_some_iff.mp hf
      refine r_getR (dGet dX7_readIf (j := 44) rfl) F7_21 et15 ?_
      obtain ⟨t16, et16, hf⟩ := Option.bind_eq_some_iff.mp hf
      refine r_getI (dGet dX7_readIf (j := 45) rfl) F7_116 et16 ?_
      obtain ⟨h17, eh17, hf⟩ := Option.bind_eq_some_iff.mp hf
      refine r_iast (dGet dX7_readIf (j := 46) rfl) eh17 ?_
      refine r_aload_n (dGet dX7_readIf (j := 47) rfl) nv0 rfl ?_
      obtain ⟨_, ec18, hf⟩ := Option.bind_eq_some_iff.mp hf
      obtain ⟨q19, eq19, hf⟩ := Option.bind_eq_some_iff.mp hf
      refine r_virtual (dGet dX7_readIf (j := 48) rfl) L7_120 M72 rfl rfl (Nat.le_of_ble_eq_true rfl) (guard_of ec18) (rcI_calls hrc eq19) ?_
      refine r_pop (dGet dX7_readIf (j := 49) rfl) rfl ?_
      refine r_aload_n (dGet dX7_readIf (j := 50) rfl) nv0 rfl ?_
      obtain ⟨t20, et20, hf⟩ := Option.bind_eq_some_iff.mp hf
      refine r_getR (dGet dX7_readIf (j := 51) rfl) F7_21 et20 ?_
      obtain ⟨t21, et21, hf⟩ := Option.bind_eq_some_iff.mp hf
      refine r_getR (dGet dX7_readIf (j := 52) rfl) F7_174 et21 ?_
      refine r_iload_n (dGet dX7_readIf (j := 53) rfl) rfl ?_
      refine r_aload_n (dGet dX7_readIf (j := 54) rfl) nv0 rfl ?_
      obtain ⟨t22, et22, hf⟩ := Option.bind_eq_some_iff.mp hf
      refine r_getR (dGet dX7_readIf (j := 55) rfl) F7_21 et22 ?_
      refine r_bipush (dGet dX7_readIf (j := 56) rfl) kB_56 ?_
      refine r_iconst (dGet dX7_readIf (j := 57) rfl) kI_0 ?_
      refine r_iconst (dGet dX7_readIf (j := 58) rfl) kI_0 ?_
      obtain ⟨q23, eq23, hf⟩ := Option.bind_eq_some_iff.mp hf
      refine r_virtual (dGet dX7_readIf (j := 59) rfl) L7_126 M81 rfl rfl (Nat.le_of_ble_eq_true rfl) (oX2_emit eq23) (cX2_emit X N (d + 602) t22 (56 : Int32) (0 : Int32) (0 : Int32) q19.2 q23 eq23) ?_
      obtain ⟨h24, eh24, hf⟩ := Option.bind_eq_some_iff.mp hf
      refine r_iast (dGet dX7_readIf (j := 60) rfl) eh24 ?_
      cases hf
      exact r_vret (dGet dX7_readIf (j := 61) rfl) rfl
    · rw [if_neg c9] at hf
      refine r_icmp_eq_f (dGet dX7_readIf (j := 17) rfl) rfl c9 ?_
      refine r_aload_n (dGet dX7_readIf (j := 18) rfl) nv0 rfl ?_
      obtain ⟨t25, et25, hf⟩ := Option.bind_eq_some_iff.mp hf
      refine r_getR (dGet dX7_readIf (j := 19) rfl) F7_21 et25 ?_
      obtain ⟨t26, et26, hf⟩ := Option.bind_eq_some_iff.mp hf
      refine r_getR (dGet dX7_readIf (j := 20) rfl) F7_174 et26 ?_
      refine r_iload_n (dGet dX7_readIf (j := 21) rfl) rfl ?_
      refine r_aload_n (dGet dX7_readIf (j := 22) rfl) nv0 rfl ?_
      obtain ⟨t27, et27, hf⟩ := Option.bind_eq_some_iff.mp hf
      refine r_getR (dGet dX7_readIf (j := 23) rfl) F7_21 et27 ?_
      refine r_bipush (dGet dX7_readIf (j := 24) rfl) kB_55 ?_
      refine r_iconst (dGet dX7_readIf (j := 25) rfl) kI_0 ?_
      refine r_iconst (dGet dX7_readIf (j := 26) rfl) kI_0 ?_
      obtain ⟨q28, eq28, hf⟩ := Option.bind_eq_some_iff.mp hf
      refine r_virtual (dGet dX7_readIf (j := 27) rfl) L7_126 M81 rfl rfl (Nat.le_of_ble_eq_true rfl) (oX2_emit eq28) (cX2_emit X N (d + 602) t27 (55 : Int32) (0 : Int32) (0 : Int32) q7.2 q28 eq28) ?_
      obtain ⟨h29, eh29, hf⟩ := Option.bind_eq_some_iff.mp hf
      refine r_iast (dGet dX7_readIf (j := 28) rfl) eh29 ?_
      cases hf
      exact r_vret (dGet dX7_readIf (j := 29) rfl) rfl
  · rw [if_neg hc] at hf; cases hf
def eX7_readStatement : List (Nat × Instr × Nat) := [(0, .aload_n 0, 1), (1, .getfield 21, 3), (4, .aload_n 0, 1), (5, .getfield 7, 3), (8, .getfield 44, 3), (11, .aload_n 0, 1), (12, .getfield 47, 3), (15, .iaload, 1), (16, .putfield 123, 3), (19, .aload_n 0, 1), (20, .getfield 57, 3), (23, .tableswitch 91 6 13 #[45, 91, 52, 66, 73, 59, 91, 82], 45), (68, .aload_n 0, 1), (69, .invokevirtual 143, 3), (72, .goto 60, 3), (75, .aload_n 0, 1), (76, .invokevirtual 146, 3), (79, .goto 53, 3), (82, .aload_n 0, 1), (83, .invokevirtual 149, 3), (86, .goto 46, 3), (89, .aload_n 0, 1), (90, .invokevirtual 152, 3), (93, .goto 39, 3), (96, .aload_n 0, 1), (97, .bipush 42, 2), (99, .invokevirtual 155, 3), (102, .goto 30, 3), (105, .aload_n 0, 1), (106, .bipush 43, 2), (108, .invokevirtual 155, 3), (111, .goto 21, 3), (114, .aload_n 0, 1), (115, .invokevirtual 158, 3), (118, .ifCond .eq 10, 3), (121, .aload_n 0, 1), (122, .invokevirtual 162, 3), (125, .goto 7, 3), (128, .aload_n 0, 1), (129, .invokevirtual 165, 3), (132, .return_, 1)]
theorem dX7_readStatement : dChk (pCd 4069) eX7_readStatement = true := by decide +kernel
def fX7_readStatement_114 (N : Nat) (rc : Nat → List Value → pH → Option (Option Value × pH)) (v0 : Nat) (h : pH) : Option (pH) :=
  (fX7_tellsVariable N v0 h).bind fun q1 =>
  if q1.1 = 0 then (
  (fX7_readCallOrGift N v0 q1.2).bind fun h3 =>
  some h3) else (
  (fX7_readVariable N v0 q1.2).bind fun h4 =>
  some h4)
theorem lX7_readStatement_114 (X : pX) (N d : Nat) (rc : Nat → List Value → pH → Option (Option Value × pH)) (hrc : ∀ mn as h q, rc mn as h = some q → Calls X (d + 602) mn as h (q.1, q.2, 0, 0))  (v0 : Nat) (h : pH) (q : pH) (hf : fX7_readStatement_114 N rc v0 h = some q) (nv0 : ¬ v0 = 4) : Run X (d + 603) 7 false (pCd 4069) 1 none 114 [(0, .ref v0)] [] h 0 0 (none, q, 0, 0) := by
  unfold fX7_readStatement_114 at hf
  refine r_aload_n (dGet dX7_readStatement (j := 32) rfl) nv0 rfl ?_
  obtain ⟨q1, eq1, hf⟩ := Option.bind_eq_some_iff.mp hf
  refine r_virtual (dGet dX7_readStatement (j := 33) rfl) L7_158 M98 rfl rfl (Nat.le_of_ble_eq_true rfl) (oX7_tellsVariable eq1) (cX7_tellsVariable X N (d + 602) v0 h q1 eq1) ?_
  by_cases c2 : q1.1 = 0
  · rw [if_pos c2] at hf
    refine r_if_eq_t (dGet dX7_readStatement (j := 34) rfl) rfl c2 ?_
    refine r_aload_n (dGet dX7_readStatement (j := 38) rfl) nv0 rfl ?_
    obtain ⟨h3, eh3, hf⟩ := Option.bind_eq_some_iff.mp hf
    refine r_virtual (dGet dX7_readStatement (j := 39) rfl) L7_165 M100 rfl rfl (Nat.le_of_ble_eq_true rfl) (oX7_readCallOrGift eh3) (cX7_readCallOrGift X N (d + 0) v0 q1.2 h3 eh3) ?_
    cases hf
    exact r_vret (dGet dX7_readStatement (j := 40) rfl) rfl
  · rw [if_neg c2] at hf
    refine r_if_eq_f (dGet dX7_readStatement (j := 34) rfl) rfl c2 ?_
    refine r_aload_n (dGet dX7_readStatement (j := 35) rfl) nv0 rfl ?_
    obtain ⟨h4, eh4, hf⟩ := Option.bind_eq_some_iff.mp hf
    refine r_virtual (dGet dX7_readStatement (j := 36) rfl) L7_162 M99 rfl rfl (Nat.le_of_ble_eq_true rfl) (oX7_readVariable eh4) (cX7_readVariable X N (d + 0) v0 q1.2 h4 eh4) ?_
    refine r_goto (dGet dX7_readStatement (j := 37) rfl) rfl ?_
    cases hf
    exact r_vret (dGet dX7_readStatement (j := 40) rfl) rfl
def fX7_readStatement (N : Nat) (rc : Nat → List Value → pH → Option (Option Value × pH)) (v0 : Nat) (h : pH) : Option (pH) := if isO h v0 7 = true then (
  (getR h v0 7 3).bind fun t5 =>
  (getR h v0 7 0).bind fun t6 =>
  (getR h t6 10 2).bind fun t7 =>
  (getI h v0 7 8).bind fun t8 =>
  (ldI h t7 t8).bind fun t9 =>
  (putI h t5 2 8 t9).bind fun h10 =>
  (getI h10 v0 7 9).bind fun t11 =>
  if t11 = 6 then (
  (if isO h10 v0 7 = true then some () else none).bind fun _ =>
  (rcV rc 74 [.ref v0] h10).bind fun h21 =>
  some h21) else
  if t11 = 7 then (
  fX7_readStatement_114 N rc v0 h10) else
  if t11 = 8 then (
  (if isO h10 v0 7 = true then some () else none).bind fun _ =>
  (rcV rc 94 [.ref v0] h10).bind fun h23 =>
  some h23) else
  if t11 = 9 then (
  (fX7_readReturn N v0 h10).bind fun h24 =>
  some h24) else
  if t11 = 10 then (
  (fX7_readWork N v0 (42 : Int32) h10).bind fun h25 =>
  some h25) else
  if t11 = 11 then (
  (if isO h10 v0 7 = true then some () else none).bind fun _ =>
  (rcV rc 95 [.ref v0] h10).bind fun h27 =>
  some h27) else
  if t11 = 12 then (
  fX7_readStatement_114 N rc v0 h10) else
  if t11 = 13 then (
  (fX7_readWork N v0 (43 : Int32) h10).bind fun h28 =>
  some h28) else
  fX7_readStatement_114 N rc v0 h10) else none
theorem oX7_readStatement {N : Nat} {rc : Nat → List Value → pH → Option (Option Value × pH)} {v0 : Nat} {h : pH} {q : pH} (hf : fX7_readStatement N rc v0 h = some q) : isO h v0 7 = true := by
  unfold fX7_readStatement at hf
  by_cases hc : isO h v0 7 = true
  · exact hc
  · rw [if_neg hc] at hf; cases hf
theorem cX7_readStatement (X : pX) (N d : Nat) (rc : Nat → List Value → pH → Option (Option Value × pH)) (hrc : ∀ mn as h q, rc mn as h = some q → Calls X (d + 602) mn as h (q.1, q.2, 0, 0)) (v0 : Nat) (h : pH) (q : pH) (hf : fX7_readStatement N rc v0 h = some q) : Calls X (d + 603) 73 [.ref v0] h (none, q, 0, 0) := by
  refine Calls.of M73 (Nat.le_of_ble_eq_true rfl) ?_
  show Run X (d + 603) 7 false (pCd 4069) 1 none 0 [(0, .ref v0)] [] h 0 0 (none, q, 0, 0)
  unfold fX7_readStatement at hf
  by_cases hc : isO h v0 7 = true
  · rw [if_pos hc] at hf
    have nv0 : ¬ v0 = 4 := isO_ne hc
    refine r_aload_n (dGet dX7_readStatement (j := 0) rfl) nv0 rfl ?_
    obtain ⟨t5, et5, hf⟩ := Option.bind_eq_some_iff.mp hf
    refine r_getR (dGet dX7_readStatement (j := 1) rfl) F7_21 et5 ?_
    refine r_aload_n (dGet dX7_readStatement (j := 2) rfl) nv0 rfl ?_
    obtain ⟨t6, et6, hf⟩ := Option.bind_eq_some_iff.mp hf
    refine r_getR (dGet dX7_readStatement (j := 3) rfl) F7_7 et6 ?_
    obtain ⟨t7, et7, hf⟩ := Option.bind_eq_some_iff.mp hf
    refine r_getR (dGet dX7_readStatement (j := 4) rfl) F7_44 et7 ?_
    refine r_aload_n (dGet dX7_readStatement (j := 5) rfl) nv0 rfl ?_
    obtain ⟨t8, et8, hf⟩ := Option.bind_eq_some_iff.mp hf
    refine r_getI (dGet dX7_readStatement (j := 6) rfl) F7_47 et8 ?_
    obtain ⟨t9, et9, hf⟩ := Option.bind_eq_some_iff.mp hf
    refine r_iald (dGet dX7_readStatement (j := 7) rfl) et9 ?_
    obtain ⟨h10, eh10, hf⟩ := Option.bind_eq_some_iff.mp hf
    refine r_putI (dGet dX7_readStatement (j := 8) rfl) F7_123 rfl rfl eh10 ?_
    refine r_aload_n (dGet dX7_readStatement (j := 9) rfl) nv0 rfl ?_
    obtain ⟨t11, et11, hf⟩ := Option.bind_eq_some_iff.mp hf
    refine r_getI (dGet dX7_readStatement (j := 10) rfl) F7_57 et11 ?_
    by_cases c12 : t11 = 6
    · rw [if_pos c12] at hf
      refine r_table (off := 45) (dGet dX7_readStatement (j := 11) rfl) (by rw [c12]; decide) rfl ?_
      refine r_aload_n (dGet dX7_readStatement (j := 12) rfl) nv0 rfl ?_
      obtain ⟨_, ec20, hf⟩ := Option.bind_eq_some_iff.mp hf
      obtain ⟨h21, eh21, hf⟩ := Option.bind_eq_some_iff.mp hf
      refine r_virtual (dGet dX7_readStatement (j := 13) rfl) L7_143 M74 rfl rfl (Nat.le_of_ble_eq_true rfl) (guard_of ec20) (rcV_calls hrc eh21) ?_
      refine r_goto (dGet dX7_readStatement (j := 14) rfl) rfl ?_
      cases hf
      exact r_vret (dGet dX7_readStatement (j := 40) rfl) rfl
    rw [if_neg c12] at hf
    by_cases c13 : t11 = 7
    · rw [if_pos c13] at hf
      refine r_table (off := 91) (dGet dX7_readStatement (j := 11) rfl) (by rw [c13]; decide) rfl ?_
      exact lX7_readStatement_114 X N d rc hrc v0 h10 q hf nv0
    rw [if_neg c13] at hf
    by_cases c14 : t11 = 8
    · rw [if_pos c14] at hf
      refine r_table (off := 52) (dGet dX7_readStatement (j := 11) rfl) (by rw [c14]; decide) rfl ?_
      refine r_aload_n (dGet dX7_readStatement (j := 15) rfl) nv0 rfl ?_
      obtain ⟨_, ec22, hf⟩ := Option.bind_eq_some_iff.mp hf
      obtain ⟨h23, eh23, hf⟩ := Option.bind_eq_some_iff.mp hf
      refine r_virtual (dGet dX7_readStatement (j := 16) rfl) L7_146 M94 rfl rfl (Nat.le_of_ble_eq_true rfl) (guard_of ec22) (rcV_calls hrc eh23) ?_
      refine r_goto (dGet dX7_readStatement (j := 17) rfl) rfl ?_
      cases hf
      exact r_vret (dGet dX7_readStatement (j := 40) rfl) rfl
    rw [if_neg c14] at hf
    by_cases c15 : t11 = 9
    · rw [if_pos c15] at hf
      refine r_table (off := 66) (dGet dX7_readStatement (j := 11) rfl) (by rw [c15]; decide) rfl ?_
      refine r_aload_n (dGet dX7_readStatement (j := 21) rfl) nv0 rfl ?_
      obtain ⟨h24, eh24, hf⟩ := Option.bind_eq_some_iff.mp hf
      refine r_virtual (dGet dX7_readStatement (j := 22) rfl) L7_152 M96 rfl rfl (Nat.le_of_ble_eq_true rfl) (oX7_readReturn eh24) (cX7_readReturn X N (d + 0) v0 h10 h24 eh24) ?_
      refine r_goto (dGet dX7_readStatement (j := 23) rfl) rfl ?_
      cases hf
      exact r_vret (dGet dX7_readStatement (j := 40) rfl) rfl
    rw [if_neg c15] at hf
    by_cases c16 : t11 = 10
    · rw [if_pos c16] at hf
      refine r_table (off := 73) (dGet dX7_readStatement (j := 11) rfl) (by rw [c16]; decide) rfl ?_
      refine r_aload_n (dGet dX7_readStatement (j := 24) rfl) nv0 rfl ?_
      refine r_bipush (dGet dX7_readStatement (j := 25) rfl) kB_42 ?_
      obtain ⟨h25, eh25, hf⟩ := Option.bind_eq_some_iff.mp hf
      refine r_virtual (dGet dX7_readStatement (j := 26) rfl) L7_155 M97 rfl rfl (Nat.le_of_ble_eq_true rfl) (oX7_readWork eh25) (cX7_readWork X N (d + 0) v0 (42 : Int32) h10 h25 eh25) ?_
      refine r_goto (dGet dX7_readStatement (j := 27) rfl) rfl ?_
      cases hf
      exact r_vret (dGet dX7_readStatement (j := 40) rfl) rfl
    rw [if_neg c16] at hf
    by_cases c17 : t11 = 11
    · rw [if_pos c17] at hf
      refine r_table (off := 59) (dGet dX7_readStatement (j := 11) rfl) (by rw [c17]; decide) rfl ?_
      refine r_aload_n (dGet dX7_readStatement (j := 18) rfl) nv0 rfl ?_
      obtain ⟨_, ec26, hf⟩ := Option.bind_eq_some_iff.mp hf
      obtain ⟨h27, eh27, hf⟩ := Option.bind_eq_some_iff.mp hf
      refine r_virtual (dGet dX7_readStatement (j := 19) rfl) L7_149 M95 rfl rfl (Nat.le_of_ble_eq_true rfl) (guard_of ec26) (rcV_calls hrc eh27) ?_
      refine r_goto (dGet dX7_readStatement (j := 20) rfl) rfl ?_
      cases hf
      exact r_vret (dGet dX7_readStatement (j := 40) rfl) rfl
    rw [if_neg c17] at hf
    by_cases c18 : t11 = 12
    · rw [if_pos c18] at hf
      refine r_table (off := 91) (dGet dX7_readStatement (j := 11) rfl) (by rw [c18]; decide) rfl ?_
      exact lX7_readStatement_114 X N d rc hrc v0 h10 q hf nv0
    rw [if_neg c18] at hf
    by_cases c19 : t11 = 13
    · rw [if_pos c19] at hf
      refine r_table (off := 82) (dGet dX7_readStatement (j := 11) rfl) (by rw [c19]; decide) rfl ?_
      refine r_aload_n (dGet dX7_readStatement (j := 28) rfl) nv0 rfl ?_
      refine r_bipush (dGet dX7_readStatement (j := 29) rfl) kB_43 ?_
      obtain ⟨h28, eh28, hf⟩ := Option.bind_eq_some_iff.mp hf
      refine r_virtual (dGet dX7_readStatement (j := 30) rfl) L7_155 M97 rfl rfl (Nat.le_of_ble_eq_true rfl) (oX7_readWork eh28) (cX7_readWork X N (d + 0) v0 (43 : Int32) h10 h28 eh28) ?_
      refine r_goto (dGet dX7_readStatement (j := 31) rfl) rfl ?_
      cases hf
      exact r_vret (dGet dX7_readStatement (j := 40) rfl) rfl
    rw [if_neg c19] at hf
    refine r_table (dGet dX7_readStatement (j := 11) rfl) (pTable_out (cs := [6, 7, 8, 9, 10, 11, 12, 13]) (by decide) (by decide) (by decide) (List.forall_mem_cons.mpr ⟨c12, List.forall_mem_cons.mpr ⟨c13, List.forall_mem_cons.mpr ⟨c14, List.forall_mem_cons.mpr ⟨c15, List.forall_mem_cons.mpr ⟨c16, List.forall_mem_cons.mpr ⟨c17, List.forall_mem_cons.mpr ⟨c18, List.forall_mem_cons.mpr ⟨c19, fun _ h => absurd h List.not_mem_nil⟩⟩⟩⟩⟩⟩⟩⟩)) rfl ?_
    exact lX7_readStatement_114 X N d rc hrc v0 h10 q hf nv0
  · rw [if_neg hc] at hf; cases hf
def eX7_readBlock : List (Nat × Instr × Nat) := [(0, .aload_n 0, 1), (1, .bipush 123, 2), (3, .invokevirtual 104, 3), (6, .iconst 0, 1), (7, .istore_n 1, 1), (8, .iload_n 1, 1), (9, .sipush 3100, 3), (12, .if_icmp .ge 30, 3), (15, .aload_n 0, 1), (16, .getfield 78, 3), (19, .iconst (-1), 1), (20, .if_icmp .ne 22, 3), (23, .aload_n 0, 1), (24, .getfield 57, 3), (27, .bipush 125, 2), (29, .if_icmp .eq 13, 3), (32, .aload_n 0, 1), (33, .invokevirtual 140, 3), (36, .iinc 1 1, 3), (39, .goto (-31), 3), (42, .aload_n 0, 1), (43, .getfield 7, 3), (46, .getfield 44, 3), (49, .aload_n 0, 1), (50, .getfield 47, 3), (53, .iaload, 1), (54, .istore_n 1, 1), (55, .aload_n 0, 1), (56, .bipush 125, 2), (58, .invokevirtual 130, 3), (61, .iload_n 1, 1), (62, .ireturn, 1)]
theorem dX7_readBlock : dChk (pCd 4065) eX7_readBlock = true := by decide +kernel
def fX7_readBlock_42 (N : Nat) (rc : Nat → List Value → pH → Option (Option Value × pH)) (v0 : Nat) (h : pH) : Option (Int32 × pH) :=
  (getR h v0 7 0).bind fun t1 =>
  (getR h t1 10 2).bind fun t2 =>
  (getI h v0 7 8).bind fun t3 =>
  (ldI h t2 t3).bind fun t4 =>
  (fX7_close N v0 (125 : Int32) h).bind fun h5 =>
  some (t4, h5)
theorem lX7_readBlock_42 (X : pX) (N d : Nat) (rc : Nat → List Value → pH → Option (Option Value × pH)) (hrc : ∀ mn as h q, rc mn as h = some q → Calls X (d + 602) mn as h (q.1, q.2, 0, 0))  (v0 : Nat) (h : pH) (q : Int32 × pH) (hf : fX7_readBlock_42 N rc v0 h = some q) (nv0 : ¬ v0 = 4) : Run X (d + 603) 7 false (pCd 4065) 2 (some .int) 42 [(0, .ref v0)] [] h 0 0 (some (.int q.1), q.2, 0, 0) := by
  unfold fX7_readBlock_42 at hf
  refine r_aload_n (dGet dX7_readBlock (j := 20) rfl) nv0 rfl ?_
  obtain ⟨t1, et1, hf⟩ := Option.bind_eq_some_iff.mp hf
  refine r_getR (dGet dX7_readBlock (j := 21) rfl) F7_7 et1 ?_
  obtain ⟨t2, et2, hf⟩ := Option.bind_eq_some_iff.mp hf
  refine r_getR (dGet dX7_readBlock (j := 22) rfl) F7_44 et2 ?_
  refine r_aload_n (dGet dX7_readBlock (j := 23) rfl) nv0 rfl ?_
  obtain ⟨t3, et3, hf⟩ := Option.bind_eq_some_iff.mp hf
  refine r_getI (dGet dX7_readBlock (j := 24) rfl) F7_47 et3 ?_
  obtain ⟨t4, et4, hf⟩ := Option.bind_eq_some_iff.mp hf
  refine r_iald (dGet dX7_readBlock (j := 25) rfl) et4 ?_
  refine r_istore_n (lv' := [(1, .int t4), (0, .ref v0)]) (dGet dX7_readBlock (j := 26) rfl) (by decide) rfl ?_
  refine r_aload_n (dGet dX7_readBlock (j := 27) rfl) nv0 rfl ?_
  refine r_bipush (dGet dX7_readBlock (j := 28) rfl) kB_125 ?_
  obtain ⟨h5, eh5, hf⟩ := Option.bind_eq_some_iff.mp hf
  refine r_virtual (dGet dX7_readBlock (j := 29) rfl) L7_130 M70 rfl rfl (Nat.le_of_ble_eq_true rfl) (oX7_close eh5) (cX7_close X N (d + 601) v0 (125 : Int32) h h5 eh5) ?_
  refine r_iload_n (dGet dX7_readBlock (j := 30) rfl) rfl ?_
  cases hf
  exact r_iret (dGet dX7_readBlock (j := 31) rfl) rfl rfl
def fX7_readBlock_8 (N : Nat) (rc : Nat → List Value → pH → Option (Option Value × pH)) : Nat → Nat → Int32 → pH → Option (Int32 × pH)
  | 0, _, _, _ => none
  | n + 1, v0, v1, h => if (3100 : Int32) ≤ v1 then (
  fX7_readBlock_42 N rc v0 h) else (
  (getI h v0 7 11).bind fun t7 =>
  if t7 = (-1 : Int32) then (
  (getI h v0 7 9).bind fun t9 =>
  if t9 = (125 : Int32) then (
  fX7_readBlock_42 N rc v0 h) else (
  (if isO h v0 7 = true then some () else none).bind fun _ =>
  (rcV rc 73 [.ref v0] h).bind fun h12 =>
  fX7_readBlock_8 N rc n v0 (v1 + (1 : Int32)) h12)) else (
  fX7_readBlock_42 N rc v0 h))
theorem lX7_readBlock_8 (X : pX) (N d : Nat) (rc : Nat → List Value → pH → Option (Option Value × pH)) (hrc : ∀ mn as h q, rc mn as h = some q → Calls X (d + 602) mn as h (q.1, q.2, 0, 0))  : ∀ (n : Nat) (v0 : Nat) (v1 : Int32) (h : pH) (q : Int32 × pH), fX7_readBlock_8 N rc n v0 v1 h = some q → ¬ v0 = 4 → Run X (d + 603) 7 false (pCd 4065) 2 (some .int) 8 [(0, .ref v0), (1, .int v1)] [] h 0 0 (some (.int q.1), q.2, 0, 0) := by
  intro n
  induction n with
  | zero => intro v0 v1 h q hf; cases hf
  | succ n ih =>
    intro v0 v1 h q hf nv0
    unfold fX7_readBlock_8 at hf
    refine r_iload_n (dGet dX7_readBlock (j := 5) rfl) rfl ?_
    refine r_sipush (dGet dX7_readBlock (j := 6) rfl) kS_3100 ?_
    by_cases c6 : (3100 : Int32) ≤ v1
    · rw [if_pos c6] at hf
      refine r_icmp_ge_t (dGet dX7_readBlock (j := 7) rfl) rfl c6 ?_
      refine Run.weak [(0, .ref v0)] (by simp) (by simp [pNd]) ?_
      exact lX7_readBlock_42 X N d rc hrc v0 h q hf nv0
    · rw [if_neg c6] at hf
      refine r_icmp_ge_f (dGet dX7_readBlock (j := 7) rfl) rfl c6 ?_
      refine r_aload_n (dGet dX7_readBlock (j := 8) rfl) nv0 rfl ?_
      obtain ⟨t7, et7, hf⟩ := Option.bind_eq_some_iff.mp hf
      refine r_getI (dGet dX7_readBlock (j := 9) rfl) F7_78 et7 ?_
      refine r_iconst (dGet dX7_readBlock (j := 10) rfl) kI_m1 ?_
      by_cases c8 : t7 = (-1 : Int32)
      · rw [if_pos c8] at hf
        refine r_icmp_ne_f (dGet dX7_readBlock (j := 11) rfl) rfl c8 ?_
        refine r_aload_n (dGet dX7_readBlock (j := 12) rfl) nv0 rfl ?_
        obtain ⟨t9, et9, hf⟩ := Option.bind_eq_some_iff.mp hf
        refine r_getI (dGet dX7_readBlock (j := 13) rfl) F7_57 et9 ?_
        refine r_bipush (dGet dX7_readBlock (j := 14) rfl) kB_125 ?_
        by_cases c10 : t9 = (125 : Int32)
        · rw [if_pos c10] at hf
          refine r_icmp_eq_t (dGet dX7_readBlock (j := 15) rfl) rfl c10 ?_
          refine Run.weak [(0, .ref v0)] (by simp) (by simp [pNd]) ?_
          exact lX7_readBlock_42 X N d rc hrc v0 h q hf nv0
        · rw [if_neg c10] at hf
          refine r_icmp_eq_f (dGet dX7_readBlock (j := 15) rfl) rfl c10 ?_
          refine r_aload_n (dGet dX7_readBlock (j := 16) rfl) nv0 rfl ?_
          obtain ⟨_, ec11, hf⟩ := Option.bind_eq_some_iff.mp hf
          obtain ⟨h12, eh12, hf⟩ := Option.bind_eq_some_iff.mp hf
          refine r_virtual (dGet dX7_readBlock (j := 17) rfl) L7_140 M73 rfl rfl (Nat.le_of_ble_eq_true rfl) (guard_of ec11) (rcV_calls hrc eh12) ?_
          refine r_iinc (lv' := [(1, .int (v1 + (1 : Int32))), (0, .ref v0)]) (dGet dX7_readBlock (j := 18) rfl) rfl (by decide) kI_1 rfl ?_
          refine r_goto (dGet dX7_readBlock (j := 19) rfl) rfl ?_
          refine Run.weak [(0, .ref v0), (1, .int (v1 + (1 : Int32)))] (by simp) (by simp [pNd]) ?_
          exact ih v0 (v1 + (1 : Int32)) h12 q hf nv0
      · rw [if_neg c8] at hf
        refine r_icmp_ne_t (dGet dX7_readBlock (j := 11) rfl) rfl c8 ?_
        refine Run.weak [(0, .ref v0)] (by simp) (by simp [pNd]) ?_
        exact lX7_readBlock_42 X N d rc hrc v0 h q hf nv0
def fX7_readBlock (N : Nat) (rc : Nat → List Value → pH → Option (Option Value × pH)) (v0 : Nat) (h : pH) : Option (Int32 × pH) := if isO h v0 7 = true then (
  (fX7_open N v0 (123 : Int32) h).bind fun h13 =>
  fX7_readBlock_8 N rc N v0 (0 : Int32) h13) else none
theorem oX7_readBlock {N : Nat} {rc : Nat → List Value → pH → Option (Option Value × pH)} {v0 : Nat} {h : pH} {q : Int32 × pH} (hf : fX7_readBlock N rc v0 h = some q) : isO h v0 7 = true := by
  unfold fX7_readBlock at hf
  by_cases hc : isO h v0 7 = true
  · exact hc
  · rw [if_neg hc] at hf; cases hf
theorem cX7_readBlock (X : pX) (N d : Nat) (rc : Nat → List Value → pH → Option (Option Value × pH)) (hrc : ∀ mn as h q, rc mn as h = some q → Calls X (d + 602) mn as h (q.1, q.2, 0, 0)) (v0 : Nat) (h : pH) (q : Int32 × pH) (hf : fX7_readBlock N rc v0 h = some q) : Calls X (d + 603) 72 [.ref v0] h (some (.int q.1), q.2, 0, 0) := by
  refine Calls.of M72 (Nat.le_of_ble_eq_true rfl) ?_
  show Run X (d + 603) 7 false (pCd 4065) 2 (some .int) 0 [(0, .ref v0)] [] h 0 0 (some (.int q.1), q.2, 0, 0)
  unfold fX7_readBlock at hf
  by_cases hc : isO h v0 7 = true
  · rw [if_pos hc] at hf
    have nv0 : ¬ v0 = 4 := isO_ne hc
    refine r_aload_n (dGet dX7_readBlock (j := 0) rfl) nv0 rfl ?_
    refine r_bipush (dGet dX7_readBlock (j := 1) rfl) kB_123 ?_
    obtain ⟨h13, eh13, hf⟩ := Option.bind_eq_some_iff.mp hf
    refine r_virtual (dGet dX7_readBlock (j := 2) rfl) L7_104 M64 rfl rfl (Nat.le_of_ble_eq_true rfl) (oX7_open eh13) (cX7_open X N (d + 601) v0 (123 : Int32) h h13 eh13) ?_
    refine r_iconst (dGet dX7_readBlock (j := 3) rfl) kI_0 ?_
    refine r_istore_n (lv' := [(1, .int (0 : Int32)), (0, .ref v0)]) (dGet dX7_readBlock (j := 4) rfl) (by decide) rfl ?_
    refine Run.weak [(0, .ref v0), (1, .int (0 : Int32))] (by simp) (by simp [pNd]) ?_
    exact lX7_readBlock_8 X N d rc hrc N v0 (0 : Int32) h13 q hf nv0
  · rw [if_neg hc] at hf; cases hf
def gX7_readWhile (N : Nat) : Nat → Nat → List Value → pH → Option (Option Value × pH)
  | 0 => fun _ _ _ => none
  | j + 1 => fun mn as h =>
    if mn = 94 then (match as with
      | [.ref a0] => (fX7_readWhile N (gX7_readWhile N j) a0 h).map (fun q => (none, q))
      | _ => none) else
    if mn = 95 then (match as with
      | [.ref a0] => (fX7_readTry N (gX7_readWhile N j) a0 h).map (fun q => (none, q))
      | _ => none) else
    if mn = 74 then (match as with
      | [.ref a0] => (fX7_readIf N (gX7_readWhile N j) a0 h).map (fun q => (none, q))
      | _ => none) else
    if mn = 73 then (match as with
      | [.ref a0] => (fX7_readStatement N (gX7_readWhile N j) a0 h).map (fun q => (none, q))
      | _ => none) else
    if mn = 72 then (match as with
      | [.ref a0] => (fX7_readBlock N (gX7_readWhile N j) a0 h).map (fun q => (some (.int q.1), q.2))
      | _ => none) else
    none
theorem gX7_readWhile_calls (X : pX) (N d : Nat) : ∀ (j mn : Nat) (as : List Value) (h : pH) (q : Option Value × pH), gX7_readWhile N j mn as h = some q → Calls X (d + 602 + j) mn as h (q.1, q.2, 0, 0)
  | 0, _, _, _, _, hf => by cases hf
  | j + 1, mn, as, h, q, hf => by
    have ih := gX7_readWhile_calls X N d j
    unfold gX7_readWhile at hf
    by_cases c94 : mn = 94
    · rw [if_pos c94] at hf
      subst c94
      split at hf
      · rename_i a0
        obtain ⟨x, e1, rfl⟩ := Option.map_eq_some_iff.mp hf
        have := cX7_readWhile X N (d + j) (gX7_readWhile N j) (fun mn as h q e => by have := ih mn as h q e; rw [show d + j + 602 = d + 602 + j by omega]; exact this) a0 h x e1
        rw [show d + 602 + (j + 1) = d + j + 603 by omega]
        exact this
      · cases hf
    rw [if_neg c94] at hf
    by_cases c95 : mn = 95
    · rw [if_pos c95] at hf
      subst c95
      split at hf
      · rename_i a0
        obtain ⟨x, e1, rfl⟩ := Option.map_eq_some_iff.mp hf
        have := cX7_readTry X N (d + j) (gX7_readWhile N j) (fun mn as h q e => by have := ih mn as h q e; rw [show d + j + 602 = d + 602 + j by omega]; exact this) a0 h x e1
        rw [show d + 602 + (j + 1) = d + j + 603 by omega]
        exact this
      · cases hf
    rw [if_neg c95] at hf
    by_cases c74 : mn = 74
    · rw [if_pos c74] at hf
      subst c74
      split at hf
      · rename_i a0
        obtain ⟨x, e1, rfl⟩ := Option.map_eq_some_iff.mp hf
        have := cX7_readIf X N (d + j) (gX7_readWhile N j) (fun mn as h q e => by have := ih mn as h q e; rw [show d + j + 602 = d + 602 + j by omega]; exact this) a0 h x e1
        rw [show d + 602 + (j + 1) = d + j + 603 by omega]
        exact this
      · cases hf
    rw [if_neg c74] at hf
    by_cases c73 : mn = 73
    · rw [if_pos c73] at hf
      subst c73
      split at hf
      · rename_i a0
        obtain ⟨x, e1, rfl⟩ := Option.map_eq_some_iff.mp hf
        have := cX7_readStatement X N (d + j) (gX7_readWhile N j) (fun mn as h q e => by have := ih mn as h q e; rw [show d + j + 602 = d + 602 + j by omega]; exact this) a0 h x e1
        rw [show d + 602 + (j + 1) = d + j + 603 by omega]
        exact this
      · cases hf
    rw [if_neg c73] at hf
    by_cases c72 : mn = 72
    · rw [if_pos c72] at hf
      subst c72
      split at hf
      · rename_i a0
        obtain ⟨x, e1, rfl⟩ := Option.map_eq_some_iff.mp hf
        have := cX7_readBlock X N (d + j) (gX7_readWhile N j) (fun mn as h q e => by have := ih mn as h q e; rw [show d + j + 602 = d + 602 + j by omega]; exact this) a0 h x e1
        rw [show d + 602 + (j + 1) = d + j + 603 by omega]
        exact this
      · cases hf
    rw [if_neg c72] at hf
    cases hf
def eX7_readParameter : List (Nat × Instr × Nat) := [(0, .aload_n 0, 1), (1, .invokevirtual 107, 3), (4, .istore_n 1, 1), (5, .aload_n 0, 1), (6, .getfield 17, 3), (9, .iload_n 1, 1), (10, .aload_n 0, 1), (11, .invokevirtual 51, 3), (14, .invokevirtual 136, 3), (17, .return_, 1)]
theorem dX7_readParameter : dChk (pCd 4049) eX7_readParameter = true := by decide +kernel
def fX7_readParameter (N : Nat) (v0 : Nat) (h : pH) : Option (pH) := if isO h v0 7 = true then (
  (fX7_takeType N v0 h).bind fun q1 =>
  (getR q1.2 v0 7 2).bind fun t2 =>
  (fX7_takeName N v0 q1.2).bind fun q3 =>
  (fX6_addParameter N t2 q1.1 q3.1 q3.2).bind fun h4 =>
  some h4) else none
theorem oX7_readParameter {N : Nat} {v0 : Nat} {h : pH} {q : pH} (hf : fX7_readParameter N v0 h = some q) : isO h v0 7 = true := by
  unfold fX7_readParameter at hf
  by_cases hc : isO h v0 7 = true
  · exact hc
  · rw [if_neg hc] at hf; cases hf
theorem cX7_readParameter (X : pX) (N d : Nat) (v0 : Nat) (h : pH) (q : pH) (hf : fX7_readParameter N v0 h = some q) : Calls X (d + 2) 68 [.ref v0] h (none, q, 0, 0) := by
  refine Calls.of M68 (Nat.le_of_ble_eq_true rfl) ?_
  show Run X (d + 2) 7 false (pCd 4049) 2 none 0 [(0, .ref v0)] [] h 0 0 (none, q, 0, 0)
  unfold fX7_readParameter at hf
  by_cases hc : isO h v0 7 = true
  · rw [if_pos hc] at hf
    have nv0 : ¬ v0 = 4 := isO_ne hc
    refine r_aload_n (dGet dX7_readParameter (j := 0) rfl) nv0 rfl ?_
    obtain ⟨q1, eq1, hf⟩ := Option.bind_eq_some_iff.mp hf
    refine r_virtual (dGet dX7_readParameter (j := 1) rfl) L7_107 M65 rfl rfl (Nat.le_of_ble_eq_true rfl) (oX7_takeType eq1) (cX7_takeType X N (d + 0) v0 h q1 eq1) ?_
    refine r_istore_n (lv' := [(1, .int q1.1), (0, .ref v0)]) (dGet dX7_readParameter (j := 2) rfl) (by decide) rfl ?_
    refine r_aload_n (dGet dX7_readParameter (j := 3) rfl) nv0 rfl ?_
    obtain ⟨t2, et2, hf⟩ := Option.bind_eq_some_iff.mp hf
    refine r_getR (dGet dX7_readParameter (j := 4) rfl) F7_17 et2 ?_
    refine r_iload_n (dGet dX7_readParameter (j := 5) rfl) rfl ?_
    refine r_aload_n (dGet dX7_readParameter (j := 6) rfl) nv0 rfl ?_
    obtain ⟨q3, eq3, hf⟩ := Option.bind_eq_some_iff.mp hf
    refine r_virtual (dGet dX7_readParameter (j := 7) rfl) L7_51 M62 rfl rfl (Nat.le_of_ble_eq_true rfl) (oX7_takeName eq3) (cX7_takeName X N (d + 0) v0 q1.2 q3 eq3) ?_
    obtain ⟨h4, eh4, hf⟩ := Option.bind_eq_some_iff.mp hf
    refine r_virtual (dGet dX7_readParameter (j := 8) rfl) L7_136 M69 rfl rfl (Nat.le_of_ble_eq_true rfl) (oX6_addParameter eh4) (cX6_addParameter X N (d + 1) t2 q1.1 q3.1 q3.2 h4 eh4) ?_
    cases hf
    exact r_vret (dGet dX7_readParameter (j := 9) rfl) rfl
  · rw [if_neg hc] at hf; cases hf
def eX7_readParameters : List (Nat × Instr × Nat) := [(0, .aload_n 0, 1), (1, .bipush 40, 2), (3, .invokevirtual 104, 3), (6, .aload_n 0, 1), (7, .getfield 57, 3), (10, .bipush 41, 2), (12, .if_icmp .eq 39, 3), (15, .aload_n 0, 1), (16, .invokevirtual 133, 3), (19, .iconst 0, 1), (20, .istore_n 1, 1), (21, .iload_n 1, 1), (22, .sipush 3100, 3), (25, .if_icmp .ge 26, 3), (28, .aload_n 0, 1), (29, .getfield 57, 3), (32, .bipush 44, 2), (34, .if_icmp .ne 17, 3), (37, .aload_n 0, 1), (38, .invokevirtual 60, 3), (41, .aload_n 0, 1), (42, .invokevirtual 133, 3), (45, .iinc 1 1, 3), (48, .goto (-27), 3), (51, .aload_n 0, 1), (52, .bipush 41, 2), (54, .invokevirtual 130, 3), (57, .return_, 1)]
theorem dX7_readParameters : dChk (pCd 4045) eX7_readParameters = true := by decide +kernel
def fX7_readParameters_51 (N : Nat) (v0 : Nat) (h : pH) : Option (pH) :=
  (fX7_close N v0 (41 : Int32) h).bind fun h1 =>
  some h1
theorem lX7_readParameters_51 (X : pX) (N d : Nat)  (v0 : Nat) (h : pH) (q : pH) (hf : fX7_readParameters_51 N v0 h = some q) (nv0 : ¬ v0 = 4) : Run X (d + 3) 7 false (pCd 4045) 2 none 51 [(0, .ref v0)] [] h 0 0 (none, q, 0, 0) := by
  unfold fX7_readParameters_51 at hf
  refine r_aload_n (dGet dX7_readParameters (j := 24) rfl) nv0 rfl ?_
  refine r_bipush (dGet dX7_readParameters (j := 25) rfl) kB_41 ?_
  obtain ⟨h1, eh1, hf⟩ := Option.bind_eq_some_iff.mp hf
  refine r_virtual (dGet dX7_readParameters (j := 26) rfl) L7_130 M70 rfl rfl (Nat.le_of_ble_eq_true rfl) (oX7_close eh1) (cX7_close X N (d + 1) v0 (41 : Int32) h h1 eh1) ?_
  cases hf
  exact r_vret (dGet dX7_readParameters (j := 27) rfl) rfl
def fX7_readParameters_21 (N : Nat) : Nat → Nat → Int32 → pH → Option (pH)
  | 0, _, _, _ => none
  | n + 1, v0, v1, h => if (3100 : Int32) ≤ v1 then (
  fX7_readParameters_51 N v0 h) else (
  (getI h v0 7 9).bind fun t3 =>
  if t3 = (44 : Int32) then (
  (fX7_advance N v0 h).bind fun h5 =>
  (fX7_readParameter N v0 h5).bind fun h6 =>
  fX7_readParameters_21 N n v0 (v1 + (1 : Int32)) h6) else (
  fX7_readParameters_51 N v0 h))
theorem lX7_readParameters_21 (X : pX) (N d : Nat)  : ∀ (n : Nat) (v0 : Nat) (v1 : Int32) (h : pH) (q : pH), fX7_readParameters_21 N n v0 v1 h = some q → ¬ v0 = 4 → Run X (d + 3) 7 false (pCd 4045) 2 none 21 [(0, .ref v0), (1, .int v1)] [] h 0 0 (none, q, 0, 0) := by
  intro n
  induction n with
  | zero => intro v0 v1 h q hf; cases hf
  | succ n ih =>
    intro v0 v1 h q hf nv0
    unfold fX7_readParameters_21 at hf
    refine r_iload_n (dGet dX7_readParameters (j := 11) rfl) rfl ?_
    refine r_sipush (dGet dX7_readParameters (j := 12) rfl) kS_3100 ?_
    by_cases c2 : (3100 : Int32) ≤ v1
    · rw [if_pos c2] at hf
      refine r_icmp_ge_t (dGet dX7_readParameters (j := 13) rfl) rfl c2 ?_
      refine Run.weak [(0, .ref v0)] (by simp) (by simp [pNd]) ?_
      exact lX7_readParameters_51 X N d v0 h q hf nv0
    · rw [if_neg c2] at hf
      refine r_icmp_ge_f (dGet dX7_readParameters (j := 13) rfl) rfl c2 ?_
      refine r_aload_n (dGet dX7_readParameters (j := 14) rfl) nv0 rfl ?_
      obtain ⟨t3, et3, hf⟩ := Option.bind_eq_some_iff.mp hf
      refine r_getI (dGet dX7_readParameters (j := 15) rfl) F7_57 et3 ?_
      refine r_bipush (dGet dX7_readParameters (j := 16) rfl) kB_44 ?_
      by_cases c4 : t3 = (44 : Int32)
      · rw [if_pos c4] at hf
        refine r_icmp_ne_f (dGet dX7_readParameters (j := 17) rfl) rfl c4 ?_
        refine r_aload_n (dGet dX7_readParameters (j := 18) rfl) nv0 rfl ?_
        obtain ⟨h5, eh5, hf⟩ := Option.bind_eq_some_iff.mp hf
        refine r_virtual (dGet dX7_readParameters (j := 19) rfl) L7_60 M60 rfl rfl (Nat.le_of_ble_eq_true rfl) (oX7_advance eh5) (cX7_advance X N (d + 2) v0 h h5 eh5) ?_
        refine r_aload_n (dGet dX7_readParameters (j := 20) rfl) nv0 rfl ?_
        obtain ⟨h6, eh6, hf⟩ := Option.bind_eq_some_iff.mp hf
        refine r_virtual (dGet dX7_readParameters (j := 21) rfl) L7_133 M68 rfl rfl (Nat.le_of_ble_eq_true rfl) (oX7_readParameter eh6) (cX7_readParameter X N (d + 0) v0 h5 h6 eh6) ?_
        refine r_iinc (lv' := [(1, .int (v1 + (1 : Int32))), (0, .ref v0)]) (dGet dX7_readParameters (j := 22) rfl) rfl (by decide) kI_1 rfl ?_
        refine r_goto (dGet dX7_readParameters (j := 23) rfl) rfl ?_
        refine Run.weak [(0, .ref v0), (1, .int (v1 + (1 : Int32)))] (by simp) (by simp [pNd]) ?_
        exact ih v0 (v1 + (1 : Int32)) h6 q hf nv0
      · rw [if_neg c4] at hf
        refine r_icmp_ne_t (dGet dX7_readParameters (j := 17) rfl) rfl c4 ?_
        refine Run.weak [(0, .ref v0)] (by simp) (by simp [pNd]) ?_
        exact lX7_readParameters_51 X N d v0 h q hf nv0
def fX7_readParameters (N : Nat) (v0 : Nat) (h : pH) : Option (pH) := if isO h v0 7 = true then (
  (fX7_open N v0 (40 : Int32) h).bind fun h7 =>
  (getI h7 v0 7 9).bind fun t8 =>
  if t8 = (41 : Int32) then (
  fX7_readParameters_51 N v0 h7) else (
  (fX7_readParameter N v0 h7).bind fun h10 =>
  fX7_readParameters_21 N N v0 (0 : Int32) h10)) else none
theorem oX7_readParameters {N : Nat} {v0 : Nat} {h : pH} {q : pH} (hf : fX7_readParameters N v0 h = some q) : isO h v0 7 = true := by
  unfold fX7_readParameters at hf
  by_cases hc : isO h v0 7 = true
  · exact hc
  · rw [if_neg hc] at hf; cases hf
theorem cX7_readParameters (X : pX) (N d : Nat) (v0 : Nat) (h : pH) (q : pH) (hf : fX7_readParameters N v0 h = some q) : Calls X (d + 3) 67 [.ref v0] h (none, q, 0, 0) := by
  refine Calls.of M67 (Nat.le_of_ble_eq_true rfl) ?_
  show Run X (d + 3) 7 false (pCd 4045) 2 none 0 [(0, .ref v0)] [] h 0 0 (none, q, 0, 0)
  unfold fX7_readParameters at hf
  by_cases hc : isO h v0 7 = true
  · rw [if_pos hc] at hf
    have nv0 : ¬ v0 = 4 := isO_ne hc
    refine r_aload_n (dGet dX7_readParameters (j := 0) rfl) nv0 rfl ?_
    refine r_bipush (dGet dX7_readParameters (j := 1) rfl) kB_40 ?_
    obtain ⟨h7, eh7, hf⟩ := Option.bind_eq_some_iff.mp hf
    refine r_virtual (dGet dX7_readParameters (j := 2) rfl) L7_104 M64 rfl rfl (Nat.le_of_ble_eq_true rfl) (oX7_open eh7) (cX7_open X N (d + 1) v0 (40 : Int32) h h7 eh7) ?_
    refine r_aload_n (dGet dX7_readParameters (j := 3) rfl) nv0 rfl ?_
    obtain ⟨t8, et8, hf⟩ := Option.bind_eq_some_iff.mp hf
    refine r_getI (dGet dX7_readParameters (j := 4) rfl) F7_57 et8 ?_
    refine r_bipush (dGet dX7_readParameters (j := 5) rfl) kB_41 ?_
    by_cases c9 : t8 = (41 : Int32)
    · rw [if_pos c9] at hf
      refine r_icmp_eq_t (dGet dX7_readParameters (j := 6) rfl) rfl c9 ?_
      exact lX7_readParameters_51 X N d v0 h7 q hf nv0
    · rw [if_neg c9] at hf
      refine r_icmp_eq_f (dGet dX7_readParameters (j := 6) rfl) rfl c9 ?_
      refine r_aload_n (dGet dX7_readParameters (j := 7) rfl) nv0 rfl ?_
      obtain ⟨h10, eh10, hf⟩ := Option.bind_eq_some_iff.mp hf
      refine r_virtual (dGet dX7_readParameters (j := 8) rfl) L7_133 M68 rfl rfl (Nat.le_of_ble_eq_true rfl) (oX7_readParameter eh10) (cX7_readParameter X N (d + 0) v0 h7 h10 eh10) ?_
      refine r_iconst (dGet dX7_readParameters (j := 9) rfl) kI_0 ?_
      refine r_istore_n (lv' := [(1, .int (0 : Int32)), (0, .ref v0)]) (dGet dX7_readParameters (j := 10) rfl) (by decide) rfl ?_
      refine Run.weak [(0, .ref v0), (1, .int (0 : Int32))] (by simp) (by simp [pNd]) ?_
      exact lX7_readParameters_21 X N d N v0 (0 : Int32) h10 q hf nv0
  · rw [if_neg hc] at hf; cases hf
def eX7_readMembers : List (Nat × Instr × Nat) := [(0, .aload_n 0, 1), (1, .bipush 123, 2), (3, .invokevirtual 104, 3), (6, .iconst 0, 1), (7, .istore_n 1, 1), (8, .iload_n 1, 1), (9, .sipush 3100, 3), (12, .if_icmp .ge 174, 3), (15, .aload_n 0, 1), (16, .getfield 78, 3), (19, .iconst (-1), 1), (20, .if_icmp .ne 166, 3), (23, .aload_n 0, 1), (24, .getfield 57, 3), (27, .bipush 125, 2), (29, .if_icmp .eq 157, 3), (32, .aload_n 0, 1), (33, .getfield 57, 3), (36, .iconst 5, 1), (37, .if_icmp .ne 7, 3), (40, .iconst 1, 1), (41, .goto 4, 3), (44, .iconst 0, 1), (45, .istore_n 2, 1), (46, .bipush (-4), 2), (48, .istore_n 3, 1), (49, .iload_n 2, 1), (50, .ifCond .eq 10, 3), (53, .aload_n 0, 1), (54, .invokevirtual 60, 3), (57, .goto 8, 3), (60, .aload_n 0, 1), (61, .invokevirtual 107, 3), (64, .istore_n 3, 1), (65, .aload_n 0, 1), (66, .getfield 7, 3), (69, .getfield 44, 3), (72, .aload_n 0, 1), (73, .getfield 47, 3), (76, .iaload, 1), (77, .istore 4, 2), (79, .aload_n 0, 1), (80, .invokevirtual 51, 3), (83, .istore 5, 2), (85, .iload_n 2, 1), (86, .ifCond .ne 16, 3), (89, .aload_n 0, 1), (90, .getfield 57, 3), (93, .bipush 59, 2), (95, .if_icmp .ne 7, 3), (98, .iconst 1, 1), (99, .goto 4, 3), (102, .iconst 0, 1), (103, .istore 6, 2), (105, .aload_n 0, 1), (106, .getfield 17, 3), (109, .iload 5, 2), (111, .iload 4, 2), (113, .iload_n 3, 1), (114, .iload 6, 2), (116, .ifCond .ne 7, 3), (119, .iconst 1, 1), (120, .goto 4, 3), (123, .iconst 0, 1), (124, .invokevirtual 110, 3), (127, .iload 6, 2), (129, .ifCond .eq 10, 3), (132, .aload_n 0, 1), (133, .invokevirtual 60, 3), (136, .goto 44, 3), (139, .aload_n 0, 1), (140, .invokevirtual 113, 3), (143, .aload_n 0, 1), (144, .getfield 17, 3), (147, .aload_n 0, 1), (148, .getfield 21, 3), (151, .getfield 116, 3), (154, .invokevirtual 117, 3), (157, .aload_n 0, 1), (158, .getfield 21, 3), (161, .aload_n 0, 1), (162, .invokevirtual 120, 3), (165, .putfield 123, 3), (168, .aload_n 0, 1), (169, .getfield 21, 3), (172, .bipush 61, 2), (174, .iconst 0, 1), (175, .iconst 0, 1), (176, .invokevirtual 126, 3), (179, .pop, 1), (180, .iinc 1 1, 3), (183, .goto (-175), 3), (186, .aload_n 0, 1), (187, .bipush 125, 2), (189, .invokevirtual 130, 3), (192, .return_, 1)]
theorem dX7_readMembers : dChk (pCd 4029) eX7_readMembers = true := by decide +kernel
def fX7_readMembers_186 (N : Nat) (v0 : Nat) (h : pH) : Option (pH) :=
  (fX7_close N v0 (125 : Int32) h).bind fun h1 =>
  some h1
theorem lX7_readMembers_186 (X : pX) (N d : Nat)  (v0 : Nat) (h : pH) (q : pH) (hf : fX7_readMembers_186 N v0 h = some q) (nv0 : ¬ v0 = 4) : Run X (d + 803) 7 false (pCd 4029) 7 none 186 [(0, .ref v0)] [] h 0 0 (none, q, 0, 0) := by
  unfold fX7_readMembers_186 at hf
  refine r_aload_n (dGet dX7_readMembers (j := 92) rfl) nv0 rfl ?_
  refine r_bipush (dGet dX7_readMembers (j := 93) rfl) kB_125 ?_
  obtain ⟨h1, eh1, hf⟩ := Option.bind_eq_some_iff.mp hf
  refine r_virtual (dGet dX7_readMembers (j := 94) rfl) L7_130 M70 rfl rfl (Nat.le_of_ble_eq_true rfl) (oX7_close eh1) (cX7_close X N (d + 801) v0 (125 : Int32) h h1 eh1) ?_
  cases hf
  exact r_vret (dGet dX7_readMembers (j := 95) rfl) rfl
def fX7_readMembers_180 (N : Nat) (k8 : Nat → Int32 → pH → Option (pH)) (v0 : Nat) (v1 : Int32) (h : pH) : Option (pH) :=
  k8 v0 (v1 + (1 : Int32)) h
theorem lX7_readMembers_180 (X : pX) (N d : Nat)  (k8 : Nat → Int32 → pH → Option (pH)) (K8 : ∀ (w0 : Nat) (w1 : Int32) (h : pH) (q : pH), k8 w0 w1 h = some q → ¬ w0 = 4 → Run X (d + 803) 7 false (pCd 4029) 7 none 8 [(0, .ref w0), (1, .int w1)] [] h 0 0 (none, q, 0, 0)) (v0 : Nat) (v1 : Int32) (h : pH) (q : pH) (hf : fX7_readMembers_180 N k8 v0 v1 h = some q) (nv0 : ¬ v0 = 4) : Run X (d + 803) 7 false (pCd 4029) 7 none 180 [(0, .ref v0), (1, .int v1)] [] h 0 0 (none, q, 0, 0) := by
  unfold fX7_readMembers_180 at hf
  refine r_iinc (lv' := [(1, .int (v1 + (1 : Int32))), (0, .ref v0)]) (dGet dX7_readMembers (j := 90) rfl) rfl (by decide) kI_1 rfl ?_
  refine r_goto (dGet dX7_readMembers (j := 91) rfl) rfl ?_
  refine Run.weak [(0, .ref v0), (1, .int (v1 + (1 : Int32)))] (by simp) (by simp [pNd]) ?_
  exact K8 v0 (v1 + (1 : Int32)) h q hf nv0
def fX7_readMembers_124 (N : Nat) (k8 : Nat → Int32 → pH → Option (pH)) (v0 : Nat) (v1 : Int32) (v6 : Int32) (s0 : Nat) (s1 : Int32) (s2 : Int32) (s3 : Int32) (s4 : Int32) (h : pH) : Option (pH) :=
  (fX6_add N s0 s1 s2 s3 s4 h).bind fun h2 =>
  if v6 = 0 then (
  (fX7_readParameters N v0 h2).bind fun h4 =>
  (getR h4 v0 7 2).bind fun t5 =>
  (getR h4 v0 7 3).bind fun t6 =>
  (getI h4 t6 2 7).bind fun t7 =>
  (fX6_codeOfLast N t5 t7 h4).bind fun h8 =>
  (getR h8 v0 7 3).bind fun t9 =>
  (if isO h8 v0 7 = true then some () else none).bind fun _ =>
  (rcI (gX7_readWhile N 200) 72 [.ref v0] h8).bind fun q10 =>
  (putI q10.2 t9 2 8 q10.1).bind fun h12 =>
  (getR h12 v0 7 3).bind fun t13 =>
  (fX2_emit N t13 (61 : Int32) (0 : Int32) (0 : Int32) h12).bind fun q14 =>
  fX7_readMembers_180 N k8 v0 v1 q14.2) else (
  (fX7_advance N v0 h2).bind fun h15 =>
  fX7_readMembers_180 N k8 v0 v1 h15)
theorem lX7_readMembers_124 (X : pX) (N d : Nat)  (k8 : Nat → Int32 → pH → Option (pH)) (K8 : ∀ (w0 : Nat) (w1 : Int32) (h : pH) (q : pH), k8 w0 w1 h = some q → ¬ w0 = 4 → Run X (d + 803) 7 false (pCd 4029) 7 none 8 [(0, .ref w0), (1, .int w1)] [] h 0 0 (none, q, 0, 0)) (v0 : Nat) (v1 : Int32) (v6 : Int32) (s0 : Nat) (s1 : Int32) (s2 : Int32) (s3 : Int32) (s4 : Int32) (h : pH) (q : pH) (hf : fX7_readMembers_124 N k8 v0 v1 v6 s0 s1 s2 s3 s4 h = some q) (nv0 : ¬ v0 = 4) (ns0 : ¬ s0 = 4) : Run X (d + 803) 7 false (pCd 4029) 7 none 124 [(0, .ref v0), (1, .int v1), (6, .int v6)] [.int s4, .int s3, .int s2, .int s1, .ref s0] h 0 0 (none, q, 0, 0) := by
  unfold fX7_readMembers_124 at hf
  obtain ⟨h2, eh2, hf⟩ := Option.bind_eq_some_iff.mp hf
  refine r_virtual (dGet dX7_readMembers (j := 64) rfl) L7_110 M66 rfl rfl (Nat.le_of_ble_eq_true rfl) (oX6_add eh2) (cX6_add X N (d + 802) s0 s1 s2 s3 s4 h h2 eh2) ?_
  refine r_iload (dGet dX7_readMembers (j := 65) rfl) rfl ?_
  by_cases c3 : v6 = 0
  · rw [if_pos c3] at hf
    refine r_if_eq_t (dGet dX7_readMembers (j := 66) rfl) rfl c3 ?_
    refine r_aload_n (dGet dX7_readMembers (j := 70) rfl) nv0 rfl ?_
    obtain ⟨h4, eh4, hf⟩ := Option.bind_eq_some_iff.mp hf
    refine r_virtual (dGet dX7_readMembers (j := 71) rfl) L7_113 M67 rfl rfl (Nat.le_of_ble_eq_true rfl) (oX7_readParameters eh4) (cX7_readParameters X N (d + 799) v0 h2 h4 eh4) ?_
    refine r_aload_n (dGet dX7_readMembers (j := 72) rfl) nv0 rfl ?_
    obtain ⟨t5, et5, hf⟩ := Option.bind_eq_some_iff.mp hf
    refine r_getR (dGet dX7_readMembers (j := 73) rfl) F7_17 et5 ?_
    refine r_aload_n (dGet dX7_readMembers (j := 74) rfl) nv0 rfl ?_
    obtain ⟨t6, et6, hf⟩ := Option.bind_eq_some_iff.mp hf
    refine r_getR (dGet dX7_readMembers (j := 75) rfl) F7_21 et6 ?_
    obtain ⟨t7, et7, hf⟩ := Option.bind_eq_some_iff.mp hf
    refine r_getI (dGet dX7_readMembers (j := 76) rfl) F7_116 et7 ?_
    obtain ⟨h8, eh8, hf⟩ := Option.bind_eq_some_iff.mp hf
    refine r_virtual (dGet dX7_readMembers (j := 77) rfl) L7_117 M71 rfl rfl (Nat.le_of_ble_eq_true rfl) (oX6_codeOfLast eh8) (cX6_codeOfLast X N (d + 802) t5 t7 h4 h8 eh8) ?_
    refine r_aload_n (dGet dX7_readMembers (j := 78) rfl) nv0 rfl ?_
    obtain ⟨t9, et9, hf⟩ := Option.bind_eq_some_iff.mp hf
    refine r_getR (dGet dX7_readMembers (j := 79) rfl) F7_21 et9 ?_
    refine r_aload_n (dGet dX7_readMembers (j := 80) rfl) nv0 rfl ?_
    obtain ⟨_, ec11, hf⟩ := Option.bind_eq_some_iff.mp hf
    obtain ⟨q10, eq10, hf⟩ := Option.bind_eq_some_iff.mp hf
    refine r_virtual (dGet dX7_readMembers (j := 81) rfl) L7_120 M72 rfl rfl (Nat.le_of_ble_eq_true rfl) (guard_of ec11) (rcI_calls (gX7_readWhile_calls X N (d + 0) 200) eq10) ?_
    obtain ⟨h12, eh12, hf⟩ := Option.bind_eq_some_iff.mp hf
    refine r_putI (dGet dX7_readMembers (j := 82) rfl) F7_123 rfl rfl eh12 ?_
    refine r_aload_n (dGet dX7_readMembers (j := 83) rfl) nv0 rfl ?_
    obtain ⟨t13, et13, hf⟩ := Option.bind_eq_some_iff.mp hf
    refine r_getR (dGet dX7_readMembers (j := 84) rfl) F7_21 et13 ?_
    refine r_bipush (dGet dX7_readMembers (j := 85) rfl) kB_61 ?_
    refine r_iconst (dGet dX7_readMembers (j := 86) rfl) kI_0 ?_
    refine r_iconst (dGet dX7_readMembers (j := 87) rfl) kI_0 ?_
    obtain ⟨q14, eq14, hf⟩ := Option.bind_eq_some_iff.mp hf
    refine r_virtual (dGet dX7_readMembers (j := 88) rfl) L7_126 M81 rfl rfl (Nat.le_of_ble_eq_true rfl) (oX2_emit eq14) (cX2_emit X N (d + 802) t13 (61 : Int32) (0 : Int32) (0 : Int32) h12 q14 eq14) ?_
    refine r_pop (dGet dX7_readMembers (j := 89) rfl) rfl ?_
    refine Run.weak [(0, .ref v0), (1, .int v1)] (by simp) (by simp [pNd]) ?_
    exact lX7_readMembers_180 X N d k8 K8 v0 v1 q14.2 q hf nv0
  · rw [if_neg c3] at hf
    refine r_if_eq_f (dGet dX7_readMembers (j := 66) rfl) rfl c3 ?_
    refine r_aload_n (dGet dX7_readMembers (j := 67) rfl) nv0 rfl ?_
    obtain ⟨h15, eh15, hf⟩ := Option.bind_eq_some_iff.mp hf
    refine r_virtual (dGet dX7_readMembers (j := 68) rfl) L7_60 M60 rfl rfl (Nat.le_of_ble_eq_true rfl) (oX7_advance eh15) (cX7_advance X N (d + 802) v0 h2 h15 eh15) ?_
    refine r_goto (dGet dX7_readMembers (j := 69) rfl) rfl ?_
    refine Run.weak [(0, .ref v0), (1, .int v1)] (by simp) (by simp [pNd]) ?_
    exact lX7_readMembers_180 X N d k8 K8 v0 v1 h15 q hf nv0
def fX7_readMembers_103 (N : Nat) (k8 : Nat → Int32 → pH → Option (pH)) (v0 : Nat) (v1 : Int32) (v3 : Int32) (v4 : Int32) (v5 : Int32) (s0 : Int32) (h : pH) : Option (pH) :=
  (getR h v0 7 2).bind fun t16 =>
  if s0 = 0 then (
  if t16 = 4 then none else
  fX7_readMembers_124 N k8 v0 v1 s0 t16 v5 v4 v3 (1 : Int32) h) else (
  if t16 = 4 then none else
  fX7_readMembers_124 N k8 v0 v1 s0 t16 v5 v4 v3 (0 : Int32) h)
theorem lX7_readMembers_103 (X : pX) (N d : Nat)  (k8 : Nat → Int32 → pH → Option (pH)) (K8 : ∀ (w0 : Nat) (w1 : Int32) (h : pH) (q : pH), k8 w0 w1 h = some q → ¬ w0 = 4 → Run X (d + 803) 7 false (pCd 4029) 7 none 8 [(0, .ref w0), (1, .int w1)] [] h 0 0 (none, q, 0, 0)) (v0 : Nat) (v1 : Int32) (v3 : Int32) (v4 : Int32) (v5 : Int32) (s0 : Int32) (h : pH) (q : pH) (hf : fX7_readMembers_103 N k8 v0 v1 v3 v4 v5 s0 h = some q) (nv0 : ¬ v0 = 4) : Run X (d + 803) 7 false (pCd 4029) 7 none 103 [(0, .ref v0), (1, .int v1), (3, .int v3), (4, .int v4), (5, .int v5)] [.int s0] h 0 0 (none, q, 0, 0) := by
  unfold fX7_readMembers_103 at hf
  refine r_istore (lv' := [(6, .int s0), (0, .ref v0), (1, .int v1), (3, .int v3), (4, .int v4), (5, .int v5)]) (dGet dX7_readMembers (j := 53) rfl) (by decide) rfl ?_
  refine r_aload_n (dGet dX7_readMembers (j := 54) rfl) nv0 rfl ?_
  obtain ⟨t16, et16, hf⟩ := Option.bind_eq_some_iff.mp hf
  refine r_getR (dGet dX7_readMembers (j := 55) rfl) F7_17 et16 ?_
  refine r_iload (dGet dX7_readMembers (j := 56) rfl) rfl ?_
  refine r_iload (dGet dX7_readMembers (j := 57) rfl) rfl ?_
  refine r_iload_n (dGet dX7_readMembers (j := 58) rfl) rfl ?_
  refine r_iload (dGet dX7_readMembers (j := 59) rfl) rfl ?_
  by_cases c17 : s0 = 0
  · rw [if_pos c17] at hf
    refine r_if_ne_f (dGet dX7_readMembers (j := 60) rfl) rfl c17 ?_
    refine r_iconst (dGet dX7_readMembers (j := 61) rfl) kI_1 ?_
    refine r_goto (dGet dX7_readMembers (j := 62) rfl) rfl ?_
    by_cases nt16 : t16 = 4
    · rw [if_pos nt16] at hf; cases hf
    rw [if_neg nt16] at hf
    refine Run.weak [(0, .ref v0), (1, .int v1), (6, .int s0)] (by simp) (by simp [pNd]) ?_
    exact lX7_readMembers_124 X N d k8 K8 v0 v1 s0 t16 v5 v4 v3 (1 : Int32) h q hf nv0 nt16
  · rw [if_neg c17] at hf
    refine r_if_ne_t (dGet dX7_readMembers (j := 60) rfl) rfl c17 ?_
    refine r_iconst (dGet dX7_readMembers (j := 63) rfl) kI_0 ?_
    by_cases nt16 : t16 = 4
    · rw [if_pos nt16] at hf; cases hf
    rw [if_neg nt16] at hf
    refine Run.weak [(0, .ref v0), (1, .int v1), (6, .int s0)] (by simp) (by simp [pNd]) ?_
    exact lX7_readMembers_124 X N d k8 K8 v0 v1 s0 t16 v5 v4 v3 (0 : Int32) h q hf nv0 nt16
def fX7_readMembers_102 (N : Nat) (k8 : Nat → Int32 → pH → Option (pH)) (v0 : Nat) (v1 : Int32) (v3 : Int32) (v4 : Int32) (v5 : Int32) (h : pH) : Option (pH) :=
  fX7_readMembers_103 N k8 v0 v1 v3 v4 v5 (0 : Int32) h
theorem lX7_readMembers_102 (X : pX) (N d : Nat)  (k8 : Nat → Int32 → pH → Option (pH)) (K8 : ∀ (w0 : Nat) (w1 : Int32) (h : pH) (q : pH), k8 w0 w1 h = some q → ¬ w0 = 4 → Run X (d + 803) 7 false (pCd 4029) 7 none 8 [(0, .ref w0), (1, .int w1)] [] h 0 0 (none, q, 0, 0)) (v0 : Nat) (v1 : Int32) (v3 : Int32) (v4 : Int32) (v5 : Int32) (h : pH) (q : pH) (hf : fX7_readMembers_102 N k8 v0 v1 v3 v4 v5 h = some q) (nv0 : ¬ v0 = 4) : Run X (d + 803) 7 false (pCd 4029) 7 none 102 [(0, .ref v0), (1, .int v1), (3, .int v3), (4, .int v4), (5, .int v5)] [] h 0 0 (none, q, 0, 0) := by
  unfold fX7_readMembers_102 at hf
  refine r_iconst (dGet dX7_readMembers (j := 52) rfl) kI_0 ?_
  exact lX7_readMembers_103 X N d k8 K8 v0 v1 v3 v4 v5 (0 : Int32) h q hf nv0
def fX7_readMembers_65 (N : Nat) (k8 : Nat → Int32 → pH → Option (pH)) (v0 : Nat) (v1 : Int32) (v2 : Int32) (v3 : Int32) (h : pH) : Option (pH) :=
  (getR h v0 7 0).bind fun t18 =>
  (getR h t18 10 2).bind fun t19 =>
  (getI h v0 7 8).bind fun t20 =>
  (ldI h t19 t20).bind fun t21 =>
  (fX7_takeName N v0 h).bind fun q22 =>
  if v2 = 0 then (
  (getI q22.2 v0 7 9).bind fun t24 =>
  if t24 = (59 : Int32) then (
  fX7_readMembers_103 N k8 v0 v1 v3 t21 q22.1 (1 : Int32) q22.2) else (
  fX7_readMembers_102 N k8 v0 v1 v3 t21 q22.1 q22.2)) else (
  fX7_readMembers_102 N k8 v0 v1 v3 t21 q22.1 q22.2)
theorem lX7_readMembers_65 (X : pX) (N d : Nat)  (k8 : Nat → Int32 → pH → Option (pH)) (K8 : ∀ (w0 : Nat) (w1 : Int32) (h : pH) (q : pH), k8 w0 w1 h = some q → ¬ w0 = 4 → Run X (d + 803) 7 false (pCd 4029) 7 none 8 [(0, .ref w0), (1, .int w1)] [] h 0 0 (none, q, 0, 0)) (v0 : Nat) (v1 : Int32) (v2 : Int32) (v3 : Int32) (h : pH) (q : pH) (hf : fX7_readMembers_65 N k8 v0 v1 v2 v3 h = some q) (nv0 : ¬ v0 = 4) : Run X (d + 803) 7 false (pCd 4029) 7 none 65 [(0, .ref v0), (1, .int v1), (2, .int v2), (3, .int v3)] [] h 0 0 (none, q, 0, 0) := by
  unfold fX7_readMembers_65 at hf
  refine r_aload_n (dGet dX7_readMembers (j := 34) rfl) nv0 rfl ?_
  obtain ⟨t18, et18, hf⟩ := Option.bind_eq_some_iff.mp hf
  refine r_getR (dGet dX7_readMembers (j := 35) rfl) F7_7 et18 ?_
  obtain ⟨t19, et19, hf⟩ := Option.bind_eq_some_iff.mp hf
  refine r_getR (dGet dX7_readMembers (j := 36) rfl) F7_44 et19 ?_
  refine r_aload_n (dGet dX7_readMembers (j := 37) rfl) nv0 rfl ?_
  obtain ⟨t20, et20, hf⟩ := Option.bind_eq_some_iff.mp hf
  refine r_getI (dGet dX7_readMembers (j := 38) rfl) F7_47 et20 ?_
  obtain ⟨t21, et21, hf⟩ := Option.bind_eq_some_iff.mp hf
  refine r_iald (dGet dX7_readMembers (j := 39) rfl) et21 ?_
  refine r_istore (lv' := [(4, .int t21), (0, .ref v0), (1, .int v1), (2, .int v2), (3, .int v3)]) (dGet dX7_readMembers (j := 40) rfl) (by decide) rfl ?_
  refine r_aload_n (dGet dX7_readMembers (j := 41) rfl) nv0 rfl ?_
  obtain ⟨q22, eq22, hf⟩ := Option.bind_eq_some_iff.mp hf
  refine r_virtual (dGet dX7_readMembers (j := 42) rfl) L7_51 M62 rfl rfl (Nat.le_of_ble_eq_true rfl) (oX7_takeName eq22) (cX7_takeName X N (d + 801) v0 h q22 eq22) ?_
  refine r_istore (lv' := [(5, .int q22.1), (4, .int t21), (0, .ref v0), (1, .int v1), (2, .int v2), (3, .int v3)]) (dGet dX7_readMembers (j := 43) rfl) (by decide) rfl ?_
  refine r_iload_n (dGet dX7_readMembers (j := 44) rfl) rfl ?_
  by_cases c23 : v2 = 0
  · rw [if_pos c23] at hf
    refine r_if_ne_f (dGet dX7_readMembers (j := 45) rfl) rfl c23 ?_
    refine r_aload_n (dGet dX7_readMembers (j := 46) rfl) nv0 rfl ?_
    obtain ⟨t24, et24, hf⟩ := Option.bind_eq_some_iff.mp hf
    refine r_getI (dGet dX7_readMembers (j := 47) rfl) F7_57 et24 ?_
    refine r_bipush (dGet dX7_readMembers (j := 48) rfl) kB_59 ?_
    by_cases c25 : t24 = (59 : Int32)
    · rw [if_pos c25] at hf
      refine r_icmp_ne_f (dGet dX7_readMembers (j := 49) rfl) rfl c25 ?_
      refine r_iconst (dGet dX7_readMembers (j := 50) rfl) kI_1 ?_
      refine r_goto (dGet dX7_readMembers (j := 51) rfl) rfl ?_
      refine Run.weak [(0, .ref v0), (1, .int v1), (3, .int v3), (4, .int t21), (5, .int q22.1)] (by simp) (by simp [pNd]) ?_
      exact lX7_readMembers_103 X N d k8 K8 v0 v1 v3 t21 q22.1 (1 : Int32) q22.2 q hf nv0
    · rw [if_neg c25] at hf
      refine r_icmp_ne_t (dGet dX7_readMembers (j := 49) rfl) rfl c25 ?_
      refine Run.weak [(0, .ref v0), (1, .int v1), (3, .int v3), (4, .int t21), (5, .int q22.1)] (by simp) (by simp [pNd]) ?_
      exact lX7_readMembers_102 X N d k8 K8 v0 v1 v3 t21 q22.1 q22.2 q hf nv0
  · rw [if_neg c23] at hf
    refine r_if_ne_t (dGet dX7_readMembers (j := 45) rfl) rfl c23 ?_
    refine Run.weak [(0, .ref v0), (1, .int v1), (3, .int v3), (4, .int t21), (5, .int q22.1)] (by simp) (by simp [pNd]) ?_
    exact lX7_readMembers_102 X N d k8 K8 v0 v1 v3 t21 q22.1 q22.2 q hf nv0
def fX7_readMembers_45 (N : Nat) (k8 : Nat → Int32 → pH → Option (pH)) (v0 : Nat) (v1 : Int32) (s0 : Int32) (h : pH) : Option (pH) :=
  if s0 = 0 then (
  (fX7_takeType N v0 h).bind fun q27 =>
  fX7_readMembers_65 N k8 v0 v1 s0 q27.1 q27.2) else (
  (fX7_advance N v0 h).bind fun h28 =>
  fX7_readMembers_65 N k8 v0 v1 s0 (-4 : Int32) h28)
theorem lX7_readMembers_45 (X : pX) (N d : Nat)  (k8 : Nat → Int32 → pH → Option (pH)) (K8 : ∀ (w0 : Nat) (w1 : Int32) (h : pH) (q : pH), k8 w0 w1 h = some q → ¬ w0 = 4 → Run X (d + 803) 7 false (pCd 4029) 7 none 8 [(0, .ref w0), (1, .int w1)] [] h 0 0 (none, q, 0, 0)) (v0 : Nat) (v1 : Int32) (s0 : Int32) (h : pH) (q : pH) (hf : fX7_readMembers_45 N k8 v0 v1 s0 h = some q) (nv0 : ¬ v0 = 4) : Run X (d + 803) 7 false (pCd 4029) 7 none 45 [(0, .ref v0), (1, .int v1)] [.int s0] h 0 0 (none, q, 0, 0) := by
  unfold fX7_readMembers_45 at hf
  refine r_istore_n (lv' := [(2, .int s0), (0, .ref v0), (1, .int v1)]) (dGet dX7_readMembers (j := 23) rfl) (by decide) rfl ?_
  refine r_bipush (dGet dX7_readMembers (j := 24) rfl) kB_m4 ?_
  refine r_istore_n (lv' := [(3, .int (-4 : Int32)), (2, .int s0), (0, .ref v0), (1, .int v1)]) (dGet dX7_readMembers (j := 25) rfl) (by decide) rfl ?_
  refine r_iload_n (dGet dX7_readMembers (j := 26) rfl) rfl ?_
  by_cases c26 : s0 = 0
  · rw [if_pos c26] at hf
    refine r_if_eq_t (dGet dX7_readMembers (j := 27) rfl) rfl c26 ?_
    refine r_aload_n (dGet dX7_readMembers (j := 31) rfl) nv0 rfl ?_
    obtain ⟨q27, eq27, hf⟩ := Option.bind_eq_some_iff.mp hf
    refine r_virtual (dGet dX7_readMembers (j := 32) rfl) L7_107 M65 rfl rfl (Nat.le_of_ble_eq_true rfl) (oX7_takeType eq27) (cX7_takeType X N (d + 801) v0 h q27 eq27) ?_
    refine r_istore_n (lv' := [(3, .int q27.1), (2, .int s0), (0, .ref v0), (1, .int v1)]) (dGet dX7_readMembers (j := 33) rfl) (by decide) rfl ?_
    refine Run.weak [(0, .ref v0), (1, .int v1), (2, .int s0), (3, .int q27.1)] (by simp) (by simp [pNd]) ?_
    exact lX7_readMembers_65 X N d k8 K8 v0 v1 s0 q27.1 q27.2 q hf nv0
  · rw [if_neg c26] at hf
    refine r_if_eq_f (dGet dX7_readMembers (j := 27) rfl) rfl c26 ?_
    refine r_aload_n (dGet dX7_readMembers (j := 28) rfl) nv0 rfl ?_
    obtain ⟨h28, eh28, hf⟩ := Option.bind_eq_some_iff.mp hf
    refine r_virtual (dGet dX7_readMembers (j := 29) rfl) L7_60 M60 rfl rfl (Nat.le_of_ble_eq_true rfl) (oX7_advance eh28) (cX7_advance X N (d + 802) v0 h h28 eh28) ?_
    refine r_goto (dGet dX7_readMembers (j := 30) rfl) rfl ?_
    refine Run.weak [(0, .ref v0), (1, .int v1), (2, .int s0), (3, .int (-4 : Int32))] (by simp) (by simp [pNd]) ?_
    exact lX7_readMembers_65 X N d k8 K8 v0 v1 s0 (-4 : Int32) h28 q hf nv0
def fX7_readMembers_8 (N : Nat) : Nat → Nat → Int32 → pH → Option (pH)
  | 0, _, _, _ => none
  | n + 1, v0, v1, h => if (3100 : Int32) ≤ v1 then (
  fX7_readMembers_186 N v0 h) else (
  (getI h v0 7 11).bind fun t30 =>
  if t30 = (-1 : Int32) then (
  (getI h v0 7 9).bind fun t32 =>
  if t32 = (125 : Int32) then (
  fX7_readMembers_186 N v0 h) else (
  (getI h v0 7 9).bind fun t34 =>
  if t34 = (5 : Int32) then (
  fX7_readMembers_45 N (fX7_readMembers_8 N n) v0 v1 (1 : Int32) h) else (
  fX7_readMembers_45 N (fX7_readMembers_8 N n) v0 v1 (0 : Int32) h))) else (
  fX7_readMembers_186 N v0 h))
theorem lX7_readMembers_8 (X : pX) (N d : Nat)  : ∀ (n : Nat) (v0 : Nat) (v1 : Int32) (h : pH) (q : pH), fX7_readMembers_8 N n v0 v1 h = some q → ¬ v0 = 4 → Run X (d + 803) 7 false (pCd 4029) 7 none 8 [(0, .ref v0), (1, .int v1)] [] h 0 0 (none, q, 0, 0) := by
  intro n
  induction n with
  | zero => intro v0 v1 h q hf; cases hf
  | succ n ih =>
    intro v0 v1 h q hf nv0
    unfold fX7_readMembers_8 at hf
    refine r_iload_n (dGet dX7_readMembers (j := 5) rfl) rfl ?_
    refine r_sipush (dGet dX7_readMembers (j := 6) rfl) kS_3100 ?_
    by_cases c29 : (3100 : Int32) ≤ v1
    · rw [if_pos c29] at hf
      refine r_icmp_ge_t (dGet dX7_readMembers (j := 7) rfl) rfl c29 ?_
      refine Run.weak [(0, .ref v0)] (by simp) (by simp [pNd]) ?_
      exact lX7_readMembers_186 X N d v0 h q hf nv0
    · rw [if_neg c29] at hf
      refine r_icmp_ge_f (dGet dX7_readMembers (j := 7) rfl) rfl c29 ?_
      refine r_aload_n (dGet dX7_readMembers (j := 8) rfl) nv0 rfl ?_
      obtain ⟨t30, et30, hf⟩ := Option.bind_eq_some_iff.mp hf
      refine r_getI (dGet dX7_readMembers (j := 9) rfl) F7_78 et30 ?_
      refine r_iconst (dGet dX7_readMembers (j := 10) rfl) kI_m1 ?_
      by_cases c31 : t30 = (-1 : Int32)
      · rw [if_pos c31] at hf
        refine r_icmp_ne_f (dGet dX7_readMembers (j := 11) rfl) rfl c31 ?_
        refine r_aload_n (dGet dX7_readMembers (j := 12) rfl) nv0 rfl ?_
        obtain ⟨t32, et32, hf⟩ := Option.bind_eq_some_iff.mp hf
        refine r_getI (dGet dX7_readMembers (j := 13) rfl) F7_57 et32 ?_
        refine r_bipush (dGet dX7_readMembers (j := 14) rfl) kB_125 ?_
        by_cases c33 : t32 = (125 : Int32)
        · rw [if_pos c33] at hf
          refine r_icmp_eq_t (dGet dX7_readMembers (j := 15) rfl) rfl c33 ?_
          refine Run.weak [(0, .ref v0)] (by simp) (by simp [pNd]) ?_
          exact lX7_readMembers_186 X N d v0 h q hf nv0
        · rw [if_neg c33] at hf
          refine r_icmp_eq_f (dGet dX7_readMembers (j := 15) rfl) rfl c33 ?_
          refine r_aload_n (dGet dX7_readMembers (j := 16) rfl) nv0 rfl ?_
          obtain ⟨t34, et34, hf⟩ := Option.bind_eq_some_iff.mp hf
          refine r_getI (dGet dX7_readMembers (j := 17) rfl) F7_57 et34 ?_
          refine r_iconst (dGet dX7_readMembers (j := 18) rfl) kI_5 ?_
          by_cases c35 : t34 = (5 : Int32)
          · rw [if_pos c35] at hf
            refine r_icmp_ne_f (dGet dX7_readMembers (j := 19) rfl) rfl c35 ?_
            refine r_iconst (dGet dX7_readMembers (j := 20) rfl) kI_1 ?_
            refine r_goto (dGet dX7_readMembers (j := 21) rfl) rfl ?_
            exact lX7_readMembers_45 X N d (fX7_readMembers_8 N n) ih v0 v1 (1 : Int32) h q hf nv0
          · rw [if_neg c35] at hf
            refine r_icmp_ne_t (dGet dX7_readMembers (j := 19) rfl) rfl c35 ?_
            refine r_iconst (dGet dX7_readMembers (j := 22) rfl) kI_0 ?_
            exact lX7_readMembers_45 X N d (fX7_readMembers_8 N n) ih v0 v1 (0 : Int32) h q hf nv0
      · rw [if_neg c31] at hf
        refine r_icmp_ne_t (dGet dX7_readMembers (j := 11) rfl) rfl c31 ?_
        refine Run.weak [(0, .ref v0)] (by simp) (by simp [pNd]) ?_
        exact lX7_readMembers_186 X N d v0 h q hf nv0
def fX7_readMembers (N : Nat) (v0 : Nat) (h : pH) : Option (pH) := if isO h v0 7 = true then (
  (fX7_open N v0 (123 : Int32) h).bind fun h36 =>
  fX7_readMembers_8 N N v0 (0 : Int32) h36) else none
theorem oX7_readMembers {N : Nat} {v0 : Nat} {h : pH} {q : pH} (hf : fX7_readMembers N v0 h = some q) : isO h v0 7 = true := by
  unfold fX7_readMembers at hf
  by_cases hc : isO h v0 7 = true
  · exact hc
  · rw [if_neg hc] at hf; cases hf
theorem cX7_readMembers (X : pX) (N d : Nat) (v0 : Nat) (h : pH) (q : pH) (hf : fX7_readMembers N v0 h = some q) : Calls X (d + 803) 63 [.ref v0] h (none, q, 0, 0) := by
  refine Calls.of M63 (Nat.le_of_ble_eq_true rfl) ?_
  show Run X (d + 803) 7 false (pCd 4029) 7 none 0 [(0, .ref v0)] [] h 0 0 (none, q, 0, 0)
  unfold fX7_readMembers at hf
  by_cases hc : isO h v0 7 = true
  · rw [if_pos hc] at hf
    have nv0 : ¬ v0 = 4 := isO_ne hc
    refine r_aload_n (dGet dX7_readMembers (j := 0) rfl) nv0 rfl ?_
    refine r_bipush (dGet dX7_readMembers (j := 1) rfl) kB_123 ?_
    obtain ⟨h36, eh36, hf⟩ := Option.bind_eq_some_iff.mp hf
    refine r_virtual (dGet dX7_readMembers (j := 2) rfl) L7_104 M64 rfl rfl (Nat.le_of_ble_eq_true rfl) (oX7_open eh36) (cX7_open X N (d + 801) v0 (123 : Int32) h h36 eh36) ?_
    refine r_iconst (dGet dX7_readMembers (j := 3) rfl) kI_0 ?_
    refine r_istore_n (lv' := [(1, .int (0 : Int32)), (0, .ref v0)]) (dGet dX7_readMembers (j := 4) rfl) (by decide) rfl ?_
    refine Run.weak [(0, .ref v0), (1, .int (0 : Int32))] (by simp) (by simp [pNd]) ?_
    exact lX7_readMembers_8 X N d N v0 (0 : Int32) h36 q hf nv0
  · rw [if_neg hc] at hf; cases hf
def eX7_read : List (Nat × Instr × Nat) := [(0, .aload_n 0, 1), (1, .invokevirtual 35, 3), (4, .iconst 1, 1), (5, .istore_n 1, 1), (6, .iconst 0, 1), (7, .istore_n 2, 1), (8, .iload_n 2, 1), (9, .sipush 3100, 3), (12, .if_icmp .ge 110, 3), (15, .iload_n 1, 1), (16, .ifCond .eq 106, 3), (19, .aload_n 0, 1), (20, .iconst 1, 1), (21, .invokevirtual 40, 3), (24, .aload_n 0, 1), (25, .getfield 7, 3), (28, .getfield 44, 3), (31, .aload_n 0, 1), (32, .getfield 47, 3), (35, .iaload, 1), (36, .istore_n 3, 1), (37, .aload_n 0, 1), (38, .invokevirtual 51, 3), (41, .istore 4, 2), (43, .iconst (-1), 1), (44, .istore 5, 2), (46, .aload_n 0, 1), (47, .getfield 57, 3), (50, .bipush 58, 2), (52, .if_icmp .ne 13, 3), (55, .aload_n 0, 1), (56, .invokevirtual 60, 3), (59, .aload_n 0, 1), (60, .invokevirtual 51, 3), (63, .istore 5, 2), (65, .aload_n 0, 1), (66, .getfield 13, 3), (69, .iload 4, 2), (71, .iload_n 3, 1), (72, .iload 5, 2), (74, .aload_n 0, 1), (75, .getfield 17, 3), (78, .getfield 63, 3), (81, .invokevirtual 68, 3), (84, .aload_n 0, 1), (85, .invokevirtual 72, 3), (88, .aload_n 0, 1), (89, .getfield 13, 3), (92, .aload_n 0, 1), (93, .getfield 17, 3), (96, .getfield 63, 3), (99, .invokevirtual 75, 3), (102, .aload_n 0, 1), (103, .getfield 57, 3), (106, .iconst 1, 1), (107, .if_icmp .ne 7, 3), (110, .iconst 1, 1), (111, .goto 4, 3), (114, .iconst 0, 1), (115, .istore_n 1, 1), (116, .iinc 2 1, 3), (119, .goto (-111), 3), (122, .aload_n 0, 1), (123, .iconst 0, 1), (124, .invokevirtual 40, 3), (127, .aload_n 0, 1), (128, .getfield 78, 3), (131, .ireturn, 1)]
theorem dX7_read : dChk (pCd 3228) eX7_read = true := by decide +kernel
def fX7_read_122 (N : Nat) (v0 : Nat) (h : pH) : Option (Int32 × pH) :=
  (fX7_take N v0 (0 : Int32) h).bind fun h1 =>
  (getI h1 v0 7 11).bind fun t2 =>
  some (t2, h1)
theorem lX7_read_122 (X : pX) (N d : Nat)  (v0 : Nat) (h : pH) (q : Int32 × pH) (hf : fX7_read_122 N v0 h = some q) (nv0 : ¬ v0 = 4) : Run X (d + 804) 7 false (pCd 3228) 6 (some .int) 122 [(0, .ref v0)] [] h 0 0 (some (.int q.1), q.2, 0, 0) := by
  unfold fX7_read_122 at hf
  refine r_aload_n (dGet dX7_read (j := 62) rfl) nv0 rfl ?_
  refine r_iconst (dGet dX7_read (j := 63) rfl) kI_0 ?_
  obtain ⟨h1, eh1, hf⟩ := Option.bind_eq_some_iff.mp hf
  refine r_virtual (dGet dX7_read (j := 64) rfl) L7_40 M59 rfl rfl (Nat.le_of_ble_eq_true rfl) (oX7_take eh1) (cX7_take X N (d + 802) v0 (0 : Int32) h h1 eh1) ?_
  refine r_aload_n (dGet dX7_read (j := 65) rfl) nv0 rfl ?_
  obtain ⟨t2, et2, hf⟩ := Option.bind_eq_some_iff.mp hf
  refine r_getI (dGet dX7_read (j := 66) rfl) F7_78 et2 ?_
  cases hf
  exact r_iret (dGet dX7_read (j := 67) rfl) rfl rfl
def fX7_read_115 (N : Nat) (k8 : Nat → Int32 → Int32 → pH → Option (Int32 × pH)) (v0 : Nat) (v2 : Int32) (s0 : Int32) (h : pH) : Option (Int32 × pH) :=
  k8 v0 s0 (v2 + (1 : Int32)) h
theorem lX7_read_115 (X : pX) (N d : Nat)  (k8 : Nat → Int32 → Int32 → pH → Option (Int32 × pH)) (K8 : ∀ (w0 : Nat) (w1 : Int32) (w2 : Int32) (h : pH) (q : Int32 × pH), k8 w0 w1 w2 h = some q → ¬ w0 = 4 → Run X (d + 804) 7 false (pCd 3228) 6 (some .int) 8 [(0, .ref w0), (1, .int w1), (2, .int w2)] [] h 0 0 (some (.int q.1), q.2, 0, 0)) (v0 : Nat) (v2 : Int32) (s0 : Int32) (h : pH) (q : Int32 × pH) (hf : fX7_read_115 N k8 v0 v2 s0 h = some q) (nv0 : ¬ v0 = 4) : Run X (d + 804) 7 false (pCd 3228) 6 (some .int) 115 [(0, .ref v0), (2, .int v2)] [.int s0] h 0 0 (some (.int q.1), q.2, 0, 0) := by
  unfold fX7_read_115 at hf
  refine r_istore_n (lv' := [(1, .int s0), (0, .ref v0), (2, .int v2)]) (dGet dX7_read (j := 59) rfl) (by decide) rfl ?_
  refine r_iinc (lv' := [(2, .int (v2 + (1 : Int32))), (1, .int s0), (0, .ref v0)]) (dGet dX7_read (j := 60) rfl) rfl (by decide) kI_1 rfl ?_
  refine r_goto (dGet dX7_read (j := 61) rfl) rfl ?_
  refine Run.weak [(0, .ref v0), (1, .int s0), (2, .int (v2 + (1 : Int32)))] (by simp) (by simp [pNd]) ?_
  exact K8 v0 s0 (v2 + (1 : Int32)) h q hf nv0
def fX7_read_65 (N : Nat) (k8 : Nat → Int32 → Int32 → pH → Option (Int32 × pH)) (v0 : Nat) (v2 : Int32) (v3 : Int32) (v4 : Int32) (v5 : Int32) (h : pH) : Option (Int32 × pH) :=
  (getR h v0 7 1).bind fun t3 =>
  (getR h v0 7 2).bind fun t4 =>
  (getI h t4 6 11).bind fun t5 =>
  (fX1_add N t3 v4 v3 v5 t5 h).bind fun h6 =>
  (fX7_readMembers N v0 h6).bind fun h7 =>
  (getR h7 v0 7 1).bind fun t8 =>
  (getR h7 v0 7 2).bind fun t9 =>
  (getI h7 t9 6 11).bind fun t10 =>
  (fX1_closeLast N t8 t10 h7).bind fun h11 =>
  (getI h11 v0 7 9).bind fun t12 =>
  if t12 = (1 : Int32) then (
  fX7_read_115 N k8 v0 v2 (1 : Int32) h11) else (
  fX7_read_115 N k8 v0 v2 (0 : Int32) h11)
theorem lX7_read_65 (X : pX) (N d : Nat)  (k8 : Nat → Int32 → Int32 → pH → Option (Int32 × pH)) (K8 : ∀ (w0 : Nat) (w1 : Int32) (w2 : Int32) (h : pH) (q : Int32 × pH), k8 w0 w1 w2 h = some q → ¬ w0 = 4 → Run X (d + 804) 7 false (pCd 3228) 6 (some .int) 8 [(0, .ref w0), (1, .int w1), (2, .int w2)] [] h 0 0 (some (.int q.1), q.2, 0, 0)) (v0 : Nat) (v2 : Int32) (v3 : Int32) (v4 : Int32) (v5 : Int32) (h : pH) (q : Int32 × pH) (hf : fX7_read_65 N k8 v0 v2 v3 v4 v5 h = some q) (nv0 : ¬ v0 = 4) : Run X (d + 804) 7 false (pCd 3228) 6 (some .int) 65 [(0, .ref v0), (2, .int v2), (3, .int v3), (4, .int v4), (5, .int v5)] [] h 0 0 (some (.int q.1), q.2, 0, 0) := by
  unfold fX7_read_65 at hf
  refine r_aload_n (dGet dX7_read (j := 35) rfl) nv0 rfl ?_
  obtain ⟨t3, et3, hf⟩ := Option.bind_eq_some_iff.mp hf
  refine r_getR (dGet dX7_read (j := 36) rfl) F7_13 et3 ?_
  refine r_iload (dGet dX7_read (j := 37) rfl) rfl ?_
  refine r_iload_n (dGet dX7_read (j := 38) rfl) rfl ?_
  refine r_iload (dGet dX7_read (j := 39) rfl) rfl ?_
  refine r_aload_n (dGet dX7_read (j := 40) rfl) nv0 rfl ?_
  obtain ⟨t4, et4, hf⟩ := Option.bind_eq_some_iff.mp hf
  refine r_getR (dGet dX7_read (j := 41) rfl) F7_17 et4 ?_
  obtain ⟨t5, et5, hf⟩ := Option.bind_eq_some_iff.mp hf
  refine r_getI (dGet dX7_read (j := 42) rfl) F7_63 et5 ?_
  obtain ⟨h6, eh6, hf⟩ := Option.bind_eq_some_iff.mp hf
  refine r_virtual (dGet dX7_read (j := 43) rfl) L7_68 M56 rfl rfl (Nat.le_of_ble_eq_true rfl) (oX1_add eh6) (cX1_add X N (d + 803) t3 v4 v3 v5 t5 h h6 eh6) ?_
  refine r_aload_n (dGet dX7_read (j := 44) rfl) nv0 rfl ?_
  obtain ⟨h7, eh7, hf⟩ := Option.bind_eq_some_iff.mp hf
  refine r_virtual (dGet dX7_read (j := 45) rfl) L7_72 M63 rfl rfl (Nat.le_of_ble_eq_true rfl) (oX7_readMembers eh7) (cX7_readMembers X N (d + 0) v0 h6 h7 eh7) ?_
  refine r_aload_n (dGet dX7_read (j := 46) rfl) nv0 rfl ?_
  obtain ⟨t8, et8, hf⟩ := Option.bind_eq_some_iff.mp hf
  refine r_getR (dGet dX7_read (j := 47) rfl) F7_13 et8 ?_
  refine r_aload_n (dGet dX7_read (j := 48) rfl) nv0 rfl ?_
  obtain ⟨t9, et9, hf⟩ := Option.bind_eq_some_iff.mp hf
  refine r_getR (dGet dX7_read (j := 49) rfl) F7_17 et9 ?_
  obtain ⟨t10, et10, hf⟩ := Option.bind_eq_some_iff.mp hf
  refine r_getI (dGet dX7_read (j := 50) rfl) F7_63 et10 ?_
  obtain ⟨h11, eh11, hf⟩ := Option.bind_eq_some_iff.mp hf
  refine r_virtual (dGet dX7_read (j := 51) rfl) L7_75 M104 rfl rfl (Nat.le_of_ble_eq_true rfl) (oX1_closeLast eh11) (cX1_closeLast X N (d + 803) t8 t10 h7 h11 eh11) ?_
  refine r_aload_n (dGet dX7_read (j := 52) rfl) nv0 rfl ?_
  obtain ⟨t12, et12, hf⟩ := Option.bind_eq_some_iff.mp hf
  refine r_getI (dGet dX7_read (j := 53) rfl) F7_57 et12 ?_
  refine r_iconst (dGet dX7_read (j := 54) rfl) kI_1 ?_
  by_cases c13 : t12 = (1 : Int32)
  · rw [if_pos c13] at hf
    refine r_icmp_ne_f (dGet dX7_read (j := 55) rfl) rfl c13 ?_
    refine r_iconst (dGet dX7_read (j := 56) rfl) kI_1 ?_
    refine r_goto (dGet dX7_read (j := 57) rfl) rfl ?_
    refine Run.weak [(0, .ref v0), (2, .int v2)] (by simp) (by simp [pNd]) ?_
    exact lX7_read_115 X N d k8 K8 v0 v2 (1 : Int32) h11 q hf nv0
  · rw [if_neg c13] at hf
    refine r_icmp_ne_t (dGet dX7_read (j := 55) rfl) rfl c13 ?_
    refine r_iconst (dGet dX7_read (j := 58) rfl) kI_0 ?_
    refine Run.weak [(0, .ref v0), (2, .int v2)] (by simp) (by simp [pNd]) ?_
    exact lX7_read_115 X N d k8 K8 v0 v2 (0 : Int32) h11 q hf nv0
def fX7_read_8 (N : Nat) : Nat → Nat → Int32 → Int32 → pH → Option (Int32 × pH)
  | 0, _, _, _, _ => none
  | n + 1, v0, v1, v2, h => if (3100 : Int32) ≤ v2 then (
  fX7_read_122 N v0 h) else (
  if v1 = 0 then (
  fX7_read_122 N v0 h) else (
  (fX7_take N v0 (1 : Int32) h).bind fun h16 =>
  (getR h16 v0 7 0).bind fun t17 =>
  (getR h16 t17 10 2).bind fun t18 =>
  (getI h16 v0 7 8).bind fun t19 =>
  (ldI h16 t18 t19).bind fun t20 =>
  (fX7_takeName N v0 h16).bind fun q21 =>
  (getI q21.2 v0 7 9).bind fun t22 =>
  if t22 = (58 : Int32) then (
  (fX7_advance N v0 q21.2).bind fun h24 =>
  (fX7_takeName N v0 h24).bind fun q25 =>
  fX7_read_65 N (fX7_read_8 N n) v0 v2 t20 q21.1 q25.1 q25.2) else (
  fX7_read_65 N (fX7_read_8 N n) v0 v2 t20 q21.1 (-1 : Int32) q21.2)))
theorem lX7_read_8 (X : pX) (N d : Nat)  : ∀ (n : Nat) (v0 : Nat) (v1 : Int32) (v2 : Int32) (h : pH) (q : Int32 × pH), fX7_read_8 N n v0 v1 v2 h = some q → ¬ v0 = 4 → Run X (d + 804) 7 false (pCd 3228) 6 (some .int) 8 [(0, .ref v0), (1, .int v1), (2, .int v2)] [] h 0 0 (some (.int q.1), q.2, 0, 0) := by
  intro n
  induction n with
  | zero => intro v0 v1 v2 h q hf; cases hf
  | succ n ih =>
    intro v0 v1 v2 h q hf nv0
    unfold fX7_read_8 at hf
    refine r_iload_n (dGet dX7_read (j := 6) rfl) rfl ?_
    refine r_sipush (dGet dX7_read (j := 7) rfl) kS_3100 ?_
    by_cases c14 : (3100 : Int32) ≤ v2
    · rw [if_pos c14] at hf
      refine r_icmp_ge_t (dGet dX7_read (j := 8) rfl) rfl c14 ?_
      refine Run.weak [(0, .ref v0)] (by simp) (by simp [pNd]) ?_
      exact lX7_read_122 X N d v0 h q hf nv0
    · rw [if_neg c14] at hf
      refine r_icmp_ge_f (dGet dX7_read (j := 8) rfl) rfl c14 ?_
      refine r_iload_n (dGet dX7_read (j := 9) rfl) rfl ?_
      by_cases c15 : v1 = 0
      · rw [if_pos c15] at hf
        refine r_if_eq_t (dGet dX7_read (j := 10) rfl) rfl c15 ?_
        refine Run.weak [(0, .ref v0)] (by simp) (by simp [pNd]) ?_
        exact lX7_read_122 X N d v0 h q hf nv0
      · rw [if_neg c15] at hf
        refine r_if_eq_f (dGet dX7_read (j := 10) rfl) rfl c15 ?_
        refine r_aload_n (dGet dX7_read (j := 11) rfl) nv0 rfl ?_
        refine r_iconst (dGet dX7_read (j := 12) rfl) kI_1 ?_
        obtain ⟨h16, eh16, hf⟩ := Option.bind_eq_some_iff.mp hf
        refine r_virtual (dGet dX7_read (j := 13) rfl) L7_40 M59 rfl rfl (Nat.le_of_ble_eq_true rfl) (oX7_take eh16) (cX7_take X N (d + 802) v0 (1 : Int32) h h16 eh16) ?_
        refine r_aload_n (dGet dX7_read (j := 14) rfl) nv0 rfl ?_
        obtain ⟨t17, et17, hf⟩ := Option.bind_eq_some_iff.mp hf
        refine r_getR (dGet dX7_read (j := 15) rfl) F7_7 et17 ?_
        obtain ⟨t18, et18, hf⟩ := Option.bind_eq_some_iff.mp hf
        refine r_getR (dGet dX7_read (j := 16) rfl) F7_44 et18 ?_
        refine r_aload_n (dGet dX7_read (j := 17) rfl) nv0 rfl ?_
        obtain ⟨t19, et19, hf⟩ := Option.bind_eq_some_iff.mp hf
        refine r_getI (dGet dX7_read (j := 18) rfl) F7_47 et19 ?_
        obtain ⟨t20, et20, hf⟩ := Option.bind_eq_some_iff.mp hf
        refine r_iald (dGet dX7_read (j := 19) rfl) et20 ?_
        refine r_istore_n (lv' := [(3, .int t20), (0, .ref v0), (1, .int v1), (2, .int v2)]) (dGet dX7_read (j := 20) rfl) (by decide) rfl ?_
        refine r_aload_n (dGet dX7_read (j := 21) rfl) nv0 rfl ?_
        obtain ⟨q21, eq21, hf⟩ := Option.bind_eq_some_iff.mp hf
        refine r_virtual (dGet dX7_read (j := 22) rfl) L7_51 M62 rfl rfl (Nat.le_of_ble_eq_true rfl) (oX7_takeName eq21) (cX7_takeName X N (d + 802) v0 h16 q21 eq21) ?_
        refine r_istore (lv' := [(4, .int q21.1), (3, .int t20), (0, .ref v0), (1, .int v1), (2, .int v2)]) (dGet dX7_read (j := 23) rfl) (by decide) rfl ?_
        refine r_iconst (dGet dX7_read (j := 24) rfl) kI_m1 ?_
        refine r_istore (lv' := [(5, .int (-1 : Int32)), (4, .int q21.1), (3, .int t20), (0, .ref v0), (1, .int v1), (2, .int v2)]) (dGet dX7_read (j := 25) rfl) (by decide) rfl ?_
        refine r_aload_n (dGet dX7_read (j := 26) rfl) nv0 rfl ?_
        obtain ⟨t22, et22, hf⟩ := Option.bind_eq_some_iff.mp hf
        refine r_getI (dGet dX7_read (j := 27) rfl) F7_57 et22 ?_
        refine r_bipush (dGet dX7_read (j := 28) rfl) kB_58 ?_
        by_cases c23 : t22 = (58 : Int32)
        · rw [if_pos c23] at hf
          refine r_icmp_ne_f (dGet dX7_read (j := 29) rfl) rfl c23 ?_
          refine r_aload_n (dGet dX7_read (j := 30) rfl) nv0 rfl ?_
          obtain ⟨h24, eh24, hf⟩ := Option.bind_eq_some_iff.mp hf
          refine r_virtual (dGet dX7_read (j := 31) rfl) L7_60 M60 rfl rfl (Nat.le_of_ble_eq_true rfl) (oX7_advance eh24) (cX7_advance X N (d + 803) v0 q21.2 h24 eh24) ?_
          refine r_aload_n (dGet dX7_read (j := 32) rfl) nv0 rfl ?_
          obtain ⟨q25, eq25, hf⟩ := Option.bind_eq_some_iff.mp hf
          refine r_virtual (dGet dX7_read (j := 33) rfl) L7_51 M62 rfl rfl (Nat.le_of_ble_eq_true rfl) (oX7_takeName eq25) (cX7_takeName X N (d + 802) v0 h24 q25 eq25) ?_
          refine r_istore (lv' := [(5, .int q25.1), (4, .int q21.1), (3, .int t20), (0, .ref v0), (1, .int v1), (2, .int v2)]) (dGet dX7_read (j := 34) rfl) (by decide) rfl ?_
          refine Run.weak [(0, .ref v0), (2, .int v2), (3, .int t20), (4, .int q21.1), (5, .int q25.1)] (by simp) (by simp [pNd]) ?_
          exact lX7_read_65 X N d (fX7_read_8 N n) ih v0 v2 t20 q21.1 q25.1 q25.2 q hf nv0
        · rw [if_neg c23] at hf
          refine r_icmp_ne_t (dGet dX7_read (j := 29) rfl) rfl c23 ?_
          refine Run.weak [(0, .ref v0), (2, .int v2), (3, .int t20), (4, .int q21.1), (5, .int (-1 : Int32))] (by simp) (by simp [pNd]) ?_
          exact lX7_read_65 X N d (fX7_read_8 N n) ih v0 v2 t20 q21.1 (-1 : Int32) q21.2 q hf nv0
def fX7_read (N : Nat) (v0 : Nat) (h : pH) : Option (Int32 × pH) := if isO h v0 7 = true then (
  (fX7_begin N v0 h).bind fun h26 =>
  fX7_read_8 N N v0 (1 : Int32) (0 : Int32) h26) else none
theorem oX7_read {N : Nat} {v0 : Nat} {h : pH} {q : Int32 × pH} (hf : fX7_read N v0 h = some q) : isO h v0 7 = true := by
  unfold fX7_read at hf
  by_cases hc : isO h v0 7 = true
  · exact hc
  · rw [if_neg hc] at hf; cases hf
theorem cX7_read (X : pX) (N d : Nat) (v0 : Nat) (h : pH) (q : Int32 × pH) (hf : fX7_read N v0 h = some q) : Calls X (d + 804) 53 [.ref v0] h (some (.int q.1), q.2, 0, 0) := by
  refine Calls.of M53 (Nat.le_of_ble_eq_true rfl) ?_
  show Run X (d + 804) 7 false (pCd 3228) 6 (some .int) 0 [(0, .ref v0)] [] h 0 0 (some (.int q.1), q.2, 0, 0)
  unfold fX7_read at hf
  by_cases hc : isO h v0 7 = true
  · rw [if_pos hc] at hf
    have nv0 : ¬ v0 = 4 := isO_ne hc
    refine r_aload_n (dGet dX7_read (j := 0) rfl) nv0 rfl ?_
    obtain ⟨h26, eh26, hf⟩ := Option.bind_eq_some_iff.mp hf
    refine r_virtual (dGet dX7_read (j := 1) rfl) L7_35 M54 rfl rfl (Nat.le_of_ble_eq_true rfl) (oX7_begin eh26) (cX7_begin X N (d + 801) v0 h h26 eh26) ?_
    refine r_iconst (dGet dX7_read (j := 2) rfl) kI_1 ?_
    refine r_istore_n (lv' := [(1, .int (1 : Int32)), (0, .ref v0)]) (dGet dX7_read (j := 3) rfl) (by decide) rfl ?_
    refine r_iconst (dGet dX7_read (j := 4) rfl) kI_0 ?_
    refine r_istore_n (lv' := [(2, .int (0 : Int32)), (1, .int (1 : Int32)), (0, .ref v0)]) (dGet dX7_read (j := 5) rfl) (by decide) rfl ?_
    refine Run.weak [(0, .ref v0), (1, .int (1 : Int32)), (2, .int (0 : Int32))] (by simp) (by simp [pNd]) ?_
    exact lX7_read_8 X N d N v0 (1 : Int32) (0 : Int32) h26 q hf nv0
  · rw [if_neg hc] at hf; cases hf
