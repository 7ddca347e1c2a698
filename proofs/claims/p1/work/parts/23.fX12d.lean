def eX12_checkMembers : List (Nat × Instr × Nat) := [(0, .iconst 0, 1), (1, .istore_n 1, 1), (2, .iload_n 1, 1), (3, .aload_n 0, 1), (4, .getfield 403, 3), (7, .if_icmp .ge 36, 3), (10, .aload_n 0, 1), (11, .getfield 103, 3), (14, .iload_n 1, 1), (15, .iaload, 1), (16, .bipush 10, 2), (18, .if_icmp .lt 19, 3), (21, .aload_n 0, 1), (22, .getfield 103, 3), (25, .iload_n 1, 1), (26, .aload_n 0, 1), (27, .aload_n 0, 1), (28, .getfield 103, 3), (31, .iload_n 1, 1), (32, .iaload, 1), (33, .invokevirtual 426, 3), (36, .iastore, 1), (37, .iinc 1 1, 3), (40, .goto (-38), 3), (43, .iconst 0, 1), (44, .istore_n 1, 1), (45, .iload_n 1, 1), (46, .aload_n 0, 1), (47, .getfield 406, 3), (50, .if_icmp .ge 25, 3), (53, .aload_n 0, 1), (54, .getfield 122, 3), (57, .iload_n 1, 1), (58, .aload_n 0, 1), (59, .aload_n 0, 1), (60, .getfield 122, 3), (63, .iload_n 1, 1), (64, .iaload, 1), (65, .invokevirtual 426, 3), (68, .iastore, 1), (69, .iinc 1 1, 3), (72, .goto (-27), 3), (75, .iconst 5, 1), (76, .istore_n 1, 1), (77, .iload_n 1, 1), (78, .aload_n 0, 1), (79, .getfield 397, 3), (82, .if_icmp .ge 101, 3), (85, .aload_n 0, 1), (86, .getfield 94, 3), (89, .iload_n 1, 1), (90, .iaload, 1), (91, .istore_n 2, 1), (92, .iload_n 2, 1), (93, .aload_n 0, 1), (94, .getfield 94, 3), (97, .iload_n 1, 1), (98, .iconst 1, 1), (99, .iadd, 1), (100, .iaload, 1), (101, .if_icmp .ge 76, 3), (104, .aload_n 0, 1), (105, .getfield 409, 3), (108, .ifCond .ge 69, 3), (111, .aload_n 0, 1), (112, .getfield 103, 3), (115, .iload_n 2, 1), (116, .iaload, 1), (117, .iconst 5, 1), (118, .if_icmp .eq 37, 3), (121, .aload_n 0, 1), (122, .getfield 106, 3), (125, .iload_n 2, 1), (126, .baload, 1), (127, .ifCond .eq 15, 3), (130, .aload_n 0, 1), (131, .iload_n 1, 1), (132, .iload_n 2, 1), (133, .invokevirtual 429, 3), (136, .ifCond .eq 19, 3), (139, .goto 12, 3), (142, .aload_n 0, 1), (143, .iload_n 1, 1), (144, .iload_n 2, 1), (145, .invokevirtual 432, 3), (148, .ifCond .ne 7, 3), (151, .iconst 1, 1), (152, .goto 4, 3), (155, .iconst 0, 1), (156, .istore_n 3, 1), (157, .iload_n 3, 1), (158, .ifCond .ne 13, 3), (161, .aload_n 0, 1), (162, .aload_n 0, 1), (163, .getfield 100, 3), (166, .iload_n 2, 1), (167, .iaload, 1), (168, .invokevirtual 419, 3), (171, .iinc 2 1, 3), (174, .goto (-82), 3), (177, .iinc 1 1, 3), (180, .goto (-103), 3), (183, .return_, 1)]
theorem dX12_checkMembers : dChk (pCd 9041) eX12_checkMembers = true := by decide +kernel
def fX12_checkMembers_177 (N : Nat) (k77 : Nat → Int32 → pH → Option (pH)) (v0 : Nat) (v1 : Int32) (h : pH) : Option (pH) :=
  k77 v0 (v1 + (1 : Int32)) h
theorem lX12_checkMembers_177 (X : pX) (N d : Nat)  (k77 : Nat → Int32 → pH → Option (pH)) (K77 : ∀ (w0 : Nat) (w1 : Int32) (h : pH) (q : pH), k77 w0 w1 h = some q → ¬ w0 = 4 → Run X (d + 2) 12 false (pCd 9041) 4 none 77 [(0, .ref w0), (1, .int w1)] [] h 0 0 (none, q, 0, 0)) (v0 : Nat) (v1 : Int32) (h : pH) (q : pH) (hf : fX12_checkMembers_177 N k77 v0 v1 h = some q) (nv0 : ¬ v0 = 4) : Run X (d + 2) 12 false (pCd 9041) 4 none 177 [(0, .ref v0), (1, .int v1)] [] h 0 0 (none, q, 0, 0) := by
  unfold fX12_checkMembers_177 at hf
  refine r_iinc (lv' := [(1, .int (v1 + (1 : Int32))), (0, .ref v0)]) (dGet dX12_checkMembers (j := 100) rfl) rfl (by decide) kI_1 rfl ?_
  refine r_goto (dGet dX12_checkMembers (j := 101) rfl) rfl ?_
  refine Run.weak [(0, .ref v0), (1, .int (v1 + (1 : Int32)))] (by simp) (by simp [pNd]) ?_
  exact K77 v0 (v1 + (1 : Int32)) h q hf nv0
def fX12_checkMembers_171 (N : Nat) (k77 : Nat → Int32 → pH → Option (pH)) (k92 : Nat → Int32 → Int32 → pH → Option (pH)) (v0 : Nat) (v1 : Int32) (v2 : Int32) (h : pH) : Option (pH) :=
  k92 v0 v1 (v2 + (1 : Int32)) h
theorem lX12_checkMembers_171 (X : pX) (N d : Nat)  (k77 : Nat → Int32 → pH → Option (pH)) (K77 : ∀ (w0 : Nat) (w1 : Int32) (h : pH) (q : pH), k77 w0 w1 h = some q → ¬ w0 = 4 → Run X (d + 2) 12 false (pCd 9041) 4 none 77 [(0, .ref w0), (1, .int w1)] [] h 0 0 (none, q, 0, 0)) (k92 : Nat → Int32 → Int32 → pH → Option (pH)) (K92 : ∀ (w0 : Nat) (w1 : Int32) (w2 : Int32) (h : pH) (q : pH), k92 w0 w1 w2 h = some q → ¬ w0 = 4 → Run X (d + 2) 12 false (pCd 9041) 4 none 92 [(0, .ref w0), (1, .int w1), (2, .int w2)] [] h 0 0 (none, q, 0, 0)) (v0 : Nat) (v1 : Int32) (v2 : Int32) (h : pH) (q : pH) (hf : fX12_checkMembers_171 N k77 k92 v0 v1 v2 h = some q) (nv0 : ¬ v0 = 4) : Run X (d + 2) 12 false (pCd 9041) 4 none 171 [(0, .ref v0), (1, .int v1), (2, .int v2)] [] h 0 0 (none, q, 0, 0) := by
  unfold fX12_checkMembers_171 at hf
  refine r_iinc (lv' := [(2, .int (v2 + (1 : Int32))), (0, .ref v0), (1, .int v1)]) (dGet dX12_checkMembers (j := 98) rfl) rfl (by decide) kI_1 rfl ?_
  refine r_goto (dGet dX12_checkMembers (j := 99) rfl) rfl ?_
  refine Run.weak [(0, .ref v0), (1, .int v1), (2, .int (v2 + (1 : Int32)))] (by simp) (by simp [pNd]) ?_
  exact K92 v0 v1 (v2 + (1 : Int32)) h q hf nv0
def fX12_checkMembers_156 (N : Nat) (k77 : Nat → Int32 → pH → Option (pH)) (k92 : Nat → Int32 → Int32 → pH → Option (pH)) (v0 : Nat) (v1 : Int32) (v2 : Int32) (s0 : Int32) (h : pH) : Option (pH) :=
  if s0 = 0 then (
  (getR h v0 12 46).bind fun t2 =>
  (ldI h t2 v2).bind fun t3 =>
  (fX12_isBad N v0 t3 h).bind fun h4 =>
  fX12_checkMembers_171 N k77 k92 v0 v1 v2 h4) else (
  fX12_checkMembers_171 N k77 k92 v0 v1 v2 h)
theorem lX12_checkMembers_156 (X : pX) (N d : Nat)  (k77 : Nat → Int32 → pH → Option (pH)) (K77 : ∀ (w0 : Nat) (w1 : Int32) (h : pH) (q : pH), k77 w0 w1 h = some q → ¬ w0 = 4 → Run X (d + 2) 12 false (pCd 9041) 4 none 77 [(0, .ref w0), (1, .int w1)] [] h 0 0 (none, q, 0, 0)) (k92 : Nat → Int32 → Int32 → pH → Option (pH)) (K92 : ∀ (w0 : Nat) (w1 : Int32) (w2 : Int32) (h : pH) (q : pH), k92 w0 w1 w2 h = some q → ¬ w0 = 4 → Run X (d + 2) 12 false (pCd 9041) 4 none 92 [(0, .ref w0), (1, .int w1), (2, .int w2)] [] h 0 0 (none, q, 0, 0)) (v0 : Nat) (v1 : Int32) (v2 : Int32) (s0 : Int32) (h : pH) (q : pH) (hf : fX12_checkMembers_156 N k77 k92 v0 v1 v2 s0 h = some q) (nv0 : ¬ v0 = 4) : Run X (d + 2) 12 false (pCd 9041) 4 none 156 [(0, .ref v0), (1, .int v1), (2, .int v2)] [.int s0] h 0 0 (none, q, 0, 0) := by
  unfold fX12_checkMembers_156 at hf
  refine r_istore_n (lv' := [(3, .int s0), (0, .ref v0), (1, .int v1), (2, .int v2)]) (dGet dX12_checkMembers (j := 89) rfl) (by decide) rfl ?_
  refine r_iload_n (dGet dX12_checkMembers (j := 90) rfl) rfl ?_
  by_cases c1 : s0 = 0
  · rw [if_pos c1] at hf
    refine r_if_ne_f (dGet dX12_checkMembers (j := 91) rfl) rfl c1 ?_
    refine r_aload_n (dGet dX12_checkMembers (j := 92) rfl) nv0 rfl ?_
    refine r_aload_n (dGet dX12_checkMembers (j := 93) rfl) nv0 rfl ?_
    obtain ⟨t2, et2, hf⟩ := Option.bind_eq_some_iff.mp hf
    refine r_getR (dGet dX12_checkMembers (j := 94) rfl) F12_100 et2 ?_
    refine r_iload_n (dGet dX12_checkMembers (j := 95) rfl) rfl ?_
    obtain ⟨t3, et3, hf⟩ := Option.bind_eq_some_iff.mp hf
    refine r_iald (dGet dX12_checkMembers (j := 96) rfl) et3 ?_
    obtain ⟨h4, eh4, hf⟩ := Option.bind_eq_some_iff.mp hf
    refine r_virtual (dGet dX12_checkMembers (j := 97) rfl) L12_419 M273 rfl rfl (Nat.le_of_ble_eq_true rfl) (oX12_isBad eh4) (cX12_isBad X N (d + 1) v0 t3 h h4 eh4) ?_
    refine Run.weak [(0, .ref v0), (1, .int v1), (2, .int v2)] (by simp) (by simp [pNd]) ?_
    exact lX12_checkMembers_171 X N d k77 K77 k92 K92 v0 v1 v2 h4 q hf nv0
  · rw [if_neg c1] at hf
    refine r_if_ne_t (dGet dX12_checkMembers (j := 91) rfl) rfl c1 ?_
    refine Run.weak [(0, .ref v0), (1, .int v1), (2, .int v2)] (by simp) (by simp [pNd]) ?_
    exact lX12_checkMembers_171 X N d k77 K77 k92 K92 v0 v1 v2 h q hf nv0
def fX12_checkMembers_155 (N : Nat) (k77 : Nat → Int32 → pH → Option (pH)) (k92 : Nat → Int32 → Int32 → pH → Option (pH)) (v0 : Nat) (v1 : Int32) (v2 : Int32) (h : pH) : Option (pH) :=
  fX12_checkMembers_156 N k77 k92 v0 v1 v2 (0 : Int32) h
theorem lX12_checkMembers_155 (X : pX) (N d : Nat)  (k77 : Nat → Int32 → pH → Option (pH)) (K77 : ∀ (w0 : Nat) (w1 : Int32) (h : pH) (q : pH), k77 w0 w1 h = some q → ¬ w0 = 4 → Run X (d + 2) 12 false (pCd 9041) 4 none 77 [(0, .ref w0), (1, .int w1)] [] h 0 0 (none, q, 0, 0)) (k92 : Nat → Int32 → Int32 → pH → Option (pH)) (K92 : ∀ (w0 : Nat) (w1 : Int32) (w2 : Int32) (h : pH) (q : pH), k92 w0 w1 w2 h = some q → ¬ w0 = 4 → Run X (d + 2) 12 false (pCd 9041) 4 none 92 [(0, .ref w0), (1, .int w1), (2, .int w2)] [] h 0 0 (none, q, 0, 0)) (v0 : Nat) (v1 : Int32) (v2 : Int32) (h : pH) (q : pH) (hf : fX12_checkMembers_155 N k77 k92 v0 v1 v2 h = some q) (nv0 : ¬ v0 = 4) : Run X (d + 2) 12 false (pCd 9041) 4 none 155 [(0, .ref v0), (1, .int v1), (2, .int v2)] [] h 0 0 (none, q, 0, 0) := by
  unfold fX12_checkMembers_155 at hf
  refine r_iconst (dGet dX12_checkMembers (j := 88) rfl) kI_0 ?_
  exact lX12_checkMembers_156 X N d k77 K77 k92 K92 v0 v1 v2 (0 : Int32) h q hf nv0
def fX12_checkMembers_151 (N : Nat) (k77 : Nat → Int32 → pH → Option (pH)) (k92 : Nat → Int32 → Int32 → pH → Option (pH)) (v0 : Nat) (v1 : Int32) (v2 : Int32) (h : pH) : Option (pH) :=
  fX12_checkMembers_156 N k77 k92 v0 v1 v2 (1 : Int32) h
theorem lX12_checkMembers_151 (X : pX) (N d : Nat)  (k77 : Nat → Int32 → pH → Option (pH)) (K77 : ∀ (w0 : Nat) (w1 : Int32) (h : pH) (q : pH), k77 w0 w1 h = some q → ¬ w0 = 4 → Run X (d + 2) 12 false (pCd 9041) 4 none 77 [(0, .ref w0), (1, .int w1)] [] h 0 0 (none, q, 0, 0)) (k92 : Nat → Int32 → Int32 → pH → Option (pH)) (K92 : ∀ (w0 : Nat) (w1 : Int32) (w2 : Int32) (h : pH) (q : pH), k92 w0 w1 w2 h = some q → ¬ w0 = 4 → Run X (d + 2) 12 false (pCd 9041) 4 none 92 [(0, .ref w0), (1, .int w1), (2, .int w2)] [] h 0 0 (none, q, 0, 0)) (v0 : Nat) (v1 : Int32) (v2 : Int32) (h : pH) (q : pH) (hf : fX12_checkMembers_151 N k77 k92 v0 v1 v2 h = some q) (nv0 : ¬ v0 = 4) : Run X (d + 2) 12 false (pCd 9041) 4 none 151 [(0, .ref v0), (1, .int v1), (2, .int v2)] [] h 0 0 (none, q, 0, 0) := by
  unfold fX12_checkMembers_151 at hf
  refine r_iconst (dGet dX12_checkMembers (j := 86) rfl) kI_1 ?_
  refine r_goto (dGet dX12_checkMembers (j := 87) rfl) rfl ?_
  exact lX12_checkMembers_156 X N d k77 K77 k92 K92 v0 v1 v2 (1 : Int32) h q hf nv0
def fX12_checkMembers_92 (N : Nat) (k77 : Nat → Int32 → pH → Option (pH)) : Nat → Nat → Int32 → Int32 → pH → Option (pH)
  | 0, _, _, _, _ => none
  | n + 1, v0, v1, v2, h => (getR h v0 12 43).bind fun t5 =>
  (ldI h t5 (v1 + (1 : Int32))).bind fun t6 =>
  if t6 ≤ v2 then (
  fX12_checkMembers_177 N k77 v0 v1 h) else (
  (getI h v0 12 58).bind fun t8 =>
  if 0 ≤ t8 then (
  fX12_checkMembers_177 N k77 v0 v1 h) else (
  (getR h v0 12 47).bind fun t10 =>
  (ldI h t10 v2).bind fun t11 =>
  if t11 = (5 : Int32) then (
  fX12_checkMembers_155 N k77 (fX12_checkMembers_92 N k77 n) v0 v1 v2 h) else (
  (getR h v0 12 48).bind fun t13 =>
  (ldZ h t13 v2).bind fun t14 =>
  if t14 = 0 then (
  (fX12_isField N v0 v1 v2 h).bind fun q16 =>
  if q16.1 = 0 then (
  fX12_checkMembers_151 N k77 (fX12_checkMembers_92 N k77 n) v0 v1 v2 q16.2) else (
  fX12_checkMembers_155 N k77 (fX12_checkMembers_92 N k77 n) v0 v1 v2 q16.2)) else (
  (fX12_isRightMethod N v0 v1 v2 h).bind fun q18 =>
  if q18.1 = 0 then (
  fX12_checkMembers_155 N k77 (fX12_checkMembers_92 N k77 n) v0 v1 v2 q18.2) else (
  fX12_checkMembers_151 N k77 (fX12_checkMembers_92 N k77 n) v0 v1 v2 q18.2)))))
theorem lX12_checkMembers_92 (X : pX) (N d : Nat)  (k77 : Nat → Int32 → pH → Option (pH)) (K77 : ∀ (w0 : Nat) (w1 : Int32) (h : pH) (q : pH), k77 w0 w1 h = some q → ¬ w0 = 4 → Run X (d + 2) 12 false (pCd 9041) 4 none 77 [(0, .ref w0), (1, .int w1)] [] h 0 0 (none, q, 0, 0)) : ∀ (n : Nat) (v0 : Nat) (v1 : Int32) (v2 : Int32) (h : pH) (q : pH), fX12_checkMembers_92 N k77 n v0 v1 v2 h = some q → ¬ v0 = 4 → Run X (d + 2) 12 false (pCd 9041) 4 none 92 [(0, .ref v0), (1, .int v1), (2, .int v2)] [] h 0 0 (none, q, 0, 0) := by
  intro n
  induction n with
  | zero => intro v0 v1 v2 h q hf; cases hf
  | succ n ih =>
    intro v0 v1 v2 h q hf nv0
    unfold fX12_checkMembers_92 at hf
    refine r_iload_n (dGet dX12_checkMembers (j := 53) rfl) rfl ?_
    refine r_aload_n (dGet dX12_checkMembers (j := 54) rfl) nv0 rfl ?_
    obtain ⟨t5, et5, hf⟩ := Option.bind_eq_some_iff.mp hf
    refine r_getR (dGet dX12_checkMembers (j := 55) rfl) F12_94 et5 ?_
    refine r_iload_n (dGet dX12_checkMembers (j := 56) rfl) rfl ?_
    refine r_iconst (dGet dX12_checkMembers (j := 57) rfl) kI_1 ?_
    refine r_iadd (dGet dX12_checkMembers (j := 58) rfl) ?_
    obtain ⟨t6, et6, hf⟩ := Option.bind_eq_some_iff.mp hf
    refine r_iald (dGet dX12_checkMembers (j := 59) rfl) et6 ?_
    by_cases c7 : t6 ≤ v2
    · rw [if_pos c7] at hf
      refine r_icmp_ge_t (dGet dX12_checkMembers (j := 60) rfl) rfl c7 ?_
      refine Run.weak [(0, .ref v0), (1, .int v1)] (by simp) (by simp [pNd]) ?_
      exact lX12_checkMembers_177 X N d k77 K77 v0 v1 h q hf nv0
    · rw [if_neg c7] at hf
      refine r_icmp_ge_f (dGet dX12_checkMembers (j := 60) rfl) rfl c7 ?_
      refine r_aload_n (dGet dX12_checkMembers (j := 61) rfl) nv0 rfl ?_
      obtain ⟨t8, et8, hf⟩ := Option.bind_eq_some_iff.mp hf
      refine r_getI (dGet dX12_checkMembers (j := 62) rfl) F12_409 et8 ?_
      by_cases c9 : 0 ≤ t8
      · rw [if_pos c9] at hf
        refine r_if_ge_t (dGet dX12_checkMembers (j := 63) rfl) rfl c9 ?_
        refine Run.weak [(0, .ref v0), (1, .int v1)] (by simp) (by simp [pNd]) ?_
        exact lX12_checkMembers_177 X N d k77 K77 v0 v1 h q hf nv0
      · rw [if_neg c9] at hf
        refine r_if_ge_f (dGet dX12_checkMembers (j := 63) rfl) rfl c9 ?_
        refine r_aload_n (dGet dX12_checkMembers (j := 64) rfl) nv0 rfl ?_
        obtain ⟨t10, et10, hf⟩ := Option.bind_eq_some_iff.mp hf
        refine r_getR (dGet dX12_checkMembers (j := 65) rfl) F12_103 et10 ?_
        refine r_iload_n (dGet dX12_checkMembers (j := 66) rfl) rfl ?_
        obtain ⟨t11, et11, hf⟩ := Option.bind_eq_some_iff.mp hf
        refine r_iald (dGet dX12_checkMembers (j := 67) rfl) et11 ?_
        refine r_iconst (dGet dX12_checkMembers (j := 68) rfl) kI_5 ?_
        by_cases c12 : t11 = (5 : Int32)
        · rw [if_pos c12] at hf
          refine r_icmp_eq_t (dGet dX12_checkMembers (j := 69) rfl) rfl c12 ?_
          exact lX12_checkMembers_155 X N d k77 K77 (fX12_checkMembers_92 N k77 n) ih v0 v1 v2 h q hf nv0
        · rw [if_neg c12] at hf
          refine r_icmp_eq_f (dGet dX12_checkMembers (j := 69) rfl) rfl c12 ?_
          refine r_aload_n (dGet dX12_checkMembers (j := 70) rfl) nv0 rfl ?_
          obtain ⟨t13, et13, hf⟩ := Option.bind_eq_some_iff.mp hf
          refine r_getR (dGet dX12_checkMembers (j := 71) rfl) F12_106 et13 ?_
          refine r_iload_n (dGet dX12_checkMembers (j := 72) rfl) rfl ?_
          obtain ⟨t14, et14, hf⟩ := Option.bind_eq_some_iff.mp hf
          refine r_zald (dGet dX12_checkMembers (j := 73) rfl) et14 ?_
          by_cases c15 : t14 = 0
          · rw [if_pos c15] at hf
            refine r_if_eq_t (dGet dX12_checkMembers (j := 74) rfl) rfl c15 ?_
            refine r_aload_n (dGet dX12_checkMembers (j := 81) rfl) nv0 rfl ?_
            refine r_iload_n (dGet dX12_checkMembers (j := 82) rfl) rfl ?_
            refine r_iload_n (dGet dX12_checkMembers (j := 83) rfl) rfl ?_
            obtain ⟨q16, eq16, hf⟩ := Option.bind_eq_some_iff.mp hf
            refine r_virtual (dGet dX12_checkMembers (j := 84) rfl) L12_432 M278 rfl rfl (Nat.le_of_ble_eq_true rfl) (oX12_isField eq16) (cX12_isField X N (d + 0) v0 v1 v2 h q16 eq16) ?_
            by_cases c17 : q16.1 = 0
            · rw [if_pos c17] at hf
              refine r_if_ne_f (dGet dX12_checkMembers (j := 85) rfl) rfl c17 ?_
              exact lX12_checkMembers_151 X N d k77 K77 (fX12_checkMembers_92 N k77 n) ih v0 v1 v2 q16.2 q hf nv0
            · rw [if_neg c17] at hf
              refine r_if_ne_t (dGet dX12_checkMembers (j := 85) rfl) rfl c17 ?_
              exact lX12_checkMembers_155 X N d k77 K77 (fX12_checkMembers_92 N k77 n) ih v0 v1 v2 q16.2 q hf nv0
          · rw [if_neg c15] at hf
            refine r_if_eq_f (dGet dX12_checkMembers (j := 74) rfl) rfl c15 ?_
            refine r_aload_n (dGet dX12_checkMembers (j := 75) rfl) nv0 rfl ?_
            refine r_iload_n (dGet dX12_checkMembers (j := 76) rfl) rfl ?_
            refine r_iload_n (dGet dX12_checkMembers (j := 77) rfl) rfl ?_
            obtain ⟨q18, eq18, hf⟩ := Option.bind_eq_some_iff.mp hf
            refine r_virtual (dGet dX12_checkMembers (j := 78) rfl) L12_429 M276 rfl rfl (Nat.le_of_ble_eq_true rfl) (oX12_isRightMethod eq18) (cX12_isRightMethod X N (d + 0) v0 v1 v2 h q18 eq18) ?_
            by_cases c19 : q18.1 = 0
            · rw [if_pos c19] at hf
              refine r_if_eq_t (dGet dX12_checkMembers (j := 79) rfl) rfl c19 ?_
              exact lX12_checkMembers_155 X N d k77 K77 (fX12_checkMembers_92 N k77 n) ih v0 v1 v2 q18.2 q hf nv0
            · rw [if_neg c19] at hf
              refine r_if_eq_f (dGet dX12_checkMembers (j := 79) rfl) rfl c19 ?_
              refine r_goto (dGet dX12_checkMembers (j := 80) rfl) rfl ?_
              exact lX12_checkMembers_151 X N d k77 K77 (fX12_checkMembers_92 N k77 n) ih v0 v1 v2 q18.2 q hf nv0
def fX12_checkMembers_77 (N : Nat) : Nat → Nat → Int32 → pH → Option (pH)
  | 0, _, _, _ => none
  | n + 1, v0, v1, h => (getI h v0 12 37).bind fun t20 =>
  if t20 ≤ v1 then (
  some h) else (
  (getR h v0 12 43).bind fun t22 =>
  (ldI h t22 v1).bind fun t23 =>
  fX12_checkMembers_92 N (fX12_checkMembers_77 N n) N v0 v1 t23 h)
theorem lX12_checkMembers_77 (X : pX) (N d : Nat)  : ∀ (n : Nat) (v0 : Nat) (v1 : Int32) (h : pH) (q : pH), fX12_checkMembers_77 N n v0 v1 h = some q → ¬ v0 = 4 → Run X (d + 2) 12 false (pCd 9041) 4 none 77 [(0, .ref v0), (1, .int v1)] [] h 0 0 (none, q, 0, 0) := by
  intro n
  induction n with
  | zero => intro v0 v1 h q hf; cases hf
  | succ n ih =>
    intro v0 v1 h q hf nv0
    unfold fX12_checkMembers_77 at hf
    refine r_iload_n (dGet dX12_checkMembers (j := 44) rfl) rfl ?_
    refine r_aload_n (dGet dX12_checkMembers (j := 45) rfl) nv0 rfl ?_
    obtain ⟨t20, et20, hf⟩ := Option.bind_eq_some_iff.mp hf
    refine r_getI (dGet dX12_checkMembers (j := 46) rfl) F12_397 et20 ?_
    by_cases c21 : t20 ≤ v1
    · rw [if_pos c21] at hf
      refine r_icmp_ge_t (dGet dX12_checkMembers (j := 47) rfl) rfl c21 ?_
      have hq := Option.some.inj hf
      subst hq
      exact r_vret (dGet dX12_checkMembers (j := 102) rfl) rfl
    · rw [if_neg c21] at hf
      refine r_icmp_ge_f (dGet dX12_checkMembers (j := 47) rfl) rfl c21 ?_
      refine r_aload_n (dGet dX12_checkMembers (j := 48) rfl) nv0 rfl ?_
      obtain ⟨t22, et22, hf⟩ := Option.bind_eq_some_iff.mp hf
      refine r_getR (dGet dX12_checkMembers (j := 49) rfl) F12_94 et22 ?_
      refine r_iload_n (dGet dX12_checkMembers (j := 50) rfl) rfl ?_
      obtain ⟨t23, et23, hf⟩ := Option.bind_eq_some_iff.mp hf
      refine r_iald (dGet dX12_checkMembers (j := 51) rfl) et23 ?_
      refine r_istore_n (lv' := [(2, .int t23), (0, .ref v0), (1, .int v1)]) (dGet dX12_checkMembers (j := 52) rfl) (by decide) rfl ?_
      refine Run.weak [(0, .ref v0), (1, .int v1), (2, .int t23)] (by simp) (by simp [pNd]) ?_
      exact lX12_checkMembers_92 X N d (fX12_checkMembers_77 N n) ih N v0 v1 t23 h q hf nv0
def fX12_checkMembers_45 (N : Nat) : Nat → Nat → Int32 → pH → Option (pH)
  | 0, _, _, _ => none
  | n + 1, v0, v1, h => (getI h v0 12 53).bind fun t24 =>
  if t24 ≤ v1 then (
  fX12_checkMembers_77 N N v0 (5 : Int32) h) else (
  (getR h v0 12 54).bind fun t26 =>
  (getR h v0 12 54).bind fun t27 =>
  (ldI h t27 v1).bind fun t28 =>
  (fX12_meant N v0 t28 h).bind fun q29 =>
  (stI q29.2 t26 v1 q29.1).bind fun h30 =>
  fX12_checkMembers_45 N n v0 (v1 + (1 : Int32)) h30)
theorem lX12_checkMembers_45 (X : pX) (N d : Nat)  : ∀ (n : Nat) (v0 : Nat) (v1 : Int32) (h : pH) (q : pH), fX12_checkMembers_45 N n v0 v1 h = some q → ¬ v0 = 4 → Run X (d + 2) 12 false (pCd 9041) 4 none 45 [(0, .ref v0), (1, .int v1)] [] h 0 0 (none, q, 0, 0) := by
  intro n
  induction n with
  | zero => intro v0 v1 h q hf; cases hf
  | succ n ih =>
    intro v0 v1 h q hf nv0
    unfold fX12_checkMembers_45 at hf
    refine r_iload_n (dGet dX12_checkMembers (j := 26) rfl) rfl ?_
    refine r_aload_n (dGet dX12_checkMembers (j := 27) rfl) nv0 rfl ?_
    obtain ⟨t24, et24, hf⟩ := Option.bind_eq_some_iff.mp hf
    refine r_getI (dGet dX12_checkMembers (j := 28) rfl) F12_406 et24 ?_
    by_cases c25 : t24 ≤ v1
    · rw [if_pos c25] at hf
      refine r_icmp_ge_t (dGet dX12_checkMembers (j := 29) rfl) rfl c25 ?_
      refine r_iconst (dGet dX12_checkMembers (j := 42) rfl) kI_5 ?_
      refine r_istore_n (lv' := [(1, .int (5 : Int32)), (0, .ref v0)]) (dGet dX12_checkMembers (j := 43) rfl) (by decide) rfl ?_
      refine Run.weak [(0, .ref v0), (1, .int (5 : Int32))] (by simp) (by simp [pNd]) ?_
      exact lX12_checkMembers_77 X N d N v0 (5 : Int32) h q hf nv0
    · rw [if_neg c25] at hf
      refine r_icmp_ge_f (dGet dX12_checkMembers (j := 29) rfl) rfl c25 ?_
      refine r_aload_n (dGet dX12_checkMembers (j := 30) rfl) nv0 rfl ?_
      obtain ⟨t26, et26, hf⟩ := Option.bind_eq_some_iff.mp hf
      refine r_getR (dGet dX12_checkMembers (j := 31) rfl) F12_122 et26 ?_
      refine r_iload_n (dGet dX12_checkMembers (j := 32) rfl) rfl ?_
      refine r_aload_n (dGet dX12_checkMembers (j := 33) rfl) nv0 rfl ?_
      refine r_aload_n (dGet dX12_checkMembers (j := 34) rfl) nv0 rfl ?_
      obtain ⟨t27, et27, hf⟩ := Option.bind_eq_some_iff.mp hf
      refine r_getR (dGet dX12_checkMembers (j := 35) rfl) F12_122 et27 ?_
      refine r_iload_n (dGet dX12_checkMembers (j := 36) rfl) rfl ?_
      obtain ⟨t28, et28, hf⟩ := Option.bind_eq_some_iff.mp hf
      refine r_iald (dGet dX12_checkMembers (j := 37) rfl) et28 ?_
      obtain ⟨q29, eq29, hf⟩ := Option.bind_eq_some_iff.mp hf
      refine r_virtual (dGet dX12_checkMembers (j := 38) rfl) L12_426 M275 rfl rfl (Nat.le_of_ble_eq_true rfl) (oX12_meant eq29) (cX12_meant X N (d + 0) v0 t28 h q29 eq29) ?_
      obtain ⟨h30, eh30, hf⟩ := Option.bind_eq_some_iff.mp hf
      refine r_iast (dGet dX12_checkMembers (j := 39) rfl) eh30 ?_
      refine r_iinc (lv' := [(1, .int (v1 + (1 : Int32))), (0, .ref v0)]) (dGet dX12_checkMembers (j := 40) rfl) rfl (by decide) kI_1 rfl ?_
      refine r_goto (dGet dX12_checkMembers (j := 41) rfl) rfl ?_
      refine Run.weak [(0, .ref v0), (1, .int (v1 + (1 : Int32)))] (by simp) (by simp [pNd]) ?_
      exact ih v0 (v1 + (1 : Int32)) h30 q hf nv0
def fX12_checkMembers_37 (N : Nat) (k2 : Nat → Int32 → pH → Option (pH)) (v0 : Nat) (v1 : Int32) (h : pH) : Option (pH) :=
  k2 v0 (v1 + (1 : Int32)) h
theorem lX12_checkMembers_37 (X : pX) (N d : Nat)  (k2 : Nat → Int32 → pH → Option (pH)) (K2 : ∀ (w0 : Nat) (w1 : Int32) (h : pH) (q : pH), k2 w0 w1 h = some q → ¬ w0 = 4 → Run X (d + 2) 12 false (pCd 9041) 4 none 2 [(0, .ref w0), (1, .int w1)] [] h 0 0 (none, q, 0, 0)) (v0 : Nat) (v1 : Int32) (h : pH) (q : pH) (hf : fX12_checkMembers_37 N k2 v0 v1 h = some q) (nv0 : ¬ v0 = 4) : Run X (d + 2) 12 false (pCd 9041) 4 none 37 [(0, .ref v0), (1, .int v1)] [] h 0 0 (none, q, 0, 0) := by
  unfold fX12_checkMembers_37 at hf
  refine r_iinc (lv' := [(1, .int (v1 + (1 : Int32))), (0, .ref v0)]) (dGet dX12_checkMembers (j := 22) rfl) rfl (by decide) kI_1 rfl ?_
  refine r_goto (dGet dX12_checkMembers (j := 23) rfl) rfl ?_
  refine Run.weak [(0, .ref v0), (1, .int (v1 + (1 : Int32)))] (by simp) (by simp [pNd]) ?_
  exact K2 v0 (v1 + (1 : Int32)) h q hf nv0
def fX12_checkMembers_2 (N : Nat) : Nat → Nat → Int32 → pH → Option (pH)
  | 0, _, _, _ => none
  | n + 1, v0, v1, h => (getI h v0 12 44).bind fun t31 =>
  if t31 ≤ v1 then (
  fX12_checkMembers_45 N N v0 (0 : Int32) h) else (
  (getR h v0 12 47).bind fun t33 =>
  (ldI h t33 v1).bind fun t34 =>
  if t34 < (10 : Int32) then (
  fX12_checkMembers_37 N (fX12_checkMembers_2 N n) v0 v1 h) else (
  (getR h v0 12 47).bind fun t36 =>
  (getR h v0 12 47).bind fun t37 =>
  (ldI h t37 v1).bind fun t38 =>
  (fX12_meant N v0 t38 h).bind fun q39 =>
  (stI q39.2 t36 v1 q39.1).bind fun h40 =>
  fX12_checkMembers_37 N (fX12_checkMembers_2 N n) v0 v1 h40))
theorem lX12_checkMembers_2 (X : pX) (N d : Nat)  : ∀ (n : Nat) (v0 : Nat) (v1 : Int32) (h : pH) (q : pH), fX12_checkMembers_2 N n v0 v1 h = some q → ¬ v0 = 4 → Run X (d + 2) 12 false (pCd 9041) 4 none 2 [(0, .ref v0), (1, .int v1)] [] h 0 0 (none, q, 0, 0) := by
  intro n
  induction n with
  | zero => intro v0 v1 h q hf; cases hf
  | succ n ih =>
    intro v0 v1 h q hf nv0
    unfold fX12_checkMembers_2 at hf
    refine r_iload_n (dGet dX12_checkMembers (j := 2) rfl) rfl ?_
    refine r_aload_n (dGet dX12_checkMembers (j := 3) rfl) nv0 rfl ?_
    obtain ⟨t31, et31, hf⟩ := Option.bind_eq_some_iff.mp hf
    refine r_getI (dGet dX12_checkMembers (j := 4) rfl) F12_403 et31 ?_
    by_cases c32 : t31 ≤ v1
    · rw [if_pos c32] at hf
      refine r_icmp_ge_t (dGet dX12_checkMembers (j := 5) rfl) rfl c32 ?_
      refine r_iconst (dGet dX12_checkMembers (j := 24) rfl) kI_0 ?_
      refine r_istore_n (lv' := [(1, .int (0 : Int32)), (0, .ref v0)]) (dGet dX12_checkMembers (j := 25) rfl) (by decide) rfl ?_
      refine Run.weak [(0, .ref v0), (1, .int (0 : Int32))] (by simp) (by simp [pNd]) ?_
      exact lX12_checkMembers_45 X N d N v0 (0 : Int32) h q hf nv0
    · rw [if_neg c32] at hf
      refine r_icmp_ge_f (dGet dX12_checkMembers (j := 5) rfl) rfl c32 ?_
      refine r_aload_n (dGet dX12_checkMembers (j := 6) rfl) nv0 rfl ?_
      obtain ⟨t33, et33, hf⟩ := Option.bind_eq_some_iff.mp hf
      refine r_getR (dGet dX12_checkMembers (j := 7) rfl) F12_103 et33 ?_
      refine r_iload_n (dGet dX12_checkMembers (j := 8) rfl) rfl ?_
      obtain ⟨t34, et34, hf⟩ := Option.bind_eq_some_iff.mp hf
      refine r_iald (dGet dX12_checkMembers (j := 9) rfl) et34 ?_
      refine r_bipush (dGet dX12_checkMembers (j := 10) rfl) kB_10 ?_
      by_cases c35 : t34 < (10 : Int32)
      · rw [if_pos c35] at hf
        refine r_icmp_lt_t (dGet dX12_checkMembers (j := 11) rfl) rfl c35 ?_
        exact lX12_checkMembers_37 X N d (fX12_checkMembers_2 N n) ih v0 v1 h q hf nv0
      · rw [if_neg c35] at hf
        refine r_icmp_lt_f (dGet dX12_checkMembers (j := 11) rfl) rfl c35 ?_
        refine r_aload_n (dGet dX12_checkMembers (j := 12) rfl) nv0 rfl ?_
        obtain ⟨t36, et36, hf⟩ := Option.bind_eq_some_iff.mp hf
        refine r_getR (dGet dX12_checkMembers (j := 13) rfl) F12_103 et36 ?_
        refine r_iload_n (dGet dX12_checkMembers (j := 14) rfl) rfl ?_
        refine r_aload_n (dGet dX12_checkMembers (j := 15) rfl) nv0 rfl ?_
        refine r_aload_n (dGet dX12_checkMembers (j := 16) rfl) nv0 rfl ?_
        obtain ⟨t37, et37, hf⟩ := Option.bind_eq_some_iff.mp hf
        refine r_getR (dGet dX12_checkMembers (j := 17) rfl) F12_103 et37 ?_
        refine r_iload_n (dGet dX12_checkMembers (j := 18) rfl) rfl ?_
        obtain ⟨t38, et38, hf⟩ := Option.bind_eq_some_iff.mp hf
        refine r_iald (dGet dX12_checkMembers (j := 19) rfl) et38 ?_
        obtain ⟨q39, eq39, hf⟩ := Option.bind_eq_some_iff.mp hf
        refine r_virtual (dGet dX12_checkMembers (j := 20) rfl) L12_426 M275 rfl rfl (Nat.le_of_ble_eq_true rfl) (oX12_meant eq39) (cX12_meant X N (d + 0) v0 t38 h q39 eq39) ?_
        obtain ⟨h40, eh40, hf⟩ := Option.bind_eq_some_iff.mp hf
        refine r_iast (dGet dX12_checkMembers (j := 21) rfl) eh40 ?_
        exact lX12_checkMembers_37 X N d (fX12_checkMembers_2 N n) ih v0 v1 h40 q hf nv0
def fX12_checkMembers (N : Nat) (v0 : Nat) (h : pH) : Option (pH) := if isO h v0 12 = true then (
  fX12_checkMembers_2 N N v0 (0 : Int32) h) else none
theorem oX12_checkMembers {N : Nat} {v0 : Nat} {h : pH} {q : pH} (hf : fX12_checkMembers N v0 h = some q) : isO h v0 12 = true := by
  unfold fX12_checkMembers at hf
  by_cases hc : isO h v0 12 = true
  · exact hc
  · rw [if_neg hc] at hf; cases hf
theorem cX12_checkMembers (X : pX) (N d : Nat) (v0 : Nat) (h : pH) (q : pH) (hf : fX12_checkMembers N v0 h = some q) : Calls X (d + 2) 274 [.ref v0] h (none, q, 0, 0) := by
  refine Calls.of M274 (Nat.le_of_ble_eq_true rfl) ?_
  show Run X (d + 2) 12 false (pCd 9041) 4 none 0 [(0, .ref v0)] [] h 0 0 (none, q, 0, 0)
  unfold fX12_checkMembers at hf
  by_cases hc : isO h v0 12 = true
  · rw [if_pos hc] at hf
    have nv0 : ¬ v0 = 4 := isO_ne hc
    refine r_iconst (dGet dX12_checkMembers (j := 0) rfl) kI_0 ?_
    refine r_istore_n (lv' := [(1, .int (0 : Int32)), (0, .ref v0)]) (dGet dX12_checkMembers (j := 1) rfl) (by decide) rfl ?_
    refine Run.weak [(0, .ref v0), (1, .int (0 : Int32))] (by simp) (by simp [pNd]) ?_
    exact lX12_checkMembers_2 X N d N v0 (0 : Int32) h q hf nv0
  · rw [if_neg hc] at hf; cases hf
def eX12_checkMethod : List (Nat × Instr × Nat) := [(0, .aload_n 0, 1), (1, .iload_n 1, 1), (2, .putfield 470, 3), (5, .aload_n 0, 1), (6, .iload_n 2, 1), (7, .putfield 473, 3), (10, .aload_n 0, 1), (11, .iconst 0, 1), (12, .putfield 467, 3), (15, .aload_n 0, 1), (16, .iconst 0, 1), (17, .putfield 476, 3), (20, .aload_n 0, 1), (21, .getfield 110, 3), (24, .iload_n 2, 1), (25, .iaload, 1), (26, .istore_n 3, 1), (27, .iload_n 3, 1), (28, .aload_n 0, 1), (29, .getfield 110, 3), (32, .iload_n 2, 1), (33, .iconst 1, 1), (34, .iadd, 1), (35, .iaload, 1), (36, .if_icmp .ge 26, 3), (39, .aload_n 0, 1), (40, .aload_n 0, 1), (41, .getfield 125, 3), (44, .iload_n 3, 1), (45, .iaload, 1), (46, .aload_n 0, 1), (47, .getfield 122, 3), (50, .iload_n 3, 1), (51, .iaload, 1), (52, .iconst 1, 1), (53, .invokevirtual 479, 3), (56, .iinc 3 1, 3), (59, .goto (-32), 3), (62, .aload_n 0, 1), (63, .aload_n 0, 1), (64, .getfield 113, 3), (67, .iload_n 2, 1), (68, .iaload, 1), (69, .iconst 0, 1), (70, .invokevirtual 483, 3), (73, .aload_n 0, 1), (74, .getfield 409, 3), (77, .ifCond .ge 30, 3), (80, .aload_n 0, 1), (81, .getfield 103, 3), (84, .iload_n 2, 1), (85, .iaload, 1), (86, .iconst 3, 1), (87, .if_icmp .eq 20, 3), (90, .aload_n 0, 1), (91, .getfield 476, 3), (94, .ifCond .ne 13, 3), (97, .aload_n 0, 1), (98, .aload_n 0, 1), (99, .getfield 116, 3), (102, .iload_n 2, 1), (103, .iaload, 1), (104, .invokevirtual 419, 3), (107, .return_, 1)]
theorem dX12_checkMethod : dChk (pCd 9065) eX12_checkMethod = true := by decide +kernel
def fX12_checkMethod_27 (N : Nat) : Nat → Nat → Int32 → Int32 → pH → Option (pH)
  | 0, _, _, _, _ => none
  | n + 1, v0, v2, v3, h => (getR h v0 12 49).bind fun t1 =>
  (ldI h t1 (v2 + (1 : Int32))).bind fun t2 =>
  if t2 ≤ v3 then (
  (getR h v0 12 50).bind fun t4 =>
  (ldI h t4 v2).bind fun t5 =>
  (if isO h v0 12 = true then some () else none).bind fun _ =>
  (rcV (gX12_checkWhile N 600) 282 [.ref v0, .int t5, .int (0 : Int32)] h).bind fun h6 =>
  (getI h6 v0 12 58).bind fun t8 =>
  if 0 ≤ t8 then (
  some h6) else (
  (getR h6 v0 12 47).bind fun t10 =>
  (ldI h6 t10 v2).bind fun t11 =>
  if t11 = (3 : Int32) then (
  some h6) else (
  (getI h6 v0 12 66).bind fun t13 =>
  if t13 = 0 then (
  (getR h6 v0 12 51).bind fun t15 =>
  (ldI h6 t15 v2).bind fun t16 =>
  (fX12_isBad N v0 t16 h6).bind fun h17 =>
  some h17) else (
  some h6)))) else (
  (getR h v0 12 55).bind fun t18 =>
  (ldI h t18 v3).bind fun t19 =>
  (getR h v0 12 54).bind fun t20 =>
  (ldI h t20 v3).bind fun t21 =>
  (fX12_addVariable N v0 t19 t21 (1 : Int32) h).bind fun h22 =>
  fX12_checkMethod_27 N n v0 v2 (v3 + (1 : Int32)) h22)
theorem lX12_checkMethod_27 (X : pX) (N d : Nat)  : ∀ (n : Nat) (v0 : Nat) (v2 : Int32) (v3 : Int32) (h : pH) (q : pH), fX12_checkMethod_27 N n v0 v2 v3 h = some q → ¬ v0 = 4 → Run X (d + 605) 12 false (pCd 9065) 4 none 27 [(0, .ref v0), (2, .int v2), (3, .int v3)] [] h 0 0 (none, q, 0, 0) := by
  intro n
  induction n with
  | zero => intro v0 v2 v3 h q hf; cases hf
  | succ n ih =>
    intro v0 v2 v3 h q hf nv0
    unfold fX12_checkMethod_27 at hf
    refine r_iload_n (dGet dX12_checkMethod (j := 17) rfl) rfl ?_
    refine r_aload_n (dGet dX12_checkMethod (j := 18) rfl) nv0 rfl ?_
    obtain ⟨t1, et1, hf⟩ := Option.bind_eq_some_iff.mp hf
    refine r_getR (dGet dX12_checkMethod (j := 19) rfl) F12_110 et1 ?_
    refine r_iload_n (dGet dX12_checkMethod (j := 20) rfl) rfl ?_
    refine r_iconst (dGet dX12_checkMethod (j := 21) rfl) kI_1 ?_
    refine r_iadd (dGet dX12_checkMethod (j := 22) rfl) ?_
    obtain ⟨t2, et2, hf⟩ := Option.bind_eq_some_iff.mp hf
    refine r_iald (dGet dX12_checkMethod (j := 23) rfl) et2 ?_
    by_cases c3 : t2 ≤ v3
    · rw [if_pos c3] at hf
      refine r_icmp_ge_t (dGet dX12_checkMethod (j := 24) rfl) rfl c3 ?_
      refine r_aload_n (dGet dX12_checkMethod (j := 38) rfl) nv0 rfl ?_
      refine r_aload_n (dGet dX12_checkMethod (j := 39) rfl) nv0 rfl ?_
      obtain ⟨t4, et4, hf⟩ := Option.bind_eq_some_iff.mp hf
      refine r_getR (dGet dX12_checkMethod (j := 40) rfl) F12_113 et4 ?_
      refine r_iload_n (dGet dX12_checkMethod (j := 41) rfl) rfl ?_
      obtain ⟨t5, et5, hf⟩ := Option.bind_eq_some_iff.mp hf
      refine r_iald (dGet dX12_checkMethod (j := 42) rfl) et5 ?_
      refine r_iconst (dGet dX12_checkMethod (j := 43) rfl) kI_0 ?_
      obtain ⟨_, ec7, hf⟩ := Option.bind_eq_some_iff.mp hf
      obtain ⟨h6, eh6, hf⟩ := Option.bind_eq_some_iff.mp hf
      refine r_virtual (dGet dX12_checkMethod (j := 44) rfl) L12_483 M282 rfl rfl (Nat.le_of_ble_eq_true rfl) (guard_of ec7) (rcV_calls (gX12_checkWhile_calls X N (d + 0) 600) eh6) ?_
      refine r_aload_n (dGet dX12_checkMethod (j := 45) rfl) nv0 rfl ?_
      obtain ⟨t8, et8, hf⟩ := Option.bind_eq_some_iff.mp hf
      refine r_getI (dGet dX12_checkMethod (j := 46) rfl) F12_409 et8 ?_
      by_cases c9 : 0 ≤ t8
      · rw [if_pos c9] at hf
        refine r_if_ge_t (dGet dX12_checkMethod (j := 47) rfl) rfl c9 ?_
        have hq := Option.some.inj hf
        subst hq
        exact r_vret (dGet dX12_checkMethod (j := 63) rfl) rfl
      · rw [if_neg c9] at hf
        refine r_if_ge_f (dGet dX12_checkMethod (j := 47) rfl) rfl c9 ?_
        refine r_aload_n (dGet dX12_checkMethod (j := 48) rfl) nv0 rfl ?_
        obtain ⟨t10, et10, hf⟩ := Option.bind_eq_some_iff.mp hf
        refine r_getR (dGet dX12_checkMethod (j := 49) rfl) F12_103 et10 ?_
        refine r_iload_n (dGet dX12_checkMethod (j := 50) rfl) rfl ?_
        obtain ⟨t11, et11, hf⟩ := Option.bind_eq_some_iff.mp hf
        refine r_iald (dGet dX12_checkMethod (j := 51) rfl) et11 ?_
        refine r_iconst (dGet dX12_checkMethod (j := 52) rfl) kI_3 ?_
        by_cases c12 : t11 = (3 : Int32)
        · rw [if_pos c12] at hf
          refine r_icmp_eq_t (dGet dX12_checkMethod (j := 53) rfl) rfl c12 ?_
          have hq := Option.some.inj hf
          subst hq
          exact r_vret (dGet dX12_checkMethod (j := 63) rfl) rfl
        · rw [if_neg c12] at hf
          refine r_icmp_eq_f (dGet dX12_checkMethod (j := 53) rfl) rfl c12 ?_
          refine r_aload_n (dGet dX12_checkMethod (j := 54) rfl) nv0 rfl ?_
          obtain ⟨t13, et13, hf⟩ := Option.bind_eq_some_iff.mp hf
          refine r_getI (dGet dX12_checkMethod (j := 55) rfl) F12_476 et13 ?_
          by_cases c14 : t13 = 0
          · rw [if_pos c14] at hf
            refine r_if_ne_f (dGet dX12_checkMethod (j := 56) rfl) rfl c14 ?_
            refine r_aload_n (dGet dX12_checkMethod (j := 57) rfl) nv0 rfl ?_
            refine r_aload_n (dGet dX12_checkMethod (j := 58) rfl) nv0 rfl ?_
            obtain ⟨t15, et15, hf⟩ := Option.bind_eq_some_iff.mp hf
            refine r_getR (dGet dX12_checkMethod (j := 59) rfl) F12_116 et15 ?_
            refine r_iload_n (dGet dX12_checkMethod (j := 60) rfl) rfl ?_
            obtain ⟨t16, et16, hf⟩ := Option.bind_eq_some_iff.mp hf
            refine r_iald (dGet dX12_checkMethod (j := 61) rfl) et16 ?_
            obtain ⟨h17, eh17, hf⟩ := Option.bind_eq_some_iff.mp hf
            refine r_virtual (dGet dX12_checkMethod (j := 62) rfl) L12_419 M273 rfl rfl (Nat.le_of_ble_eq_true rfl) (oX12_isBad eh17) (cX12_isBad X N (d + 604) v0 t16 h6 h17 eh17) ?_
            have hq := Option.some.inj hf
            subst hq
            exact r_vret (dGet dX12_checkMethod (j := 63) rfl) rfl
          · rw [if_neg c14] at hf
            refine r_if_ne_t (dGet dX12_checkMethod (j := 56) rfl) rfl c14 ?_
            have hq := Option.some.inj hf
            subst hq
            exact r_vret (dGet dX12_checkMethod (j := 63) rfl) rfl
    · rw [if_neg c3] at hf
      refine r_icmp_ge_f (dGet dX12_checkMethod (j := 24) rfl) rfl c3 ?_
      refine r_aload_n (dGet dX12_checkMethod (j := 25) rfl) nv0 rfl ?_
      refine r_aload_n (dGet dX12_checkMethod (j := 26) rfl) nv0 rfl ?_
      obtain ⟨t18, et18, hf⟩ := Option.bind_eq_some_iff.mp hf
      refine r_getR (dGet dX12_checkMethod (j := 27) rfl) F12_125 et18 ?_
      refine r_iload_n (dGet dX12_checkMethod (j := 28) rfl) rfl ?_
      obtain ⟨t19, et19, hf⟩ := Option.bind_eq_some_iff.mp hf
      refine r_iald (dGet dX12_checkMethod (j := 29) rfl) et19 ?_
      refine r_aload_n (dGet dX12_checkMethod (j := 30) rfl) nv0 rfl ?_
      obtain ⟨t20, et20, hf⟩ := Option.bind_eq_some_iff.mp hf
      refine r_getR (dGet dX12_checkMethod (j := 31) rfl) F12_122 et20 ?_
      refine r_iload_n (dGet dX12_checkMethod (j := 32) rfl) rfl ?_
      obtain ⟨t21, et21, hf⟩ := Option.bind_eq_some_iff.mp hf
      refine r_iald (dGet dX12_checkMethod (j := 33) rfl) et21 ?_
      refine r_iconst (dGet dX12_checkMethod (j := 34) rfl) kI_1 ?_
      obtain ⟨h22, eh22, hf⟩ := Option.bind_eq_some_iff.mp hf
      refine r_virtual (dGet dX12_checkMethod (j := 35) rfl) L12_479 M281 rfl rfl (Nat.le_of_ble_eq_true rfl) (oX12_addVariable eh22) (cX12_addVariable X N (d + 604) v0 t19 t21 (1 : Int32) h h22 eh22) ?_
      refine r_iinc (lv' := [(3, .int (v3 + (1 : Int32))), (0, .ref v0), (2, .int v2)]) (dGet dX12_checkMethod (j := 36) rfl) rfl (by decide) kI_1 rfl ?_
      refine r_goto (dGet dX12_checkMethod (j := 37) rfl) rfl ?_
      refine Run.weak [(0, .ref v0), (2, .int v2), (3, .int (v3 + (1 : Int32)))] (by simp) (by simp [pNd]) ?_
      exact ih v0 v2 (v3 + (1 : Int32)) h22 q hf nv0
def fX12_checkMethod (N : Nat) (v0 : Nat) (v1 : Int32) (v2 : Int32) (h : pH) : Option (pH) := if isO h v0 12 = true then (
  (putI h v0 12 60 v1).bind fun h23 =>
  (putI h23 v0 12 61 v2).bind fun h24 =>
  (putI h24 v0 12 62 (0 : Int32)).bind fun h25 =>
  (putZ h25 v0 12 66 (0 : Int32)).bind fun h26 =>
  (getR h26 v0 12 49).bind fun t27 =>
  (ldI h26 t27 v2).bind fun t28 =>
  fX12_checkMethod_27 N N v0 v2 t28 h26) else none
theorem oX12_checkMethod {N : Nat} {v0 : Nat} {v1 : Int32} {v2 : Int32} {h : pH} {q : pH} (hf : fX12_checkMethod N v0 v1 v2 h = some q) : isO h v0 12 = true := by
  unfold fX12_checkMethod at hf
  by_cases hc : isO h v0 12 = true
  · exact hc
  · rw [if_neg hc] at hf; cases hf
theorem cX12_checkMethod (X : pX) (N d : Nat) (v0 : Nat) (v1 : Int32) (v2 : Int32) (h : pH) (q : pH) (hf : fX12_checkMethod N v0 v1 v2 h = some q) : Calls X (d + 605) 280 [.ref v0, .int v1, .int v2] h (none, q, 0, 0) := by
  refine Calls.of M280 (Nat.le_of_ble_eq_true rfl) ?_
  show Run X (d + 605) 12 false (pCd 9065) 4 none 0 [(0, .ref v0), (1, .int v1), (2, .int v2)] [] h 0 0 (none, q, 0, 0)
  unfold fX12_checkMethod at hf
  by_cases hc : isO h v0 12 = true
  · rw [if_pos hc] at hf
    have nv0 : ¬ v0 = 4 := isO_ne hc
    refine r_aload_n (dGet dX12_checkMethod (j := 0) rfl) nv0 rfl ?_
    refine r_iload_n (dGet dX12_checkMethod (j := 1) rfl) rfl ?_
    obtain ⟨h23, eh23, hf⟩ := Option.bind_eq_some_iff.mp hf
    refine r_putI (dGet dX12_checkMethod (j := 2) rfl) F12_470 rfl rfl eh23 ?_
    refine r_aload_n (dGet dX12_checkMethod (j := 3) rfl) nv0 rfl ?_
    refine r_iload_n (dGet dX12_checkMethod (j := 4) rfl) rfl ?_
    obtain ⟨h24, eh24, hf⟩ := Option.bind_eq_some_iff.mp hf
    refine r_putI (dGet dX12_checkMethod (j := 5) rfl) F12_473 rfl rfl eh24 ?_
    refine r_aload_n (dGet dX12_checkMethod (j := 6) rfl) nv0 rfl ?_
    refine r_iconst (dGet dX12_checkMethod (j := 7) rfl) kI_0 ?_
    obtain ⟨h25, eh25, hf⟩ := Option.bind_eq_some_iff.mp hf
    refine r_putI (dGet dX12_checkMethod (j := 8) rfl) F12_467 rfl rfl eh25 ?_
    refine r_aload_n (dGet dX12_checkMethod (j := 9) rfl) nv0 rfl ?_
    refine r_iconst (dGet dX12_checkMethod (j := 10) rfl) kI_0 ?_
    obtain ⟨h26, eh26, hf⟩ := Option.bind_eq_some_iff.mp hf
    refine r_putZ (dGet dX12_checkMethod (j := 11) rfl) F12_476 rfl rfl eh26 ?_
    refine r_aload_n (dGet dX12_checkMethod (j := 12) rfl) nv0 rfl ?_
    obtain ⟨t27, et27, hf⟩ := Option.bind_eq_some_iff.mp hf
    refine r_getR (dGet dX12_checkMethod (j := 13) rfl) F12_110 et27 ?_
    refine r_iload_n (dGet dX12_checkMethod (j := 14) rfl) rfl ?_
    obtain ⟨t28, et28, hf⟩ := Option.bind_eq_some_iff.mp hf
    refine r_iald (dGet dX12_checkMethod (j := 15) rfl) et28 ?_
    refine r_istore_n (lv' := [(3, .int t28), (0, .ref v0), (1, .int v1), (2, .int v2)]) (dGet dX12_checkMethod (j := 16) rfl) (by decide) rfl ?_
    refine Run.weak [(0, .ref v0), (2, .int v2), (3, .int t28)] (by simp) (by simp [pNd]) ?_
    exact lX12_checkMethod_27 X N d N v0 v2 t28 h26 q hf nv0
  · rw [if_neg hc] at hf; cases hf
def eX12_reach : List (Nat × Instr × Nat) := [(0, .iload_n 1, 1), (1, .ifCond .lt 12, 3), (4, .aload_n 0, 1), (5, .getfield 163, 3), (8, .iload_n 1, 1), (9, .baload, 1), (10, .ifCond .eq 4, 3), (13, .return_, 1), (14, .aload_n 0, 1), (15, .getfield 163, 3), (18, .iload_n 1, 1), (19, .iconst 1, 1), (20, .bastore, 1), (21, .aload_n 0, 1), (22, .getfield 169, 3), (25, .aload_n 0, 1), (26, .getfield 548, 3), (29, .iload_n 1, 1), (30, .iastore, 1), (31, .aload_n 0, 1), (32, .dup, 1), (33, .getfield 548, 3), (36, .iconst 1, 1), (37, .iadd, 1), (38, .putfield 548, 3), (41, .return_, 1)]
theorem dX12_reach : dChk (pCd 10008) eX12_reach = true := by decide +kernel
def fX12_reach (N : Nat) (v0 : Nat) (v1 : Int32) (h : pH) : Option (pH) := if isO h v0 12 = true then (
  if v1 < 0 then (
  some h) else (
  (getR h v0 12 86).bind fun t2 =>
  (ldZ h t2 v1).bind fun t3 =>
  if t3 = 0 then (
  (getR h v0 12 86).bind fun t5 =>
  (stZ h t5 v1 (1 : Int32)).bind fun h6 =>
  (getR h6 v0 12 88).bind fun t7 =>
  (getI h6 v0 12 89).bind fun t8 =>
  (stI h6 t7 t8 v1).bind fun h9 =>
  (getI h9 v0 12 89).bind fun t10 =>
  (putI h9 v0 12 89 (t10 + (1 : Int32))).bind fun h11 =>
  some h11) else (
  some h))) else none
theorem oX12_reach {N : Nat} {v0 : Nat} {v1 : Int32} {h : pH} {q : pH} (hf : fX12_reach N v0 v1 h = some q) : isO h v0 12 = true := by
  unfold fX12_reach at hf
  by_cases hc : isO h v0 12 = true
  · exact hc
  · rw [if_neg hc] at hf; cases hf
theorem cX12_reach (X : pX) (N d : Nat) (v0 : Nat) (v1 : Int32) (h : pH) (q : pH) (hf : fX12_reach N v0 v1 h = some q) : Calls X (d + 0) 325 [.ref v0, .int v1] h (none, q, 0, 0) := by
  refine Calls.of M325 (Nat.le_of_ble_eq_true rfl) ?_
  show Run X (d + 0) 12 false (pCd 10008) 2 none 0 [(0, .ref v0), (1, .int v1)] [] h 0 0 (none, q, 0, 0)
  unfold fX12_reach at hf
  by_cases hc : isO h v0 12 = true
  · rw [if_pos hc] at hf
    have nv0 : ¬ v0 = 4 := isO_ne hc
    refine r_iload_n (dGet dX12_reach (j := 0) rfl) rfl ?_
    by_cases c1 : v1 < 0
    · rw [if_pos c1] at hf
      refine r_if_lt_t (dGet dX12_reach (j := 1) rfl) rfl c1 ?_
      have hq := Option.some.inj hf
      subst hq
      exact r_vret (dGet dX12_reach (j := 7) rfl) rfl
    · rw [if_neg c1] at hf
      refine r_if_lt_f (dGet dX12_reach (j := 1) rfl) rfl c1 ?_
      refine r_aload_n (dGet dX12_reach (j := 2) rfl) nv0 rfl ?_
      obtain ⟨t2, et2, hf⟩ := Option.bind_eq_some_iff.mp hf
      refine r_getR (dGet dX12_reach (j := 3) rfl) F12_163 et2 ?_
      refine r_iload_n (dGet dX12_reach (j := 4) rfl) rfl ?_
      obtain ⟨t3, et3, hf⟩ := Option.bind_eq_some_iff.mp hf
      refine r_zald (dGet dX12_reach (j := 5) rfl) et3 ?_
      by_cases c4 : t3 = 0
      · rw [if_pos c4] at hf
        refine r_if_eq_t (dGet dX12_reach (j := 6) rfl) rfl c4 ?_
        refine r_aload_n (dGet dX12_reach (j := 8) rfl) nv0 rfl ?_
        obtain ⟨t5, et5, hf⟩ := Option.bind_eq_some_iff.mp hf
        refine r_getR (dGet dX12_reach (j := 9) rfl) F12_163 et5 ?_
        refine r_iload_n (dGet dX12_reach (j := 10) rfl) rfl ?_
        refine r_iconst (dGet dX12_reach (j := 11) rfl) kI_1 ?_
        obtain ⟨h6, eh6, hf⟩ := Option.bind_eq_some_iff.mp hf
        refine r_zast (dGet dX12_reach (j := 12) rfl) eh6 ?_
        refine r_aload_n (dGet dX12_reach (j := 13) rfl) nv0 rfl ?_
        obtain ⟨t7, et7, hf⟩ := Option.bind_eq_some_iff.mp hf
        refine r_getR (dGet dX12_reach (j := 14) rfl) F12_169 et7 ?_
        refine r_aload_n (dGet dX12_reach (j := 15) rfl) nv0 rfl ?_
        obtain ⟨t8, et8, hf⟩ := Option.bind_eq_some_iff.mp hf
        refine r_getI (dGet dX12_reach (j := 16) rfl) F12_548 et8 ?_
        refine r_iload_n (dGet dX12_reach (j := 17) rfl) rfl ?_
        obtain ⟨h9, eh9, hf⟩ := Option.bind_eq_some_iff.mp hf
        refine r_iast (dGet dX12_reach (j := 18) rfl) eh9 ?_
        refine r_aload_n (dGet dX12_reach (j := 19) rfl) nv0 rfl ?_
        refine r_dup (dGet dX12_reach (j := 20) rfl) rfl ?_
        obtain ⟨t10, et10, hf⟩ := Option.bind_eq_some_iff.mp hf
        refine r_getI (dGet dX12_reach (j := 21) rfl) F12_548 et10 ?_
        refine r_iconst (dGet dX12_reach (j := 22) rfl) kI_1 ?_
        refine r_iadd (dGet dX12_reach (j := 23) rfl) ?_
        obtain ⟨h11, eh11, hf⟩ := Option.bind_eq_some_iff.mp hf
        refine r_putI (dGet dX12_reach (j := 24) rfl) F12_548 rfl rfl eh11 ?_
        have hq := Option.some.inj hf
        subst hq
        exact r_vret (dGet dX12_reach (j := 25) rfl) rfl
      · rw [if_neg c4] at hf
        refine r_if_eq_f (dGet dX12_reach (j := 6) rfl) rfl c4 ?_
        have hq := Option.some.inj hf
        subst hq
        exact r_vret (dGet dX12_reach (j := 7) rfl) rfl
  · rw [if_neg hc] at hf; cases hf
def eX12_marked : List (Nat × Instr × Nat) := [(0, .iconst 0, 1), (1, .istore_n 1, 1), (2, .iload_n 1, 1), (3, .aload_n 0, 1), (4, .getfield 551, 3), (7, .if_icmp .ge 16, 3), (10, .aload_n 0, 1), (11, .getfield 163, 3), (14, .iload_n 1, 1), (15, .iconst 0, 1), (16, .bastore, 1), (17, .iinc 1 1, 3), (20, .goto (-18), 3), (23, .aload_n 0, 1), (24, .iconst 0, 1), (25, .putfield 548, 3), (28, .iconst 0, 1), (29, .istore_n 1, 1), (30, .iload_n 1, 1), (31, .aload_n 0, 1), (32, .getfield 554, 3), (35, .if_icmp .ge 68, 3), (38, .aload_n 0, 1), (39, .aload_n 0, 1), (40, .getfield 178, 3), (43, .iload_n 1, 1), (44, .iaload, 1), (45, .invokevirtual 557, 3), (48, .aload_n 0, 1), (49, .getfield 181, 3), (52, .iload_n 1, 1), (53, .iaload, 1), (54, .istore_n 2, 1), (55, .iload_n 2, 1), (56, .aload_n 0, 1), (57, .getfield 181, 3), (60, .iload_n 1, 1), (61, .iaload, 1), (62, .aload_n 0, 1), (63, .getfield 184, 3), (66, .iload_n 1, 1), (67, .iaload, 1), (68, .iadd, 1), (69, .if_icmp .ge 28, 3), (72, .aload_n 0, 1), (73, .getfield 194, 3), (76, .iload_n 2, 1), (77, .baload, 1), (78, .ifCond .eq 13, 3), (81, .aload_n 0, 1), (82, .aload_n 0, 1), (83, .getfield 191, 3), (86, .iload_n 2, 1), (87, .iaload, 1), (88, .invokevirtual 557, 3), (91, .iinc 2 1, 3), (94, .goto (-39), 3), (97, .iinc 1 1, 3), (100, .goto (-70), 3), (103, .iconst 0, 1), (104, .istore_n 1, 1), (105, .iload_n 1, 1), (106, .aload_n 0, 1), (107, .getfield 560, 3), (110, .if_icmp .ge 28, 3), (113, .aload_n 0, 1), (114, .getfield 201, 3), (117, .iload_n 1, 1), (118, .baload, 1), (119, .ifCond .eq 13, 3), (122, .aload_n 0, 1), (123, .aload_n 0, 1), (124, .getfield 198, 3), (127, .iload_n 1, 1), (128, .iaload, 1), (129, .invokevirtual 557, 3), (132, .iinc 1 1, 3), (135, .goto (-30), 3), (138, .iconst 0, 1), (139, .istore_n 1, 1), (140, .aload_n 0, 1), (141, .getfield 548, 3), (144, .ifCond .le 95, 3), (147, .aload_n 0, 1), (148, .dup, 1), (149, .getfield 548, 3), (152, .iconst 1, 1), (153, .isub, 1), (154, .putfield 548, 3), (157, .aload_n 0, 1), (158, .getfield 169, 3), (161, .aload_n 0, 1), (162, .getfield 548, 3), (165, .iaload, 1), (166, .istore_n 2, 1), (167, .iload_n 1, 1), (168, .iload_n 2, 1), (169, .iconst 5, 1), (170, .if_icmp .ge 7, 3), (173, .iconst 0, 1), (174, .goto 11, 3), (177, .iconst 2, 1), (178, .aload_n 0, 1), (179, .getfield 160, 3), (182, .iload_n 2, 1), (183, .iaload, 1), (184, .iadd, 1), (185, .iadd, 1), (186, .istore_n 1, 1), (187, .aload_n 0, 1), (188, .getfield 157, 3), (191, .iload_n 2, 1), (192, .iaload, 1), (193, .istore_n 3, 1), (194, .iload_n 3, 1), (195, .aload_n 0, 1), (196, .getfield 157, 3), (199, .iload_n 2, 1), (200, .iaload, 1), (201, .aload_n 0, 1), (202, .getfield 160, 3), (205, .iload_n 2, 1), (206, .iaload, 1), (207, .iadd, 1), (208, .if_icmp .ge 28, 3), (211, .aload_n 0, 1), (212, .getfield 175, 3), (215, .iload_n 3, 1), (216, .baload, 1), (217, .ifCond .eq 13, 3), (220, .aload_n 0, 1), (221, .aload_n 0, 1), (222, .getfield 172, 3), (225, .iload_n 3, 1), (226, .iaload, 1), (227, .invokevirtual 557, 3), (230, .iinc 3 1, 3), (233, .goto (-39), 3), (236, .goto (-96), 3), (239, .iload_n 1, 1), (240, .ireturn, 1)]
theorem dX12_marked : dChk (pCd 10004) eX12_marked = true := by decide +kernel
def fX12_marked_230 (N : Nat) (k140 : Nat → Int32 → pH → Option (Int32 × pH)) (k194 : Nat → Int32 → Int32 → Int32 → pH → Option (Int32 × pH)) (v0 : Nat) (v1 : Int32) (v2 : Int32) (v3 : Int32) (h : pH) : Option (Int32 × pH) :=
  k194 v0 v1 v2 (v3 + (1 : Int32)) h
theorem lX12_marked_230 (X : pX) (N d : Nat)  (k140 : Nat → Int32 → pH → Option (Int32 × pH)) (K140 : ∀ (w0 : Nat) (w1 : Int32) (h : pH) (q : Int32 × pH), k140 w0 w1 h = some q → ¬ w0 = 4 → Run X (d + 1) 12 false (pCd 10004) 4 (some .int) 140 [(0, .ref w0), (1, .int w1)] [] h 0 0 (some (.int q.1), q.2, 0, 0)) (k194 : Nat → Int32 → Int32 → Int32 → pH → Option (Int32 × pH)) (K194 : ∀ (w0 : Nat) (w1 : Int32) (w2 : Int32) (w3 : Int32) (h : pH) (q : Int32 × pH), k194 w0 w1 w2 w3 h = some q → ¬ w0 = 4 → Run X (d + 1) 12 false (pCd 10004) 4 (some .int) 194 [(0, .ref w0), (1, .int w1), (2, .int w2), (3, .int w3)] [] h 0 0 (some (.int q.1), q.2, 0, 0)) (v0 : Nat) (v1 : Int32) (v2 : Int32) (v3 : Int32) (h : pH) (q : Int32 × pH) (hf : fX12_marked_230 N k140 k194 v0 v1 v2 v3 h = some q) (nv0 : ¬ v0 = 4) : Run X (d + 1) 12 false (pCd 10004) 4 (some .int) 230 [(0, .ref v0), (1, .int v1), (2, .int v2), (3, .int v3)] [] h 0 0 (some (.int q.1), q.2, 0, 0) := by
  unfold fX12_marked_230 at hf
  refine r_iinc (lv' := [(3, .int (v3 + (1 : Int32))), (0, .ref v0), (1, .int v1), (2, .int v2)]) (dGet dX12_marked (j := 136) rfl) rfl (by decide) kI_1 rfl ?_
  refine r_goto (dGet dX12_marked (j := 137) rfl) rfl ?_
  refine Run.weak [(0, .ref v0), (1, .int v1), (2, .int v2), (3, .int (v3 + (1 : Int32)))] (by simp) (by simp [pNd]) ?_
  exact K194 v0 v1 v2 (v3 + (1 : Int32)) h q hf nv0
def fX12_marked_194 (N : Nat) (k140 : Nat → Int32 → pH → Option (Int32 × pH)) : Nat → Nat → Int32 → Int32 → Int32 → pH → Option (Int32 × pH)
  | 0, _, _, _, _, _ => none
  | n + 1, v0, v1, v2, v3, h => (getR h v0 12 84).bind fun t1 =>
  (ldI h t1 v2).bind fun t2 =>
  (getR h v0 12 85).bind fun t3 =>
  (ldI h t3 v2).bind fun t4 =>
  if (t2 + t4) ≤ v3 then (
  k140 v0 v1 h) else (
  (getR h v0 12 92).bind fun t6 =>
  (ldZ h t6 v3).bind fun t7 =>
  if t7 = 0 then (
  fX12_marked_230 N k140 (fX12_marked_194 N k140 n) v0 v1 v2 v3 h) else (
  (getR h v0 12 91).bind fun t9 =>
  (ldI h t9 v3).bind fun t10 =>
  (fX12_reach N v0 t10 h).bind fun h11 =>
  fX12_marked_230 N k140 (fX12_marked_194 N k140 n) v0 v1 v2 v3 h11))
theorem lX12_marked_194 (X : pX) (N d : Nat)  (k140 : Nat → Int32 → pH → Option (Int32 × pH)) (K140 : ∀ (w0 : Nat) (w1 : Int32) (h : pH) (q : Int32 × pH), k140 w0 w1 h = some q → ¬ w0 = 4 → Run X (d + 1) 12 false (pCd 10004) 4 (some .int) 140 [(0, .ref w0), (1, .int w1)] [] h 0 0 (some (.int q.1), q.2, 0, 0)) : ∀ (n : Nat) (v0 : Nat) (v1 : Int32) (v2 : Int32) (v3 : Int32) (h : pH) (q : Int32 × pH), fX12_marked_194 N k140 n v0 v1 v2 v3 h = some q → ¬ v0 = 4 → Run X (d + 1) 12 false (pCd 10004) 4 (some .int) 194 [(0, .ref v0), (1, .int v1), (2, .int v2), (3, .int v3)] [] h 0 0 (some (.int q.1), q.2, 0, 0) := by
  intro n
  induction n with
  | zero => intro v0 v1 v2 v3 h q hf; cases hf
  | succ n ih =>
    intro v0 v1 v2 v3 h q hf nv0
    unfold fX12_marked_194 at hf
    refine r_iload_n (dGet dX12_marked (j := 114) rfl) rfl ?_
    refine r_aload_n (dGet dX12_marked (j := 115) rfl) nv0 rfl ?_
    obtain ⟨t1, et1, hf⟩ := Option.bind_eq_some_iff.mp hf
    refine r_getR (dGet dX12_marked (j := 116) rfl) F12_157 et1 ?_
    refine r_iload_n (dGet dX12_marked (j := 117) rfl) rfl ?_
    obtain ⟨t2, et2, hf⟩ := Option.bind_eq_some_iff.mp hf
    refine r_iald (dGet dX12_marked (j := 118) rfl) et2 ?_
    refine r_aload_n (dGet dX12_marked (j := 119) rfl) nv0 rfl ?_
    obtain ⟨t3, et3, hf⟩ := Option.bind_eq_some_iff.mp hf
    refine r_getR (dGet dX12_marked (j := 120) rfl) F12_160 et3 ?_
    refine r_iload_n (dGet dX12_marked (j := 121) rfl) rfl ?_
    obtain ⟨t4, et4, hf⟩ := Option.bind_eq_some_iff.mp hf
    refine r_iald (dGet dX12_marked (j := 122) rfl) et4 ?_
    refine r_iadd (dGet dX12_marked (j := 123) rfl) ?_
    by_cases c5 : (t2 + t4) ≤ v3
    · rw [if_pos c5] at hf
      refine r_icmp_ge_t (dGet dX12_marked (j := 124) rfl) rfl c5 ?_
      refine r_goto (dGet dX12_marked (j := 138) rfl) rfl ?_
      refine Run.weak [(0, .ref v0), (1, .int v1)] (by simp) (by simp [pNd]) ?_
      exact K140 v0 v1 h q hf nv0
    · rw [if_neg c5] at hf
      refine r_icmp_ge_f (dGet dX12_marked (j := 124) rfl) rfl c5 ?_
      refine r_aload_n (dGet dX12_marked (j := 125) rfl) nv0 rfl ?_
      obtain ⟨t6, et6, hf⟩ := Option.bind_eq_some_iff.mp hf
      refine r_getR (dGet dX12_marked (j := 126) rfl) F12_175 et6 ?_
      refine r_iload_n (dGet dX12_marked (j := 127) rfl) rfl ?_
      obtain ⟨t7, et7, hf⟩ := Option.bind_eq_some_iff.mp hf
      refine r_zald (dGet dX12_marked (j := 128) rfl) et7 ?_
      by_cases c8 : t7 = 0
      · rw [if_pos c8] at hf
        refine r_if_eq_t (dGet dX12_marked (j := 129) rfl) rfl c8 ?_
        exact lX12_marked_230 X N d k140 K140 (fX12_marked_194 N k140 n) ih v0 v1 v2 v3 h q hf nv0
      · rw [if_neg c8] at hf
        refine r_if_eq_f (dGet dX12_marked (j := 129) rfl) rfl c8 ?_
        refine r_aload_n (dGet dX12_marked (j := 130) rfl) nv0 rfl ?_
        refine r_aload_n (dGet dX12_marked (j := 131) rfl) nv0 rfl ?_
        obtain ⟨t9, et9, hf⟩ := Option.bind_eq_some_iff.mp hf
        refine r_getR (dGet dX12_marked (j := 132) rfl) F12_172 et9 ?_
        refine r_iload_n (dGet dX12_marked (j := 133) rfl) rfl ?_
        obtain ⟨t10, et10, hf⟩ := Option.bind_eq_some_iff.mp hf
        refine r_iald (dGet dX12_marked (j := 134) rfl) et10 ?_
        obtain ⟨h11, eh11, hf⟩ := Option.bind_eq_some_iff.mp hf
        refine r_virtual (dGet dX12_marked (j := 135) rfl) L12_557 M325 rfl rfl (Nat.le_of_ble_eq_true rfl) (oX12_reach eh11) (cX12_reach X N (d + 0) v0 t10 h h11 eh11) ?_
        exact lX12_marked_230 X N d k140 K140 (fX12_marked_194 N k140 n) ih v0 v1 v2 v3 h11 q hf nv0
def fX12_marked_185 (N : Nat) (k140 : Nat → Int32 → pH → Option (Int32 × pH)) (v0 : Nat) (v2 : Int32) (s0 : Int32) (s1 : Int32) (h : pH) : Option (Int32 × pH) :=
  (getR h v0 12 84).bind fun t12 =>
  (ldI h t12 v2).bind fun t13 =>
  fX12_marked_194 N k140 N v0 (s0 + s1) v2 t13 h
theorem lX12_marked_185 (X : pX) (N d : Nat)  (k140 : Nat → Int32 → pH → Option (Int32 × pH)) (K140 : ∀ (w0 : Nat) (w1 : Int32) (h : pH) (q : Int32 × pH), k140 w0 w1 h = some q → ¬ w0 = 4 → Run X (d + 1) 12 false (pCd 10004) 4 (some .int) 140 [(0, .ref w0), (1, .int w1)] [] h 0 0 (some (.int q.1), q.2, 0, 0)) (v0 : Nat) (v2 : Int32) (s0 : Int32) (s1 : Int32) (h : pH) (q : Int32 × pH) (hf : fX12_marked_185 N k140 v0 v2 s0 s1 h = some q) (nv0 : ¬ v0 = 4) : Run X (d + 1) 12 false (pCd 10004) 4 (some .int) 185 [(0, .ref v0), (2, .int v2)] [.int s1, .int s0] h 0 0 (some (.int q.1), q.2, 0, 0) := by
  unfold fX12_marked_185 at hf
  refine r_iadd (dGet dX12_marked (j := 107) rfl) ?_
  refine r_istore_n (lv' := [(1, .int (s0 + s1)), (0, .ref v0), (2, .int v2)]) (dGet dX12_marked (j := 108) rfl) (by decide) rfl ?_
  refine r_aload_n (dGet dX12_marked (j := 109) rfl) nv0 rfl ?_
  obtain ⟨t12, et12, hf⟩ := Option.bind_eq_some_iff.mp hf
  refine r_getR (dGet dX12_marked (j := 110) rfl) F12_157 et12 ?_
  refine r_iload_n (dGet dX12_marked (j := 111) rfl) rfl ?_
  obtain ⟨t13, et13, hf⟩ := Option.bind_eq_some_iff.mp hf
  refine r_iald (dGet dX12_marked (j := 112) rfl) et13 ?_
  refine r_istore_n (lv' := [(3, .int t13), (1, .int (s0 + s1)), (0, .ref v0), (2, .int v2)]) (dGet dX12_marked (j := 113) rfl) (by decide) rfl ?_
  refine Run.weak [(0, .ref v0), (1, .int (s0 + s1)), (2, .int v2), (3, .int t13)] (by simp) (by simp [pNd]) ?_
  exact lX12_marked_194 X N d k140 K140 N v0 (s0 + s1) v2 t13 h q hf nv0
def fX12_marked_140 (N : Nat) : Nat → Nat → Int32 → pH → Option (Int32 × pH)
  | 0, _, _, _ => none
  | n + 1, v0, v1, h => (getI h v0 12 89).bind fun t14 =>
  if t14 ≤ 0 then (
  some (v1, h)) else (
  (getI h v0 12 89).bind fun t16 =>
  (putI h v0 12 89 (t16 - (1 : Int32))).bind fun h17 =>
  (getR h17 v0 12 88).bind fun t18 =>
  (getI h17 v0 12 89).bind fun t19 =>
  (ldI h17 t18 t19).bind fun t20 =>
  if (5 : Int32) ≤ t20 then (
  (getR h17 v0 12 85).bind fun t22 =>
  (ldI h17 t22 t20).bind fun t23 =>
  fX12_marked_185 N (fX12_marked_140 N n) v0 t20 v1 ((2 : Int32) + t23) h17) else (
  fX12_marked_185 N (fX12_marked_140 N n) v0 t20 v1 (0 : Int32) h17))
theorem lX12_marked_140 (X : pX) (N d : Nat)  : ∀ (n : Nat) (v0 : Nat) (v1 : Int32) (h : pH) (q : Int32 × pH), fX12_marked_140 N n v0 v1 h = some q → ¬ v0 = 4 → Run X (d + 1) 12 false (pCd 10004) 4 (some .int) 140 [(0, .ref v0), (1, .int v1)] [] h 0 0 (some (.int q.1), q.2, 0, 0) := by
  intro n
  induction n with
  | zero => intro v0 v1 h q hf; cases hf
  | succ n ih =>
    intro v0 v1 h q hf nv0
    unfold fX12_marked_140 at hf
    refine r_aload_n (dGet dX12_marked (j := 80) rfl) nv0 rfl ?_
    obtain ⟨t14, et14, hf⟩ := Option.bind_eq_some_iff.mp hf
    refine r_getI (dGet dX12_marked (j := 81) rfl) F12_548 et14 ?_
    by_cases c15 : t14 ≤ 0
    · rw [if_pos c15] at hf
      refine r_if_le_t (dGet dX12_marked (j := 82) rfl) rfl c15 ?_
      refine r_iload_n (dGet dX12_marked (j := 139) rfl) rfl ?_
      have hq := Option.some.inj hf
      subst hq
      exact r_iret (dGet dX12_marked (j := 140) rfl) rfl rfl
    · rw [if_neg c15] at hf
      refine r_if_le_f (dGet dX12_marked (j := 82) rfl) rfl c15 ?_
      refine r_aload_n (dGet dX12_marked (j := 83) rfl) nv0 rfl ?_
      refine r_dup (dGet dX12_marked (j := 84) rfl) rfl ?_
      obtain ⟨t16, et16, hf⟩ := Option.bind_eq_some_iff.mp hf
      refine r_getI (dGet dX12_marked (j := 85) rfl) F12_548 et16 ?_
      refine r_iconst (dGet dX12_marked (j := 86) rfl) kI_1 ?_
      refine r_isub (dGet dX12_marked (j := 87) rfl) ?_
      obtain ⟨h17, eh17, hf⟩ := Option.bind_eq_some_iff.mp hf
      refine r_putI (dGet dX12_marked (j := 88) rfl) F12_548 rfl rfl eh17 ?_
      refine r_aload_n (dGet dX12_marked (j := 89) rfl) nv0 rfl ?_
      obtain ⟨t18, et18, hf⟩ := Option.bind_eq_some_iff.mp hf
      refine r_getR (dGet dX12_marked (j := 90) rfl) F12_169 et18 ?_
      refine r_aload_n (dGet dX12_marked (j := 91) rfl) nv0 rfl ?_
      obtain ⟨t19, et19, hf⟩ := Option.bind_eq_some_iff.mp hf
      refine r_getI (dGet dX12_marked (j := 92) rfl) F12_548 et19 ?_
      obtain ⟨t20, et20, hf⟩ := Option.bind_eq_some_iff.mp hf
      refine r_iald (dGet dX12_marked (j := 93) rfl) et20 ?_
      refine r_istore_n (lv' := [(2, .int t20), (0, .ref v0), (1, .int v1)]) (dGet dX12_marked (j := 94) rfl) (by decide) rfl ?_
      refine r_iload_n (dGet dX12_marked (j := 95) rfl) rfl ?_
      refine r_iload_n (dGet dX12_marked (j := 96) rfl) rfl ?_
      refine r_iconst (dGet dX12_marked (j := 97) rfl) kI_5 ?_
      by_cases c21 : (5 : Int32) ≤ t20
      · rw [if_pos c21] at hf
        refine r_icmp_ge_t (dGet dX12_marked (j := 98) rfl) rfl c21 ?_
        refine r_iconst (dGet dX12_marked (j := 101) rfl) kI_2 ?_
        refine r_aload_n (dGet dX12_marked (j := 102) rfl) nv0 rfl ?_
        obtain ⟨t22, et22, hf⟩ := Option.bind_eq_some_iff.mp hf
        refine r_getR (dGet dX12_marked (j := 103) rfl) F12_160 et22 ?_
        refine r_iload_n (dGet dX12_marked (j := 104) rfl) rfl ?_
        obtain ⟨t23, et23, hf⟩ := Option.bind_eq_some_iff.mp hf
        refine r_iald (dGet dX12_marked (j := 105) rfl) et23 ?_
        refine r_iadd (dGet dX12_marked (j := 106) rfl) ?_
        refine Run.weak [(0, .ref v0), (2, .int t20)] (by simp) (by simp [pNd]) ?_
        exact lX12_marked_185 X N d (fX12_marked_140 N n) ih v0 t20 v1 ((2 : Int32) + t23) h17 q hf nv0
      · rw [if_neg c21] at hf
        refine r_icmp_ge_f (dGet dX12_marked (j := 98) rfl) rfl c21 ?_
        refine r_iconst (dGet dX12_marked (j := 99) rfl) kI_0 ?_
        refine r_goto (dGet dX12_marked (j := 100) rfl) rfl ?_
        refine Run.weak [(0, .ref v0), (2, .int t20)] (by simp) (by simp [pNd]) ?_
        exact lX12_marked_185 X N d (fX12_marked_140 N n) ih v0 t20 v1 (0 : Int32) h17 q hf nv0
def fX12_marked_132 (N : Nat) (k105 : Nat → Int32 → pH → Option (Int32 × pH)) (v0 : Nat) (v1 : Int32) (h : pH) : Option (Int32 × pH) :=
  k105 v0 (v1 + (1 : Int32)) h
theorem lX12_marked_132 (X : pX) (N d : Nat)  (k105 : Nat → Int32 → pH → Option (Int32 × pH)) (K105 : ∀ (w0 : Nat) (w1 : Int32) (h : pH) (q : Int32 × pH), k105 w0 w1 h = some q → ¬ w0 = 4 → Run X (d + 1) 12 false (pCd 10004) 4 (some .int) 105 [(0, .ref w0), (1, .int w1)] [] h 0 0 (some (.int q.1), q.2, 0, 0)) (v0 : Nat) (v1 : Int32) (h : pH) (q : Int32 × pH) (hf : fX12_marked_132 N k105 v0 v1 h = some q) (nv0 : ¬ v0 = 4) : Run X (d + 1) 12 false (pCd 10004) 4 (some .int) 132 [(0, .ref v0), (1, .int v1)] [] h 0 0 (some (.int q.1), q.2, 0, 0) := by
  unfold fX12_marked_132 at hf
  refine r_iinc (lv' := [(1, .int (v1 + (1 : Int32))), (0, .ref v0)]) (dGet dX12_marked (j := 76) rfl) rfl (by decide) kI_1 rfl ?_
  refine r_goto (dGet dX12_marked (j := 77) rfl) rfl ?_
  refine Run.weak [(0, .ref v0), (1, .int (v1 + (1 : Int32)))] (by simp) (by simp [pNd]) ?_
  exact K105 v0 (v1 + (1 : Int32)) h q hf nv0
def fX12_marked_105 (N : Nat) : Nat → Nat → Int32 → pH → Option (Int32 × pH)
  | 0, _, _, _ => none
  | n + 1, v0, v1, h => (getI h v0 12 100).bind fun t24 =>
  if t24 ≤ v1 then (
  fX12_marked_140 N N v0 (0 : Int32) h) else (
  (getR h v0 12 102).bind fun t26 =>
  (ldZ h t26 v1).bind fun t27 =>
  if t27 = 0 then (
  fX12_marked_132 N (fX12_marked_105 N n) v0 v1 h) else (
  (getR h v0 12 101).bind fun t29 =>
  (ldI h t29 v1).bind fun t30 =>
  (fX12_reach N v0 t30 h).bind fun h31 =>
  fX12_marked_132 N (fX12_marked_105 N n) v0 v1 h31))
theorem lX12_marked_105 (X : pX) (N d : Nat)  : ∀ (n : Nat) (v0 : Nat) (v1 : Int32) (h : pH) (q : Int32 × pH), fX12_marked_105 N n v0 v1 h = some q → ¬ v0 = 4 → Run X (d + 1) 12 false (pCd 10004) 4 (some .int) 105 [(0, .ref v0), (1, .int v1)] [] h 0 0 (some (.int q.1), q.2, 0, 0) := by
  intro n
  induction n with
  | zero => intro v0 v1 h q hf; cases hf
  | succ n ih =>
    intro v0 v1 h q hf nv0
    unfold fX12_marked_105 at hf
    refine r_iload_n (dGet dX12_marked (j := 61) rfl) rfl ?_
    refine r_aload_n (dGet dX12_marked (j := 62) rfl) nv0 rfl ?_
    obtain ⟨t24, et24, hf⟩ := Option.bind_eq_some_iff.mp hf
    refine r_getI (dGet dX12_marked (j := 63) rfl) F12_560 et24 ?_
    by_cases c25 : t24 ≤ v1
    · rw [if_pos c25] at hf
      refine r_icmp_ge_t (dGet dX12_marked (j := 64) rfl) rfl c25 ?_
      refine r_iconst (dGet dX12_marked (j := 78) rfl) kI_0 ?_
      refine r_istore_n (lv' := [(1, .int (0 : Int32)), (0, .ref v0)]) (dGet dX12_marked (j := 79) rfl) (by decide) rfl ?_
      refine Run.weak [(0, .ref v0), (1, .int (0 : Int32))] (by simp) (by simp [pNd]) ?_
      exact lX12_marked_140 X N d N v0 (0 : Int32) h q hf nv0
    · rw [if_neg c25] at hf
      refine r_icmp_ge_f (dGet dX12_marked (j := 64) rfl) rfl c25 ?_
      refine r_aload_n (dGet dX12_marked (j := 65) rfl) nv0 rfl ?_
      obtain ⟨t26, et26, hf⟩ := Option.bind_eq_some_iff.mp hf
      refine r_getR (dGet dX12_marked (j := 66) rfl) F12_201 et26 ?_
      refine r_iload_n (dGet dX12_marked (j := 67) rfl) rfl ?_
      obtain ⟨t27, et27, hf⟩ := Option.bind_eq_some_iff.mp hf
      refine r_zald (dGet dX12_marked (j := 68) rfl) et27 ?_
      by_cases c28 : t27 = 0
      · rw [if_pos c28] at hf
        refine r_if_eq_t (dGet dX12_marked (j := 69) rfl) rfl c28 ?_
        exact lX12_marked_132 X N d (fX12_marked_105 N n) ih v0 v1 h q hf nv0
      · rw [if_neg c28] at hf
        refine r_if_eq_f (dGet dX12_marked (j := 69) rfl) rfl c28 ?_
        refine r_aload_n (dGet dX12_marked (j := 70) rfl) nv0 rfl ?_
        refine r_aload_n (dGet dX12_marked (j := 71) rfl) nv0 rfl ?_
        obtain ⟨t29, et29, hf⟩ := Option.bind_eq_some_iff.mp hf
        refine r_getR (dGet dX12_marked (j := 72) rfl) F12_198 et29 ?_
        refine r_iload_n (dGet dX12_marked (j := 73) rfl) rfl ?_
        obtain ⟨t30, et30, hf⟩ := Option.bind_eq_some_iff.mp hf
        refine r_iald (dGet dX12_marked (j := 74) rfl) et30 ?_
        obtain ⟨h31, eh31, hf⟩ := Option.bind_eq_some_iff.mp hf
        refine r_virtual (dGet dX12_marked (j := 75) rfl) L12_557 M325 rfl rfl (Nat.le_of_ble_eq_true rfl) (oX12_reach eh31) (cX12_reach X N (d + 0) v0 t30 h h31 eh31) ?_
        exact lX12_marked_132 X N d (fX12_marked_105 N n) ih v0 v1 h31 q hf nv0
def fX12_marked_91 (N : Nat) (k30 : Nat → Int32 → pH → Option (Int32 × pH)) (k55 : Nat → Int32 → Int32 → pH → Option (Int32 × pH)) (v0 : Nat) (v1 : Int32) (v2 : Int32) (h : pH) : Option (Int32 × pH) :=
  k55 v0 v1 (v2 + (1 : Int32)) h
theorem lX12_marked_91 (X : pX) (N d : Nat)  (k30 : Nat → Int32 → pH → Option (Int32 × pH)) (K30 : ∀ (w0 : Nat) (w1 : Int32) (h : pH) (q : Int32 × pH), k30 w0 w1 h = some q → ¬ w0 = 4 → Run X (d + 1) 12 false (pCd 10004) 4 (some .int) 30 [(0, .ref w0), (1, .int w1)] [] h 0 0 (some (.int q.1), q.2, 0, 0)) (k55 : Nat → Int32 → Int32 → pH → Option (Int32 × pH)) (K55 : ∀ (w0 : Nat) (w1 : Int32) (w2 : Int32) (h : pH) (q : Int32 × pH), k55 w0 w1 w2 h = some q → ¬ w0 = 4 → Run X (d + 1) 12 false (pCd 10004) 4 (some .int) 55 [(0, .ref w0), (1, .int w1), (2, .int w2)] [] h 0 0 (some (.int q.1), q.2, 0, 0)) (v0 : Nat) (v1 : Int32) (v2 : Int32) (h : pH) (q : Int32 × pH) (hf : fX12_marked_91 N k30 k55 v0 v1 v2 h = some q) (nv0 : ¬ v0 = 4) : Run X (d + 1) 12 false (pCd 10004) 4 (some .int) 91 [(0, .ref v0), (1, .int v1), (2, .int v2)] [] h 0 0 (some (.int q.1), q.2, 0, 0) := by
  unfold fX12_marked_91 at hf
  refine r_iinc (lv' := [(2, .int (v2 + (1 : Int32))), (0, .ref v0), (1, .int v1)]) (dGet dX12_marked (j := 55) rfl) rfl (by decide) kI_1 rfl ?_
  refine r_goto (dGet dX12_marked (j := 56) rfl) rfl ?_
  refine Run.weak [(0, .ref v0), (1, .int v1), (2, .int (v2 + (1 : Int32)))] (by simp) (by simp [pNd]) ?_
  exact K55 v0 v1 (v2 + (1 : Int32)) h q hf nv0
def fX12_marked_55 (N : Nat) (k30 : Nat → Int32 → pH → Option (Int32 × pH)) : Nat → Nat → Int32 → Int32 → pH → Option (Int32 × pH)
  | 0, _, _, _, _ => none
  | n + 1, v0, v1, v2, h => (getR h v0 12 95).bind fun t32 =>
  (ldI h t32 v1).bind fun t33 =>
  (getR h v0 12 96).bind fun t34 =>
  (ldI h t34 v1).bind fun t35 =>
  if (t33 + t35) ≤ v2 then (
  k30 v0 (v1 + (1 : Int32)) h) else (
  (getR h v0 12 99).bind fun t37 =>
  (ldZ h t37 v2).bind fun t38 =>
  if t38 = 0 then (
  fX12_marked_91 N k30 (fX12_marked_55 N k30 n) v0 v1 v2 h) else (
  (getR h v0 12 98).bind fun t40 =>
  (ldI h t40 v2).bind fun t41 =>
  (fX12_reach N v0 t41 h).bind fun h42 =>
  fX12_marked_91 N k30 (fX12_marked_55 N k30 n) v0 v1 v2 h42))
theorem lX12_marked_55 (X : pX) (N d : Nat)  (k30 : Nat → Int32 → pH → Option (Int32 × pH)) (K30 : ∀ (w0 : Nat) (w1 : Int32) (h : pH) (q : Int32 × pH), k30 w0 w1 h = some q → ¬ w0 = 4 → Run X (d + 1) 12 false (pCd 10004) 4 (some .int) 30 [(0, .ref w0), (1, .int w1)] [] h 0 0 (some (.int q.1), q.2, 0, 0)) : ∀ (n : Nat) (v0 : Nat) (v1 : Int32) (v2 : Int32) (h : pH) (q : Int32 × pH), fX12_marked_55 N k30 n v0 v1 v2 h = some q → ¬ v0 = 4 → Run X (d + 1) 12 false (pCd 10004) 4 (some .int) 55 [(0, .ref v0), (1, .int v1), (2, .int v2)] [] h 0 0 (some (.int q.1), q.2, 0, 0) := by
  intro n
  induction n with
  | zero => intro v0 v1 v2 h q hf; cases hf
  | succ n ih =>
    intro v0 v1 v2 h q hf nv0
    unfold fX12_marked_55 at hf
    refine r_iload_n (dGet dX12_marked (j := 33) rfl) rfl ?_
    refine r_aload_n (dGet dX12_marked (j := 34) rfl) nv0 rfl ?_
    obtain ⟨t32, et32, hf⟩ := Option.bind_eq_some_iff.mp hf
    refine r_getR (dGet dX12_marked (j := 35) rfl) F12_181 et32 ?_
    refine r_iload_n (dGet dX12_marked (j := 36) rfl) rfl ?_
    obtain ⟨t33, et33, hf⟩ := Option.bind_eq_some_iff.mp hf
    refine r_iald (dGet dX12_marked (j := 37) rfl) et33 ?_
    refine r_aload_n (dGet dX12_marked (j := 38) rfl) nv0 rfl ?_
    obtain ⟨t34, et34, hf⟩ := Option.bind_eq_some_iff.mp hf
    refine r_getR (dGet dX12_marked (j := 39) rfl) F12_184 et34 ?_
    refine r_iload_n (dGet dX12_marked (j := 40) rfl) rfl ?_
    obtain ⟨t35, et35, hf⟩ := Option.bind_eq_some_iff.mp hf
    refine r_iald (dGet dX12_marked (j := 41) rfl) et35 ?_
    refine r_iadd (dGet dX12_marked (j := 42) rfl) ?_
    by_cases c36 : (t33 + t35) ≤ v2
    · rw [if_pos c36] at hf
      refine r_icmp_ge_t (dGet dX12_marked (j := 43) rfl) rfl c36 ?_
      refine r_iinc (lv' := [(1, .int (v1 + (1 : Int32))), (0, .ref v0), (2, .int v2)]) (dGet dX12_marked (j := 57) rfl) rfl (by decide) kI_1 rfl ?_
      refine r_goto (dGet dX12_marked (j := 58) rfl) rfl ?_
      refine Run.weak [(0, .ref v0), (1, .int (v1 + (1 : Int32)))] (by simp) (by simp [pNd]) ?_
      exact K30 v0 (v1 + (1 : Int32)) h q hf nv0
    · rw [if_neg c36] at hf
      refine r_icmp_ge_f (dGet dX12_marked (j := 43) rfl) rfl c36 ?_
      refine r_aload_n (dGet dX12_marked (j := 44) rfl) nv0 rfl ?_
      obtain ⟨t37, et37, hf⟩ := Option.bind_eq_some_iff.mp hf
      refine r_getR (dGet dX12_marked (j := 45) rfl) F12_194 et37 ?_
      refine r_iload_n (dGet dX12_marked (j := 46) rfl) rfl ?_
      obtain ⟨t38, et38, hf⟩ := Option.bind_eq_some_iff.mp hf
      refine r_zald (dGet dX12_marked (j := 47) rfl) et38 ?_
      by_cases c39 : t38 = 0
      · rw [if_pos c39] at hf
        refine r_if_eq_t (dGet dX12_marked (j := 48) rfl) rfl c39 ?_
        exact lX12_marked_91 X N d k30 K30 (fX12_marked_55 N k30 n) ih v0 v1 v2 h q hf nv0
      · rw [if_neg c39] at hf
        refine r_if_eq_f (dGet dX12_marked (j := 48) rfl) rfl c39 ?_
        refine r_aload_n (dGet dX12_marked (j := 49) rfl) nv0 rfl ?_
        refine r_aload_n (dGet dX12_marked (j := 50) rfl) nv0 rfl ?_
        obtain ⟨t40, et40, hf⟩ := Option.bind_eq_some_iff.mp hf
        refine r_getR (dGet dX12_marked (j := 51) rfl) F12_191 et40 ?_
        refine r_iload_n (dGet dX12_marked (j := 52) rfl) rfl ?_
        obtain ⟨t41, et41, hf⟩ := Option.bind_eq_some_iff.mp hf
        refine r_iald (dGet dX12_marked (j := 53) rfl) et41 ?_
        obtain ⟨h42, eh42, hf⟩ := Option.bind_eq_some_iff.mp hf
        refine r_virtual (dGet dX12_marked (j := 54) rfl) L12_557 M325 rfl rfl (Nat.le_of_ble_eq_true rfl) (oX12_reach eh42) (cX12_reach X N (d + 0) v0 t41 h h42 eh42) ?_
        exact lX12_marked_91 X N d k30 K30 (fX12_marked_55 N k30 n) ih v0 v1 v2 h42 q hf nv0
def fX12_marked_30 (N : Nat) : Nat → Nat → Int32 → pH → Option (Int32 × pH)
  | 0, _, _, _ => none
  | n + 1, v0, v1, h => (getI h v0 12 93).bind fun t43 =>
  if t43 ≤ v1 then (
  fX12_marked_105 N N v0 (0 : Int32) h) else (
  (getR h v0 12 94).bind fun t45 =>
  (ldI h t45 v1).bind fun t46 =>
  (fX12_reach N v0 t46 h).bind fun h47 =>
  (getR h47 v0 12 95).bind fun t48 =>
  (ldI h47 t48 v1).bind fun t49 =>
  fX12_marked_55 N (fX12_marked_30 N n) N v0 v1 t49 h47)
theorem lX12_marked_30 (X : pX) (N d : Nat)  : ∀ (n : Nat) (v0 : Nat) (v1 : Int32) (h : pH) (q : Int32 × pH), fX12_marked_30 N n v0 v1 h = some q → ¬ v0 = 4 → Run X (d + 1) 12 false (pCd 10004) 4 (some .int) 30 [(0, .ref v0), (1, .int v1)] [] h 0 0 (some (.int q.1), q.2, 0, 0) := by
  intro n
  induction n with
  | zero => intro v0 v1 h q hf; cases hf
  | succ n ih =>
    intro v0 v1 h q hf nv0
    unfold fX12_marked_30 at hf
    refine r_iload_n (dGet dX12_marked (j := 18) rfl) rfl ?_
    refine r_aload_n (dGet dX12_marked (j := 19) rfl) nv0 rfl ?_
    obtain ⟨t43, et43, hf⟩ := Option.bind_eq_some_iff.mp hf
    refine r_getI (dGet dX12_marked (j := 20) rfl) F12_554 et43 ?_
    by_cases c44 : t43 ≤ v1
    · rw [if_pos c44] at hf
      refine r_icmp_ge_t (dGet dX12_marked (j := 21) rfl) rfl c44 ?_
      refine r_iconst (dGet dX12_marked (j := 59) rfl) kI_0 ?_
      refine r_istore_n (lv' := [(1, .int (0 : Int32)), (0, .ref v0)]) (dGet dX12_marked (j := 60) rfl) (by decide) rfl ?_
      refine Run.weak [(0, .ref v0), (1, .int (0 : Int32))] (by simp) (by simp [pNd]) ?_
      exact lX12_marked_105 X N d N v0 (0 : Int32) h q hf nv0
    · rw [if_neg c44] at hf
      refine r_icmp_ge_f (dGet dX12_marked (j := 21) rfl) rfl c44 ?_
      refine r_aload_n (dGet dX12_marked (j := 22) rfl) nv0 rfl ?_
      refine r_aload_n (dGet dX12_marked (j := 23) rfl) nv0 rfl ?_
      obtain ⟨t45, et45, hf⟩ := Option.bind_eq_some_iff.mp hf
      refine r_getR (dGet dX12_marked (j := 24) rfl) F12_178 et45 ?_
      refine r_iload_n (dGet dX12_marked (j := 25) rfl) rfl ?_
      obtain ⟨t46, et46, hf⟩ := Option.bind_eq_some_iff.mp hf
      refine r_iald (dGet dX12_marked (j := 26) rfl) et46 ?_
      obtain ⟨h47, eh47, hf⟩ := Option.bind_eq_some_iff.mp hf
      refine r_virtual (dGet dX12_marked (j := 27) rfl) L12_557 M325 rfl rfl (Nat.le_of_ble_eq_true rfl) (oX12_reach eh47) (cX12_reach X N (d + 0) v0 t46 h h47 eh47) ?_
      refine r_aload_n (dGet dX12_marked (j := 28) rfl) nv0 rfl ?_
      obtain ⟨t48, et48, hf⟩ := Option.bind_eq_some_iff.mp hf
      refine r_getR (dGet dX12_marked (j := 29) rfl) F12_181 et48 ?_
      refine r_iload_n (dGet dX12_marked (j := 30) rfl) rfl ?_
      obtain ⟨t49, et49, hf⟩ := Option.bind_eq_some_iff.mp hf
      refine r_iald (dGet dX12_marked (j := 31) rfl) et49 ?_
      refine r_istore_n (lv' := [(2, .int t49), (0, .ref v0), (1, .int v1)]) (dGet dX12_marked (j := 32) rfl) (by decide) rfl ?_
      refine Run.weak [(0, .ref v0), (1, .int v1), (2, .int t49)] (by simp) (by simp [pNd]) ?_
      exact lX12_marked_55 X N d (fX12_marked_30 N n) ih N v0 v1 t49 h47 q hf nv0
def fX12_marked_2 (N : Nat) : Nat → Nat → Int32 → pH → Option (Int32 × pH)
  | 0, _, _, _ => none
  | n + 1, v0, v1, h => (getI h v0 12 82).bind fun t50 =>
  if t50 ≤ v1 then (
  (putI h v0 12 89 (0 : Int32)).bind fun h52 =>
  fX12_marked_30 N N v0 (0 : Int32) h52) else (
  (getR h v0 12 86).bind fun t53 =>
  (stZ h t53 v1 (0 : Int32)).bind fun h54 =>
  fX12_marked_2 N n v0 (v1 + (1 : Int32)) h54)
theorem lX12_marked_2 (X : pX) (N d : Nat)  : ∀ (n : Nat) (v0 : Nat) (v1 : Int32) (h : pH) (q : Int32 × pH), fX12_marked_2 N n v0 v1 h = some q → ¬ v0 = 4 → Run X (d + 1) 12 false (pCd 10004) 4 (some .int) 2 [(0, .ref v0), (1, .int v1)] [] h 0 0 (some (.int q.1), q.2, 0, 0) := by
  intro n
  induction n with
  | zero => intro v0 v1 h q hf; cases hf
  | succ n ih =>
    intro v0 v1 h q hf nv0
    unfold fX12_marked_2 at hf
    refine r_iload_n (dGet dX12_marked (j := 2) rfl) rfl ?_
    refine r_aload_n (dGet dX12_marked (j := 3) rfl) nv0 rfl ?_
    obtain ⟨t50, et50, hf⟩ := Option.bind_eq_some_iff.mp hf
    refine r_getI (dGet dX12_marked (j := 4) rfl) F12_551 et50 ?_
    by_cases c51 : t50 ≤ v1
    · rw [if_pos c51] at hf
      refine r_icmp_ge_t (dGet dX12_marked (j := 5) rfl) rfl c51 ?_
      refine r_aload_n (dGet dX12_marked (j := 13) rfl) nv0 rfl ?_
      refine r_iconst (dGet dX12_marked (j := 14) rfl) kI_0 ?_
      obtain ⟨h52, eh52, hf⟩ := Option.bind_eq_some_iff.mp hf
      refine r_putI (dGet dX12_marked (j := 15) rfl) F12_548 rfl rfl eh52 ?_
      refine r_iconst (dGet dX12_marked (j := 16) rfl) kI_0 ?_
      refine r_istore_n (lv' := [(1, .int (0 : Int32)), (0, .ref v0)]) (dGet dX12_marked (j := 17) rfl) (by decide) rfl ?_
      refine Run.weak [(0, .ref v0), (1, .int (0 : Int32))] (by simp) (by simp [pNd]) ?_
      exact lX12_marked_30 X N d N v0 (0 : Int32) h52 q hf nv0
    · rw [if_neg c51] at hf
      refine r_icmp_ge_f (dGet dX12_marked (j := 5) rfl) rfl c51 ?_
      refine r_aload_n (dGet dX12_marked (j := 6) rfl) nv0 rfl ?_
      obtain ⟨t53, et53, hf⟩ := Option.bind_eq_some_iff.mp hf
      refine r_getR (dGet dX12_marked (j := 7) rfl) F12_163 et53 ?_
      refine r_iload_n (dGet dX12_marked (j := 8) rfl) rfl ?_
      refine r_iconst (dGet dX12_marked (j := 9) rfl) kI_0 ?_
      obtain ⟨h54, eh54, hf⟩ := Option.bind_eq_some_iff.mp hf
      refine r_zast (dGet dX12_marked (j := 10) rfl) eh54 ?_
      refine r_iinc (lv' := [(1, .int (v1 + (1 : Int32))), (0, .ref v0)]) (dGet dX12_marked (j := 11) rfl) rfl (by decide) kI_1 rfl ?_
      refine r_goto (dGet dX12_marked (j := 12) rfl) rfl ?_
      refine Run.weak [(0, .ref v0), (1, .int (v1 + (1 : Int32)))] (by simp) (by simp [pNd]) ?_
      exact ih v0 (v1 + (1 : Int32)) h54 q hf nv0
def fX12_marked (N : Nat) (v0 : Nat) (h : pH) : Option (Int32 × pH) := if isO h v0 12 = true then (
  fX12_marked_2 N N v0 (0 : Int32) h) else none
theorem oX12_marked {N : Nat} {v0 : Nat} {h : pH} {q : Int32 × pH} (hf : fX12_marked N v0 h = some q) : isO h v0 12 = true := by
  unfold fX12_marked at hf
  by_cases hc : isO h v0 12 = true
  · exact hc
  · rw [if_neg hc] at hf; cases hf
theorem cX12_marked (X : pX) (N d : Nat) (v0 : Nat) (h : pH) (q : Int32 × pH) (hf : fX12_marked N v0 h = some q) : Calls X (d + 1) 324 [.ref v0] h (some (.int q.1), q.2, 0, 0) := by
  refine Calls.of M324 (Nat.le_of_ble_eq_true rfl) ?_
  show Run X (d + 1) 12 false (pCd 10004) 4 (some .int) 0 [(0, .ref v0)] [] h 0 0 (some (.int q.1), q.2, 0, 0)
  unfold fX12_marked at hf
  by_cases hc : isO h v0 12 = true
  · rw [if_pos hc] at hf
    have nv0 : ¬ v0 = 4 := isO_ne hc
    refine r_iconst (dGet dX12_marked (j := 0) rfl) kI_0 ?_
    refine r_istore_n (lv' := [(1, .int (0 : Int32)), (0, .ref v0)]) (dGet dX12_marked (j := 1) rfl) (by decide) rfl ?_
    refine Run.weak [(0, .ref v0), (1, .int (0 : Int32))] (by simp) (by simp [pNd]) ?_
    exact lX12_marked_2 X N d N v0 (0 : Int32) h q hf nv0
  · rw [if_neg hc] at hf; cases hf
def eX12_count : List (Nat × Instr × Nat) := [(0, .iload_n 1, 1), (1, .bipush 6, 2), (3, .if_icmp .ne 8, 3), (6, .aload_n 0, 1), (7, .getfield 635, 3), (10, .ireturn, 1), (11, .iload_n 1, 1), (12, .bipush 7, 2), (14, .if_icmp .ne 8, 3), (17, .aload_n 0, 1), (18, .getfield 435, 3), (21, .ireturn, 1), (22, .iload_n 1, 1), (23, .i2l, 1), (24, .lconst 0, 1), (25, .ldc2_w 697, 3), (28, .invokestatic 228, 3), (31, .ifCond .ne 5, 3), (34, .iconst (-1), 1), (35, .ireturn, 1), (36, .aload_n 0, 1), (37, .getfield 442, 3), (40, .ifCond .ne 5, 3), (43, .iconst 0, 1), (44, .ireturn, 1), (45, .iload_n 1, 1), (46, .tableswitch 70 0 4 #[34, 39, 44, 60, 65], 34), (80, .aload_n 0, 1), (81, .getfield 662, 3), (84, .ireturn, 1), (85, .aload_n 0, 1), (86, .getfield 581, 3), (89, .ireturn, 1), (90, .aload_n 0, 1), (91, .getfield 587, 3), (94, .ifCond .ne 10, 3), (97, .aload_n 0, 1), (98, .invokevirtual 575, 3), (101, .goto 4, 3), (104, .iconst 0, 1), (105, .ireturn, 1), (106, .aload_n 0, 1), (107, .getfield 554, 3), (110, .ireturn, 1), (111, .aload_n 0, 1), (112, .getfield 657, 3), (115, .ireturn, 1), (116, .aload_n 0, 1), (117, .getfield 590, 3), (120, .ireturn, 1)]
theorem dX12_count : dChk (pCd 10072) eX12_count = true := by decide +kernel
def fX12_count (N : Nat) (v0 : Nat) (v1 : Int32) (h : pH) : Option (Int32 × pH) := if isO h v0 12 = true then (
  if v1 = (6 : Int32) then (
  (getI h v0 12 80).bind fun t21 =>
  some (t21, h)) else (
  if v1 = (7 : Int32) then (
  (getI h v0 12 1).bind fun t20 =>
  some (t20, h)) else (
  (fX12_isIn N (v1.toInt64) (0 : Int64) (5 : Int64) h).bind fun q3 =>
  if q3.1 = 0 then (
  some ((-1 : Int32), q3.2)) else (
  (getI q3.2 v0 12 69).bind fun t5 =>
  if t5 = 0 then (
  some ((0 : Int32), q3.2)) else (
  if v1 = 0 then (
  (getI q3.2 v0 12 75).bind fun t12 =>
  some (t12, q3.2)) else
  if v1 = 1 then (
  (getI q3.2 v0 12 74).bind fun t13 =>
  some (t13, q3.2)) else
  if v1 = 2 then (
  (getI q3.2 v0 12 70).bind fun t14 =>
  if t14 = 0 then (
  (fX12_marked N v0 q3.2).bind fun q16 =>
  some (q16.1, q16.2)) else (
  some ((0 : Int32), q3.2))) else
  if v1 = 3 then (
  (getI q3.2 v0 12 93).bind fun t17 =>
  some (t17, q3.2)) else
  if v1 = 4 then (
  (getI q3.2 v0 12 78).bind fun t18 =>
  some (t18, q3.2)) else
  (getI q3.2 v0 12 76).bind fun t19 =>
  some (t19, q3.2)))))) else none
theorem oX12_count {N : Nat} {v0 : Nat} {v1 : Int32} {h : pH} {q : Int32 × pH} (hf : fX12_count N v0 v1 h = some q) : isO h v0 12 = true := by
  unfold fX12_count at hf
  by_cases hc : isO h v0 12 = true
  · exact hc
  · rw [if_neg hc] at hf; cases hf
theorem cX12_count (X : pX) (N d : Nat) (v0 : Nat) (v1 : Int32) (h : pH) (q : Int32 × pH) (hf : fX12_count N v0 v1 h = some q) : Calls X (d + 2) 341 [.ref v0, .int v1] h (some (.int q.1), q.2, 0, 0) := by
  refine Calls.of M341 (Nat.le_of_ble_eq_true rfl) ?_
  show Run X (d + 2) 12 false (pCd 10072) 2 (some .int) 0 [(0, .ref v0), (1, .int v1)] [] h 0 0 (some (.int q.1), q.2, 0, 0)
  unfold fX12_count at hf
  by_cases hc : isO h v0 12 = true
  · rw [if_pos hc] at hf
    have nv0 : ¬ v0 = 4 := isO_ne hc
    refine r_iload_n (dGet dX12_count (j := 0) rfl) rfl ?_
    refine r_bipush (dGet dX12_count (j := 1) rfl) kB_6 ?_
    by_cases c1 : v1 = (6 : Int32)
    · rw [if_pos c1] at hf
      refine r_icmp_ne_f (dGet dX12_count (j := 2) rfl) rfl c1 ?_
      refine r_aload_n (dGet dX12_count (j := 3) rfl) nv0 rfl ?_
      obtain ⟨t21, et21, hf⟩ := Option.bind_eq_some_iff.mp hf
      refine r_getI (dGet dX12_count (j := 4) rfl) F12_635 et21 ?_
      have hq := Option.some.inj hf
      subst hq
      exact r_iret (dGet dX12_count (j := 5) rfl) rfl rfl
    · rw [if_neg c1] at hf
      refine r_icmp_ne_t (dGet dX12_count (j := 2) rfl) rfl c1 ?_
      refine r_iload_n (dGet dX12_count (j := 6) rfl) rfl ?_
      refine r_bipush (dGet dX12_count (j := 7) rfl) kB_7 ?_
      by_cases c2 : v1 = (7 : Int32)
      · rw [if_pos c2] at hf
        refine r_icmp_ne_f (dGet dX12_count (j := 8) rfl) rfl c2 ?_
        refine r_aload_n (dGet dX12_count (j := 9) rfl) nv0 rfl ?_
        obtain ⟨t20, et20, hf⟩ := Option.bind_eq_some_iff.mp hf
        refine r_getI (dGet dX12_count (j := 10) rfl) F12_435 et20 ?_
        have hq := Option.some.inj hf
        subst hq
        exact r_iret (dGet dX12_count (j := 11) rfl) rfl rfl
      · rw [if_neg c2] at hf
        refine r_icmp_ne_t (dGet dX12_count (j := 8) rfl) rfl c2 ?_
        refine r_iload_n (dGet dX12_count (j := 12) rfl) rfl ?_
        refine r_i2l (dGet dX12_count (j := 13) rfl) ?_
        refine r_lconst (v := 0) (dGet dX12_count (j := 14) rfl) rfl ?_
        refine r_ldc2 (v := 5) (dGet dX12_count (j := 15) rfl) (by decide +kernel : pFind pKl 12 697 = some (5, 10073)) ?_
        obtain ⟨q3, eq3, hf⟩ := Option.bind_eq_some_iff.mp hf
        refine r_static (dGet dX12_count (j := 16) rfl) (by decide +kernel) (by decide +kernel) L12_228 M236 rfl rfl (Nat.le_of_ble_eq_true rfl) (cX12_isIn X N (d + 1) (v1.toInt64) (0 : Int64) (5 : Int64) h q3 eq3) ?_
        by_cases c4 : q3.1 = 0
        · rw [if_pos c4] at hf
          refine r_if_ne_f (dGet dX12_count (j := 17) rfl) rfl c4 ?_
          refine r_iconst (dGet dX12_count (j := 18) rfl) kI_m1 ?_
          have hq := Option.some.inj hf
          subst hq
          exact r_iret (dGet dX12_count (j := 19) rfl) rfl rfl
        · rw [if_neg c4] at hf
          refine r_if_ne_t (dGet dX12_count (j := 17) rfl) rfl c4 ?_
          refine r_aload_n (dGet dX12_count (j := 20) rfl) nv0 rfl ?_
          obtain ⟨t5, et5, hf⟩ := Option.bind_eq_some_iff.mp hf
          refine r_getI (dGet dX12_count (j := 21) rfl) F12_442 et5 ?_
          by_cases c6 : t5 = 0
          · rw [if_pos c6] at hf
            refine r_if_ne_f (dGet dX12_count (j := 22) rfl) rfl c6 ?_
            refine r_iconst (dGet dX12_count (j := 23) rfl) kI_0 ?_
            have hq := Option.some.inj hf
            subst hq
            exact r_iret (dGet dX12_count (j := 24) rfl) rfl rfl
          · rw [if_neg c6] at hf
            refine r_if_ne_t (dGet dX12_count (j := 22) rfl) rfl c6 ?_
            refine r_iload_n (dGet dX12_count (j := 25) rfl) rfl ?_
            by_cases c7 : v1 = 0
            · rw [if_pos c7] at hf
              refine r_table (off := 34) (dGet dX12_count (j := 26) rfl) (by rw [c7]; decide) rfl ?_
              refine r_aload_n (dGet dX12_count (j := 27) rfl) nv0 rfl ?_
              obtain ⟨t12, et12, hf⟩ := Option.bind_eq_some_iff.mp hf
              refine r_getI (dGet dX12_count (j := 28) rfl) F12_662 et12 ?_
              have hq := Option.some.inj hf
              subst hq
              exact r_iret (dGet dX12_count (j := 29) rfl) rfl rfl
            rw [if_neg c7] at hf
            by_cases c8 : v1 = 1
            · rw [if_pos c8] at hf
              refine r_table (off := 39) (dGet dX12_count (j := 26) rfl) (by rw [c8]; decide) rfl ?_
              refine r_aload_n (dGet dX12_count (j := 30) rfl) nv0 rfl ?_
              obtain ⟨t13, et13, hf⟩ := Option.bind_eq_some_iff.mp hf
              refine r_getI (dGet dX12_count (j := 31) rfl) F12_581 et13 ?_
              have hq := Option.some.inj hf
              subst hq
              exact r_iret (dGet dX12_count (j := 32) rfl) rfl rfl
            rw [if_neg c8] at hf
            by_cases c9 : v1 = 2
            · rw [if_pos c9] at hf
              refine r_table (off := 44) (dGet dX12_count (j := 26) rfl) (by rw [c9]; decide) rfl ?_
              refine r_aload_n (dGet dX12_count (j := 33) rfl) nv0 rfl ?_
              obtain ⟨t14, et14, hf⟩ := Option.bind_eq_some_iff.mp hf
              refine r_getI (dGet dX12_count (j := 34) rfl) F12_587 et14 ?_
              by_cases c15 : t14 = 0
              · rw [if_pos c15] at hf
                refine r_if_ne_f (dGet dX12_count (j := 35) rfl) rfl c15 ?_
                refine r_aload_n (dGet dX12_count (j := 36) rfl) nv0 rfl ?_
                obtain ⟨q16, eq16, hf⟩ := Option.bind_eq_some_iff.mp hf
                refine r_virtual (dGet dX12_count (j := 37) rfl) L12_575 M324 rfl rfl (Nat.le_of_ble_eq_true rfl) (oX12_marked eq16) (cX12_marked X N (d + 0) v0 q3.2 q16 eq16) ?_
                refine r_goto (dGet dX12_count (j := 38) rfl) rfl ?_
                have hq := Option.some.inj hf
                subst hq
                exact r_iret (dGet dX12_count (j := 40) rfl) rfl rfl
              · rw [if_neg c15] at hf
                refine r_if_ne_t (dGet dX12_count (j := 35) rfl) rfl c15 ?_
                refine r_iconst (dGet dX12_count (j := 39) rfl) kI_0 ?_
                have hq := Option.some.inj hf
                subst hq
                exact r_iret (dGet dX12_count (j := 40) rfl) rfl rfl
            rw [if_neg c9] at hf
            by_cases c10 : v1 = 3
            · rw [if_pos c10] at hf
              refine r_table (off := 60) (dGet dX12_count (j := 26) rfl) (by rw [c10]; decide) rfl ?_
              refine r_aload_n (dGet dX12_count (j := 41) rfl) nv0 rfl ?_
              obtain ⟨t17, et17, hf⟩ := Option.bind_eq_some_iff.mp hf
              refine r_getI (dGet dX12_count (j := 42) rfl) F12_554 et17 ?_
              have hq := Option.some.inj hf
              subst hq
              exact r_iret (dGet dX12_count (j := 43) rfl) rfl rfl
            rw [if_neg c10] at hf
            by_cases c11 : v1 = 4
            · rw [if_pos c11] at hf
              refine r_table (off := 65) (dGet dX12_count (j := 26) rfl) (by rw [c11]; decide) rfl ?_
              refine r_aload_n (dGet dX12_count (j := 44) rfl) nv0 rfl ?_
              obtain ⟨t18, et18, hf⟩ := Option.bind_eq_some_iff.mp hf
              refine r_getI (dGet dX12_count (j := 45) rfl) F12_657 et18 ?_
              have hq := Option.some.inj hf
              subst hq
              exact r_iret (dGet dX12_count (j := 46) rfl) rfl rfl
            rw [if_neg c11] at hf
            refine r_table (dGet dX12_count (j := 26) rfl) (pTable_out (cs := [0, 1, 2, 3, 4]) (by decide) (by decide) (by decide) (List.forall_mem_cons.mpr ⟨c7, List.forall_mem_cons.mpr ⟨c8, List.forall_mem_cons.mpr ⟨c9, List.forall_mem_cons.mpr ⟨c10, List.forall_mem_cons.mpr ⟨c11, fun _ h => absurd h List.not_mem_nil⟩⟩⟩⟩⟩)) rfl ?_
            refine r_aload_n (dGet dX12_count (j := 47) rfl) nv0 rfl ?_
            obtain ⟨t19, et19, hf⟩ := Option.bind_eq_some_iff.mp hf
            refine r_getI (dGet dX12_count (j := 48) rfl) F12_590 et19 ?_
            have hq := Option.some.inj hf
            subst hq
            exact r_iret (dGet dX12_count (j := 49) rfl) rfl rfl
  · rw [if_neg hc] at hf; cases hf
def eX12_push : List (Nat × Instr × Nat) := [(0, .aload_n 0, 1), (1, .getfield 198, 3), (4, .aload_n 0, 1), (5, .getfield 560, 3), (8, .iload_n 1, 1), (9, .iastore, 1), (10, .aload_n 0, 1), (11, .getfield 201, 3), (14, .aload_n 0, 1), (15, .getfield 560, 3), (18, .iload_n 2, 1), (19, .bastore, 1), (20, .aload_n 0, 1), (21, .dup, 1), (22, .getfield 560, 3), (25, .iconst 1, 1), (26, .iadd, 1), (27, .putfield 560, 3), (30, .return_, 1)]
theorem dX12_push : dChk (pCd 9232) eX12_push = true := by decide +kernel
def fX12_push (N : Nat) (v0 : Nat) (v1 : Int32) (v2 : Int32) (h : pH) : Option (pH) := if isO h v0 12 = true then (
  (getR h v0 12 101).bind fun t1 =>
  (getI h v0 12 100).bind fun t2 =>
  (stI h t1 t2 v1).bind fun h3 =>
  (getR h3 v0 12 102).bind fun t4 =>
  (getI h3 v0 12 100).bind fun t5 =>
  (stZ h3 t4 t5 v2).bind fun h6 =>
  (getI h6 v0 12 100).bind fun t7 =>
  (putI h6 v0 12 100 (t7 + (1 : Int32))).bind fun h8 =>
  some h8) else none
theorem oX12_push {N : Nat} {v0 : Nat} {v1 : Int32} {v2 : Int32} {h : pH} {q : pH} (hf : fX12_push N v0 v1 v2 h = some q) : isO h v0 12 = true := by
  unfold fX12_push at hf
  by_cases hc : isO h v0 12 = true
  · exact hc
  · rw [if_neg hc] at hf; cases hf
theorem cX12_push (X : pX) (N d : Nat) (v0 : Nat) (v1 : Int32) (v2 : Int32) (h : pH) (q : pH) (hf : fX12_push N v0 v1 v2 h = some q) : Calls X (d + 0) 321 [.ref v0, .int v1, .int v2] h (none, q, 0, 0) := by
  refine Calls.of M321 (Nat.le_of_ble_eq_true rfl) ?_
  show Run X (d + 0) 12 false (pCd 9232) 3 none 0 [(0, .ref v0), (1, .int v1), (2, .int v2)] [] h 0 0 (none, q, 0, 0)
  unfold fX12_push at hf
  by_cases hc : isO h v0 12 = true
  · rw [if_pos hc] at hf
    have nv0 : ¬ v0 = 4 := isO_ne hc
    refine r_aload_n (dGet dX12_push (j := 0) rfl) nv0 rfl ?_
    obtain ⟨t1, et1, hf⟩ := Option.bind_eq_some_iff.mp hf
    refine r_getR (dGet dX12_push (j := 1) rfl) F12_198 et1 ?_
    refine r_aload_n (dGet dX12_push (j := 2) rfl) nv0 rfl ?_
    obtain ⟨t2, et2, hf⟩ := Option.bind_eq_some_iff.mp hf
    refine r_getI (dGet dX12_push (j := 3) rfl) F12_560 et2 ?_
    refine r_iload_n (dGet dX12_push (j := 4) rfl) rfl ?_
    obtain ⟨h3, eh3, hf⟩ := Option.bind_eq_some_iff.mp hf
    refine r_iast (dGet dX12_push (j := 5) rfl) eh3 ?_
    refine r_aload_n (dGet dX12_push (j := 6) rfl) nv0 rfl ?_
    obtain ⟨t4, et4, hf⟩ := Option.bind_eq_some_iff.mp hf
    refine r_getR (dGet dX12_push (j := 7) rfl) F12_201 et4 ?_
    refine r_aload_n (dGet dX12_push (j := 8) rfl) nv0 rfl ?_
    obtain ⟨t5, et5, hf⟩ := Option.bind_eq_some_iff.mp hf
    refine r_getI (dGet dX12_push (j := 9) rfl) F12_560 et5 ?_
    refine r_iload_n (dGet dX12_push (j := 10) rfl) rfl ?_
    obtain ⟨h6, eh6, hf⟩ := Option.bind_eq_some_iff.mp hf
    refine r_zast (dGet dX12_push (j := 11) rfl) eh6 ?_
    refine r_aload_n (dGet dX12_push (j := 12) rfl) nv0 rfl ?_
    refine r_dup (dGet dX12_push (j := 13) rfl) rfl ?_
    obtain ⟨t7, et7, hf⟩ := Option.bind_eq_some_iff.mp hf
    refine r_getI (dGet dX12_push (j := 14) rfl) F12_560 et7 ?_
    refine r_iconst (dGet dX12_push (j := 15) rfl) kI_1 ?_
    refine r_iadd (dGet dX12_push (j := 16) rfl) ?_
    obtain ⟨h8, eh8, hf⟩ := Option.bind_eq_some_iff.mp hf
    refine r_putI (dGet dX12_push (j := 17) rfl) F12_560 rfl rfl eh8 ?_
    have hq := Option.some.inj hf
    subst hq
    exact r_vret (dGet dX12_push (j := 18) rfl) rfl
  · rw [if_neg hc] at hf; cases hf
def eX12_returns : List (Nat × Instr × Nat) := [(0, .aload_n 0, 1), (1, .getfield 55, 3), (4, .iload_n 1, 1), (5, .iaload, 1), (6, .ifCond .lt 7, 3), (9, .iconst 1, 1), (10, .goto 4, 3), (13, .iconst 0, 1), (14, .istore_n 2, 1), (15, .iload_n 2, 1), (16, .ifCond .eq 17, 3), (19, .aload_n 0, 1), (20, .getfield 198, 3), (23, .aload_n 0, 1), (24, .getfield 560, 3), (27, .iconst 1, 1), (28, .isub, 1), (29, .iaload, 1), (30, .goto 4, 3), (33, .iconst 0, 1), (34, .istore_n 3, 1), (35, .iload_n 2, 1), (36, .ifCond .eq 21, 3), (39, .aload_n 0, 1), (40, .getfield 201, 3), (43, .aload_n 0, 1), (44, .getfield 560, 3), (47, .iconst 1, 1), (48, .isub, 1), (49, .baload, 1), (50, .ifCond .eq 7, 3), (53, .iconst 1, 1), (54, .goto 4, 3), (57, .iconst 0, 1), (58, .istore 4, 2), (60, .aload_n 0, 1), (61, .getfield 205, 3), (64, .aload_n 0, 1), (65, .getfield 584, 3), (68, .iconst 1, 1), (69, .isub, 1), (70, .iaload, 1), (71, .bipush 8, 2), (73, .if_icmp .eq 40, 3), (76, .aload_n 0, 1), (77, .dup, 1), (78, .getfield 584, 3), (81, .iconst 1, 1), (82, .isub, 1), (83, .putfield 584, 3), (86, .aload_n 0, 1), (87, .getfield 205, 3), (90, .aload_n 0, 1), (91, .getfield 584, 3), (94, .iaload, 1), (95, .bipush 7, 2), (97, .if_icmp .ne (-37), 3), (100, .aload_n 0, 1), (101, .dup, 1), (102, .getfield 593, 3), (105, .iconst 1, 1), (106, .isub, 1), (107, .putfield 593, 3), (110, .goto (-50), 3), (113, .aload_n 0, 1), (114, .dup, 1), (115, .getfield 584, 3), (118, .iconst 1, 1), (119, .isub, 1), (120, .putfield 584, 3), (123, .aload_n 0, 1), (124, .dup, 1), (125, .getfield 554, 3), (128, .iconst 1, 1), (129, .isub, 1), (130, .putfield 554, 3), (133, .aload_n 0, 1), (134, .getfield 554, 3), (137, .ifCond .ne 14, 3), (140, .aload_n 0, 1), (141, .iload_n 3, 1), (142, .putfield 602, 3), (145, .aload_n 0, 1), (146, .iconst 1, 1), (147, .invokevirtual 605, 3), (150, .return_, 1), (151, .aload_n 0, 1), (152, .aload_n 0, 1), (153, .getfield 187, 3), (156, .aload_n 0, 1), (157, .getfield 554, 3), (160, .iaload, 1), (161, .putfield 560, 3), (164, .iload_n 2, 1), (165, .ifCond .eq 10, 3), (168, .aload_n 0, 1), (169, .iload_n 3, 1), (170, .iload 4, 2), (172, .invokevirtual 623, 3), (175, .return_, 1)]
theorem dX12_returns : dChk (pCd 10055) eX12_returns = true := by decide +kernel
def fX12_returns_60 (N : Nat) : Nat → Nat → Int32 → Int32 → Int32 → pH → Option (pH)
  | 0, _, _, _, _, _ => none
  | n + 1, v0, v2, v3, v4, h => (getR h v0 12 104).bind fun t1 =>
  (getI h v0 12 103).bind fun t2 =>
  (ldI h t1 (t2 - (1 : Int32))).bind fun t3 =>
  if t3 = (8 : Int32) then (
  (getI h v0 12 103).bind fun t5 =>
  (putI h v0 12 103 (t5 - (1 : Int32))).bind fun h6 =>
  (getI h6 v0 12 93).bind fun t7 =>
  (putI h6 v0 12 93 (t7 - (1 : Int32))).bind fun h8 =>
  (getI h8 v0 12 93).bind fun t9 =>
  if t9 = 0 then (
  (putI h8 v0 12 77 v3).bind fun h17 =>
  (fX12_ends N v0 (1 : Int32) h17).bind fun h18 =>
  some h18) else (
  (getR h8 v0 12 97).bind fun t11 =>
  (getI h8 v0 12 93).bind fun t12 =>
  (ldI h8 t11 t12).bind fun t13 =>
  (putI h8 v0 12 100 t13).bind fun h14 =>
  if v2 = 0 then (
  some h14) else (
  (fX12_push N v0 v3 v4 h14).bind fun h16 =>
  some h16))) else (
  (getI h v0 12 103).bind fun t19 =>
  (putI h v0 12 103 (t19 - (1 : Int32))).bind fun h20 =>
  (getR h20 v0 12 104).bind fun t21 =>
  (getI h20 v0 12 103).bind fun t22 =>
  (ldI h20 t21 t22).bind fun t23 =>
  if t23 = (7 : Int32) then (
  (getI h20 v0 12 106).bind fun t25 =>
  (putI h20 v0 12 106 (t25 - (1 : Int32))).bind fun h26 =>
  fX12_returns_60 N n v0 v2 v3 v4 h26) else (
  fX12_returns_60 N n v0 v2 v3 v4 h20))
theorem lX12_returns_60 (X : pX) (N d : Nat)  : ∀ (n : Nat) (v0 : Nat) (v2 : Int32) (v3 : Int32) (v4 : Int32) (h : pH) (q : pH), fX12_returns_60 N n v0 v2 v3 v4 h = some q → ¬ v0 = 4 → Run X (d + 1) 12 false (pCd 10055) 5 none 60 [(0, .ref v0), (2, .int v2), (3, .int v3), (4, .int v4)] [] h 0 0 (none, q, 0, 0) := by
  intro n
  induction n with
  | zero => intro v0 v2 v3 v4 h q hf; cases hf
  | succ n ih =>
    intro v0 v2 v3 v4 h q hf nv0
    unfold fX12_returns_60 at hf
    refine r_aload_n (dGet dX12_returns (j := 35) rfl) nv0 rfl ?_
    obtain ⟨t1, et1, hf⟩ := Option.bind_eq_some_iff.mp hf
    refine r_getR (dGet dX12_returns (j := 36) rfl) F12_205 et1 ?_
    refine r_aload_n (dGet dX12_returns (j := 37) rfl) nv0 rfl ?_
    obtain ⟨t2, et2, hf⟩ := Option.bind_eq_some_iff.mp hf
    refine r_getI (dGet dX12_returns (j := 38) rfl) F12_584 et2 ?_
    refine r_iconst (dGet dX12_returns (j := 39) rfl) kI_1 ?_
    refine r_isub (dGet dX12_returns (j := 40) rfl) ?_
    obtain ⟨t3, et3, hf⟩ := Option.bind_eq_some_iff.mp hf
    refine r_iald (dGet dX12_returns (j := 41) rfl) et3 ?_
    refine r_bipush (dGet dX12_returns (j := 42) rfl) kB_8 ?_
    by_cases c4 : t3 = (8 : Int32)
    · rw [if_pos c4] at hf
      refine r_icmp_eq_t (dGet dX12_returns (j := 43) rfl) rfl c4 ?_
      refine r_aload_n (dGet dX12_returns (j := 64) rfl) nv0 rfl ?_
      refine r_dup (dGet dX12_returns (j := 65) rfl) rfl ?_
      obtain ⟨t5, et5, hf⟩ := Option.bind_eq_some_iff.mp hf
      refine r_getI (dGet dX12_returns (j := 66) rfl) F12_584 et5 ?_
      refine r_iconst (dGet dX12_returns (j := 67) rfl) kI_1 ?_
      refine r_isub (dGet dX12_returns (j := 68) rfl) ?_
      obtain ⟨h6, eh6, hf⟩ := Option.bind_eq_some_iff.mp hf
      refine r_putI (dGet dX12_returns (j := 69) rfl) F12_584 rfl rfl eh6 ?_
      refine r_aload_n (dGet dX12_returns (j := 70) rfl) nv0 rfl ?_
      refine r_dup (dGet dX12_returns (j := 71) rfl) rfl ?_
      obtain ⟨t7, et7, hf⟩ := Option.bind_eq_some_iff.mp hf
      refine r_getI (dGet dX12_returns (j := 72) rfl) F12_554 et7 ?_
      refine r_iconst (dGet dX12_returns (j := 73) rfl) kI_1 ?_
      refine r_isub (dGet dX12_returns (j := 74) rfl) ?_
      obtain ⟨h8, eh8, hf⟩ := Option.bind_eq_some_iff.mp hf
      refine r_putI (dGet dX12_returns (j := 75) rfl) F12_554 rfl rfl eh8 ?_
      refine r_aload_n (dGet dX12_returns (j := 76) rfl) nv0 rfl ?_
      obtain ⟨t9, et9, hf⟩ := Option.bind_eq_some_iff.mp hf
      refine r_getI (dGet dX12_returns (j := 77) rfl) F12_554 et9 ?_
      by_cases c10 : t9 = 0
      · rw [if_pos c10] at hf
        refine r_if_ne_f (dGet dX12_returns (j := 78) rfl) rfl c10 ?_
        refine r_aload_n (dGet dX12_returns (j := 79) rfl) nv0 rfl ?_
        refine r_iload_n (dGet dX12_returns (j := 80) rfl) rfl ?_
        obtain ⟨h17, eh17, hf⟩ := Option.bind_eq_some_iff.mp hf
        refine r_putI (dGet dX12_returns (j := 81) rfl) F12_602 rfl rfl eh17 ?_
        refine r_aload_n (dGet dX12_returns (j := 82) rfl) nv0 rfl ?_
        refine r_iconst (dGet dX12_returns (j := 83) rfl) kI_1 ?_
        obtain ⟨h18, eh18, hf⟩ := Option.bind_eq_some_iff.mp hf
        refine r_virtual (dGet dX12_returns (j := 84) rfl) L12_605 M328 rfl rfl (Nat.le_of_ble_eq_true rfl) (oX12_ends eh18) (cX12_ends X N (d + 0) v0 (1 : Int32) h17 h18 eh18) ?_
        have hq := Option.some.inj hf
        subst hq
        exact r_vret (dGet dX12_returns (j := 85) rfl) rfl
      · rw [if_neg c10] at hf
        refine r_if_ne_t (dGet dX12_returns (j := 78) rfl) rfl c10 ?_
        refine r_aload_n (dGet dX12_returns (j := 86) rfl) nv0 rfl ?_
        refine r_aload_n (dGet dX12_returns (j := 87) rfl) nv0 rfl ?_
        obtain ⟨t11, et11, hf⟩ := Option.bind_eq_some_iff.mp hf
        refine r_getR (dGet dX12_returns (j := 88) rfl) F12_187 et11 ?_
        refine r_aload_n (dGet dX12_returns (j := 89) rfl) nv0 rfl ?_
        obtain ⟨t12, et12, hf⟩ := Option.bind_eq_some_iff.mp hf
        refine r_getI (dGet dX12_returns (j := 90) rfl) F12_554 et12 ?_
        obtain ⟨t13, et13, hf⟩ := Option.bind_eq_some_iff.mp hf
        refine r_iald (dGet dX12_returns (j := 91) rfl) et13 ?_
        obtain ⟨h14, eh14, hf⟩ := Option.bind_eq_some_iff.mp hf
        refine r_putI (dGet dX12_returns (j := 92) rfl) F12_560 rfl rfl eh14 ?_
        refine r_iload_n (dGet dX12_returns (j := 93) rfl) rfl ?_
        by_cases c15 : v2 = 0
        · rw [if_pos c15] at hf
          refine r_if_eq_t (dGet dX12_returns (j := 94) rfl) rfl c15 ?_
          have hq := Option.some.inj hf
          subst hq
          exact r_vret (dGet dX12_returns (j := 99) rfl) rfl
        · rw [if_neg c15] at hf
          refine r_if_eq_f (dGet dX12_returns (j := 94) rfl) rfl c15 ?_
          refine r_aload_n (dGet dX12_returns (j := 95) rfl) nv0 rfl ?_
          refine r_iload_n (dGet dX12_returns (j := 96) rfl) rfl ?_
          refine r_iload (dGet dX12_returns (j := 97) rfl) rfl ?_
          obtain ⟨h16, eh16, hf⟩ := Option.bind_eq_some_iff.mp hf
          refine r_virtual (dGet dX12_returns (j := 98) rfl) L12_623 M321 rfl rfl (Nat.le_of_ble_eq_true rfl) (oX12_push eh16) (cX12_push X N (d + 0) v0 v3 v4 h14 h16 eh16) ?_
          have hq := Option.some.inj hf
          subst hq
          exact r_vret (dGet dX12_returns (j := 99) rfl) rfl
    · rw [if_neg c4] at hf
      refine r_icmp_eq_f (dGet dX12_returns (j := 43) rfl) rfl c4 ?_
      refine r_aload_n (dGet dX12_returns (j := 44) rfl) nv0 rfl ?_
      refine r_dup (dGet dX12_returns (j := 45) rfl) rfl ?_
      obtain ⟨t19, et19, hf⟩ := Option.bind_eq_some_iff.mp hf
      refine r_getI (dGet dX12_returns (j := 46) rfl) F12_584 et19 ?_
      refine r_iconst (dGet dX12_returns (j := 47) rfl) kI_1 ?_
      refine r_isub (dGet dX12_returns (j := 48) rfl) ?_
      obtain ⟨h20, eh20, hf⟩ := Option.bind_eq_some_iff.mp hf
      refine r_putI (dGet dX12_returns (j := 49) rfl) F12_584 rfl rfl eh20 ?_
      refine r_aload_n (dGet dX12_returns (j := 50) rfl) nv0 rfl ?_
      obtain ⟨t21, et21, hf⟩ := Option.bind_eq_some_iff.mp hf
      refine r_getR (dGet dX12_returns (j := 51) rfl) F12_205 et21 ?_
      refine r_aload_n (dGet dX12_returns (j := 52) rfl) nv0 rfl ?_
      obtain ⟨t22, et22, hf⟩ := Option.bind_eq_some_iff.mp hf
      refine r_getI (dGet dX12_returns (j := 53) rfl) F12_584 et22 ?_
      obtain ⟨t23, et23, hf⟩ := Option.bind_eq_some_iff.mp hf
      refine r_iald (dGet dX12_returns (j := 54) rfl) et23 ?_
      refine r_bipush (dGet dX12_returns (j := 55) rfl) kB_7 ?_
      by_cases c24 : t23 = (7 : Int32)
      · rw [if_pos c24] at hf
        refine r_icmp_ne_f (dGet dX12_returns (j := 56) rfl) rfl c24 ?_
        refine r_aload_n (dGet dX12_returns (j := 57) rfl) nv0 rfl ?_
        refine r_dup (dGet dX12_returns (j := 58) rfl) rfl ?_
        obtain ⟨t25, et25, hf⟩ := Option.bind_eq_some_iff.mp hf
        refine r_getI (dGet dX12_returns (j := 59) rfl) F12_593 et25 ?_
        refine r_iconst (dGet dX12_returns (j := 60) rfl) kI_1 ?_
        refine r_isub (dGet dX12_returns (j := 61) rfl) ?_
        obtain ⟨h26, eh26, hf⟩ := Option.bind_eq_some_iff.mp hf
        refine r_putI (dGet dX12_returns (j := 62) rfl) F12_593 rfl rfl eh26 ?_
        refine r_goto (dGet dX12_returns (j := 63) rfl) rfl ?_
        exact ih v0 v2 v3 v4 h26 q hf nv0
      · rw [if_neg c24] at hf
        refine r_icmp_ne_t (dGet dX12_returns (j := 56) rfl) rfl c24 ?_
        exact ih v0 v2 v3 v4 h20 q hf nv0
def fX12_returns_58 (N : Nat) (v0 : Nat) (v2 : Int32) (v3 : Int32) (s0 : Int32) (h : pH) : Option (pH) :=
  fX12_returns_60 N N v0 v2 v3 s0 h
theorem lX12_returns_58 (X : pX) (N d : Nat)  (v0 : Nat) (v2 : Int32) (v3 : Int32) (s0 : Int32) (h : pH) (q : pH) (hf : fX12_returns_58 N v0 v2 v3 s0 h = some q) (nv0 : ¬ v0 = 4) : Run X (d + 1) 12 false (pCd 10055) 5 none 58 [(0, .ref v0), (2, .int v2), (3, .int v3)] [.int s0] h 0 0 (none, q, 0, 0) := by
  unfold fX12_returns_58 at hf
  refine r_istore (lv' := [(4, .int s0), (0, .ref v0), (2, .int v2), (3, .int v3)]) (dGet dX12_returns (j := 34) rfl) (by decide) rfl ?_
  refine Run.weak [(0, .ref v0), (2, .int v2), (3, .int v3), (4, .int s0)] (by simp) (by simp [pNd]) ?_
  exact lX12_returns_60 X N d N v0 v2 v3 s0 h q hf nv0
def fX12_returns_57 (N : Nat) (v0 : Nat) (v2 : Int32) (v3 : Int32) (h : pH) : Option (pH) :=
  fX12_returns_58 N v0 v2 v3 (0 : Int32) h
theorem lX12_returns_57 (X : pX) (N d : Nat)  (v0 : Nat) (v2 : Int32) (v3 : Int32) (h : pH) (q : pH) (hf : fX12_returns_57 N v0 v2 v3 h = some q) (nv0 : ¬ v0 = 4) : Run X (d + 1) 12 false (pCd 10055) 5 none 57 [(0, .ref v0), (2, .int v2), (3, .int v3)] [] h 0 0 (none, q, 0, 0) := by
  unfold fX12_returns_57 at hf
  refine r_iconst (dGet dX12_returns (j := 33) rfl) kI_0 ?_
  exact lX12_returns_58 X N d v0 v2 v3 (0 : Int32) h q hf nv0
def fX12_returns_34 (N : Nat) (v0 : Nat) (v2 : Int32) (s0 : Int32) (h : pH) : Option (pH) :=
  if v2 = 0 then (
  fX12_returns_57 N v0 v2 s0 h) else (
  (getR h v0 12 102).bind fun t28 =>
  (getI h v0 12 100).bind fun t29 =>
  (ldZ h t28 (t29 - (1 : Int32))).bind fun t30 =>
  if t30 = 0 then (
  fX12_returns_57 N v0 v2 s0 h) else (
  fX12_returns_58 N v0 v2 s0 (1 : Int32) h))
theorem lX12_returns_34 (X : pX) (N d : Nat)  (v0 : Nat) (v2 : Int32) (s0 : Int32) (h : pH) (q : pH) (hf : fX12_returns_34 N v0 v2 s0 h = some q) (nv0 : ¬ v0 = 4) : Run X (d + 1) 12 false (pCd 10055) 5 none 34 [(0, .ref v0), (2, .int v2)] [.int s0] h 0 0 (none, q, 0, 0) := by
  unfold fX12_returns_34 at hf
  refine r_istore_n (lv' := [(3, .int s0), (0, .ref v0), (2, .int v2)]) (dGet dX12_returns (j := 20) rfl) (by decide) rfl ?_
  refine r_iload_n (dGet dX12_returns (j := 21) rfl) rfl ?_
  by_cases c27 : v2 = 0
  · rw [if_pos c27] at hf
    refine r_if_eq_t (dGet dX12_returns (j := 22) rfl) rfl c27 ?_
    refine Run.weak [(0, .ref v0), (2, .int v2), (3, .int s0)] (by simp) (by simp [pNd]) ?_
    exact lX12_returns_57 X N d v0 v2 s0 h q hf nv0
  · rw [if_neg c27] at hf
    refine r_if_eq_f (dGet dX12_returns (j := 22) rfl) rfl c27 ?_
    refine r_aload_n (dGet dX12_returns (j := 23) rfl) nv0 rfl ?_
    obtain ⟨t28, et28, hf⟩ := Option.bind_eq_some_iff.mp hf
    refine r_getR (dGet dX12_returns (j := 24) rfl) F12_201 et28 ?_
    refine r_aload_n (dGet dX12_returns (j := 25) rfl) nv0 rfl ?_
    obtain ⟨t29, et29, hf⟩ := Option.bind_eq_some_iff.mp hf
    refine r_getI (dGet dX12_returns (j := 26) rfl) F12_560 et29 ?_
    refine r_iconst (dGet dX12_returns (j := 27) rfl) kI_1 ?_
    refine r_isub (dGet dX12_returns (j := 28) rfl) ?_
    obtain ⟨t30, et30, hf⟩ := Option.bind_eq_some_iff.mp hf
    refine r_zald (dGet dX12_returns (j := 29) rfl) et30 ?_
    by_cases c31 : t30 = 0
    · rw [if_pos c31] at hf
      refine r_if_eq_t (dGet dX12_returns (j := 30) rfl) rfl c31 ?_
      refine Run.weak [(0, .ref v0), (2, .int v2), (3, .int s0)] (by simp) (by simp [pNd]) ?_
      exact lX12_returns_57 X N d v0 v2 s0 h q hf nv0
    · rw [if_neg c31] at hf
      refine r_if_eq_f (dGet dX12_returns (j := 30) rfl) rfl c31 ?_
      refine r_iconst (dGet dX12_returns (j := 31) rfl) kI_1 ?_
      refine r_goto (dGet dX12_returns (j := 32) rfl) rfl ?_
      refine Run.weak [(0, .ref v0), (2, .int v2), (3, .int s0)] (by simp) (by simp [pNd]) ?_
      exact lX12_returns_58 X N d v0 v2 s0 (1 : Int32) h q hf nv0
def fX12_returns_14 (N : Nat) (v0 : Nat) (s0 : Int32) (h : pH) : Option (pH) :=
  if s0 = 0 then (
  fX12_returns_34 N v0 s0 (0 : Int32) h) else (
  (getR h v0 12 101).bind fun t33 =>
  (getI h v0 12 100).bind fun t34 =>
  (ldI h t33 (t34 - (1 : Int32))).bind fun t35 =>
  fX12_returns_34 N v0 s0 t35 h)
theorem lX12_returns_14 (X : pX) (N d : Nat)  (v0 : Nat) (s0 : Int32) (h : pH) (q : pH) (hf : fX12_returns_14 N v0 s0 h = some q) (nv0 : ¬ v0 = 4) : Run X (d + 1) 12 false (pCd 10055) 5 none 14 [(0, .ref v0)] [.int s0] h 0 0 (none, q, 0, 0) := by
  unfold fX12_returns_14 at hf
  refine r_istore_n (lv' := [(2, .int s0), (0, .ref v0)]) (dGet dX12_returns (j := 8) rfl) (by decide) rfl ?_
  refine r_iload_n (dGet dX12_returns (j := 9) rfl) rfl ?_
  by_cases c32 : s0 = 0
  · rw [if_pos c32] at hf
    refine r_if_eq_t (dGet dX12_returns (j := 10) rfl) rfl c32 ?_
    refine r_iconst (dGet dX12_returns (j := 19) rfl) kI_0 ?_
    refine Run.weak [(0, .ref v0), (2, .int s0)] (by simp) (by simp [pNd]) ?_
    exact lX12_returns_34 X N d v0 s0 (0 : Int32) h q hf nv0
  · rw [if_neg c32] at hf
    refine r_if_eq_f (dGet dX12_returns (j := 10) rfl) rfl c32 ?_
    refine r_aload_n (dGet dX12_returns (j := 11) rfl) nv0 rfl ?_
    obtain ⟨t33, et33, hf⟩ := Option.bind_eq_some_iff.mp hf
    refine r_getR (dGet dX12_returns (j := 12) rfl) F12_198 et33 ?_
    refine r_aload_n (dGet dX12_returns (j := 13) rfl) nv0 rfl ?_
    obtain ⟨t34, et34, hf⟩ := Option.bind_eq_some_iff.mp hf
    refine r_getI (dGet dX12_returns (j := 14) rfl) F12_560 et34 ?_
    refine r_iconst (dGet dX12_returns (j := 15) rfl) kI_1 ?_
    refine r_isub (dGet dX12_returns (j := 16) rfl) ?_
    obtain ⟨t35, et35, hf⟩ := Option.bind_eq_some_iff.mp hf
    refine r_iald (dGet dX12_returns (j := 17) rfl) et35 ?_
    refine r_goto (dGet dX12_returns (j := 18) rfl) rfl ?_
    refine Run.weak [(0, .ref v0), (2, .int s0)] (by simp) (by simp [pNd]) ?_
    exact lX12_returns_34 X N d v0 s0 t35 h q hf nv0
def fX12_returns (N : Nat) (v0 : Nat) (v1 : Int32) (h : pH) : Option (pH) := if isO h v0 12 = true then (
  (getR h v0 12 29).bind fun t36 =>
  (ldI h t36 v1).bind fun t37 =>
  if t37 < 0 then (
  fX12_returns_14 N v0 (0 : Int32) h) else (
  fX12_returns_14 N v0 (1 : Int32) h)) else none
theorem oX12_returns {N : Nat} {v0 : Nat} {v1 : Int32} {h : pH} {q : pH} (hf : fX12_returns N v0 v1 h = some q) : isO h v0 12 = true := by
  unfold fX12_returns at hf
  by_cases hc : isO h v0 12 = true
  · exact hc
  · rw [if_neg hc] at hf; cases hf
theorem cX12_returns (X : pX) (N d : Nat) (v0 : Nat) (v1 : Int32) (h : pH) (q : pH) (hf : fX12_returns N v0 v1 h = some q) : Calls X (d + 1) 337 [.ref v0, .int v1] h (none, q, 0, 0) := by
  refine Calls.of M337 (Nat.le_of_ble_eq_true rfl) ?_
  show Run X (d + 1) 12 false (pCd 10055) 5 none 0 [(0, .ref v0), (1, .int v1)] [] h 0 0 (none, q, 0, 0)
  unfold fX12_returns at hf
  by_cases hc : isO h v0 12 = true
  · rw [if_pos hc] at hf
    have nv0 : ¬ v0 = 4 := isO_ne hc
    refine r_aload_n (dGet dX12_returns (j := 0) rfl) nv0 rfl ?_
    obtain ⟨t36, et36, hf⟩ := Option.bind_eq_some_iff.mp hf
    refine r_getR (dGet dX12_returns (j := 1) rfl) F12_55 et36 ?_
    refine r_iload_n (dGet dX12_returns (j := 2) rfl) rfl ?_
    obtain ⟨t37, et37, hf⟩ := Option.bind_eq_some_iff.mp hf
    refine r_iald (dGet dX12_returns (j := 3) rfl) et37 ?_
    by_cases c38 : t37 < 0
    · rw [if_pos c38] at hf
      refine r_if_lt_t (dGet dX12_returns (j := 4) rfl) rfl c38 ?_
      refine r_iconst (dGet dX12_returns (j := 7) rfl) kI_0 ?_
      refine Run.weak [(0, .ref v0)] (by simp) (by simp [pNd]) ?_
      exact lX12_returns_14 X N d v0 (0 : Int32) h q hf nv0
    · rw [if_neg c38] at hf
      refine r_if_lt_f (dGet dX12_returns (j := 4) rfl) rfl c38 ?_
      refine r_iconst (dGet dX12_returns (j := 5) rfl) kI_1 ?_
      refine r_goto (dGet dX12_returns (j := 6) rfl) rfl ?_
      refine Run.weak [(0, .ref v0)] (by simp) (by simp [pNd]) ?_
      exact lX12_returns_14 X N d v0 (1 : Int32) h q hf nv0
  · rw [if_neg hc] at hf; cases hf
def eX12_isPlace : List (Nat × Instr × Nat) := [(0, .iload_n 1, 1), (1, .ifCond .ge 10, 3), (4, .aload_n 0, 1), (5, .iconst 0, 1), (6, .invokevirtual 638, 3), (9, .iconst 0, 1), (10, .ireturn, 1), (11, .iload_n 2, 1), (12, .i2l, 1), (13, .lconst 0, 1), (14, .aload_n 0, 1), (15, .getfield 160, 3), (18, .iload_n 1, 1), (19, .iaload, 1), (20, .iconst 1, 1), (21, .isub, 1), (22, .i2l, 1), (23, .invokestatic 228, 3), (26, .ifCond .eq 5, 3), (29, .iconst 1, 1), (30, .ireturn, 1), (31, .aload_n 0, 1), (32, .iconst 1, 1), (33, .invokevirtual 638, 3), (36, .iconst 0, 1), (37, .ireturn, 1)]
theorem dX12_isPlace : dChk (pCd 10036) eX12_isPlace = true := by decide +kernel
def fX12_isPlace (N : Nat) (v0 : Nat) (v1 : Int32) (v2 : Int32) (h : pH) : Option (Int32 × pH) := if isO h v0 12 = true then (
  if 0 ≤ v1 then (
  (getR h v0 12 85).bind fun t2 =>
  (ldI h t2 v1).bind fun t3 =>
  (fX12_isIn N (v2.toInt64) (0 : Int64) ((t3 - (1 : Int32)).toInt64) h).bind fun q4 =>
  if q4.1 = 0 then (
  (fX12_faults N v0 (1 : Int32) q4.2).bind fun h6 =>
  some ((0 : Int32), h6)) else (
  some ((1 : Int32), q4.2))) else (
  (fX12_faults N v0 (0 : Int32) h).bind fun h7 =>
  some ((0 : Int32), h7))) else none
theorem oX12_isPlace {N : Nat} {v0 : Nat} {v1 : Int32} {v2 : Int32} {h : pH} {q : Int32 × pH} (hf : fX12_isPlace N v0 v1 v2 h = some q) : isO h v0 12 = true := by
  unfold fX12_isPlace at hf
  by_cases hc : isO h v0 12 = true
  · exact hc
  · rw [if_neg hc] at hf; cases hf
theorem cX12_isPlace (X : pX) (N d : Nat) (v0 : Nat) (v1 : Int32) (v2 : Int32) (h : pH) (q : Int32 × pH) (hf : fX12_isPlace N v0 v1 v2 h = some q) : Calls X (d + 3) 332 [.ref v0, .int v1, .int v2] h (some (.int q.1), q.2, 0, 0) := by
  refine Calls.of M332 (Nat.le_of_ble_eq_true rfl) ?_
  show Run X (d + 3) 12 false (pCd 10036) 3 (some .boolean) 0 [(0, .ref v0), (1, .int v1), (2, .int v2)] [] h 0 0 (some (.int q.1), q.2, 0, 0)
  unfold fX12_isPlace at hf
  by_cases hc : isO h v0 12 = true
  · rw [if_pos hc] at hf
    have nv0 : ¬ v0 = 4 := isO_ne hc
    refine r_iload_n (dGet dX12_isPlace (j := 0) rfl) rfl ?_
    by_cases c1 : 0 ≤ v1
    · rw [if_pos c1] at hf
      refine r_if_ge_t (dGet dX12_isPlace (j := 1) rfl) rfl c1 ?_
      refine r_iload_n (dGet dX12_isPlace (j := 7) rfl) rfl ?_
      refine r_i2l (dGet dX12_isPlace (j := 8) rfl) ?_
      refine r_lconst (v := 0) (dGet dX12_isPlace (j := 9) rfl) rfl ?_
      refine r_aload_n (dGet dX12_isPlace (j := 10) rfl) nv0 rfl ?_
      obtain ⟨t2, et2, hf⟩ := Option.bind_eq_some_iff.mp hf
      refine r_getR (dGet dX12_isPlace (j := 11) rfl) F12_160 et2 ?_
      refine r_iload_n (dGet dX12_isPlace (j := 12) rfl) rfl ?_
      obtain ⟨t3, et3, hf⟩ := Option.bind_eq_some_iff.mp hf
      refine r_iald (dGet dX12_isPlace (j := 13) rfl) et3 ?_
      refine r_iconst (dGet dX12_isPlace (j := 14) rfl) kI_1 ?_
      refine r_isub (dGet dX12_isPlace (j := 15) rfl) ?_
      refine r_i2l (dGet dX12_isPlace (j := 16) rfl) ?_
      obtain ⟨q4, eq4, hf⟩ := Option.bind_eq_some_iff.mp hf
      refine r_static (dGet dX12_isPlace (j := 17) rfl) (by decide +kernel) (by decide +kernel) L12_228 M236 rfl rfl (Nat.le_of_ble_eq_true rfl) (cX12_isIn X N (d + 2) (v2.toInt64) (0 : Int64) ((t3 - (1 : Int32)).toInt64) h q4 eq4) ?_
      by_cases c5 : q4.1 = 0
      · rw [if_pos c5] at hf
        refine r_if_eq_t (dGet dX12_isPlace (j := 18) rfl) rfl c5 ?_
        refine r_aload_n (dGet dX12_isPlace (j := 21) rfl) nv0 rfl ?_
        refine r_iconst (dGet dX12_isPlace (j := 22) rfl) kI_1 ?_
        obtain ⟨h6, eh6, hf⟩ := Option.bind_eq_some_iff.mp hf
        refine r_virtual (dGet dX12_isPlace (j := 23) rfl) L12_638 M330 rfl rfl (Nat.le_of_ble_eq_true rfl) (oX12_faults eh6) (cX12_faults X N (d + 0) v0 (1 : Int32) q4.2 h6 eh6) ?_
        refine r_iconst (dGet dX12_isPlace (j := 24) rfl) kI_0 ?_
        have hq := Option.some.inj hf
        subst hq
        exact r_iret (dGet dX12_isPlace (j := 25) rfl) rfl (by decide)
      · rw [if_neg c5] at hf
        refine r_if_eq_f (dGet dX12_isPlace (j := 18) rfl) rfl c5 ?_
        refine r_iconst (dGet dX12_isPlace (j := 19) rfl) kI_1 ?_
        have hq := Option.some.inj hf
        subst hq
        exact r_iret (dGet dX12_isPlace (j := 20) rfl) rfl (by decide)
    · rw [if_neg c1] at hf
      refine r_if_ge_f (dGet dX12_isPlace (j := 1) rfl) rfl c1 ?_
      refine r_aload_n (dGet dX12_isPlace (j := 2) rfl) nv0 rfl ?_
      refine r_iconst (dGet dX12_isPlace (j := 3) rfl) kI_0 ?_
      obtain ⟨h7, eh7, hf⟩ := Option.bind_eq_some_iff.mp hf
      refine r_virtual (dGet dX12_isPlace (j := 4) rfl) L12_638 M330 rfl rfl (Nat.le_of_ble_eq_true rfl) (oX12_faults eh7) (cX12_faults X N (d + 0) v0 (0 : Int32) h h7 eh7) ?_
      refine r_iconst (dGet dX12_isPlace (j := 5) rfl) kI_0 ?_
      have hq := Option.some.inj hf
      subst hq
      exact r_iret (dGet dX12_isPlace (j := 6) rfl) rfl (by decide)
  · rw [if_neg hc] at hf; cases hf
def eX12_sets : List (Nat × Instr × Nat) := [(0, .aload_n 0, 1), (1, .getfield 58, 3), (4, .iload_n 1, 1), (5, .iaload, 1), (6, .istore_n 2, 1), (7, .aload_n 0, 1), (8, .getfield 560, 3), (11, .iconst 1, 1), (12, .isub, 1), (13, .istore_n 3, 1), (14, .aload_n 0, 1), (15, .getfield 198, 3), (18, .iload_n 3, 1), (19, .iaload, 1), (20, .istore 4, 2), (22, .aload_n 0, 1), (23, .getfield 201, 3), (26, .iload_n 3, 1), (27, .baload, 1), (28, .istore 5, 2), (30, .aload_n 0, 1), (31, .getfield 25, 3), (34, .iload_n 2, 1), (35, .iaload, 1), (36, .bipush 19, 2), (38, .if_icmp .ne 34, 3), (41, .aload_n 0, 1), (42, .aload_n 0, 1), (43, .getfield 554, 3), (46, .iconst 1, 1), (47, .isub, 1), (48, .aload_n 0, 1), (49, .getfield 34, 3), (52, .iload_n 2, 1), (53, .iaload, 1), (54, .iload 4, 2), (56, .iload 5, 2), (58, .invokevirtual 598, 3), (61, .aload_n 0, 1), (62, .dup, 1), (63, .getfield 560, 3), (66, .iconst 1, 1), (67, .isub, 1), (68, .putfield 560, 3), (71, .return_, 1), (72, .aload_n 0, 1), (73, .getfield 25, 3), (76, .iload_n 2, 1), (77, .iaload, 1), (78, .bipush 20, 2), (80, .if_icmp .ne 44, 3), (83, .aload_n 0, 1), (84, .getfield 172, 3), (87, .aload_n 0, 1), (88, .getfield 157, 3), (91, .aload_n 0, 1), (92, .getfield 178, 3), (95, .aload_n 0, 1), (96, .getfield 554, 3), (99, .iconst 1, 1), (100, .isub, 1), (101, .iaload, 1), (102, .iaload, 1), (103, .aload_n 0, 1), (104, .getfield 34, 3), (107, .iload_n 2, 1), (108, .iaload, 1), (109, .iadd, 1), (110, .iload 4, 2), (112, .iastore, 1), (113, .aload_n 0, 1), (114, .dup, 1), (115, .getfield 560, 3), (118, .iconst 1, 1), (119, .isub, 1), (120, .putfield 560, 3), (123, .return_, 1), (124, .aload_n 0, 1), (125, .getfield 25, 3), (128, .iload_n 2, 1), (129, .iaload, 1), (130, .bipush 7, 2), (132, .if_icmp .ne 63, 3), (135, .aload_n 0, 1), (136, .getfield 198, 3), (139, .iload_n 3, 1), (140, .iconst 2, 1), (141, .isub, 1), (142, .iaload, 1), (143, .istore 6, 2), (145, .aload_n 0, 1), (146, .getfield 198, 3), (149, .iload_n 3, 1), (150, .iconst 1, 1), (151, .isub, 1), (152, .iaload, 1), (153, .istore 7, 2), (155, .aload_n 0, 1), (156, .iload 6, 2), (158, .iload 7, 2), (160, .invokevirtual 641, 3), (163, .ifCond .ne 4, 3), (166, .return_, 1), (167, .aload_n 0, 1), (168, .getfield 172, 3), (171, .aload_n 0, 1), (172, .getfield 157, 3), (175, .iload 6, 2), (177, .iaload, 1), (178, .iload 7, 2), (180, .iadd, 1), (181, .iload 4, 2), (183, .iastore, 1), (184, .aload_n 0, 1), (185, .dup, 1), (186, .getfield 560, 3), (189, .iconst 3, 1), (190, .isub, 1), (191, .putfield 560, 3), (194, .return_, 1), (195, .aload_n 0, 1), (196, .getfield 198, 3), (199, .iload_n 3, 1), (200, .iconst 1, 1), (201, .isub, 1), (202, .iaload, 1), (203, .istore 6, 2), (205, .iload 6, 2), (207, .ifCond .ge 9, 3), (210, .aload_n 0, 1), (211, .iconst 0, 1), (212, .invokevirtual 638, 3), (215, .return_, 1), (216, .aload_n 0, 1), (217, .getfield 172, 3), (220, .aload_n 0, 1), (221, .getfield 157, 3), (224, .iload 6, 2), (226, .iaload, 1), (227, .aload_n 0, 1), (228, .getfield 34, 3), (231, .iload_n 2, 1), (232, .iaload, 1), (233, .iadd, 1), (234, .iload 4, 2), (236, .iastore, 1), (237, .aload_n 0, 1), (238, .dup, 1), (239, .getfield 560, 3), (242, .iconst 2, 1), (243, .isub, 1), (244, .putfield 560, 3), (247, .return_, 1)]
theorem dX12_sets : dChk (pCd 10059) eX12_sets = true := by decide +kernel
def fX12_sets (N : Nat) (v0 : Nat) (v1 : Int32) (h : pH) : Option (pH) := if isO h v0 12 = true then (
  (getR h v0 12 30).bind fun t1 =>
  (ldI h t1 v1).bind fun t2 =>
  (getI h v0 12 100).bind fun t3 =>
  (getR h v0 12 101).bind fun t4 =>
  (ldI h t4 (t3 - (1 : Int32))).bind fun t5 =>
  (getR h v0 12 102).bind fun t6 =>
  (ldZ h t6 (t3 - (1 : Int32))).bind fun t7 =>
  (getR h v0 12 16).bind fun t8 =>
  (ldI h t8 t2).bind fun t9 =>
  if t9 = (19 : Int32) then (
  (getI h v0 12 93).bind fun t52 =>
  (getR h v0 12 19).bind fun t53 =>
  (ldI h t53 t2).bind fun t54 =>
  (fX12_setLocal N v0 (t52 - (1 : Int32)) t54 t5 t7 h).bind fun h55 =>
  (getI h55 v0 12 100).bind fun t56 =>
  (putI h55 v0 12 100 (t56 - (1 : Int32))).bind fun h57 =>
  some h57) else (
  (getR h v0 12 16).bind fun t11 =>
  (ldI h t11 t2).bind fun t12 =>
  if t12 = (20 : Int32) then (
  (getR h v0 12 91).bind fun t41 =>
  (getR h v0 12 84).bind fun t42 =>
  (getR h v0 12 94).bind fun t43 =>
  (getI h v0 12 93).bind fun t44 =>
  (ldI h t43 (t44 - (1 : Int32))).bind fun t45 =>
  (ldI h t42 t45).bind fun t46 =>
  (getR h v0 12 19).bind fun t47 =>
  (ldI h t47 t2).bind fun t48 =>
  (stI h t41 (t46 + t48) t5).bind fun h49 =>
  (getI h49 v0 12 100).bind fun t50 =>
  (putI h49 v0 12 100 (t50 - (1 : Int32))).bind fun h51 =>
  some h51) else (
  (getR h v0 12 16).bind fun t14 =>
  (ldI h t14 t2).bind fun t15 =>
  if t15 = (7 : Int32) then (
  (getR h v0 12 101).bind fun t29 =>
  (ldI h t29 ((t3 - (1 : Int32)) - (2 : Int32))).bind fun t30 =>
  (getR h v0 12 101).bind fun t31 =>
  (ldI h t31 ((t3 - (1 : Int32)) - (1 : Int32))).bind fun t32 =>
  (fX12_isPlace N v0 t30 t32 h).bind fun q33 =>
  if q33.1 = 0 then (
  some q33.2) else (
  (getR q33.2 v0 12 91).bind fun t35 =>
  (getR q33.2 v0 12 84).bind fun t36 =>
  (ldI q33.2 t36 t30).bind fun t37 =>
  (stI q33.2 t35 (t37 + t32) t5).bind fun h38 =>
  (getI h38 v0 12 100).bind fun t39 =>
  (putI h38 v0 12 100 (t39 - (3 : Int32))).bind fun h40 =>
  some h40)) else (
  (getR h v0 12 101).bind fun t17 =>
  (ldI h t17 ((t3 - (1 : Int32)) - (1 : Int32))).bind fun t18 =>
  if 0 ≤ t18 then (
  (getR h v0 12 91).bind fun t20 =>
  (getR h v0 12 84).bind fun t21 =>
  (ldI h t21 t18).bind fun t22 =>
  (getR h v0 12 19).bind fun t23 =>
  (ldI h t23 t2).bind fun t24 =>
  (stI h t20 (t22 + t24) t5).bind fun h25 =>
  (getI h25 v0 12 100).bind fun t26 =>
  (putI h25 v0 12 100 (t26 - (2 : Int32))).bind fun h27 =>
  some h27) else (
  (fX12_faults N v0 (0 : Int32) h).bind fun h28 =>
  some h28))))) else none
theorem oX12_sets {N : Nat} {v0 : Nat} {v1 : Int32} {h : pH} {q : pH} (hf : fX12_sets N v0 v1 h = some q) : isO h v0 12 = true := by
  unfold fX12_sets at hf
  by_cases hc : isO h v0 12 = true
  · exact hc
  · rw [if_neg hc] at hf; cases hf
theorem cX12_sets (X : pX) (N d : Nat) (v0 : Nat) (v1 : Int32) (h : pH) (q : pH) (hf : fX12_sets N v0 v1 h = some q) : Calls X (d + 4) 338 [.ref v0, .int v1] h (none, q, 0, 0) := by
  refine Calls.of M338 (Nat.le_of_ble_eq_true rfl) ?_
  show Run X (d + 4) 12 false (pCd 10059) 8 none 0 [(0, .ref v0), (1, .int v1)] [] h 0 0 (none, q, 0, 0)
  unfold fX12_sets at hf
  by_cases hc : isO h v0 12 = true
  · rw [if_pos hc] at hf
    have nv0 : ¬ v0 = 4 := isO_ne hc
    refine r_aload_n (dGet dX12_sets (j := 0) rfl) nv0 rfl ?_
    obtain ⟨t1, et1, hf⟩ := Option.bind_eq_some_iff.mp hf
    refine r_getR (dGet dX12_sets (j := 1) rfl) F12_58 et1 ?_
    refine r_iload_n (dGet dX12_sets (j := 2) rfl) rfl ?_
    obtain ⟨t2, et2, hf⟩ := Option.bind_eq_some_iff.mp hf
    refine r_iald (dGet dX12_sets (j := 3) rfl) et2 ?_
    refine r_istore_n (lv' := [(2, .int t2), (0, .ref v0), (1, .int v1)]) (dGet dX12_sets (j := 4) rfl) (by decide) rfl ?_
    refine r_aload_n (dGet dX12_sets (j := 5) rfl) nv0 rfl ?_
    obtain ⟨t3, et3, hf⟩ := Option.bind_eq_some_iff.mp hf
    refine r_getI (dGet dX12_sets (j := 6) rfl) F12_560 et3 ?_
    refine r_iconst (dGet dX12_sets (j := 7) rfl) kI_1 ?_
    refine r_isub (dGet dX12_sets (j := 8) rfl) ?_
    refine r_istore_n (lv' := [(3, .int (t3 - (1 : Int32))), (2, .int t2), (0, .ref v0), (1, .int v1)]) (dGet dX12_sets (j := 9) rfl) (by decide) rfl ?_
    refine r_aload_n (dGet dX12_sets (j := 10) rfl) nv0 rfl ?_
    obtain ⟨t4, et4, hf⟩ := Option.bind_eq_some_iff.mp hf
    refine r_getR (dGet dX12_sets (j := 11) rfl) F12_198 et4 ?_
    refine r_iload_n (dGet dX12_sets (j := 12) rfl) rfl ?_
    obtain ⟨t5, et5, hf⟩ := Option.bind_eq_some_iff.mp hf
    refine r_iald (dGet dX12_sets (j := 13) rfl) et5 ?_
    refine r_istore (lv' := [(4, .int t5), (3, .int (t3 - (1 : Int32))), (2, .int t2), (0, .ref v0), (1, .int v1)]) (dGet dX12_sets (j := 14) rfl) (by decide) rfl ?_
    refine r_aload_n (dGet dX12_sets (j := 15) rfl) nv0 rfl ?_
    obtain ⟨t6, et6, hf⟩ := Option.bind_eq_some_iff.mp hf
    refine r_getR (dGet dX12_sets (j := 16) rfl) F12_201 et6 ?_
    refine r_iload_n (dGet dX12_sets (j := 17) rfl) rfl ?_
    obtain ⟨t7, et7, hf⟩ := Option.bind_eq_some_iff.mp hf
    refine r_zald (dGet dX12_sets (j := 18) rfl) et7 ?_
    refine r_istore (lv' := [(5, .int t7), (4, .int t5), (3, .int (t3 - (1 : Int32))), (2, .int t2), (0, .ref v0), (1, .int v1)]) (dGet dX12_sets (j := 19) rfl) (by decide) rfl ?_
    refine r_aload_n (dGet dX12_sets (j := 20) rfl) nv0 rfl ?_
    obtain ⟨t8, et8, hf⟩ := Option.bind_eq_some_iff.mp hf
    refine r_getR (dGet dX12_sets (j := 21) rfl) F12_25 et8 ?_
    refine r_iload_n (dGet dX12_sets (j := 22) rfl) rfl ?_
    obtain ⟨t9, et9, hf⟩ := Option.bind_eq_some_iff.mp hf
    refine r_iald (dGet dX12_sets (j := 23) rfl) et9 ?_
    refine r_bipush (dGet dX12_sets (j := 24) rfl) kB_19 ?_
    by_cases c10 : t9 = (19 : Int32)
    · rw [if_pos c10] at hf
      refine r_icmp_ne_f (dGet dX12_sets (j := 25) rfl) rfl c10 ?_
      refine r_aload_n (dGet dX12_sets (j := 26) rfl) nv0 rfl ?_
      refine r_aload_n (dGet dX12_sets (j := 27) rfl) nv0 rfl ?_
      obtain ⟨t52, et52, hf⟩ := Option.bind_eq_some_iff.mp hf
      refine r_getI (dGet dX12_sets (j := 28) rfl) F12_554 et52 ?_
      refine r_iconst (dGet dX12_sets (j := 29) rfl) kI_1 ?_
      refine r_isub (dGet dX12_sets (j := 30) rfl) ?_
      refine r_aload_n (dGet dX12_sets (j := 31) rfl) nv0 rfl ?_
      obtain ⟨t53, et53, hf⟩ := Option.bind_eq_some_iff.mp hf
      refine r_getR (dGet dX12_sets (j := 32) rfl) F12_34 et53 ?_
      refine r_iload_n (dGet dX12_sets (j := 33) rfl) rfl ?_
      obtain ⟨t54, et54, hf⟩ := Option.bind_eq_some_iff.mp hf
      refine r_iald (dGet dX12_sets (j := 34) rfl) et54 ?_
      refine r_iload (dGet dX12_sets (j := 35) rfl) rfl ?_
      refine r_iload (dGet dX12_sets (j := 36) rfl) rfl ?_
      obtain ⟨h55, eh55, hf⟩ := Option.bind_eq_some_iff.mp hf
      refine r_virtual (dGet dX12_sets (j := 37) rfl) L12_598 M311 rfl rfl (Nat.le_of_ble_eq_true rfl) (oX12_setLocal eh55) (cX12_setLocal X N (d + 3) v0 (t52 - (1 : Int32)) t54 t5 t7 h h55 eh55) ?_
      refine r_aload_n (dGet dX12_sets (j := 38) rfl) nv0 rfl ?_
      refine r_dup (dGet dX12_sets (j := 39) rfl) rfl ?_
      obtain ⟨t56, et56, hf⟩ := Option.bind_eq_some_iff.mp hf
      refine r_getI (dGet dX12_sets (j := 40) rfl) F12_560 et56 ?_
      refine r_iconst (dGet dX12_sets (j := 41) rfl) kI_1 ?_
      refine r_isub (dGet dX12_sets (j := 42) rfl) ?_
      obtain ⟨h57, eh57, hf⟩ := Option.bind_eq_some_iff.mp hf
      refine r_putI (dGet dX12_sets (j := 43) rfl) F12_560 rfl rfl eh57 ?_
      have hq := Option.some.inj hf
      subst hq
      exact r_vret (dGet dX12_sets (j := 44) rfl) rfl
    · rw [if_neg c10] at hf
      refine r_icmp_ne_t (dGet dX12_sets (j := 25) rfl) rfl c10 ?_
      refine r_aload_n (dGet dX12_sets (j := 45) rfl) nv0 rfl ?_
      obtain ⟨t11, et11, hf⟩ := Option.bind_eq_some_iff.mp hf
      refine r_getR (dGet dX12_sets (j := 46) rfl) F12_25 et11 ?_
      refine r_iload_n (dGet dX12_sets (j := 47) rfl) rfl ?_
      obtain ⟨t12, et12, hf⟩ := Option.bind_eq_some_iff.mp hf
      refine r_iald (dGet dX12_sets (j := 48) rfl) et12 ?_
      refine r_bipush (dGet dX12_sets (j := 49) rfl) kB_20 ?_
      by_cases c13 : t12 = (20 : Int32)
      · rw [if_pos c13] at hf
        refine r_icmp_ne_f (dGet dX12_sets (j := 50) rfl) rfl c13 ?_
        refine r_aload_n (dGet dX12_sets (j := 51) rfl) nv0 rfl ?_
        obtain ⟨t41, et41, hf⟩ := Option.bind_eq_some_iff.mp hf
        refine r_getR (dGet dX12_sets (j := 52) rfl) F12_172 et41 ?_
        refine r_aload_n (dGet dX12_sets (j := 53) rfl) nv0 rfl ?_
        obtain ⟨t42, et42, hf⟩ := Option.bind_eq_some_iff.mp hf
        refine r_getR (dGet dX12_sets (j := 54) rfl) F12_157 et42 ?_
        refine r_aload_n (dGet dX12_sets (j := 55) rfl) nv0 rfl ?_
        obtain ⟨t43, et43, hf⟩ := Option.bind_eq_some_iff.mp hf
        refine r_getR (dGet dX12_sets (j := 56) rfl) F12_178 et43 ?_
        refine r_aload_n (dGet dX12_sets (j := 57) rfl) nv0 rfl ?_
        obtain ⟨t44, et44, hf⟩ := Option.bind_eq_some_iff.mp hf
        refine r_getI (dGet dX12_sets (j := 58) rfl) F12_554 et44 ?_
        refine r_iconst (dGet dX12_sets (j := 59) rfl) kI_1 ?_
        refine r_isub (dGet dX12_sets (j := 60) rfl) ?_
        obtain ⟨t45, et45, hf⟩ := Option.bind_eq_some_iff.mp hf
        refine r_iald (dGet dX12_sets (j := 61) rfl) et45 ?_
        obtain ⟨t46, et46, hf⟩ := Option.bind_eq_some_iff.mp hf
        refine r_iald (dGet dX12_sets (j := 62) rfl) et46 ?_
        refine r_aload_n (dGet dX12_sets (j := 63) rfl) nv0 rfl ?_
        obtain ⟨t47, et47, hf⟩ := Option.bind_eq_some_iff.mp hf
        refine r_getR (dGet dX12_sets (j := 64) rfl) F12_34 et47 ?_
        refine r_iload_n (dGet dX12_sets (j := 65) rfl) rfl ?_
        obtain ⟨t48, et48, hf⟩ := Option.bind_eq_some_iff.mp hf
        refine r_iald (dGet dX12_sets (j := 66) rfl) et48 ?_
        refine r_iadd (dGet dX12_sets (j := 67) rfl) ?_
        refine r_iload (dGet dX12_sets (j := 68) rfl) rfl ?_
        obtain ⟨h49, eh49, hf⟩ := Option.bind_eq_some_iff.mp hf
        refine r_iast (dGet dX12_sets (j := 69) rfl) eh49 ?_
        refine r_aload_n (dGet dX12_sets (j := 70) rfl) nv0 rfl ?_
        refine r_dup (dGet dX12_sets (j := 71) rfl) rfl ?_
        obtain ⟨t50, et50, hf⟩ := Option.bind_eq_some_iff.mp hf
        refine r_getI (dGet dX12_sets (j := 72) rfl) F12_560 et50 ?_
        refine r_iconst (dGet dX12_sets (j := 73) rfl) kI_1 ?_
        refine r_isub (dGet dX12_sets (j := 74) rfl) ?_
        obtain ⟨h51, eh51, hf⟩ := Option.bind_eq_some_iff.mp hf
        refine r_putI (dGet dX12_sets (j := 75) rfl) F12_560 rfl rfl eh51 ?_
        have hq := Option.some.inj hf
        subst hq
        exact r_vret (dGet dX12_sets (j := 76) rfl) rfl
      · rw [if_neg c13] at hf
        refine r_icmp_ne_t (dGet dX12_sets (j := 50) rfl) rfl c13 ?_
        refine r_aload_n (dGet dX12_sets (j := 77) rfl) nv0 rfl ?_
        obtain ⟨t14, et14, hf⟩ := Option.bind_eq_some_iff.mp hf
        refine r_getR (dGet dX12_sets (j := 78) rfl) F12_25 et14 ?_
        refine r_iload_n (dGet dX12_sets (j := 79) rfl) rfl ?_
        obtain ⟨t15, et15, hf⟩ := Option.bind_eq_some_iff.mp hf
        refine r_iald (dGet dX12_sets (j := 80) rfl) et15 ?_
        refine r_bipush (dGet dX12_sets (j := 81) rfl) kB_7 ?_
        by_cases c16 : t15 = (7 : Int32)
        · rw [if_pos c16] at hf
          refine r_icmp_ne_f (dGet dX12_sets (j := 82) rfl) rfl c16 ?_
          refine r_aload_n (dGet dX12_sets (j := 83) rfl) nv0 rfl ?_
          obtain ⟨t29, et29, hf⟩ := Option.bind_eq_some_iff.mp hf
          refine r_getR (dGet dX12_sets (j := 84) rfl) F12_198 et29 ?_
          refine r_iload_n (dGet dX12_sets (j := 85) rfl) rfl ?_
          refine r_iconst (dGet dX12_sets (j := 86) rfl) kI_2 ?_
          refine r_isub (dGet dX12_sets (j := 87) rfl) ?_
          obtain ⟨t30, et30, hf⟩ := Option.bind_eq_some_iff.mp hf
          refine r_iald (dGet dX12_sets (j := 88) rfl) et30 ?_
          refine r_istore (lv' := [(6, .int t30), (5, .int t7), (4, .int t5), (3, .int (t3 - (1 : Int32))), (2, .int t2), (0, .ref v0), (1, .int v1)]) (dGet dX12_sets (j := 89) rfl) (by decide) rfl ?_
          refine r_aload_n (dGet dX12_sets (j := 90) rfl) nv0 rfl ?_
          obtain ⟨t31, et31, hf⟩ := Option.bind_eq_some_iff.mp hf
          refine r_getR (dGet dX12_sets (j := 91) rfl) F12_198 et31 ?_
          refine r_iload_n (dGet dX12_sets (j := 92) rfl) rfl ?_
          refine r_iconst (dGet dX12_sets (j := 93) rfl) kI_1 ?_
          refine r_isub (dGet dX12_sets (j := 94) rfl) ?_
          obtain ⟨t32, et32, hf⟩ := Option.bind_eq_some_iff.mp hf
          refine r_iald (dGet dX12_sets (j := 95) rfl) et32 ?_
          refine r_istore (lv' := [(7, .int t32), (6, .int t30), (5, .int t7), (4, .int t5), (3, .int (t3 - (1 : Int32))), (2, .int t2), (0, .ref v0), (1, .int v1)]) (dGet dX12_sets (j := 96) rfl) (by decide) rfl ?_
          refine r_aload_n (dGet dX12_sets (j := 97) rfl) nv0 rfl ?_
          refine r_iload (dGet dX12_sets (j := 98) rfl) rfl ?_
          refine r_iload (dGet dX12_sets (j := 99) rfl) rfl ?_
          obtain ⟨q33, eq33, hf⟩ := Option.bind_eq_some_iff.mp hf
          refine r_virtual (dGet dX12_sets (j := 100) rfl) L12_641 M332 rfl rfl (Nat.le_of_ble_eq_true rfl) (oX12_isPlace eq33) (cX12_isPlace X N (d + 0) v0 t30 t32 h q33 eq33) ?_
          by_cases c34 : q33.1 = 0
          · rw [if_pos c34] at hf
            refine r_if_ne_f (dGet dX12_sets (j := 101) rfl) rfl c34 ?_
            have hq := Option.some.inj hf
            subst hq
            exact r_vret (dGet dX12_sets (j := 102) rfl) rfl
          · rw [if_neg c34] at hf
            refine r_if_ne_t (dGet dX12_sets (j := 101) rfl) rfl c34 ?_
            refine r_aload_n (dGet dX12_sets (j := 103) rfl) nv0 rfl ?_
            obtain ⟨t35, et35, hf⟩ := Option.bind_eq_some_iff.mp hf
            refine r_getR (dGet dX12_sets (j := 104) rfl) F12_172 et35 ?_
            refine r_aload_n (dGet dX12_sets (j := 105) rfl) nv0 rfl ?_
            obtain ⟨t36, et36, hf⟩ := Option.bind_eq_some_iff.mp hf
            refine r_getR (dGet dX12_sets (j := 106) rfl) F12_157 et36 ?_
            refine r_iload (dGet dX12_sets (j := 107) rfl) rfl ?_
            obtain ⟨t37, et37, hf⟩ := Option.bind_eq_some_iff.mp hf
            refine r_iald (dGet dX12_sets (j := 108) rfl) et37 ?_
            refine r_iload (dGet dX12_sets (j := 109) rfl) rfl ?_
            refine r_iadd (dGet dX12_sets (j := 110) rfl) ?_
            refine r_iload (dGet dX12_sets (j := 111) rfl) rfl ?_
            obtain ⟨h38, eh38, hf⟩ := Option.bind_eq_some_iff.mp hf
            refine r_iast (dGet dX12_sets (j := 112) rfl) eh38 ?_
            refine r_aload_n (dGet dX12_sets (j := 113) rfl) nv0 rfl ?_
            refine r_dup (dGet dX12_sets (j := 114) rfl) rfl ?_
            obtain ⟨t39, et39, hf⟩ := Option.bind_eq_some_iff.mp hf
            refine r_getI (dGet dX12_sets (j := 115) rfl) F12_560 et39 ?_
            refine r_iconst (dGet dX12_sets (j := 116) rfl) kI_3 ?_
            refine r_isub (dGet dX12_sets (j := 117) rfl) ?_
            obtain ⟨h40, eh40, hf⟩ := Option.bind_eq_some_iff.mp hf
            refine r_putI (dGet dX12_sets (j := 118) rfl) F12_560 rfl rfl eh40 ?_
            have hq := Option.some.inj hf
            subst hq
            exact r_vret (dGet dX12_sets (j := 119) rfl) rfl
        · rw [if_neg c16] at hf
          refine r_icmp_ne_t (dGet dX12_sets (j := 82) rfl) rfl c16 ?_
          refine r_aload_n (dGet dX12_sets (j := 120) rfl) nv0 rfl ?_
          obtain ⟨t17, et17, hf⟩ := Option.bind_eq_some_iff.mp hf
          refine r_getR (dGet dX12_sets (j := 121) rfl) F12_198 et17 ?_
          refine r_iload_n (dGet dX12_sets (j := 122) rfl) rfl ?_
          refine r_iconst (dGet dX12_sets (j := 123) rfl) kI_1 ?_
          refine r_isub (dGet dX12_sets (j := 124) rfl) ?_
          obtain ⟨t18, et18, hf⟩ := Option.bind_eq_some_iff.mp hf
          refine r_iald (dGet dX12_sets (j := 125) rfl) et18 ?_
          refine r_istore (lv' := [(6, .int t18), (5, .int t7), (4, .int t5), (3, .int (t3 - (1 : Int32))), (2, .int t2), (0, .ref v0), (1, .int v1)]) (dGet dX12_sets (j := 126) rfl) (by decide) rfl ?_
          refine r_iload (dGet dX12_sets (j := 127) rfl) rfl ?_
          by_cases c19 : 0 ≤ t18
          · rw [if_pos c19] at hf
            refine r_if_ge_t (dGet dX12_sets (j := 128) rfl) rfl c19 ?_
            refine r_aload_n (dGet dX12_sets (j := 133) rfl) nv0 rfl ?_
            obtain ⟨t20, et20, hf⟩ := Option.bind_eq_some_iff.mp hf
            refine r_getR (dGet dX12_sets (j := 134) rfl) F12_172 et20 ?_
            refine r_aload_n (dGet dX12_sets (j := 135) rfl) nv0 rfl ?_
            obtain ⟨t21, et21, hf⟩ := Option.bind_eq_some_iff.mp hf
            refine r_getR (dGet dX12_sets (j := 136) rfl) F12_157 et21 ?_
            refine r_iload (dGet dX12_sets (j := 137) rfl) rfl ?_
            obtain ⟨t22, et22, hf⟩ := Option.bind_eq_some_iff.mp hf
            refine r_iald (dGet dX12_sets (j := 138) rfl) et22 ?_
            refine r_aload_n (dGet dX12_sets (j := 139) rfl) nv0 rfl ?_
            obtain ⟨t23, et23, hf⟩ := Option.bind_eq_some_iff.mp hf
            refine r_getR (dGet dX12_sets (j := 140) rfl) F12_34 et23 ?_
            refine r_iload_n (dGet dX12_sets (j := 141) rfl) rfl ?_
            obtain ⟨t24, et24, hf⟩ := Option.bind_eq_some_iff.mp hf
            refine r_iald (dGet dX12_sets (j := 142) rfl) et24 ?_
            refine r_iadd (dGet dX12_sets (j := 143) rfl) ?_
            refine r_iload (dGet dX12_sets (j := 144) rfl) rfl ?_
            obtain ⟨h25, eh25, hf⟩ := Option.bind_eq_some_iff.mp hf
            refine r_iast (dGet dX12_sets (j := 145) rfl) eh25 ?_
            refine r_aload_n (dGet dX12_sets (j := 146) rfl) nv0 rfl ?_
            refine r_dup (dGet dX12_sets (j := 147) rfl) rfl ?_
            obtain ⟨t26, et26, hf⟩ := Option.bind_eq_some_iff.mp hf
            refine r_getI (dGet dX12_sets (j := 148) rfl) F12_560 et26 ?_
            refine r_iconst (dGet dX12_sets (j := 149) rfl) kI_2 ?_
            refine r_isub (dGet dX12_sets (j := 150) rfl) ?_
            obtain ⟨h27, eh27, hf⟩ := Option.bind_eq_some_iff.mp hf
            refine r_putI (dGet dX12_sets (j := 151) rfl) F12_560 rfl rfl eh27 ?_
            have hq := Option.some.inj hf
            subst hq
            exact r_vret (dGet dX12_sets (j := 152) rfl) rfl
          · rw [if_neg c19] at hf
            refine r_if_ge_f (dGet dX12_sets (j := 128) rfl) rfl c19 ?_
            refine r_aload_n (dGet dX12_sets (j := 129) rfl) nv0 rfl ?_
            refine r_iconst (dGet dX12_sets (j := 130) rfl) kI_0 ?_
            obtain ⟨h28, eh28, hf⟩ := Option.bind_eq_some_iff.mp hf
            refine r_virtual (dGet dX12_sets (j := 131) rfl) L12_638 M330 rfl rfl (Nat.le_of_ble_eq_true rfl) (oX12_faults eh28) (cX12_faults X N (d + 1) v0 (0 : Int32) h h28 eh28) ?_
            have hq := Option.some.inj hf
            subst hq
            exact r_vret (dGet dX12_sets (j := 132) rfl) rfl
  · rw [if_neg hc] at hf; cases hf
def eX12_done : List (Nat × Instr × Nat) := [(0, .aload_n 0, 1), (1, .getfield 554, 3), (4, .iconst 1, 1), (5, .isub, 1), (6, .istore_n 2, 1), (7, .aload_n 0, 1), (8, .getfield 560, 3), (11, .iconst 1, 1), (12, .isub, 1), (13, .istore_n 3, 1), (14, .aload_n 0, 1), (15, .getfield 46, 3), (18, .iload_n 1, 1), (19, .iaload, 1), (20, .tableswitch 298 0 6 #[44, 94, 148, 212, 220, 298, 250], 44), (64, .aload_n 0, 1), (65, .iload_n 2, 1), (66, .aload_n 0, 1), (67, .getfield 67, 3), (70, .iload_n 1, 1), (71, .iaload, 1), (72, .aload_n 0, 1), (73, .getfield 198, 3), (76, .iload_n 3, 1), (77, .iaload, 1), (78, .aload_n 0, 1), (79, .getfield 201, 3), (82, .iload_n 3, 1), (83, .baload, 1), (84, .invokevirtual 598, 3), (87, .aload_n 0, 1), (88, .getfield 184, 3), (91, .iload_n 2, 1), (92, .aload_n 0, 1), (93, .getfield 67, 3), (96, .iload_n 1, 1), (97, .iaload, 1), (98, .iconst 1, 1), (99, .iadd, 1), (100, .iastore, 1), (101, .aload_n 0, 1), (102, .dup, 1), (103, .getfield 560, 3), (106, .iconst 1, 1), (107, .isub, 1), (108, .putfield 560, 3), (111, .goto 212, 3), (114, .aload_n 0, 1), (115, .dup, 1), (116, .getfield 560, 3), (119, .iconst 1, 1), (120, .isub, 1), (121, .putfield 560, 3), (124, .aload_n 0, 1), (125, .iconst 5, 1), (126, .aload_n 0, 1), (127, .getfield 184, 3), (130, .iload_n 2, 1), (131, .iaload, 1), (132, .invokevirtual 596, 3), (135, .aload_n 0, 1), (136, .iconst 3, 1), (137, .aload_n 0, 1), (138, .getfield 198, 3), (141, .iload_n 3, 1), (142, .iaload, 1), (143, .iconst 1, 1), (144, .if_icmp .ne 12, 3), (147, .aload_n 0, 1), (148, .getfield 70, 3), (151, .iload_n 1, 1), (152, .iaload, 1), (153, .goto 9, 3), (156, .aload_n 0, 1), (157, .getfield 73, 3), (160, .iload_n 1, 1), (161, .iaload, 1), (162, .invokevirtual 596, 3), (165, .goto 158, 3), (168, .aload_n 0, 1), (169, .dup, 1), (170, .getfield 560, 3), (173, .iconst 1, 1), (174, .isub, 1), (175, .putfield 560, 3), (178, .aload_n 0, 1), (179, .getfield 198, 3), (182, .iload_n 3, 1), (183, .iaload, 1), (184, .ifCond .ne 6, 3), (187, .goto 136, 3), (190, .aload_n 0, 1), (191, .iconst 4, 1), (192, .iload_n 1, 1), (193, .invokevirtual 596, 3), (196, .aload_n 0, 1), (197, .iconst 0, 1), (198, .aload_n 0, 1), (199, .getfield 55, 3), (202, .iload_n 1, 1), (203, .iaload, 1), (204, .invokevirtual 596, 3), (207, .aload_n 0, 1), (208, .iconst 5, 1), (209, .aload_n 0, 1), (210, .getfield 184, 3), (213, .iload_n 2, 1), (214, .iaload, 1), (215, .invokevirtual 596, 3), (218, .aload_n 0, 1), (219, .iconst 3, 1), (220, .aload_n 0, 1), (221, .getfield 70, 3), (224, .iload_n 1, 1), (225, .iaload, 1), (226, .invokevirtual 596, 3), (229, .goto 94, 3), (232, .aload_n 0, 1), (233, .iload_n 1, 1), (234, .invokevirtual 654, 3), (237, .goto 86, 3), (240, .aload_n 0, 1), (241, .getfield 198, 3), (244, .iload_n 3, 1), (245, .iaload, 1), (246, .ifCond .ge 11, 3), (249, .aload_n 0, 1), (250, .iconst 0, 1), (251, .invokevirtual 638, 3), (254, .goto 69, 3), (257, .aload_n 0, 1), (258, .aload_n 0, 1), (259, .getfield 198, 3), (262, .iload_n 3, 1), (263, .iaload, 1), (264, .invokevirtual 608, 3), (267, .goto 56, 3), (270, .aload_n 0, 1), (271, .getfield 657, 3), (274, .sipush 500, 3), (277, .if_icmp .ge 18, 3), (280, .aload_n 0, 1), (281, .getfield 148, 3), (284, .aload_n 0, 1), (285, .getfield 657, 3), (288, .aload_n 0, 1), (289, .getfield 198, 3), (292, .iload_n 3, 1), (293, .iaload, 1), (294, .iastore, 1), (295, .aload_n 0, 1), (296, .dup, 1), (297, .getfield 657, 3), (300, .iconst 1, 1), (301, .iadd, 1), (302, .putfield 657, 3), (305, .aload_n 0, 1), (306, .dup, 1), (307, .getfield 560, 3), (310, .iconst 1, 1), (311, .isub, 1), (312, .putfield 560, 3), (315, .goto 8, 3), (318, .aload_n 0, 1), (319, .iload_n 1, 1), (320, .invokevirtual 660, 3), (323, .return_, 1)]
theorem dX12_done : dChk (pCd 10051) eX12_done = true := by decide +kernel
def fX12_done_318 (N : Nat) (v0 : Nat) (v1 : Int32) (h : pH) : Option (pH) :=
  (fX12_sets N v0 v1 h).bind fun h1 =>
  some h1
theorem lX12_done_318 (X : pX) (N d : Nat)  (v0 : Nat) (v1 : Int32) (h : pH) (q : pH) (hf : fX12_done_318 N v0 v1 h = some q) (nv0 : ¬ v0 = 4) : Run X (d + 5) 12 false (pCd 10051) 4 none 318 [(0, .ref v0), (1, .int v1)] [] h 0 0 (none, q, 0, 0) := by
  unfold fX12_done_318 at hf
  refine r_aload_n (dGet dX12_done (j := 163) rfl) nv0 rfl ?_
  refine r_iload_n (dGet dX12_done (j := 164) rfl) rfl ?_
  obtain ⟨h1, eh1, hf⟩ := Option.bind_eq_some_iff.mp hf
  refine r_virtual (dGet dX12_done (j := 165) rfl) L12_660 M338 rfl rfl (Nat.le_of_ble_eq_true rfl) (oX12_sets eh1) (cX12_sets X N (d + 0) v0 v1 h h1 eh1) ?_
  have hq := Option.some.inj hf
  subst hq
  exact r_vret (dGet dX12_done (j := 166) rfl) rfl
def fX12_done_295 (N : Nat) (v0 : Nat) (h : pH) : Option (pH) :=
  (getI h v0 12 78).bind fun t2 =>
  (putI h v0 12 78 (t2 + (1 : Int32))).bind fun h3 =>
  (getI h3 v0 12 100).bind fun t4 =>
  (putI h3 v0 12 100 (t4 - (1 : Int32))).bind fun h5 =>
  some h5
theorem lX12_done_295 (X : pX) (N d : Nat)  (v0 : Nat) (h : pH) (q : pH) (hf : fX12_done_295 N v0 h = some q) (nv0 : ¬ v0 = 4) : Run X (d + 5) 12 false (pCd 10051) 4 none 295 [(0, .ref v0)] [] h 0 0 (none, q, 0, 0) := by
  unfold fX12_done_295 at hf
  refine r_aload_n (dGet dX12_done (j := 150) rfl) nv0 rfl ?_
  refine r_dup (dGet dX12_done (j := 151) rfl) rfl ?_
  obtain ⟨t2, et2, hf⟩ := Option.bind_eq_some_iff.mp hf
  refine r_getI (dGet dX12_done (j := 152) rfl) F12_657 et2 ?_
  refine r_iconst (dGet dX12_done (j := 153) rfl) kI_1 ?_
  refine r_iadd (dGet dX12_done (j := 154) rfl) ?_
  obtain ⟨h3, eh3, hf⟩ := Option.bind_eq_some_iff.mp hf
  refine r_putI (dGet dX12_done (j := 155) rfl) F12_657 rfl rfl eh3 ?_
  refine r_aload_n (dGet dX12_done (j := 156) rfl) nv0 rfl ?_
  refine r_dup (dGet dX12_done (j := 157) rfl) rfl ?_
  obtain ⟨t4, et4, hf⟩ := Option.bind_eq_some_iff.mp hf
  refine r_getI (dGet dX12_done (j := 158) rfl) F12_560 et4 ?_
  refine r_iconst (dGet dX12_done (j := 159) rfl) kI_1 ?_
  refine r_isub (dGet dX12_done (j := 160) rfl) ?_
  obtain ⟨h5, eh5, hf⟩ := Option.bind_eq_some_iff.mp hf
  refine r_putI (dGet dX12_done (j := 161) rfl) F12_560 rfl rfl eh5 ?_
  refine r_goto (dGet dX12_done (j := 162) rfl) rfl ?_
  have hq := Option.some.inj hf
  subst hq
  exact r_vret (dGet dX12_done (j := 166) rfl) rfl
def fX12_done_162 (N : Nat) (s0 : Nat) (s1 : Int32) (s2 : Int32) (h : pH) : Option (pH) :=
  (fX12_todo N s0 s1 s2 h).bind fun h6 =>
  some h6
theorem lX12_done_162 (X : pX) (N d : Nat)  (s0 : Nat) (s1 : Int32) (s2 : Int32) (h : pH) (q : pH) (hf : fX12_done_162 N s0 s1 s2 h = some q) (ns0 : ¬ s0 = 4) : Run X (d + 5) 12 false (pCd 10051) 4 none 162 [] [.int s2, .int s1, .ref s0] h 0 0 (none, q, 0, 0) := by
  unfold fX12_done_162 at hf
  obtain ⟨h6, eh6, hf⟩ := Option.bind_eq_some_iff.mp hf
  refine r_virtual (dGet dX12_done (j := 77) rfl) L12_596 M312 rfl rfl (Nat.le_of_ble_eq_true rfl) (oX12_todo eh6) (cX12_todo X N (d + 4) s0 s1 s2 h h6 eh6) ?_
  refine r_goto (dGet dX12_done (j := 78) rfl) rfl ?_
  have hq := Option.some.inj hf
  subst hq
  exact r_vret (dGet dX12_done (j := 166) rfl) rfl
def fX12_done (N : Nat) (v0 : Nat) (v1 : Int32) (h : pH) : Option (pH) := if isO h v0 12 = true then (
  (getI h v0 12 93).bind fun t7 =>
  (getI h v0 12 100).bind fun t8 =>
  (getR h v0 12 26).bind fun t9 =>
  (ldI h t9 v1).bind fun t10 =>
  if t10 = 0 then (
  (getR h v0 12 33).bind fun t18 =>
  (ldI h t18 v1).bind fun t19 =>
  (getR h v0 12 101).bind fun t20 =>
  (ldI h t20 (t8 - (1 : Int32))).bind fun t21 =>
  (getR h v0 12 102).bind fun t22 =>
  (ldZ h t22 (t8 - (1 : Int32))).bind fun t23 =>
  (fX12_setLocal N v0 (t7 - (1 : Int32)) t19 t21 t23 h).bind fun h24 =>
  (getR h24 v0 12 96).bind fun t25 =>
  (getR h24 v0 12 33).bind fun t26 =>
  (ldI h24 t26 v1).bind fun t27 =>
  (stI h24 t25 (t7 - (1 : Int32)) (t27 + (1 : Int32))).bind fun h28 =>
  (getI h28 v0 12 100).bind fun t29 =>
  (putI h28 v0 12 100 (t29 - (1 : Int32))).bind fun h30 =>
  some h30) else
  if t10 = 1 then (
  (getI h v0 12 100).bind fun t31 =>
  (putI h v0 12 100 (t31 - (1 : Int32))).bind fun h32 =>
  (getR h32 v0 12 96).bind fun t33 =>
  (ldI h32 t33 (t7 - (1 : Int32))).bind fun t34 =>
  (fX12_todo N v0 (5 : Int32) t34 h32).bind fun h35 =>
  (getR h35 v0 12 101).bind fun t36 =>
  (ldI h35 t36 (t8 - (1 : Int32))).bind fun t37 =>
  if t37 = (1 : Int32) then (
  (getR h35 v0 12 34).bind fun t41 =>
  (ldI h35 t41 v1).bind fun t42 =>
  fX12_done_162 N v0 (3 : Int32) t42 h35) else (
  (getR h35 v0 12 35).bind fun t39 =>
  (ldI h35 t39 v1).bind fun t40 =>
  fX12_done_162 N v0 (3 : Int32) t40 h35)) else
  if t10 = 2 then (
  (getI h v0 12 100).bind fun t43 =>
  (putI h v0 12 100 (t43 - (1 : Int32))).bind fun h44 =>
  (getR h44 v0 12 101).bind fun t45 =>
  (ldI h44 t45 (t8 - (1 : Int32))).bind fun t46 =>
  if t46 = 0 then (
  some h44) else (
  (fX12_todo N v0 (4 : Int32) v1 h44).bind fun h48 =>
  (getR h48 v0 12 29).bind fun t49 =>
  (ldI h48 t49 v1).bind fun t50 =>
  (fX12_todo N v0 (0 : Int32) t50 h48).bind fun h51 =>
  (getR h51 v0 12 96).bind fun t52 =>
  (ldI h51 t52 (t7 - (1 : Int32))).bind fun t53 =>
  (fX12_todo N v0 (5 : Int32) t53 h51).bind fun h54 =>
  (getR h54 v0 12 34).bind fun t55 =>
  (ldI h54 t55 v1).bind fun t56 =>
  (fX12_todo N v0 (3 : Int32) t56 h54).bind fun h57 =>
  some h57)) else
  if t10 = 3 then (
  (fX12_returns N v0 v1 h).bind fun h58 =>
  some h58) else
  if t10 = 4 then (
  (getR h v0 12 101).bind fun t59 =>
  (ldI h t59 (t8 - (1 : Int32))).bind fun t60 =>
  if 0 ≤ t60 then (
  (getR h v0 12 101).bind fun t62 =>
  (ldI h t62 (t8 - (1 : Int32))).bind fun t63 =>
  (fX12_throwsObject N v0 t63 h).bind fun h64 =>
  some h64) else (
  (fX12_faults N v0 (0 : Int32) h).bind fun h65 =>
  some h65)) else
  if t10 = 5 then (
  fX12_done_318 N v0 v1 h) else
  if t10 = 6 then (
  (getI h v0 12 78).bind fun t66 =>
  if (500 : Int32) ≤ t66 then (
  fX12_done_295 N v0 h) else (
  (getR h v0 12 79).bind fun t68 =>
  (getI h v0 12 78).bind fun t69 =>
  (getR h v0 12 101).bind fun t70 =>
  (ldI h t70 (t8 - (1 : Int32))).bind fun t71 =>
  (stI h t68 t69 t71).bind fun h72 =>
  fX12_done_295 N v0 h72)) else
  fX12_done_318 N v0 v1 h) else none
theorem oX12_done {N : Nat} {v0 : Nat} {v1 : Int32} {h : pH} {q : pH} (hf : fX12_done N v0 v1 h = some q) : isO h v0 12 = true := by
  unfold fX12_done at hf
  by_cases hc : isO h v0 12 = true
  · exact hc
  · rw [if_neg hc] at hf; cases hf
theorem cX12_done (X : pX) (N d : Nat) (v0 : Nat) (v1 : Int32) (h : pH) (q : pH) (hf : fX12_done N v0 v1 h = some q) : Calls X (d + 5) 336 [.ref v0, .int v1] h (none, q, 0, 0) := by
  refine Calls.of M336 (Nat.le_of_ble_eq_true rfl) ?_
  show Run X (d + 5) 12 false (pCd 10051) 4 none 0 [(0, .ref v0), (1, .int v1)] [] h 0 0 (none, q, 0, 0)
  unfold fX12_done at hf
  by_cases hc : isO h v0 12 = true
  · rw [if_pos hc] at hf
    have nv0 : ¬ v0 = 4 := isO_ne hc
    refine r_aload_n (dGet dX12_done (j := 0) rfl) nv0 rfl ?_
    obtain ⟨t7, et7, hf⟩ := Option.bind_eq_some_iff.mp hf
    refine r_getI (dGet dX12_done (j := 1) rfl) F12_554 et7 ?_
    refine r_iconst (dGet dX12_done (j := 2) rfl) kI_1 ?_
    refine r_isub (dGet dX12_done (j := 3) rfl) ?_
    refine r_istore_n (lv' := [(2, .int (t7 - (1 : Int32))), (0, .ref v0), (1, .int v1)]) (dGet dX12_done (j := 4) rfl) (by decide) rfl ?_
    refine r_aload_n (dGet dX12_done (j := 5) rfl) nv0 rfl ?_
    obtain ⟨t8, et8, hf⟩ := Option.bind_eq_some_iff.mp hf
    refine r_getI (dGet dX12_done (j := 6) rfl) F12_560 et8 ?_
    refine r_iconst (dGet dX12_done (j := 7) rfl) kI_1 ?_
    refine r_isub (dGet dX12_done (j := 8) rfl) ?_
    refine r_istore_n (lv' := [(3, .int (t8 - (1 : Int32))), (2, .int (t7 - (1 : Int32))), (0, .ref v0), (1, .int v1)]) (dGet dX12_done (j := 9) rfl) (by decide) rfl ?_
    refine r_aload_n (dGet dX12_done (j := 10) rfl) nv0 rfl ?_
    obtain ⟨t9, et9, hf⟩ := Option.bind_eq_some_iff.mp hf
    refine r_getR (dGet dX12_done (j := 11) rfl) F12_46 et9 ?_
    refine r_iload_n (dGet dX12_done (j := 12) rfl) rfl ?_
    obtain ⟨t10, et10, hf⟩ := Option.bind_eq_some_iff.mp hf
    refine r_iald (dGet dX12_done (j := 13) rfl) et10 ?_
    by_cases c11 : t10 = 0
    · rw [if_pos c11] at hf
      refine r_table (off := 44) (dGet dX12_done (j := 14) rfl) (by rw [c11]; decide) rfl ?_
      refine r_aload_n (dGet dX12_done (j := 15) rfl) nv0 rfl ?_
      refine r_iload_n (dGet dX12_done (j := 16) rfl) rfl ?_
      refine r_aload_n (dGet dX12_done (j := 17) rfl) nv0 rfl ?_
      obtain ⟨t18, et18, hf⟩ := Option.bind_eq_some_iff.mp hf
      refine r_getR (dGet dX12_done (j := 18) rfl) F12_67 et18 ?_
      refine r_iload_n (dGet dX12_done (j := 19) rfl) rfl ?_
      obtain ⟨t19, et19, hf⟩ := Option.bind_eq_some_iff.mp hf
      refine r_iald (dGet dX12_done (j := 20) rfl) et19 ?_
      refine r_aload_n (dGet dX12_done (j := 21) rfl) nv0 rfl ?_
      obtain ⟨t20, et20, hf⟩ := Option.bind_eq_some_iff.mp hf
      refine r_getR (dGet dX12_done (j := 22) rfl) F12_198 et20 ?_
      refine r_iload_n (dGet dX12_done (j := 23) rfl) rfl ?_
      obtain ⟨t21, et21, hf⟩ := Option.bind_eq_some_iff.mp hf
      refine r_iald (dGet dX12_done (j := 24) rfl) et21 ?_
      refine r_aload_n (dGet dX12_done (j := 25) rfl) nv0 rfl ?_
      obtain ⟨t22, et22, hf⟩ := Option.bind_eq_some_iff.mp hf
      refine r_getR (dGet dX12_done (j := 26) rfl) F12_201 et22 ?_
      refine r_iload_n (dGet dX12_done (j := 27) rfl) rfl ?_
      obtain ⟨t23, et23, hf⟩ := Option.bind_eq_some_iff.mp hf
      refine r_zald (dGet dX12_done (j := 28) rfl) et23 ?_
      obtain ⟨h24, eh24, hf⟩ := Option.bind_eq_some_iff.mp hf
      refine r_virtual (dGet dX12_done (j := 29) rfl) L12_598 M311 rfl rfl (Nat.le_of_ble_eq_true rfl) (oX12_setLocal eh24) (cX12_setLocal X N (d + 4) v0 (t7 - (1 : Int32)) t19 t21 t23 h h24 eh24) ?_
      refine r_aload_n (dGet dX12_done (j := 30) rfl) nv0 rfl ?_
      obtain ⟨t25, et25, hf⟩ := Option.bind_eq_some_iff.mp hf
      refine r_getR (dGet dX12_done (j := 31) rfl) F12_184 et25 ?_
      refine r_iload_n (dGet dX12_done (j := 32) rfl) rfl ?_
      refine r_aload_n (dGet dX12_done (j := 33) rfl) nv0 rfl ?_
      obtain ⟨t26, et26, hf⟩ := Option.bind_eq_some_iff.mp hf
      refine r_getR (dGet dX12_done (j := 34) rfl) F12_67 et26 ?_
      refine r_iload_n (dGet dX12_done (j := 35) rfl) rfl ?_
      obtain ⟨t27, et27, hf⟩ := Option.bind_eq_some_iff.mp hf
      refine r_iald (dGet dX12_done (j := 36) rfl) et27 ?_
      refine r_iconst (dGet dX12_done (j := 37) rfl) kI_1 ?_
      refine r_iadd (dGet dX12_done (j := 38) rfl) ?_
      obtain ⟨h28, eh28, hf⟩ := Option.bind_eq_some_iff.mp hf
      refine r_iast (dGet dX12_done (j := 39) rfl) eh28 ?_
      refine r_aload_n (dGet dX12_done (j := 40) rfl) nv0 rfl ?_
      refine r_dup (dGet dX12_done (j := 41) rfl) rfl ?_
      obtain ⟨t29, et29, hf⟩ := Option.bind_eq_some_iff.mp hf
      refine r_getI (dGet dX12_done (j := 42) rfl) F12_560 et29 ?_
      refine r_iconst (dGet dX12_done (j := 43) rfl) kI_1 ?_
      refine r_isub (dGet dX12_done (j := 44) rfl) ?_
      obtain ⟨h30, eh30, hf⟩ := Option.bind_eq_some_iff.mp hf
      refine r_putI (dGet dX12_done (j := 45) rfl) F12_560 rfl rfl eh30 ?_
      refine r_goto (dGet dX12_done (j := 46) rfl) rfl ?_
      have hq := Option.some.inj hf
      subst hq
      exact r_vret (dGet dX12_done (j := 166) rfl) rfl
    rw [if_neg c11] at hf
    by_cases c12 : t10 = 1
    · rw [if_pos c12] at hf
      refine r_table (off := 94) (dGet dX12_done (j := 14) rfl) (by rw [c12]; decide) rfl ?_
      refine r_aload_n (dGet dX12_done (j := 47) rfl) nv0 rfl ?_
      refine r_dup (dGet dX12_done (j := 48) rfl) rfl ?_
      obtain ⟨t31, et31, hf⟩ := Option.bind_eq_some_iff.mp hf
      refine r_getI (dGet dX12_done (j := 49) rfl) F12_560 et31 ?_
      refine r_iconst (dGet dX12_done (j := 50) rfl) kI_1 ?_
      refine r_isub (dGet dX12_done (j := 51) rfl) ?_
      obtain ⟨h32, eh32, hf⟩ := Option.bind_eq_some_iff.mp hf
      refine r_putI (dGet dX12_done (j := 52) rfl) F12_560 rfl rfl eh32 ?_
      refine r_aload_n (dGet dX12_done (j := 53) rfl) nv0 rfl ?_
      refine r_iconst (dGet dX12_done (j := 54) rfl) kI_5 ?_
      refine r_aload_n (dGet dX12_done (j := 55) rfl) nv0 rfl ?_
      obtain ⟨t33, et33, hf⟩ := Option.bind_eq_some_iff.mp hf
      refine r_getR (dGet dX12_done (j := 56) rfl) F12_184 et33 ?_
      refine r_iload_n (dGet dX12_done (j := 57) rfl) rfl ?_
      obtain ⟨t34, et34, hf⟩ := Option.bind_eq_some_iff.mp hf
      refine r_iald (dGet dX12_done (j := 58) rfl) et34 ?_
      obtain ⟨h35, eh35, hf⟩ := Option.bind_eq_some_iff.mp hf
      refine r_virtual (dGet dX12_done (j := 59) rfl) L12_596 M312 rfl rfl (Nat.le_of_ble_eq_true rfl) (oX12_todo eh35) (cX12_todo X N (d + 4) v0 (5 : Int32) t34 h32 h35 eh35) ?_
      refine r_aload_n (dGet dX12_done (j := 60) rfl) nv0 rfl ?_
      refine r_iconst (dGet dX12_done (j := 61) rfl) kI_3 ?_
      refine r_aload_n (dGet dX12_done (j := 62) rfl) nv0 rfl ?_
      obtain ⟨t36, et36, hf⟩ := Option.bind_eq_some_iff.mp hf
      refine r_getR (dGet dX12_done (j := 63) rfl) F12_198 et36 ?_
      refine r_iload_n (dGet dX12_done (j := 64) rfl) rfl ?_
      obtain ⟨t37, et37, hf⟩ := Option.bind_eq_some_iff.mp hf
      refine r_iald (dGet dX12_done (j := 65) rfl) et37 ?_
      refine r_iconst (dGet dX12_done (j := 66) rfl) kI_1 ?_
      by_cases c38 : t37 = (1 : Int32)
      · rw [if_pos c38] at hf
        refine r_icmp_ne_f (dGet dX12_done (j := 67) rfl) rfl c38 ?_
        refine r_aload_n (dGet dX12_done (j := 68) rfl) nv0 rfl ?_
        obtain ⟨t41, et41, hf⟩ := Option.bind_eq_some_iff.mp hf
        refine r_getR (dGet dX12_done (j := 69) rfl) F12_70 et41 ?_
        refine r_iload_n (dGet dX12_done (j := 70) rfl) rfl ?_
        obtain ⟨t42, et42, hf⟩ := Option.bind_eq_some_iff.mp hf
        refine r_iald (dGet dX12_done (j := 71) rfl) et42 ?_
        refine r_goto (dGet dX12_done (j := 72) rfl) rfl ?_
        refine Run.weak [] (by simp) (by simp [pNd]) ?_
        exact lX12_done_162 X N d v0 (3 : Int32) t42 h35 q hf nv0
      · rw [if_neg c38] at hf
        refine r_icmp_ne_t (dGet dX12_done (j := 67) rfl) rfl c38 ?_
        refine r_aload_n (dGet dX12_done (j := 73) rfl) nv0 rfl ?_
        obtain ⟨t39, et39, hf⟩ := Option.bind_eq_some_iff.mp hf
        refine r_getR (dGet dX12_done (j := 74) rfl) F12_73 et39 ?_
        refine r_iload_n (dGet dX12_done (j := 75) rfl) rfl ?_
        obtain ⟨t40, et40, hf⟩ := Option.bind_eq_some_iff.mp hf
        refine r_iald (dGet dX12_done (j := 76) rfl) et40 ?_
        refine Run.weak [] (by simp) (by simp [pNd]) ?_
        exact lX12_done_162 X N d v0 (3 : Int32) t40 h35 q hf nv0
    rw [if_neg c12] at hf
    by_cases c13 : t10 = 2
    · rw [if_pos c13] at hf
      refine r_table (off := 148) (dGet dX12_done (j := 14) rfl) (by rw [c13]; decide) rfl ?_
      refine r_aload_n (dGet dX12_done (j := 79) rfl) nv0 rfl ?_
      refine r_dup (dGet dX12_done (j := 80) rfl) rfl ?_
      obtain ⟨t43, et43, hf⟩ := Option.bind_eq_some_iff.mp hf
      refine r_getI (dGet dX12_done (j := 81) rfl) F12_560 et43 ?_
      refine r_iconst (dGet dX12_done (j := 82) rfl) kI_1 ?_
      refine r_isub (dGet dX12_done (j := 83) rfl) ?_
      obtain ⟨h44, eh44, hf⟩ := Option.bind_eq_some_iff.mp hf
      refine r_putI (dGet dX12_done (j := 84) rfl) F12_560 rfl rfl eh44 ?_
      refine r_aload_n (dGet dX12_done (j := 85) rfl) nv0 rfl ?_
      obtain ⟨t45, et45, hf⟩ := Option.bind_eq_some_iff.mp hf
      refine r_getR (dGet dX12_done (j := 86) rfl) F12_198 et45 ?_
      refine r_iload_n (dGet dX12_done (j := 87) rfl) rfl ?_
      obtain ⟨t46, et46, hf⟩ := Option.bind_eq_some_iff.mp hf
      refine r_iald (dGet dX12_done (j := 88) rfl) et46 ?_
      by_cases c47 : t46 = 0
      · rw [if_pos c47] at hf
        refine r_if_ne_f (dGet dX12_done (j := 89) rfl) rfl c47 ?_
        refine r_goto (dGet dX12_done (j := 90) rfl) rfl ?_
        have hq := Option.some.inj hf
        subst hq
        exact r_vret (dGet dX12_done (j := 166) rfl) rfl
      · rw [if_neg c47] at hf
        refine r_if_ne_t (dGet dX12_done (j := 89) rfl) rfl c47 ?_
        refine r_aload_n (dGet dX12_done (j := 91) rfl) nv0 rfl ?_
        refine r_iconst (dGet dX12_done (j := 92) rfl) kI_4 ?_
        refine r_iload_n (dGet dX12_done (j := 93) rfl) rfl ?_
        obtain ⟨h48, eh48, hf⟩ := Option.bind_eq_some_iff.mp hf
        refine r_virtual (dGet dX12_done (j := 94) rfl) L12_596 M312 rfl rfl (Nat.le_of_ble_eq_true rfl) (oX12_todo eh48) (cX12_todo X N (d + 4) v0 (4 : Int32) v1 h44 h48 eh48) ?_
        refine r_aload_n (dGet dX12_done (j := 95) rfl) nv0 rfl ?_
        refine r_iconst (dGet dX12_done (j := 96) rfl) kI_0 ?_
        refine r_aload_n (dGet dX12_done (j := 97) rfl) nv0 rfl ?_
        obtain ⟨t49, et49, hf⟩ := Option.bind_eq_some_iff.mp hf
        refine r_getR (dGet dX12_done (j := 98) rfl) F12_55 et49 ?_
        refine r_iload_n (dGet dX12_done (j := 99) rfl) rfl ?_
        obtain ⟨t50, et50, hf⟩ := Option.bind_eq_some_iff.mp hf
        refine r_iald (dGet dX12_done (j := 100) rfl) et50 ?_
        obtain ⟨h51, eh51, hf⟩ := Option.bind_eq_some_iff.mp hf
        refine r_virtual (dGet dX12_done (j := 101) rfl) L12_596 M312 rfl rfl (Nat.le_of_ble_eq_true rfl) (oX12_todo eh51) (cX12_todo X N (d + 4) v0 (0 : Int32) t50 h48 h51 eh51) ?_
        refine r_aload_n (dGet dX12_done (j := 102) rfl) nv0 rfl ?_
        refine r_iconst (dGet dX12_done (j := 103) rfl) kI_5 ?_
        refine r_aload_n (dGet dX12_done (j := 104) rfl) nv0 rfl ?_
        obtain ⟨t52, et52, hf⟩ := Option.bind_eq_some_iff.mp hf
        refine r_getR (dGet dX12_done (j := 105) rfl) F12_184 et52 ?_
        refine r_iload_n (dGet dX12_done (j := 106) rfl) rfl ?_
        obtain ⟨t53, et53, hf⟩ := Option.bind_eq_some_iff.mp hf
        refine r_iald (dGet dX12_done (j := 107) rfl) et53 ?_
        obtain ⟨h54, eh54, hf⟩ := Option.bind_eq_some_iff.mp hf
        refine r_virtual (dGet dX12_done (j := 108) rfl) L12_596 M312 rfl rfl (Nat.le_of_ble_eq_true rfl) (oX12_todo eh54) (cX12_todo X N (d + 4) v0 (5 : Int32) t53 h51 h54 eh54) ?_
        refine r_aload_n (dGet dX12_done (j := 109) rfl) nv0 rfl ?_
        refine r_iconst (dGet dX12_done (j := 110) rfl) kI_3 ?_
        refine r_aload_n (dGet dX12_done (j := 111) rfl) nv0 rfl ?_
        obtain ⟨t55, et55, hf⟩ := Option.bind_eq_some_iff.mp hf
        refine r_getR (dGet dX12_done (j := 112) rfl) F12_70 et55 ?_
        refine r_iload_n (dGet dX12_done (j := 113) rfl) rfl ?_
        obtain ⟨t56, et56, hf⟩ := Option.bind_eq_some_iff.mp hf
        refine r_iald (dGet dX12_done (j := 114) rfl) et56 ?_
        obtain ⟨h57, eh57, hf⟩ := Option.bind_eq_some_iff.mp hf
        refine r_virtual (dGet dX12_done (j := 115) rfl) L12_596 M312 rfl rfl (Nat.le_of_ble_eq_true rfl) (oX12_todo eh57) (cX12_todo X N (d + 4) v0 (3 : Int32) t56 h54 h57 eh57) ?_
        refine r_goto (dGet dX12_done (j := 116) rfl) rfl ?_
        have hq := Option.some.inj hf
        subst hq
        exact r_vret (dGet dX12_done (j := 166) rfl) rfl
    rw [if_neg c13] at hf
    by_cases c14 : t10 = 3
    · rw [if_pos c14] at hf
      refine r_table (off := 212) (dGet dX12_done (j := 14) rfl) (by rw [c14]; decide) rfl ?_
      refine r_aload_n (dGet dX12_done (j := 117) rfl) nv0 rfl ?_
      refine r_iload_n (dGet dX12_done (j := 118) rfl) rfl ?_
      obtain ⟨h58, eh58, hf⟩ := Option.bind_eq_some_iff.mp hf
      refine r_virtual (dGet dX12_done (j := 119) rfl) L12_654 M337 rfl rfl (Nat.le_of_ble_eq_true rfl) (oX12_returns eh58) (cX12_returns X N (d + 3) v0 v1 h h58 eh58) ?_
      refine r_goto (dGet dX12_done (j := 120) rfl) rfl ?_
      have hq := Option.some.inj hf
      subst hq
      exact r_vret (dGet dX12_done (j := 166) rfl) rfl
    rw [if_neg c14] at hf
    by_cases c15 : t10 = 4
    · rw [if_pos c15] at hf
      refine r_table (off := 220) (dGet dX12_done (j := 14) rfl) (by rw [c15]; decide) rfl ?_
      refine r_aload_n (dGet dX12_done (j := 121) rfl) nv0 rfl ?_
      obtain ⟨t59, et59, hf⟩ := Option.bind_eq_some_iff.mp hf
      refine r_getR (dGet dX12_done (j := 122) rfl) F12_198 et59 ?_
      refine r_iload_n (dGet dX12_done (j := 123) rfl) rfl ?_
      obtain ⟨t60, et60, hf⟩ := Option.bind_eq_some_iff.mp hf
      refine r_iald (dGet dX12_done (j := 124) rfl) et60 ?_
      by_cases c61 : 0 ≤ t60
      · rw [if_pos c61] at hf
        refine r_if_ge_t (dGet dX12_done (j := 125) rfl) rfl c61 ?_
        refine r_aload_n (dGet dX12_done (j := 130) rfl) nv0 rfl ?_
        refine r_aload_n (dGet dX12_done (j := 131) rfl) nv0 rfl ?_
        obtain ⟨t62, et62, hf⟩ := Option.bind_eq_some_iff.mp hf
        refine r_getR (dGet dX12_done (j := 132) rfl) F12_198 et62 ?_
        refine r_iload_n (dGet dX12_done (j := 133) rfl) rfl ?_
        obtain ⟨t63, et63, hf⟩ := Option.bind_eq_some_iff.mp hf
        refine r_iald (dGet dX12_done (j := 134) rfl) et63 ?_
        obtain ⟨h64, eh64, hf⟩ := Option.bind_eq_some_iff.mp hf
        refine r_virtual (dGet dX12_done (j := 135) rfl) L12_608 M331 rfl rfl (Nat.le_of_ble_eq_true rfl) (oX12_throwsObject eh64) (cX12_throwsObject X N (d + 3) v0 t63 h h64 eh64) ?_
        refine r_goto (dGet dX12_done (j := 136) rfl) rfl ?_
        have hq := Option.some.inj hf
        subst hq
        exact r_vret (dGet dX12_done (j := 166) rfl) rfl
      · rw [if_neg c61] at hf
        refine r_if_ge_f (dGet dX12_done (j := 125) rfl) rfl c61 ?_
        refine r_aload_n (dGet dX12_done (j := 126) rfl) nv0 rfl ?_
        refine r_iconst (dGet dX12_done (j := 127) rfl) kI_0 ?_
        obtain ⟨h65, eh65, hf⟩ := Option.bind_eq_some_iff.mp hf
        refine r_virtual (dGet dX12_done (j := 128) rfl) L12_638 M330 rfl rfl (Nat.le_of_ble_eq_true rfl) (oX12_faults eh65) (cX12_faults X N (d + 2) v0 (0 : Int32) h h65 eh65) ?_
        refine r_goto (dGet dX12_done (j := 129) rfl) rfl ?_
        have hq := Option.some.inj hf
        subst hq
        exact r_vret (dGet dX12_done (j := 166) rfl) rfl
    rw [if_neg c15] at hf
    by_cases c16 : t10 = 5
    · rw [if_pos c16] at hf
      refine r_table (off := 298) (dGet dX12_done (j := 14) rfl) (by rw [c16]; decide) rfl ?_
      refine Run.weak [(0, .ref v0), (1, .int v1)] (by simp) (by simp [pNd]) ?_
      exact lX12_done_318 X N d v0 v1 h q hf nv0
    rw [if_neg c16] at hf
    by_cases c17 : t10 = 6
    · rw [if_pos c17] at hf
      refine r_table (off := 250) (dGet dX12_done (j := 14) rfl) (by rw [c17]; decide) rfl ?_
      refine r_aload_n (dGet dX12_done (j := 137) rfl) nv0 rfl ?_
      obtain ⟨t66, et66, hf⟩ := Option.bind_eq_some_iff.mp hf
      refine r_getI (dGet dX12_done (j := 138) rfl) F12_657 et66 ?_
      refine r_sipush (dGet dX12_done (j := 139) rfl) kS_500 ?_
      by_cases c67 : (500 : Int32) ≤ t66
      · rw [if_pos c67] at hf
        refine r_icmp_ge_t (dGet dX12_done (j := 140) rfl) rfl c67 ?_
        refine Run.weak [(0, .ref v0)] (by simp) (by simp [pNd]) ?_
        exact lX12_done_295 X N d v0 h q hf nv0
      · rw [if_neg c67] at hf
        refine r_icmp_ge_f (dGet dX12_done (j := 140) rfl) rfl c67 ?_
        refine r_aload_n (dGet dX12_done (j := 141) rfl) nv0 rfl ?_
        obtain ⟨t68, et68, hf⟩ := Option.bind_eq_some_iff.mp hf
        refine r_getR (dGet dX12_done (j := 142) rfl) F12_148 et68 ?_
        refine r_aload_n (dGet dX12_done (j := 143) rfl) nv0 rfl ?_
        obtain ⟨t69, et69, hf⟩ := Option.bind_eq_some_iff.mp hf
        refine r_getI (dGet dX12_done (j := 144) rfl) F12_657 et69 ?_
        refine r_aload_n (dGet dX12_done (j := 145) rfl) nv0 rfl ?_
        obtain ⟨t70, et70, hf⟩ := Option.bind_eq_some_iff.mp hf
        refine r_getR (dGet dX12_done (j := 146) rfl) F12_198 et70 ?_
        refine r_iload_n (dGet dX12_done (j := 147) rfl) rfl ?_
        obtain ⟨t71, et71, hf⟩ := Option.bind_eq_some_iff.mp hf
        refine r_iald (dGet dX12_done (j := 148) rfl) et71 ?_
        obtain ⟨h72, eh72, hf⟩ := Option.bind_eq_some_iff.mp hf
        refine r_iast (dGet dX12_done (j := 149) rfl) eh72 ?_
        refine Run.weak [(0, .ref v0)] (by simp) (by simp [pNd]) ?_
        exact lX12_done_295 X N d v0 h72 q hf nv0
    rw [if_neg c17] at hf
    refine r_table (dGet dX12_done (j := 14) rfl) (pTable_out (cs := [0, 1, 2, 3, 4, 5, 6]) (by decide) (by decide) (by decide) (List.forall_mem_cons.mpr ⟨c11, List.forall_mem_cons.mpr ⟨c12, List.forall_mem_cons.mpr ⟨c13, List.forall_mem_cons.mpr ⟨c14, List.forall_mem_cons.mpr ⟨c15, List.forall_mem_cons.mpr ⟨c16, List.forall_mem_cons.mpr ⟨c17, fun _ h => absurd h List.not_mem_nil⟩⟩⟩⟩⟩⟩⟩)) rfl ?_
    refine Run.weak [(0, .ref v0), (1, .int v1)] (by simp) (by simp [pNd]) ?_
    exact lX12_done_318 X N d v0 v1 h q hf nv0
  · rw [if_neg hc] at hf; cases hf
def eX12_end : List (Nat × Instr × Nat) := [(0, .iload_n 1, 1), (1, .i2l, 1), (2, .lconst 0, 1), (3, .aload_n 0, 1), (4, .getfield 435, 3), (7, .i2l, 1), (8, .invokestatic 228, 3), (11, .ifCond .ne 5, 3), (14, .iconst (-1), 1), (15, .ireturn, 1), (16, .aload_n 0, 1), (17, .iload_n 1, 1), (18, .putfield 435, 3), (21, .iload_n 1, 1), (22, .ireturn, 1)]
theorem dX12_end : dChk (pCd 9164) eX12_end = true := by decide +kernel
def fX12_end (N : Nat) (v0 : Nat) (v1 : Int32) (h : pH) : Option (Int32 × pH) := if isO h v0 12 = true then (
  (getI h v0 12 1).bind fun t1 =>
  (fX12_isIn N (v1.toInt64) (0 : Int64) (t1.toInt64) h).bind fun q2 =>
  if q2.1 = 0 then (
  some ((-1 : Int32), q2.2)) else (
  (putI q2.2 v0 12 1 v1).bind fun h4 =>
  some (v1, h4))) else none
theorem oX12_end {N : Nat} {v0 : Nat} {v1 : Int32} {h : pH} {q : Int32 × pH} (hf : fX12_end N v0 v1 h = some q) : isO h v0 12 = true := by
  unfold fX12_end at hf
  by_cases hc : isO h v0 12 = true
  · exact hc
  · rw [if_neg hc] at hf; cases hf
theorem cX12_end (X : pX) (N d : Nat) (v0 : Nat) (v1 : Int32) (h : pH) (q : Int32 × pH) (hf : fX12_end N v0 v1 h = some q) : Calls X (d + 1) 305 [.ref v0, .int v1] h (some (.int q.1), q.2, 0, 0) := by
  refine Calls.of M305 (Nat.le_of_ble_eq_true rfl) ?_
  show Run X (d + 1) 12 false (pCd 9164) 2 (some .int) 0 [(0, .ref v0), (1, .int v1)] [] h 0 0 (some (.int q.1), q.2, 0, 0)
  unfold fX12_end at hf
  by_cases hc : isO h v0 12 = true
  · rw [if_pos hc] at hf
    have nv0 : ¬ v0 = 4 := isO_ne hc
    refine r_iload_n (dGet dX12_end (j := 0) rfl) rfl ?_
    refine r_i2l (dGet dX12_end (j := 1) rfl) ?_
    refine r_lconst (v := 0) (dGet dX12_end (j := 2) rfl) rfl ?_
    refine r_aload_n (dGet dX12_end (j := 3) rfl) nv0 rfl ?_
    obtain ⟨t1, et1, hf⟩ := Option.bind_eq_some_iff.mp hf
    refine r_getI (dGet dX12_end (j := 4) rfl) F12_435 et1 ?_
    refine r_i2l (dGet dX12_end (j := 5) rfl) ?_
    obtain ⟨q2, eq2, hf⟩ := Option.bind_eq_some_iff.mp hf
    refine r_static (dGet dX12_end (j := 6) rfl) (by decide +kernel) (by decide +kernel) L12_228 M236 rfl rfl (Nat.le_of_ble_eq_true rfl) (cX12_isIn X N (d + 0) (v1.toInt64) (0 : Int64) (t1.toInt64) h q2 eq2) ?_
    by_cases c3 : q2.1 = 0
    · rw [if_pos c3] at hf
      refine r_if_ne_f (dGet dX12_end (j := 7) rfl) rfl c3 ?_
      refine r_iconst (dGet dX12_end (j := 8) rfl) kI_m1 ?_
      have hq := Option.some.inj hf
      subst hq
      exact r_iret (dGet dX12_end (j := 9) rfl) rfl rfl
    · rw [if_neg c3] at hf
      refine r_if_ne_t (dGet dX12_end (j := 7) rfl) rfl c3 ?_
      refine r_aload_n (dGet dX12_end (j := 10) rfl) nv0 rfl ?_
      refine r_iload_n (dGet dX12_end (j := 11) rfl) rfl ?_
      obtain ⟨h4, eh4, hf⟩ := Option.bind_eq_some_iff.mp hf
      refine r_putI (dGet dX12_end (j := 12) rfl) F12_435 rfl rfl eh4 ?_
      refine r_iload_n (dGet dX12_end (j := 13) rfl) rfl ?_
      have hq := Option.some.inj hf
      subst hq
      exact r_iret (dGet dX12_end (j := 14) rfl) rfl rfl
  · rw [if_neg hc] at hf; cases hf
def eX12_feed : List (Nat × Instr × Nat) := [(0, .aload_n 0, 1), (1, .getfield 435, 3), (4, .bipush 20, 2), (6, .iadd, 1), (7, .sipush 3000, 3), (10, .if_icmp .le 5, 3), (13, .iconst (-1), 1), (14, .ireturn, 1), (15, .iconst 0, 1), (16, .istore 6, 2), (18, .iload 6, 2), (20, .bipush 20, 2), (22, .if_icmp .ge 93, 3), (25, .iload 6, 2), (27, .iconst 4, 1), (28, .if_icmp .ge 7, 3), (31, .iload_n 1, 1), (32, .goto 39, 3), (35, .iload 6, 2), (37, .bipush 8, 2), (39, .if_icmp .ge 7, 3), (42, .iload_n 2, 1), (43, .goto 28, 3), (46, .iload 6, 2), (48, .bipush 12, 2), (50, .if_icmp .ge 7, 3), (53, .iload_n 3, 1), (54, .goto 17, 3), (57, .iload 6, 2), (59, .bipush 16, 2), (61, .if_icmp .ge 8, 3), (64, .iload 4, 2), (66, .goto 5, 3), (69, .iload 5, 2), (71, .istore 7, 2), (73, .aload_n 0, 1), (74, .getfield 7, 3), (77, .aload_n 0, 1), (78, .getfield 435, 3), (81, .iload 7, 2), (83, .bipush 24, 2), (85, .bipush 8, 2), (87, .iload 6, 2), (89, .iconst 4, 1), (90, .irem, 1), (91, .imul, 1), (92, .isub, 1), (93, .ishr, 1), (94, .sipush 255, 3), (97, .iand, 1), (98, .iastore, 1), (99, .aload_n 0, 1), (100, .dup, 1), (101, .getfield 435, 3), (104, .iconst 1, 1), (105, .iadd, 1), (106, .putfield 435, 3), (109, .iinc 6 1, 3), (112, .goto (-94), 3), (115, .aload_n 0, 1), (116, .getfield 435, 3), (119, .ireturn, 1)]
theorem dX12_feed : dChk (pCd 9160) eX12_feed = true := by decide +kernel
def fX12_feed_71 (N : Nat) (k18 : Nat → Int32 → Int32 → Int32 → Int32 → Int32 → Int32 → pH → Option (Int32 × pH)) (v0 : Nat) (v1 : Int32) (v2 : Int32) (v3 : Int32) (v4 : Int32) (v5 : Int32) (v6 : Int32) (s0 : Int32) (h : pH) : Option (Int32 × pH) :=
  (getR h v0 12 0).bind fun t1 =>
  (getI h v0 12 1).bind fun t2 =>
  (stI h t1 t2 ((s0 >>> (((24 : Int32) - ((8 : Int32) * (v6 - v6 / (4 : Int32) * (4 : Int32)))) &&& 31)) &&& (255 : Int32))).bind fun h3 =>
  (getI h3 v0 12 1).bind fun t4 =>
  (putI h3 v0 12 1 (t4 + (1 : Int32))).bind fun h5 =>
  k18 v0 v1 v2 v3 v4 v5 (v6 + (1 : Int32)) h5
theorem lX12_feed_71 (X : pX) (N d : Nat)  (k18 : Nat → Int32 → Int32 → Int32 → Int32 → Int32 → Int32 → pH → Option (Int32 × pH)) (K18 : ∀ (w0 : Nat) (w1 : Int32) (w2 : Int32) (w3 : Int32) (w4 : Int32) (w5 : Int32) (w6 : Int32) (h : pH) (q : Int32 × pH), k18 w0 w1 w2 w3 w4 w5 w6 h = some q → ¬ w0 = 4 → Run X (d + 0) 12 false (pCd 9160) 8 (some .int) 18 [(0, .ref w0), (1, .int w1), (2, .int w2), (3, .int w3), (4, .int w4), (5, .int w5), (6, .int w6)] [] h 0 0 (some (.int q.1), q.2, 0, 0)) (v0 : Nat) (v1 : Int32) (v2 : Int32) (v3 : Int32) (v4 : Int32) (v5 : Int32) (v6 : Int32) (s0 : Int32) (h : pH) (q : Int32 × pH) (hf : fX12_feed_71 N k18 v0 v1 v2 v3 v4 v5 v6 s0 h = some q) (nv0 : ¬ v0 = 4) : Run X (d + 0) 12 false (pCd 9160) 8 (some .int) 71 [(0, .ref v0), (1, .int v1), (2, .int v2), (3, .int v3), (4, .int v4), (5, .int v5), (6, .int v6)] [.int s0] h 0 0 (some (.int q.1), q.2, 0, 0) := by
  unfold fX12_feed_71 at hf
  refine r_istore (lv' := [(7, .int s0), (0, .ref v0), (1, .int v1), (2, .int v2), (3, .int v3), (4, .int v4), (5, .int v5), (6, .int v6)]) (dGet dX12_feed (j := 34) rfl) (by decide) rfl ?_
  refine r_aload_n (dGet dX12_feed (j := 35) rfl) nv0 rfl ?_
  obtain ⟨t1, et1, hf⟩ := Option.bind_eq_some_iff.mp hf
  refine r_getR (dGet dX12_feed (j := 36) rfl) F12_7 et1 ?_
  refine r_aload_n (dGet dX12_feed (j := 37) rfl) nv0 rfl ?_
  obtain ⟨t2, et2, hf⟩ := Option.bind_eq_some_iff.mp hf
  refine r_getI (dGet dX12_feed (j := 38) rfl) F12_435 et2 ?_
  refine r_iload (dGet dX12_feed (j := 39) rfl) rfl ?_
  refine r_bipush (dGet dX12_feed (j := 40) rfl) kB_24 ?_
  refine r_bipush (dGet dX12_feed (j := 41) rfl) kB_8 ?_
  refine r_iload (dGet dX12_feed (j := 42) rfl) rfl ?_
  refine r_iconst (dGet dX12_feed (j := 43) rfl) kI_4 ?_
  refine r_irem (dGet dX12_feed (j := 44) rfl) (by decide) ?_
  refine r_imul (dGet dX12_feed (j := 45) rfl) ?_
  refine r_isub (dGet dX12_feed (j := 46) rfl) ?_
  refine r_ishr (dGet dX12_feed (j := 47) rfl) ?_
  refine r_sipush (dGet dX12_feed (j := 48) rfl) kS_255 ?_
  refine r_iand (dGet dX12_feed (j := 49) rfl) ?_
  obtain ⟨h3, eh3, hf⟩ := Option.bind_eq_some_iff.mp hf
  refine r_iast (dGet dX12_feed (j := 50) rfl) eh3 ?_
  refine r_aload_n (dGet dX12_feed (j := 51) rfl) nv0 rfl ?_
  refine r_dup (dGet dX12_feed (j := 52) rfl) rfl ?_
  obtain ⟨t4, et4, hf⟩ := Option.bind_eq_some_iff.mp hf
  refine r_getI (dGet dX12_feed (j := 53) rfl) F12_435 et4 ?_
  refine r_iconst (dGet dX12_feed (j := 54) rfl) kI_1 ?_
  refine r_iadd (dGet dX12_feed (j := 55) rfl) ?_
  obtain ⟨h5, eh5, hf⟩ := Option.bind_eq_some_iff.mp hf
  refine r_putI (dGet dX12_feed (j := 56) rfl) F12_435 rfl rfl eh5 ?_
  refine r_iinc (lv' := [(6, .int (v6 + (1 : Int32))), (7, .int s0), (0, .ref v0), (1, .int v1), (2, .int v2), (3, .int v3), (4, .int v4), (5, .int v5)]) (dGet dX12_feed (j := 57) rfl) rfl (by decide) kI_1 rfl ?_
  refine r_goto (dGet dX12_feed (j := 58) rfl) rfl ?_
  refine Run.weak [(0, .ref v0), (1, .int v1), (2, .int v2), (3, .int v3), (4, .int v4), (5, .int v5), (6, .int (v6 + (1 : Int32)))] (by simp) (by simp [pNd]) ?_
  exact K18 v0 v1 v2 v3 v4 v5 (v6 + (1 : Int32)) h5 q hf nv0
def fX12_feed_18 (N : Nat) : Nat → Nat → Int32 → Int32 → Int32 → Int32 → Int32 → Int32 → pH → Option (Int32 × pH)
  | 0, _, _, _, _, _, _, _, _ => none
  | n + 1, v0, v1, v2, v3, v4, v5, v6, h => if (20 : Int32) ≤ v6 then (
  (getI h v0 12 1).bind fun t7 =>
  some (t7, h)) else (
  if (4 : Int32) ≤ v6 then (
  if (8 : Int32) ≤ v6 then (
  if (12 : Int32) ≤ v6 then (
  if (16 : Int32) ≤ v6 then (
  fX12_feed_71 N (fX12_feed_18 N n) v0 v1 v2 v3 v4 v5 v6 v5 h) else (
  fX12_feed_71 N (fX12_feed_18 N n) v0 v1 v2 v3 v4 v5 v6 v4 h)) else (
  fX12_feed_71 N (fX12_feed_18 N n) v0 v1 v2 v3 v4 v5 v6 v3 h)) else (
  fX12_feed_71 N (fX12_feed_18 N n) v0 v1 v2 v3 v4 v5 v6 v2 h)) else (
  fX12_feed_71 N (fX12_feed_18 N n) v0 v1 v2 v3 v4 v5 v6 v1 h))
theorem lX12_feed_18 (X : pX) (N d : Nat)  : ∀ (n : Nat) (v0 : Nat) (v1 : Int32) (v2 : Int32) (v3 : Int32) (v4 : Int32) (v5 : Int32) (v6 : Int32) (h : pH) (q : Int32 × pH), fX12_feed_18 N n v0 v1 v2 v3 v4 v5 v6 h = some q → ¬ v0 = 4 → Run X (d + 0) 12 false (pCd 9160) 8 (some .int) 18 [(0, .ref v0), (1, .int v1), (2, .int v2), (3, .int v3), (4, .int v4), (5, .int v5), (6, .int v6)] [] h 0 0 (some (.int q.1), q.2, 0, 0) := by
  intro n
  induction n with
  | zero => intro v0 v1 v2 v3 v4 v5 v6 h q hf; cases hf
  | succ n ih =>
    intro v0 v1 v2 v3 v4 v5 v6 h q hf nv0
    unfold fX12_feed_18 at hf
    refine r_iload (dGet dX12_feed (j := 10) rfl) rfl ?_
    refine r_bipush (dGet dX12_feed (j := 11) rfl) kB_20 ?_
    by_cases c6 : (20 : Int32) ≤ v6
    · rw [if_pos c6] at hf
      refine r_icmp_ge_t (dGet dX12_feed (j := 12) rfl) rfl c6 ?_
      refine r_aload_n (dGet dX12_feed (j := 59) rfl) nv0 rfl ?_
      obtain ⟨t7, et7, hf⟩ := Option.bind_eq_some_iff.mp hf
      refine r_getI (dGet dX12_feed (j := 60) rfl) F12_435 et7 ?_
      have hq := Option.some.inj hf
      subst hq
      exact r_iret (dGet dX12_feed (j := 61) rfl) rfl rfl
    · rw [if_neg c6] at hf
      refine r_icmp_ge_f (dGet dX12_feed (j := 12) rfl) rfl c6 ?_
      refine r_iload (dGet dX12_feed (j := 13) rfl) rfl ?_
      refine r_iconst (dGet dX12_feed (j := 14) rfl) kI_4 ?_
      by_cases c8 : (4 : Int32) ≤ v6
      · rw [if_pos c8] at hf
        refine r_icmp_ge_t (dGet dX12_feed (j := 15) rfl) rfl c8 ?_
        refine r_iload (dGet dX12_feed (j := 18) rfl) rfl ?_
        refine r_bipush (dGet dX12_feed (j := 19) rfl) kB_8 ?_
        by_cases c9 : (8 : Int32) ≤ v6
        · rw [if_pos c9] at hf
          refine r_icmp_ge_t (dGet dX12_feed (j := 20) rfl) rfl c9 ?_
          refine r_iload (dGet dX12_feed (j := 23) rfl) rfl ?_
          refine r_bipush (dGet dX12_feed (j := 24) rfl) kB_12 ?_
          by_cases c10 : (12 : Int32) ≤ v6
          · rw [if_pos c10] at hf
            refine r_icmp_ge_t (dGet dX12_feed (j := 25) rfl) rfl c10 ?_
            refine r_iload (dGet dX12_feed (j := 28) rfl) rfl ?_
            refine r_bipush (dGet dX12_feed (j := 29) rfl) kB_16 ?_
            by_cases c11 : (16 : Int32) ≤ v6
            · rw [if_pos c11] at hf
              refine r_icmp_ge_t (dGet dX12_feed (j := 30) rfl) rfl c11 ?_
              refine r_iload (dGet dX12_feed (j := 33) rfl) rfl ?_
              exact lX12_feed_71 X N d (fX12_feed_18 N n) ih v0 v1 v2 v3 v4 v5 v6 v5 h q hf nv0
            · rw [if_neg c11] at hf
              refine r_icmp_ge_f (dGet dX12_feed (j := 30) rfl) rfl c11 ?_
              refine r_iload (dGet dX12_feed (j := 31) rfl) rfl ?_
              refine r_goto (dGet dX12_feed (j := 32) rfl) rfl ?_
              exact lX12_feed_71 X N d (fX12_feed_18 N n) ih v0 v1 v2 v3 v4 v5 v6 v4 h q hf nv0
          · rw [if_neg c10] at hf
            refine r_icmp_ge_f (dGet dX12_feed (j := 25) rfl) rfl c10 ?_
            refine r_iload_n (dGet dX12_feed (j := 26) rfl) rfl ?_
            refine r_goto (dGet dX12_feed (j := 27) rfl) rfl ?_
            exact lX12_feed_71 X N d (fX12_feed_18 N n) ih v0 v1 v2 v3 v4 v5 v6 v3 h q hf nv0
        · rw [if_neg c9] at hf
          refine r_icmp_ge_f (dGet dX12_feed (j := 20) rfl) rfl c9 ?_
          refine r_iload_n (dGet dX12_feed (j := 21) rfl) rfl ?_
          refine r_goto (dGet dX12_feed (j := 22) rfl) rfl ?_
          exact lX12_feed_71 X N d (fX12_feed_18 N n) ih v0 v1 v2 v3 v4 v5 v6 v2 h q hf nv0
      · rw [if_neg c8] at hf
        refine r_icmp_ge_f (dGet dX12_feed (j := 15) rfl) rfl c8 ?_
        refine r_iload_n (dGet dX12_feed (j := 16) rfl) rfl ?_
        refine r_goto (dGet dX12_feed (j := 17) rfl) rfl ?_
        exact lX12_feed_71 X N d (fX12_feed_18 N n) ih v0 v1 v2 v3 v4 v5 v6 v1 h q hf nv0
def fX12_feed (N : Nat) (v0 : Nat) (v1 : Int32) (v2 : Int32) (v3 : Int32) (v4 : Int32) (v5 : Int32) (h : pH) : Option (Int32 × pH) := if isO h v0 12 = true then (
  (getI h v0 12 1).bind fun t12 =>
  if (t12 + (20 : Int32)) ≤ (3000 : Int32) then (
  fX12_feed_18 N N v0 v1 v2 v3 v4 v5 (0 : Int32) h) else (
  some ((-1 : Int32), h))) else none
theorem oX12_feed {N : Nat} {v0 : Nat} {v1 : Int32} {v2 : Int32} {v3 : Int32} {v4 : Int32} {v5 : Int32} {h : pH} {q : Int32 × pH} (hf : fX12_feed N v0 v1 v2 v3 v4 v5 h = some q) : isO h v0 12 = true := by
  unfold fX12_feed at hf
  by_cases hc : isO h v0 12 = true
  · exact hc
  · rw [if_neg hc] at hf; cases hf
theorem cX12_feed (X : pX) (N d : Nat) (v0 : Nat) (v1 : Int32) (v2 : Int32) (v3 : Int32) (v4 : Int32) (v5 : Int32) (h : pH) (q : Int32 × pH) (hf : fX12_feed N v0 v1 v2 v3 v4 v5 h = some q) : Calls X (d + 0) 304 [.ref v0, .int v1, .int v2, .int v3, .int v4, .int v5] h (some (.int q.1), q.2, 0, 0) := by
  refine Calls.of M304 (Nat.le_of_ble_eq_true rfl) ?_
  show Run X (d + 0) 12 false (pCd 9160) 8 (some .int) 0 [(0, .ref v0), (1, .int v1), (2, .int v2), (3, .int v3), (4, .int v4), (5, .int v5)] [] h 0 0 (some (.int q.1), q.2, 0, 0)
  unfold fX12_feed at hf
  by_cases hc : isO h v0 12 = true
  · rw [if_pos hc] at hf
    have nv0 : ¬ v0 = 4 := isO_ne hc
    refine r_aload_n (dGet dX12_feed (j := 0) rfl) nv0 rfl ?_
    obtain ⟨t12, et12, hf⟩ := Option.bind_eq_some_iff.mp hf
    refine r_getI (dGet dX12_feed (j := 1) rfl) F12_435 et12 ?_
    refine r_bipush (dGet dX12_feed (j := 2) rfl) kB_20 ?_
    refine r_iadd (dGet dX12_feed (j := 3) rfl) ?_
    refine r_sipush (dGet dX12_feed (j := 4) rfl) kS_3000 ?_
    by_cases c13 : (t12 + (20 : Int32)) ≤ (3000 : Int32)
    · rw [if_pos c13] at hf
      refine r_icmp_le_t (dGet dX12_feed (j := 5) rfl) rfl c13 ?_
      refine r_iconst (dGet dX12_feed (j := 8) rfl) kI_0 ?_
      refine r_istore (lv' := [(6, .int (0 : Int32)), (0, .ref v0), (1, .int v1), (2, .int v2), (3, .int v3), (4, .int v4), (5, .int v5)]) (dGet dX12_feed (j := 9) rfl) (by decide) rfl ?_
      refine Run.weak [(0, .ref v0), (1, .int v1), (2, .int v2), (3, .int v3), (4, .int v4), (5, .int v5), (6, .int (0 : Int32))] (by simp) (by simp [pNd]) ?_
      exact lX12_feed_18 X N d N v0 v1 v2 v3 v4 v5 (0 : Int32) h q hf nv0
    · rw [if_neg c13] at hf
      refine r_icmp_le_f (dGet dX12_feed (j := 5) rfl) rfl c13 ?_
      refine r_iconst (dGet dX12_feed (j := 6) rfl) kI_m1 ?_
      have hq := Option.some.inj hf
      subst hq
      exact r_iret (dGet dX12_feed (j := 7) rfl) rfl rfl
  · rw [if_neg hc] at hf; cases hf
def eX12_half : List (Nat × Instr × Nat) := [(0, .aload_n 0, 1), (1, .getfield 25, 3), (4, .iload_n 1, 1), (5, .iaload, 1), (6, .bipush 16, 2), (8, .if_icmp .ne 25, 3), (11, .aload_n 0, 1), (12, .getfield 198, 3), (15, .aload_n 0, 1), (16, .getfield 560, 3), (19, .iconst 1, 1), (20, .isub, 1), (21, .iaload, 1), (22, .ifCond .ne 7, 3), (25, .iconst 1, 1), (26, .goto 27, 3), (29, .iconst 0, 1), (30, .goto 23, 3), (33, .aload_n 0, 1), (34, .getfield 198, 3), (37, .aload_n 0, 1), (38, .getfield 560, 3), (41, .iconst 1, 1), (42, .isub, 1), (43, .iaload, 1), (44, .iconst 1, 1), (45, .if_icmp .ne 7, 3), (48, .iconst 1, 1), (49, .goto 4, 3), (52, .iconst 0, 1), (53, .istore_n 2, 1), (54, .iload_n 2, 1), (55, .ifCond .eq 4, 3), (58, .return_, 1), (59, .aload_n 0, 1), (60, .dup, 1), (61, .getfield 560, 3), (64, .iconst 1, 1), (65, .isub, 1), (66, .putfield 560, 3), (69, .aload_n 0, 1), (70, .iconst 0, 1), (71, .aload_n 0, 1), (72, .getfield 31, 3), (75, .iload_n 1, 1), (76, .iaload, 1), (77, .invokevirtual 596, 3), (80, .return_, 1)]
theorem dX12_half : dChk (pCd 10047) eX12_half = true := by decide +kernel
def fX12_half_53 (N : Nat) (v0 : Nat) (v1 : Int32) (s0 : Int32) (h : pH) : Option (pH) :=
  if s0 = 0 then (
  (getI h v0 12 100).bind fun t2 =>
  (putI h v0 12 100 (t2 - (1 : Int32))).bind fun h3 =>
  (getR h3 v0 12 18).bind fun t4 =>
  (ldI h3 t4 v1).bind fun t5 =>
  (fX12_todo N v0 (0 : Int32) t5 h3).bind fun h6 =>
  some h6) else (
  some h)
theorem lX12_half_53 (X : pX) (N d : Nat)  (v0 : Nat) (v1 : Int32) (s0 : Int32) (h : pH) (q : pH) (hf : fX12_half_53 N v0 v1 s0 h = some q) (nv0 : ¬ v0 = 4) : Run X (d + 1) 12 false (pCd 10047) 3 none 53 [(0, .ref v0), (1, .int v1)] [.int s0] h 0 0 (none, q, 0, 0) := by
  unfold fX12_half_53 at hf
  refine r_istore_n (lv' := [(2, .int s0), (0, .ref v0), (1, .int v1)]) (dGet dX12_half (j := 30) rfl) (by decide) rfl ?_
  refine r_iload_n (dGet dX12_half (j := 31) rfl) rfl ?_
  by_cases c1 : s0 = 0
  · rw [if_pos c1] at hf
    refine r_if_eq_t (dGet dX12_half (j := 32) rfl) rfl c1 ?_
    refine r_aload_n (dGet dX12_half (j := 34) rfl) nv0 rfl ?_
    refine r_dup (dGet dX12_half (j := 35) rfl) rfl ?_
    obtain ⟨t2, et2, hf⟩ := Option.bind_eq_some_iff.mp hf
    refine r_getI (dGet dX12_half (j := 36) rfl) F12_560 et2 ?_
    refine r_iconst (dGet dX12_half (j := 37) rfl) kI_1 ?_
    refine r_isub (dGet dX12_half (j := 38) rfl) ?_
    obtain ⟨h3, eh3, hf⟩ := Option.bind_eq_some_iff.mp hf
    refine r_putI (dGet dX12_half (j := 39) rfl) F12_560 rfl rfl eh3 ?_
    refine r_aload_n (dGet dX12_half (j := 40) rfl) nv0 rfl ?_
    refine r_iconst (dGet dX12_half (j := 41) rfl) kI_0 ?_
    refine r_aload_n (dGet dX12_half (j := 42) rfl) nv0 rfl ?_
    obtain ⟨t4, et4, hf⟩ := Option.bind_eq_some_iff.mp hf
    refine r_getR (dGet dX12_half (j := 43) rfl) F12_31 et4 ?_
    refine r_iload_n (dGet dX12_half (j := 44) rfl) rfl ?_
    obtain ⟨t5, et5, hf⟩ := Option.bind_eq_some_iff.mp hf
    refine r_iald (dGet dX12_half (j := 45) rfl) et5 ?_
    obtain ⟨h6, eh6, hf⟩ := Option.bind_eq_some_iff.mp hf
    refine r_virtual (dGet dX12_half (j := 46) rfl) L12_596 M312 rfl rfl (Nat.le_of_ble_eq_true rfl) (oX12_todo eh6) (cX12_todo X N (d + 0) v0 (0 : Int32) t5 h3 h6 eh6) ?_
    have hq := Option.some.inj hf
    subst hq
    exact r_vret (dGet dX12_half (j := 47) rfl) rfl
  · rw [if_neg c1] at hf
    refine r_if_eq_f (dGet dX12_half (j := 32) rfl) rfl c1 ?_
    have hq := Option.some.inj hf
    subst hq
    exact r_vret (dGet dX12_half (j := 33) rfl) rfl
def fX12_half (N : Nat) (v0 : Nat) (v1 : Int32) (h : pH) : Option (pH) := if isO h v0 12 = true then (
  (getR h v0 12 16).bind fun t7 =>
  (ldI h t7 v1).bind fun t8 =>
  if t8 = (16 : Int32) then (
  (getR h v0 12 101).bind fun t14 =>
  (getI h v0 12 100).bind fun t15 =>
  (ldI h t14 (t15 - (1 : Int32))).bind fun t16 =>
  if t16 = 0 then (
  fX12_half_53 N v0 v1 (1 : Int32) h) else (
  fX12_half_53 N v0 v1 (0 : Int32) h)) else (
  (getR h v0 12 101).bind fun t10 =>
  (getI h v0 12 100).bind fun t11 =>
  (ldI h t10 (t11 - (1 : Int32))).bind fun t12 =>
  if t12 = (1 : Int32) then (
  fX12_half_53 N v0 v1 (1 : Int32) h) else (
  fX12_half_53 N v0 v1 (0 : Int32) h))) else none
theorem oX12_half {N : Nat} {v0 : Nat} {v1 : Int32} {h : pH} {q : pH} (hf : fX12_half N v0 v1 h = some q) : isO h v0 12 = true := by
  unfold fX12_half at hf
  by_cases hc : isO h v0 12 = true
  · exact hc
  · rw [if_neg hc] at hf; cases hf
theorem cX12_half (X : pX) (N d : Nat) (v0 : Nat) (v1 : Int32) (h : pH) (q : pH) (hf : fX12_half N v0 v1 h = some q) : Calls X (d + 1) 335 [.ref v0, .int v1] h (none, q, 0, 0) := by
  refine Calls.of M335 (Nat.le_of_ble_eq_true rfl) ?_
  show Run X (d + 1) 12 false (pCd 10047) 3 none 0 [(0, .ref v0), (1, .int v1)] [] h 0 0 (none, q, 0, 0)
  unfold fX12_half at hf
  by_cases hc : isO h v0 12 = true
  · rw [if_pos hc] at hf
    have nv0 : ¬ v0 = 4 := isO_ne hc
    refine r_aload_n (dGet dX12_half (j := 0) rfl) nv0 rfl ?_
    obtain ⟨t7, et7, hf⟩ := Option.bind_eq_some_iff.mp hf
    refine r_getR (dGet dX12_half (j := 1) rfl) F12_25 et7 ?_
    refine r_iload_n (dGet dX12_half (j := 2) rfl) rfl ?_
    obtain ⟨t8, et8, hf⟩ := Option.bind_eq_some_iff.mp hf
    refine r_iald (dGet dX12_half (j := 3) rfl) et8 ?_
    refine r_bipush (dGet dX12_half (j := 4) rfl) kB_16 ?_
    by_cases c9 : t8 = (16 : Int32)
    · rw [if_pos c9] at hf
      refine r_icmp_ne_f (dGet dX12_half (j := 5) rfl) rfl c9 ?_
      refine r_aload_n (dGet dX12_half (j := 6) rfl) nv0 rfl ?_
      obtain ⟨t14, et14, hf⟩ := Option.bind_eq_some_iff.mp hf
      refine r_getR (dGet dX12_half (j := 7) rfl) F12_198 et14 ?_
      refine r_aload_n (dGet dX12_half (j := 8) rfl) nv0 rfl ?_
      obtain ⟨t15, et15, hf⟩ := Option.bind_eq_some_iff.mp hf
      refine r_getI (dGet dX12_half (j := 9) rfl) F12_560 et15 ?_
      refine r_iconst (dGet dX12_half (j := 10) rfl) kI_1 ?_
      refine r_isub (dGet dX12_half (j := 11) rfl) ?_
      obtain ⟨t16, et16, hf⟩ := Option.bind_eq_some_iff.mp hf
      refine r_iald (dGet dX12_half (j := 12) rfl) et16 ?_
      by_cases c17 : t16 = 0
      · rw [if_pos c17] at hf
        refine r_if_ne_f (dGet dX12_half (j := 13) rfl) rfl c17 ?_
        refine r_iconst (dGet dX12_half (j := 14) rfl) kI_1 ?_
        refine r_goto (dGet dX12_half (j := 15) rfl) rfl ?_
        exact lX12_half_53 X N d v0 v1 (1 : Int32) h q hf nv0
      · rw [if_neg c17] at hf
        refine r_if_ne_t (dGet dX12_half (j := 13) rfl) rfl c17 ?_
        refine r_iconst (dGet dX12_half (j := 16) rfl) kI_0 ?_
        refine r_goto (dGet dX12_half (j := 17) rfl) rfl ?_
        exact lX12_half_53 X N d v0 v1 (0 : Int32) h q hf nv0
    · rw [if_neg c9] at hf
      refine r_icmp_ne_t (dGet dX12_half (j := 5) rfl) rfl c9 ?_
      refine r_aload_n (dGet dX12_half (j := 18) rfl) nv0 rfl ?_
      obtain ⟨t10, et10, hf⟩ := Option.bind_eq_some_iff.mp hf
      refine r_getR (dGet dX12_half (j := 19) rfl) F12_198 et10 ?_
      refine r_aload_n (dGet dX12_half (j := 20) rfl) nv0 rfl ?_
      obtain ⟨t11, et11, hf⟩ := Option.bind_eq_some_iff.mp hf
      refine r_getI (dGet dX12_half (j := 21) rfl) F12_560 et11 ?_
      refine r_iconst (dGet dX12_half (j := 22) rfl) kI_1 ?_
      refine r_isub (dGet dX12_half (j := 23) rfl) ?_
      obtain ⟨t12, et12, hf⟩ := Option.bind_eq_some_iff.mp hf
      refine r_iald (dGet dX12_half (j := 24) rfl) et12 ?_
      refine r_iconst (dGet dX12_half (j := 25) rfl) kI_1 ?_
      by_cases c13 : t12 = (1 : Int32)
      · rw [if_pos c13] at hf
        refine r_icmp_ne_f (dGet dX12_half (j := 26) rfl) rfl c13 ?_
        refine r_iconst (dGet dX12_half (j := 27) rfl) kI_1 ?_
        refine r_goto (dGet dX12_half (j := 28) rfl) rfl ?_
        exact lX12_half_53 X N d v0 v1 (1 : Int32) h q hf nv0
      · rw [if_neg c13] at hf
        refine r_icmp_ne_t (dGet dX12_half (j := 26) rfl) rfl c13 ?_
        refine r_iconst (dGet dX12_half (j := 29) rfl) kI_0 ?_
        exact lX12_half_53 X N d v0 v1 (0 : Int32) h q hf nv0
  · rw [if_neg hc] at hf; cases hf
def eX12_moved : List (Nat × Instr × Nat) := [(0, .iload_n 1, 1), (1, .ifCond .ge 7, 3), (4, .iconst (-1), 1), (5, .goto 9, 3), (8, .aload_n 0, 1), (9, .getfield 166, 3), (12, .iload_n 1, 1), (13, .iaload, 1), (14, .ireturn, 1)]
theorem dX12_moved : dChk (pCd 10016) eX12_moved = true := by decide +kernel
def fX12_moved (N : Nat) (v0 : Nat) (v1 : Int32) (h : pH) : Option (Int32 × pH) := if isO h v0 12 = true then (
  if 0 ≤ v1 then (
  (getR h v0 12 87).bind fun t2 =>
  (ldI h t2 v1).bind fun t3 =>
  some (t3, h)) else (
  some ((-1 : Int32), h))) else none
theorem oX12_moved {N : Nat} {v0 : Nat} {v1 : Int32} {h : pH} {q : Int32 × pH} (hf : fX12_moved N v0 v1 h = some q) : isO h v0 12 = true := by
  unfold fX12_moved at hf
  by_cases hc : isO h v0 12 = true
  · exact hc
  · rw [if_neg hc] at hf; cases hf
theorem cX12_moved (X : pX) (N d : Nat) (v0 : Nat) (v1 : Int32) (h : pH) (q : Int32 × pH) (hf : fX12_moved N v0 v1 h = some q) : Calls X (d + 0) 327 [.ref v0, .int v1] h (some (.int q.1), q.2, 0, 0) := by
  refine Calls.of M327 (Nat.le_of_ble_eq_true rfl) ?_
  show Run X (d + 0) 12 false (pCd 10016) 2 (some .int) 0 [(0, .ref v0), (1, .int v1)] [] h 0 0 (some (.int q.1), q.2, 0, 0)
  unfold fX12_moved at hf
  by_cases hc : isO h v0 12 = true
  · rw [if_pos hc] at hf
    have nv0 : ¬ v0 = 4 := isO_ne hc
    refine r_iload_n (dGet dX12_moved (j := 0) rfl) rfl ?_
    by_cases c1 : 0 ≤ v1
    · rw [if_pos c1] at hf
      refine r_if_ge_t (dGet dX12_moved (j := 1) rfl) rfl c1 ?_
      refine r_aload_n (dGet dX12_moved (j := 4) rfl) nv0 rfl ?_
      obtain ⟨t2, et2, hf⟩ := Option.bind_eq_some_iff.mp hf
      refine r_getR (dGet dX12_moved (j := 5) rfl) F12_166 et2 ?_
      refine r_iload_n (dGet dX12_moved (j := 6) rfl) rfl ?_
      obtain ⟨t3, et3, hf⟩ := Option.bind_eq_some_iff.mp hf
      refine r_iald (dGet dX12_moved (j := 7) rfl) et3 ?_
      have hq := Option.some.inj hf
      subst hq
      exact r_iret (dGet dX12_moved (j := 8) rfl) rfl rfl
    · rw [if_neg c1] at hf
      refine r_if_ge_f (dGet dX12_moved (j := 1) rfl) rfl c1 ?_
      refine r_iconst (dGet dX12_moved (j := 2) rfl) kI_m1 ?_
      refine r_goto (dGet dX12_moved (j := 3) rfl) rfl ?_
      have hq := Option.some.inj hf
      subst hq
      exact r_iret (dGet dX12_moved (j := 8) rfl) rfl rfl
  · rw [if_neg hc] at hf; cases hf
def eX12_sweep : List (Nat × Instr × Nat) := [(0, .iconst 5, 1), (1, .istore_n 1, 1), (2, .iconst 0, 1), (3, .istore_n 2, 1), (4, .iload_n 2, 1), (5, .aload_n 0, 1), (6, .getfield 551, 3), (9, .if_icmp .ge 47, 3), (12, .aload_n 0, 1), (13, .getfield 166, 3), (16, .iload_n 2, 1), (17, .iload_n 2, 1), (18, .iconst 5, 1), (19, .if_icmp .ge 7, 3), (22, .iload_n 2, 1), (23, .goto 4, 3), (26, .iload_n 1, 1), (27, .iastore, 1), (28, .iload_n 1, 1), (29, .iload_n 2, 1), (30, .iconst 5, 1), (31, .if_icmp .lt 16, 3), (34, .aload_n 0, 1), (35, .getfield 163, 3), (38, .iload_n 2, 1), (39, .baload, 1), (40, .ifCond .eq 7, 3), (43, .iconst 1, 1), (44, .goto 4, 3), (47, .iconst 0, 1), (48, .iadd, 1), (49, .istore_n 1, 1), (50, .iinc 2 1, 3), (53, .goto (-49), 3), (56, .iconst 0, 1), (57, .istore_n 2, 1), (58, .iload_n 2, 1), (59, .aload_n 0, 1), (60, .getfield 554, 3), (63, .if_icmp .ge 80, 3), (66, .aload_n 0, 1), (67, .getfield 178, 3), (70, .iload_n 2, 1), (71, .aload_n 0, 1), (72, .aload_n 0, 1), (73, .getfield 178, 3), (76, .iload_n 2, 1), (77, .iaload, 1), (78, .invokevirtual 563, 3), (81, .iastore, 1), (82, .aload_n 0, 1), (83, .getfield 181, 3), (86, .iload_n 2, 1), (87, .iaload, 1), (88, .istore_n 3, 1), (89, .iload_n 3, 1), (90, .aload_n 0, 1), (91, .getfield 181, 3), (94, .iload_n 2, 1), (95, .iaload, 1), (96, .aload_n 0, 1), (97, .getfield 184, 3), (100, .iload_n 2, 1), (101, .iaload, 1), (102, .iadd, 1), (103, .if_icmp .ge 34, 3), (106, .aload_n 0, 1), (107, .getfield 194, 3), (110, .iload_n 3, 1), (111, .baload, 1), (112, .ifCond .eq 19, 3), (115, .aload_n 0, 1), (116, .getfield 191, 3), (119, .iload_n 3, 1), (120, .aload_n 0, 1), (121, .aload_n 0, 1), (122, .getfield 191, 3), (125, .iload_n 3, 1), (126, .iaload, 1), (127, .invokevirtual 563, 3), (130, .iastore, 1), (131, .iinc 3 1, 3), (134, .goto (-45), 3), (137, .iinc 2 1, 3), (140, .goto (-82), 3), (143, .iconst 0, 1), (144, .istore_n 2, 1), (145, .iload_n 2, 1), (146, .aload_n 0, 1), (147, .getfield 560, 3), (150, .if_icmp .ge 34, 3), (153, .aload_n 0, 1), (154, .getfield 201, 3), (157, .iload_n 2, 1), (158, .baload, 1), (159, .ifCond .eq 19, 3), (162, .aload_n 0, 1), (163, .getfield 198, 3), (166, .iload_n 2, 1), (167, .aload_n 0, 1), (168, .aload_n 0, 1), (169, .getfield 198, 3), (172, .iload_n 2, 1), (173, .iaload, 1), (174, .invokevirtual 563, 3), (177, .iastore, 1), (178, .iinc 2 1, 3), (181, .goto (-36), 3), (184, .iconst 0, 1), (185, .istore_n 2, 1), (186, .iconst 5, 1), (187, .istore_n 3, 1), (188, .iload_n 3, 1), (189, .aload_n 0, 1), (190, .getfield 551, 3), (193, .if_icmp .ge 164, 3), (196, .aload_n 0, 1), (197, .getfield 163, 3), (200, .iload_n 3, 1), (201, .baload, 1), (202, .ifCond .ne 6, 3), (205, .goto 146, 3), (208, .aload_n 0, 1), (209, .getfield 166, 3), (212, .iload_n 3, 1), (213, .iaload, 1), (214, .istore 4, 2), (216, .aload_n 0, 1), (217, .getfield 157, 3), (220, .iload_n 3, 1), (221, .iaload, 1), (222, .istore 5, 2), (224, .aload_n 0, 1), (225, .getfield 160, 3), (228, .iload_n 3, 1), (229, .iaload, 1), (230, .istore 6, 2), (232, .aload_n 0, 1), (233, .getfield 154, 3), (236, .iload 4, 2), (238, .aload_n 0, 1), (239, .getfield 154, 3), (242, .iload_n 3, 1), (243, .iaload, 1), (244, .iastore, 1), (245, .aload_n 0, 1), (246, .getfield 157, 3), (249, .iload 4, 2), (251, .iload_n 2, 1), (252, .iastore, 1), (253, .aload_n 0, 1), (254, .getfield 160, 3), (257, .iload 4, 2), (259, .iload 6, 2), (261, .iastore, 1), (262, .iconst 0, 1), (263, .istore 7, 2), (265, .iload 7, 2), (267, .iload 6, 2), (269, .if_icmp .ge 77, 3), (272, .aload_n 0, 1), (273, .getfield 172, 3), (276, .iload_n 2, 1), (277, .iload 7, 2), (279, .iadd, 1), (280, .aload_n 0, 1), (281, .getfield 175, 3), (284, .iload 5, 2), (286, .iload 7, 2), (288, .iadd, 1), (289, .baload, 1), (290, .ifCond .eq 20, 3), (293, .aload_n 0, 1), (294, .aload_n 0, 1), (295, .getfield 172, 3), (298, .iload 5, 2), (300, .iload 7, 2), (302, .iadd, 1), (303, .iaload, 1), (304, .invokevirtual 563, 3), (307, .goto 13, 3), (310, .aload_n 0, 1), (311, .getfield 172, 3), (314, .iload 5, 2), (316, .iload 7, 2), (318, .iadd, 1), (319, .iaload, 1), (320, .iastore, 1), (321, .aload_n 0, 1), (322, .getfield 175, 3), (325, .iload_n 2, 1), (326, .iload 7, 2), (328, .iadd, 1), (329, .aload_n 0, 1), (330, .getfield 175, 3), (333, .iload 5, 2), (335, .iload 7, 2), (337, .iadd, 1), (338, .baload, 1), (339, .bastore, 1), (340, .iinc 7 1, 3), (343, .goto (-78), 3), (346, .iload_n 2, 1), (347, .iload 6, 2), (349, .iadd, 1), (350, .istore_n 2, 1), (351, .iinc 3 1, 3), (354, .goto (-166), 3), (357, .aload_n 0, 1), (358, .iload_n 1, 1), (359, .putfield 551, 3), (362, .aload_n 0, 1), (363, .iload_n 2, 1), (364, .putfield 566, 3), (367, .return_, 1)]
theorem dX12_sweep : dChk (pCd 10012) eX12_sweep = true := by decide +kernel
def fX12_sweep_351 (N : Nat) (k188 : Nat → Int32 → Int32 → Int32 → pH → Option (pH)) (v0 : Nat) (v1 : Int32) (v2 : Int32) (v3 : Int32) (h : pH) : Option (pH) :=
  k188 v0 v1 v2 (v3 + (1 : Int32)) h
theorem lX12_sweep_351 (X : pX) (N d : Nat)  (k188 : Nat → Int32 → Int32 → Int32 → pH → Option (pH)) (K188 : ∀ (w0 : Nat) (w1 : Int32) (w2 : Int32) (w3 : Int32) (h : pH) (q : pH), k188 w0 w1 w2 w3 h = some q → ¬ w0 = 4 → Run X (d + 1) 12 false (pCd 10012) 8 none 188 [(0, .ref w0), (1, .int w1), (2, .int w2), (3, .int w3)] [] h 0 0 (none, q, 0, 0)) (v0 : Nat) (v1 : Int32) (v2 : Int32) (v3 : Int32) (h : pH) (q : pH) (hf : fX12_sweep_351 N k188 v0 v1 v2 v3 h = some q) (nv0 : ¬ v0 = 4) : Run X (d + 1) 12 false (pCd 10012) 8 none 351 [(0, .ref v0), (1, .int v1), (2, .int v2), (3, .int v3)] [] h 0 0 (none, q, 0, 0) := by
  unfold fX12_sweep_351 at hf
  refine r_iinc (lv' := [(3, .int (v3 + (1 : Int32))), (0, .ref v0), (1, .int v1), (2, .int v2)]) (dGet dX12_sweep (j := 206) rfl) rfl (by decide) kI_1 rfl ?_
  refine r_goto (dGet dX12_sweep (j := 207) rfl) rfl ?_
  refine Run.weak [(0, .ref v0), (1, .int v1), (2, .int v2), (3, .int (v3 + (1 : Int32)))] (by simp) (by simp [pNd]) ?_
  exact K188 v0 v1 v2 (v3 + (1 : Int32)) h q hf nv0
def fX12_sweep_320 (N : Nat) (k188 : Nat → Int32 → Int32 → Int32 → pH → Option (pH)) (k265 : Nat → Int32 → Int32 → Int32 → Int32 → Int32 → Int32 → pH → Option (pH)) (v0 : Nat) (v1 : Int32) (v2 : Int32) (v3 : Int32) (v5 : Int32) (v6 : Int32) (v7 : Int32) (s0 : Nat) (s1 : Int32) (s2 : Int32) (h : pH) : Option (pH) :=
  (stI h s0 s1 s2).bind fun h1 =>
  (getR h1 v0 12 92).bind fun t2 =>
  (getR h1 v0 12 92).bind fun t3 =>
  (ldZ h1 t3 (v5 + v7)).bind fun t4 =>
  (stZ h1 t2 (v2 + v7) t4).bind fun h5 =>
  k265 v0 v1 v2 v3 v5 v6 (v7 + (1 : Int32)) h5
theorem lX12_sweep_320 (X : pX) (N d : Nat)  (k188 : Nat → Int32 → Int32 → Int32 → pH → Option (pH)) (K188 : ∀ (w0 : Nat) (w1 : Int32) (w2 : Int32) (w3 : Int32) (h : pH) (q : pH), k188 w0 w1 w2 w3 h = some q → ¬ w0 = 4 → Run X (d + 1) 12 false (pCd 10012) 8 none 188 [(0, .ref w0), (1, .int w1), (2, .int w2), (3, .int w3)] [] h 0 0 (none, q, 0, 0)) (k265 : Nat → Int32 → Int32 → Int32 → Int32 → Int32 → Int32 → pH → Option (pH)) (K265 : ∀ (w0 : Nat) (w1 : Int32) (w2 : Int32) (w3 : Int32) (w5 : Int32) (w6 : Int32) (w7 : Int32) (h : pH) (q : pH), k265 w0 w1 w2 w3 w5 w6 w7 h = some q → ¬ w0 = 4 → Run X (d + 1) 12 false (pCd 10012) 8 none 265 [(0, .ref w0), (1, .int w1), (2, .int w2), (3, .int w3), (5, .int w5), (6, .int w6), (7, .int w7)] [] h 0 0 (none, q, 0, 0)) (v0 : Nat) (v1 : Int32) (v2 : Int32) (v3 : Int32) (v5 : Int32) (v6 : Int32) (v7 : Int32) (s0 : Nat) (s1 : Int32) (s2 : Int32) (h : pH) (q : pH) (hf : fX12_sweep_320 N k188 k265 v0 v1 v2 v3 v5 v6 v7 s0 s1 s2 h = some q) (nv0 : ¬ v0 = 4) (ns0 : ¬ s0 = 4) : Run X (d + 1) 12 false (pCd 10012) 8 none 320 [(0, .ref v0), (1, .int v1), (2, .int v2), (3, .int v3), (5, .int v5), (6, .int v6), (7, .int v7)] [.int s2, .int s1, .ref s0] h 0 0 (none, q, 0, 0) := by
  unfold fX12_sweep_320 at hf
  obtain ⟨h1, eh1, hf⟩ := Option.bind_eq_some_iff.mp hf
  refine r_iast (dGet dX12_sweep (j := 187) rfl) eh1 ?_
  refine r_aload_n (dGet dX12_sweep (j := 188) rfl) nv0 rfl ?_
  obtain ⟨t2, et2, hf⟩ := Option.bind_eq_some_iff.mp hf
  refine r_getR (dGet dX12_sweep (j := 189) rfl) F12_175 et2 ?_
  refine r_iload_n (dGet dX12_sweep (j := 190) rfl) rfl ?_
  refine r_iload (dGet dX12_sweep (j := 191) rfl) rfl ?_
  refine r_iadd (dGet dX12_sweep (j := 192) rfl) ?_
  refine r_aload_n (dGet dX12_sweep (j := 193) rfl) nv0 rfl ?_
  obtain ⟨t3, et3, hf⟩ := Option.bind_eq_some_iff.mp hf
  refine r_getR (dGet dX12_sweep (j := 194) rfl) F12_175 et3 ?_
  refine r_iload (dGet dX12_sweep (j := 195) rfl) rfl ?_
  refine r_iload (dGet dX12_sweep (j := 196) rfl) rfl ?_
  refine r_iadd (dGet dX12_sweep (j := 197) rfl) ?_
  obtain ⟨t4, et4, hf⟩ := Option.bind_eq_some_iff.mp hf
  refine r_zald (dGet dX12_sweep (j := 198) rfl) et4 ?_
  obtain ⟨h5, eh5, hf⟩ := Option.bind_eq_some_iff.mp hf
  refine r_zast (dGet dX12_sweep (j := 199) rfl) eh5 ?_
  refine r_iinc (lv' := [(7, .int (v7 + (1 : Int32))), (0, .ref v0), (1, .int v1), (2, .int v2), (3, .int v3), (5, .int v5), (6, .int v6)]) (dGet dX12_sweep (j := 200) rfl) rfl (by decide) kI_1 rfl ?_
  refine r_goto (dGet dX12_sweep (j := 201) rfl) rfl ?_
  refine Run.weak [(0, .ref v0), (1, .int v1), (2, .int v2), (3, .int v3), (5, .int v5), (6, .int v6), (7, .int (v7 + (1 : Int32)))] (by simp) (by simp [pNd]) ?_
  exact K265 v0 v1 v2 v3 v5 v6 (v7 + (1 : Int32)) h5 q hf nv0
def fX12_sweep_265 (N : Nat) (k188 : Nat → Int32 → Int32 → Int32 → pH → Option (pH)) : Nat → Nat → Int32 → Int32 → Int32 → Int32 → Int32 → Int32 → pH → Option (pH)
  | 0, _, _, _, _, _, _, _, _ => none
  | n + 1, v0, v1, v2, v3, v5, v6, v7, h => if v6 ≤ v7 then (
  fX12_sweep_351 N k188 v0 v1 (v2 + v6) v3 h) else (
  (getR h v0 12 91).bind fun t7 =>
  (getR h v0 12 92).bind fun t8 =>
  (ldZ h t8 (v5 + v7)).bind fun t9 =>
  if t9 = 0 then (
  (getR h v0 12 91).bind fun t11 =>
  (ldI h t11 (v5 + v7)).bind fun t12 =>
  if t7 = 4 then none else
  fX12_sweep_320 N k188 (fX12_sweep_265 N k188 n) v0 v1 v2 v3 v5 v6 v7 t7 (v2 + v7) t12 h) else (
  (getR h v0 12 91).bind fun t13 =>
  (ldI h t13 (v5 + v7)).bind fun t14 =>
  (fX12_moved N v0 t14 h).bind fun q15 =>
  if t7 = 4 then none else
  fX12_sweep_320 N k188 (fX12_sweep_265 N k188 n) v0 v1 v2 v3 v5 v6 v7 t7 (v2 + v7) q15.1 q15.2))
theorem lX12_sweep_265 (X : pX) (N d : Nat)  (k188 : Nat → Int32 → Int32 → Int32 → pH → Option (pH)) (K188 : ∀ (w0 : Nat) (w1 : Int32) (w2 : Int32) (w3 : Int32) (h : pH) (q : pH), k188 w0 w1 w2 w3 h = some q → ¬ w0 = 4 → Run X (d + 1) 12 false (pCd 10012) 8 none 188 [(0, .ref w0), (1, .int w1), (2, .int w2), (3, .int w3)] [] h 0 0 (none, q, 0, 0)) : ∀ (n : Nat) (v0 : Nat) (v1 : Int32) (v2 : Int32) (v3 : Int32) (v5 : Int32) (v6 : Int32) (v7 : Int32) (h : pH) (q : pH), fX12_sweep_265 N k188 n v0 v1 v2 v3 v5 v6 v7 h = some q → ¬ v0 = 4 → Run X (d + 1) 12 false (pCd 10012) 8 none 265 [(0, .ref v0), (1, .int v1), (2, .int v2), (3, .int v3), (5, .int v5), (6, .int v6), (7, .int v7)] [] h 0 0 (none, q, 0, 0) := by
  intro n
  induction n with
  | zero => intro v0 v1 v2 v3 v5 v6 v7 h q hf; cases hf
  | succ n ih =>
    intro v0 v1 v2 v3 v5 v6 v7 h q hf nv0
    unfold fX12_sweep_265 at hf
    refine r_iload (dGet dX12_sweep (j := 157) rfl) rfl ?_
    refine r_iload (dGet dX12_sweep (j := 158) rfl) rfl ?_
    by_cases c6 : v6 ≤ v7
    · rw [if_pos c6] at hf
      refine r_icmp_ge_t (dGet dX12_sweep (j := 159) rfl) rfl c6 ?_
      refine r_iload_n (dGet dX12_sweep (j := 202) rfl) rfl ?_
      refine r_iload (dGet dX12_sweep (j := 203) rfl) rfl ?_
      refine r_iadd (dGet dX12_sweep (j := 204) rfl) ?_
      refine r_istore_n (lv' := [(2, .int (v2 + v6)), (0, .ref v0), (1, .int v1), (3, .int v3), (5, .int v5), (6, .int v6), (7, .int v7)]) (dGet dX12_sweep (j := 205) rfl) (by decide) rfl ?_
      refine Run.weak [(0, .ref v0), (1, .int v1), (2, .int (v2 + v6)), (3, .int v3)] (by simp) (by simp [pNd]) ?_
      exact lX12_sweep_351 X N d k188 K188 v0 v1 (v2 + v6) v3 h q hf nv0
    · rw [if_neg c6] at hf
      refine r_icmp_ge_f (dGet dX12_sweep (j := 159) rfl) rfl c6 ?_
      refine r_aload_n (dGet dX12_sweep (j := 160) rfl) nv0 rfl ?_
      obtain ⟨t7, et7, hf⟩ := Option.bind_eq_some_iff.mp hf
      refine r_getR (dGet dX12_sweep (j := 161) rfl) F12_172 et7 ?_
      refine r_iload_n (dGet dX12_sweep (j := 162) rfl) rfl ?_
      refine r_iload (dGet dX12_sweep (j := 163) rfl) rfl ?_
      refine r_iadd (dGet dX12_sweep (j := 164) rfl) ?_
      refine r_aload_n (dGet dX12_sweep (j := 165) rfl) nv0 rfl ?_
      obtain ⟨t8, et8, hf⟩ := Option.bind_eq_some_iff.mp hf
      refine r_getR (dGet dX12_sweep (j := 166) rfl) F12_175 et8 ?_
      refine r_iload (dGet dX12_sweep (j := 167) rfl) rfl ?_
      refine r_iload (dGet dX12_sweep (j := 168) rfl) rfl ?_
      refine r_iadd (dGet dX12_sweep (j := 169) rfl) ?_
      obtain ⟨t9, et9, hf⟩ := Option.bind_eq_some_iff.mp hf
      refine r_zald (dGet dX12_sweep (j := 170) rfl) et9 ?_
      by_cases c10 : t9 = 0
      · rw [if_pos c10] at hf
        refine r_if_eq_t (dGet dX12_sweep (j := 171) rfl) rfl c10 ?_
        refine r_aload_n (dGet dX12_sweep (j := 181) rfl) nv0 rfl ?_
        obtain ⟨t11, et11, hf⟩ := Option.bind_eq_some_iff.mp hf
        refine r_getR (dGet dX12_sweep (j := 182) rfl) F12_172 et11 ?_
        refine r_iload (dGet dX12_sweep (j := 183) rfl) rfl ?_
        refine r_iload (dGet dX12_sweep (j := 184) rfl) rfl ?_
        refine r_iadd (dGet dX12_sweep (j := 185) rfl) ?_
        obtain ⟨t12, et12, hf⟩ := Option.bind_eq_some_iff.mp hf
        refine r_iald (dGet dX12_sweep (j := 186) rfl) et12 ?_
        by_cases nt7 : t7 = 4
        · rw [if_pos nt7] at hf; cases hf
        rw [if_neg nt7] at hf
        exact lX12_sweep_320 X N d k188 K188 (fX12_sweep_265 N k188 n) ih v0 v1 v2 v3 v5 v6 v7 t7 (v2 + v7) t12 h q hf nv0 nt7
      · rw [if_neg c10] at hf
        refine r_if_eq_f (dGet dX12_sweep (j := 171) rfl) rfl c10 ?_
        refine r_aload_n (dGet dX12_sweep (j := 172) rfl) nv0 rfl ?_
        refine r_aload_n (dGet dX12_sweep (j := 173) rfl) nv0 rfl ?_
        obtain ⟨t13, et13, hf⟩ := Option.bind_eq_some_iff.mp hf
        refine r_getR (dGet dX12_sweep (j := 174) rfl) F12_172 et13 ?_
        refine r_iload (dGet dX12_sweep (j := 175) rfl) rfl ?_
        refine r_iload (dGet dX12_sweep (j := 176) rfl) rfl ?_
        refine r_iadd (dGet dX12_sweep (j := 177) rfl) ?_
        obtain ⟨t14, et14, hf⟩ := Option.bind_eq_some_iff.mp hf
        refine r_iald (dGet dX12_sweep (j := 178) rfl) et14 ?_
        obtain ⟨q15, eq15, hf⟩ := Option.bind_eq_some_iff.mp hf
        refine r_virtual (dGet dX12_sweep (j := 179) rfl) L12_563 M327 rfl rfl (Nat.le_of_ble_eq_true rfl) (oX12_moved eq15) (cX12_moved X N (d + 0) v0 t14 h q15 eq15) ?_
        refine r_goto (dGet dX12_sweep (j := 180) rfl) rfl ?_
        by_cases nt7 : t7 = 4
        · rw [if_pos nt7] at hf; cases hf
        rw [if_neg nt7] at hf
        exact lX12_sweep_320 X N d k188 K188 (fX12_sweep_265 N k188 n) ih v0 v1 v2 v3 v5 v6 v7 t7 (v2 + v7) q15.1 q15.2 q hf nv0 nt7
def fX12_sweep_188 (N : Nat) : Nat → Nat → Int32 → Int32 → Int32 → pH → Option (pH)
  | 0, _, _, _, _, _ => none
  | n + 1, v0, v1, v2, v3, h => (getI h v0 12 82).bind fun t16 =>
  if t16 ≤ v3 then (
  (putI h v0 12 82 v1).bind fun h18 =>
  (putI h18 v0 12 90 v2).bind fun h19 =>
  some h19) else (
  (getR h v0 12 86).bind fun t20 =>
  (ldZ h t20 v3).bind fun t21 =>
  if t21 = 0 then (
  fX12_sweep_351 N (fX12_sweep_188 N n) v0 v1 v2 v3 h) else (
  (getR h v0 12 87).bind fun t23 =>
  (ldI h t23 v3).bind fun t24 =>
  (getR h v0 12 84).bind fun t25 =>
  (ldI h t25 v3).bind fun t26 =>
  (getR h v0 12 85).bind fun t27 =>
  (ldI h t27 v3).bind fun t28 =>
  (getR h v0 12 83).bind fun t29 =>
  (getR h v0 12 83).bind fun t30 =>
  (ldI h t30 v3).bind fun t31 =>
  (stI h t29 t24 t31).bind fun h32 =>
  (getR h32 v0 12 84).bind fun t33 =>
  (stI h32 t33 t24 v2).bind fun h34 =>
  (getR h34 v0 12 85).bind fun t35 =>
  (stI h34 t35 t24 t28).bind fun h36 =>
  fX12_sweep_265 N (fX12_sweep_188 N n) N v0 v1 v2 v3 t26 t28 (0 : Int32) h36))
theorem lX12_sweep_188 (X : pX) (N d : Nat)  : ∀ (n : Nat) (v0 : Nat) (v1 : Int32) (v2 : Int32) (v3 : Int32) (h : pH) (q : pH), fX12_sweep_188 N n v0 v1 v2 v3 h = some q → ¬ v0 = 4 → Run X (d + 1) 12 false (pCd 10012) 8 none 188 [(0, .ref v0), (1, .int v1), (2, .int v2), (3, .int v3)] [] h 0 0 (none, q, 0, 0) := by
  intro n
  induction n with
  | zero => intro v0 v1 v2 v3 h q hf; cases hf
  | succ n ih =>
    intro v0 v1 v2 v3 h q hf nv0
    unfold fX12_sweep_188 at hf
    refine r_iload_n (dGet dX12_sweep (j := 112) rfl) rfl ?_
    refine r_aload_n (dGet dX12_sweep (j := 113) rfl) nv0 rfl ?_
    obtain ⟨t16, et16, hf⟩ := Option.bind_eq_some_iff.mp hf
    refine r_getI (dGet dX12_sweep (j := 114) rfl) F12_551 et16 ?_
    by_cases c17 : t16 ≤ v3
    · rw [if_pos c17] at hf
      refine r_icmp_ge_t (dGet dX12_sweep (j := 115) rfl) rfl c17 ?_
      refine r_aload_n (dGet dX12_sweep (j := 208) rfl) nv0 rfl ?_
      refine r_iload_n (dGet dX12_sweep (j := 209) rfl) rfl ?_
      obtain ⟨h18, eh18, hf⟩ := Option.bind_eq_some_iff.mp hf
      refine r_putI (dGet dX12_sweep (j := 210) rfl) F12_551 rfl rfl eh18 ?_
      refine r_aload_n (dGet dX12_sweep (j := 211) rfl) nv0 rfl ?_
      refine r_iload_n (dGet dX12_sweep (j := 212) rfl) rfl ?_
      obtain ⟨h19, eh19, hf⟩ := Option.bind_eq_some_iff.mp hf
      refine r_putI (dGet dX12_sweep (j := 213) rfl) F12_566 rfl rfl eh19 ?_
      have hq := Option.some.inj hf
      subst hq
      exact r_vret (dGet dX12_sweep (j := 214) rfl) rfl
    · rw [if_neg c17] at hf
      refine r_icmp_ge_f (dGet dX12_sweep (j := 115) rfl) rfl c17 ?_
      refine r_aload_n (dGet dX12_sweep (j := 116) rfl) nv0 rfl ?_
      obtain ⟨t20, et20, hf⟩ := Option.bind_eq_some_iff.mp hf
      refine r_getR (dGet dX12_sweep (j := 117) rfl) F12_163 et20 ?_
      refine r_iload_n (dGet dX12_sweep (j := 118) rfl) rfl ?_
      obtain ⟨t21, et21, hf⟩ := Option.bind_eq_some_iff.mp hf
      refine r_zald (dGet dX12_sweep (j := 119) rfl) et21 ?_
      by_cases c22 : t21 = 0
      · rw [if_pos c22] at hf
        refine r_if_ne_f (dGet dX12_sweep (j := 120) rfl) rfl c22 ?_
        refine r_goto (dGet dX12_sweep (j := 121) rfl) rfl ?_
        exact lX12_sweep_351 X N d (fX12_sweep_188 N n) ih v0 v1 v2 v3 h q hf nv0
      · rw [if_neg c22] at hf
        refine r_if_ne_t (dGet dX12_sweep (j := 120) rfl) rfl c22 ?_
        refine r_aload_n (dGet dX12_sweep (j := 122) rfl) nv0 rfl ?_
        obtain ⟨t23, et23, hf⟩ := Option.bind_eq_some_iff.mp hf
        refine r_getR (dGet dX12_sweep (j := 123) rfl) F12_166 et23 ?_
        refine r_iload_n (dGet dX12_sweep (j := 124) rfl) rfl ?_
        obtain ⟨t24, et24, hf⟩ := Option.bind_eq_some_iff.mp hf
        refine r_iald (dGet dX12_sweep (j := 125) rfl) et24 ?_
        refine r_istore (lv' := [(4, .int t24), (0, .ref v0), (1, .int v1), (2, .int v2), (3, .int v3)]) (dGet dX12_sweep (j := 126) rfl) (by decide) rfl ?_
        refine r_aload_n (dGet dX12_sweep (j := 127) rfl) nv0 rfl ?_
        obtain ⟨t25, et25, hf⟩ := Option.bind_eq_some_iff.mp hf
        refine r_getR (dGet dX12_sweep (j := 128) rfl) F12_157 et25 ?_
        refine r_iload_n (dGet dX12_sweep (j := 129) rfl) rfl ?_
        obtain ⟨t26, et26, hf⟩ := Option.bind_eq_some_iff.mp hf
        refine r_iald (dGet dX12_sweep (j := 130) rfl) et26 ?_
        refine r_istore (lv' := [(5, .int t26), (4, .int t24), (0, .ref v0), (1, .int v1), (2, .int v2), (3, .int v3)]) (dGet dX12_sweep (j := 131) rfl) (by decide) rfl ?_
        refine r_aload_n (dGet dX12_sweep (j := 132) rfl) nv0 rfl ?_
        obtain ⟨t27, et27, hf⟩ := Option.bind_eq_some_iff.mp hf
        refine r_getR (dGet dX12_sweep (j := 133) rfl) F12_160 et27 ?_
        refine r_iload_n (dGet dX12_sweep (j := 134) rfl) rfl ?_
        obtain ⟨t28, et28, hf⟩ := Option.bind_eq_some_iff.mp hf
        refine r_iald (dGet dX12_sweep (j := 135) rfl) et28 ?_
        refine r_istore (lv' := [(6, .int t28), (5, .int t26), (4, .int t24), (0, .ref v0), (1, .int v1), (2, .int v2), (3, .int v3)]) (dGet dX12_sweep (j := 136) rfl) (by decide) rfl ?_
        refine r_aload_n (dGet dX12_sweep (j := 137) rfl) nv0 rfl ?_
        obtain ⟨t29, et29, hf⟩ := Option.bind_eq_some_iff.mp hf
        refine r_getR (dGet dX12_sweep (j := 138) rfl) F12_154 et29 ?_
        refine r_iload (dGet dX12_sweep (j := 139) rfl) rfl ?_
        refine r_aload_n (dGet dX12_sweep (j := 140) rfl) nv0 rfl ?_
        obtain ⟨t30, et30, hf⟩ := Option.bind_eq_some_iff.mp hf
        refine r_getR (dGet dX12_sweep (j := 141) rfl) F12_154 et30 ?_
        refine r_iload_n (dGet dX12_sweep (j := 142) rfl) rfl ?_
        obtain ⟨t31, et31, hf⟩ := Option.bind_eq_some_iff.mp hf
        refine r_iald (dGet dX12_sweep (j := 143) rfl) et31 ?_
        obtain ⟨h32, eh32, hf⟩ := Option.bind_eq_some_iff.mp hf
        refine r_iast (dGet dX12_sweep (j := 144) rfl) eh32 ?_
        refine r_aload_n (dGet dX12_sweep (j := 145) rfl) nv0 rfl ?_
        obtain ⟨t33, et33, hf⟩ := Option.bind_eq_some_iff.mp hf
        refine r_getR (dGet dX12_sweep (j := 146) rfl) F12_157 et33 ?_
        refine r_iload (dGet dX12_sweep (j := 147) rfl) rfl ?_
        refine r_iload_n (dGet dX12_sweep (j := 148) rfl) rfl ?_
        obtain ⟨h34, eh34, hf⟩ := Option.bind_eq_some_iff.mp hf
        refine r_iast (dGet dX12_sweep (j := 149) rfl) eh34 ?_
        refine r_aload_n (dGet dX12_sweep (j := 150) rfl) nv0 rfl ?_
        obtain ⟨t35, et35, hf⟩ := Option.bind_eq_some_iff.mp hf
        refine r_getR (dGet dX12_sweep (j := 151) rfl) F12_160 et35 ?_
        refine r_iload (dGet dX12_sweep (j := 152) rfl) rfl ?_
        refine r_iload (dGet dX12_sweep (j := 153) rfl) rfl ?_
        obtain ⟨h36, eh36, hf⟩ := Option.bind_eq_some_iff.mp hf
        refine r_iast (dGet dX12_sweep (j := 154) rfl) eh36 ?_
        refine r_iconst (dGet dX12_sweep (j := 155) rfl) kI_0 ?_
        refine r_istore (lv' := [(7, .int (0 : Int32)), (6, .int t28), (5, .int t26), (4, .int t24), (0, .ref v0), (1, .int v1), (2, .int v2), (3, .int v3)]) (dGet dX12_sweep (j := 156) rfl) (by decide) rfl ?_
        refine Run.weak [(0, .ref v0), (1, .int v1), (2, .int v2), (3, .int v3), (5, .int t26), (6, .int t28), (7, .int (0 : Int32))] (by simp) (by simp [pNd]) ?_
        exact lX12_sweep_265 X N d (fX12_sweep_188 N n) ih N v0 v1 v2 v3 t26 t28 (0 : Int32) h36 q hf nv0
def fX12_sweep_178 (N : Nat) (k145 : Nat → Int32 → Int32 → pH → Option (pH)) (v0 : Nat) (v1 : Int32) (v2 : Int32) (h : pH) : Option (pH) :=
  k145 v0 v1 (v2 + (1 : Int32)) h
theorem lX12_sweep_178 (X : pX) (N d : Nat)  (k145 : Nat → Int32 → Int32 → pH → Option (pH)) (K145 : ∀ (w0 : Nat) (w1 : Int32) (w2 : Int32) (h : pH) (q : pH), k145 w0 w1 w2 h = some q → ¬ w0 = 4 → Run X (d + 1) 12 false (pCd 10012) 8 none 145 [(0, .ref w0), (1, .int w1), (2, .int w2)] [] h 0 0 (none, q, 0, 0)) (v0 : Nat) (v1 : Int32) (v2 : Int32) (h : pH) (q : pH) (hf : fX12_sweep_178 N k145 v0 v1 v2 h = some q) (nv0 : ¬ v0 = 4) : Run X (d + 1) 12 false (pCd 10012) 8 none 178 [(0, .ref v0), (1, .int v1), (2, .int v2)] [] h 0 0 (none, q, 0, 0) := by
  unfold fX12_sweep_178 at hf
  refine r_iinc (lv' := [(2, .int (v2 + (1 : Int32))), (0, .ref v0), (1, .int v1)]) (dGet dX12_sweep (j := 106) rfl) rfl (by decide) kI_1 rfl ?_
  refine r_goto (dGet dX12_sweep (j := 107) rfl) rfl ?_
  refine Run.weak [(0, .ref v0), (1, .int v1), (2, .int (v2 + (1 : Int32)))] (by simp) (by simp [pNd]) ?_
  exact K145 v0 v1 (v2 + (1 : Int32)) h q hf nv0
def fX12_sweep_145 (N : Nat) : Nat → Nat → Int32 → Int32 → pH → Option (pH)
  | 0, _, _, _, _ => none
  | n + 1, v0, v1, v2, h => (getI h v0 12 100).bind fun t37 =>
  if t37 ≤ v2 then (
  fX12_sweep_188 N N v0 v1 (0 : Int32) (5 : Int32) h) else (
  (getR h v0 12 102).bind fun t39 =>
  (ldZ h t39 v2).bind fun t40 =>
  if t40 = 0 then (
  fX12_sweep_178 N (fX12_sweep_145 N n) v0 v1 v2 h) else (
  (getR h v0 12 101).bind fun t42 =>
  (getR h v0 12 101).bind fun t43 =>
  (ldI h t43 v2).bind fun t44 =>
  (fX12_moved N v0 t44 h).bind fun q45 =>
  (stI q45.2 t42 v2 q45.1).bind fun h46 =>
  fX12_sweep_178 N (fX12_sweep_145 N n) v0 v1 v2 h46))
theorem lX12_sweep_145 (X : pX) (N d : Nat)  : ∀ (n : Nat) (v0 : Nat) (v1 : Int32) (v2 : Int32) (h : pH) (q : pH), fX12_sweep_145 N n v0 v1 v2 h = some q → ¬ v0 = 4 → Run X (d + 1) 12 false (pCd 10012) 8 none 145 [(0, .ref v0), (1, .int v1), (2, .int v2)] [] h 0 0 (none, q, 0, 0) := by
  intro n
  induction n with
  | zero => intro v0 v1 v2 h q hf; cases hf
  | succ n ih =>
    intro v0 v1 v2 h q hf nv0
    unfold fX12_sweep_145 at hf
    refine r_iload_n (dGet dX12_sweep (j := 87) rfl) rfl ?_
    refine r_aload_n (dGet dX12_sweep (j := 88) rfl) nv0 rfl ?_
    obtain ⟨t37, et37, hf⟩ := Option.bind_eq_some_iff.mp hf
    refine r_getI (dGet dX12_sweep (j := 89) rfl) F12_560 et37 ?_
    by_cases c38 : t37 ≤ v2
    · rw [if_pos c38] at hf
      refine r_icmp_ge_t (dGet dX12_sweep (j := 90) rfl) rfl c38 ?_
      refine r_iconst (dGet dX12_sweep (j := 108) rfl) kI_0 ?_
      refine r_istore_n (lv' := [(2, .int (0 : Int32)), (0, .ref v0), (1, .int v1)]) (dGet dX12_sweep (j := 109) rfl) (by decide) rfl ?_
      refine r_iconst (dGet dX12_sweep (j := 110) rfl) kI_5 ?_
      refine r_istore_n (lv' := [(3, .int (5 : Int32)), (2, .int (0 : Int32)), (0, .ref v0), (1, .int v1)]) (dGet dX12_sweep (j := 111) rfl) (by decide) rfl ?_
      refine Run.weak [(0, .ref v0), (1, .int v1), (2, .int (0 : Int32)), (3, .int (5 : Int32))] (by simp) (by simp [pNd]) ?_
      exact lX12_sweep_188 X N d N v0 v1 (0 : Int32) (5 : Int32) h q hf nv0
    · rw [if_neg c38] at hf
      refine r_icmp_ge_f (dGet dX12_sweep (j := 90) rfl) rfl c38 ?_
      refine r_aload_n (dGet dX12_sweep (j := 91) rfl) nv0 rfl ?_
      obtain ⟨t39, et39, hf⟩ := Option.bind_eq_some_iff.mp hf
      refine r_getR (dGet dX12_sweep (j := 92) rfl) F12_201 et39 ?_
      refine r_iload_n (dGet dX12_sweep (j := 93) rfl) rfl ?_
      obtain ⟨t40, et40, hf⟩ := Option.bind_eq_some_iff.mp hf
      refine r_zald (dGet dX12_sweep (j := 94) rfl) et40 ?_
      by_cases c41 : t40 = 0
      · rw [if_pos c41] at hf
        refine r_if_eq_t (dGet dX12_sweep (j := 95) rfl) rfl c41 ?_
        exact lX12_sweep_178 X N d (fX12_sweep_145 N n) ih v0 v1 v2 h q hf nv0
      · rw [if_neg c41] at hf
        refine r_if_eq_f (dGet dX12_sweep (j := 95) rfl) rfl c41 ?_
        refine r_aload_n (dGet dX12_sweep (j := 96) rfl) nv0 rfl ?_
        obtain ⟨t42, et42, hf⟩ := Option.bind_eq_some_iff.mp hf
        refine r_getR (dGet dX12_sweep (j := 97) rfl) F12_198 et42 ?_
        refine r_iload_n (dGet dX12_sweep (j := 98) rfl) rfl ?_
        refine r_aload_n (dGet dX12_sweep (j := 99) rfl) nv0 rfl ?_
        refine r_aload_n (dGet dX12_sweep (j := 100) rfl) nv0 rfl ?_
        obtain ⟨t43, et43, hf⟩ := Option.bind_eq_some_iff.mp hf
        refine r_getR (dGet dX12_sweep (j := 101) rfl) F12_198 et43 ?_
        refine r_iload_n (dGet dX12_sweep (j := 102) rfl) rfl ?_
        obtain ⟨t44, et44, hf⟩ := Option.bind_eq_some_iff.mp hf
        refine r_iald (dGet dX12_sweep (j := 103) rfl) et44 ?_
        obtain ⟨q45, eq45, hf⟩ := Option.bind_eq_some_iff.mp hf
        refine r_virtual (dGet dX12_sweep (j := 104) rfl) L12_563 M327 rfl rfl (Nat.le_of_ble_eq_true rfl) (oX12_moved eq45) (cX12_moved X N (d + 0) v0 t44 h q45 eq45) ?_
        obtain ⟨h46, eh46, hf⟩ := Option.bind_eq_some_iff.mp hf
        refine r_iast (dGet dX12_sweep (j := 105) rfl) eh46 ?_
        exact lX12_sweep_178 X N d (fX12_sweep_145 N n) ih v0 v1 v2 h46 q hf nv0
def fX12_sweep_131 (N : Nat) (k58 : Nat → Int32 → Int32 → pH → Option (pH)) (k89 : Nat → Int32 → Int32 → Int32 → pH → Option (pH)) (v0 : Nat) (v1 : Int32) (v2 : Int32) (v3 : Int32) (h : pH) : Option (pH) :=
  k89 v0 v1 v2 (v3 + (1 : Int32)) h
theorem lX12_sweep_131 (X : pX) (N d : Nat)  (k58 : Nat → Int32 → Int32 → pH → Option (pH)) (K58 : ∀ (w0 : Nat) (w1 : Int32) (w2 : Int32) (h : pH) (q : pH), k58 w0 w1 w2 h = some q → ¬ w0 = 4 → Run X (d + 1) 12 false (pCd 10012) 8 none 58 [(0, .ref w0), (1, .int w1), (2, .int w2)] [] h 0 0 (none, q, 0, 0)) (k89 : Nat → Int32 → Int32 → Int32 → pH → Option (pH)) (K89 : ∀ (w0 : Nat) (w1 : Int32) (w2 : Int32) (w3 : Int32) (h : pH) (q : pH), k89 w0 w1 w2 w3 h = some q → ¬ w0 = 4 → Run X (d + 1) 12 false (pCd 10012) 8 none 89 [(0, .ref w0), (1, .int w1), (2, .int w2), (3, .int w3)] [] h 0 0 (none, q, 0, 0)) (v0 : Nat) (v1 : Int32) (v2 : Int32) (v3 : Int32) (h : pH) (q : pH) (hf : fX12_sweep_131 N k58 k89 v0 v1 v2 v3 h = some q) (nv0 : ¬ v0 = 4) : Run X (d + 1) 12 false (pCd 10012) 8 none 131 [(0, .ref v0), (1, .int v1), (2, .int v2), (3, .int v3)] [] h 0 0 (none, q, 0, 0) := by
  unfold fX12_sweep_131 at hf
  refine r_iinc (lv' := [(3, .int (v3 + (1 : Int32))), (0, .ref v0), (1, .int v1), (2, .int v2)]) (dGet dX12_sweep (j := 81) rfl) rfl (by decide) kI_1 rfl ?_
  refine r_goto (dGet dX12_sweep (j := 82) rfl) rfl ?_
  refine Run.weak [(0, .ref v0), (1, .int v1), (2, .int v2), (3, .int (v3 + (1 : Int32)))] (by simp) (by simp [pNd]) ?_
  exact K89 v0 v1 v2 (v3 + (1 : Int32)) h q hf nv0
def fX12_sweep_89 (N : Nat) (k58 : Nat → Int32 → Int32 → pH → Option (pH)) : Nat → Nat → Int32 → Int32 → Int32 → pH → Option (pH)
  | 0, _, _, _, _, _ => none
  | n + 1, v0, v1, v2, v3, h => (getR h v0 12 95).bind fun t47 =>
  (ldI h t47 v2).bind fun t48 =>
  (getR h v0 12 96).bind fun t49 =>
  (ldI h t49 v2).bind fun t50 =>
  if (t48 + t50) ≤ v3 then (
  k58 v0 v1 (v2 + (1 : Int32)) h) else (
  (getR h v0 12 99).bind fun t52 =>
  (ldZ h t52 v3).bind fun t53 =>
  if t53 = 0 then (
  fX12_sweep_131 N k58 (fX12_sweep_89 N k58 n) v0 v1 v2 v3 h) else (
  (getR h v0 12 98).bind fun t55 =>
  (getR h v0 12 98).bind fun t56 =>
  (ldI h t56 v3).bind fun t57 =>
  (fX12_moved N v0 t57 h).bind fun q58 =>
  (stI q58.2 t55 v3 q58.1).bind fun h59 =>
  fX12_sweep_131 N k58 (fX12_sweep_89 N k58 n) v0 v1 v2 v3 h59))
theorem lX12_sweep_89 (X : pX) (N d : Nat)  (k58 : Nat → Int32 → Int32 → pH → Option (pH)) (K58 : ∀ (w0 : Nat) (w1 : Int32) (w2 : Int32) (h : pH) (q : pH), k58 w0 w1 w2 h = some q → ¬ w0 = 4 → Run X (d + 1) 12 false (pCd 10012) 8 none 58 [(0, .ref w0), (1, .int w1), (2, .int w2)] [] h 0 0 (none, q, 0, 0)) : ∀ (n : Nat) (v0 : Nat) (v1 : Int32) (v2 : Int32) (v3 : Int32) (h : pH) (q : pH), fX12_sweep_89 N k58 n v0 v1 v2 v3 h = some q → ¬ v0 = 4 → Run X (d + 1) 12 false (pCd 10012) 8 none 89 [(0, .ref v0), (1, .int v1), (2, .int v2), (3, .int v3)] [] h 0 0 (none, q, 0, 0) := by
  intro n
  induction n with
  | zero => intro v0 v1 v2 v3 h q hf; cases hf
  | succ n ih =>
    intro v0 v1 v2 v3 h q hf nv0
    unfold fX12_sweep_89 at hf
    refine r_iload_n (dGet dX12_sweep (j := 55) rfl) rfl ?_
    refine r_aload_n (dGet dX12_sweep (j := 56) rfl) nv0 rfl ?_
    obtain ⟨t47, et47, hf⟩ := Option.bind_eq_some_iff.mp hf
    refine r_getR (dGet dX12_sweep (j := 57) rfl) F12_181 et47 ?_
    refine r_iload_n (dGet dX12_sweep (j := 58) rfl) rfl ?_
    obtain ⟨t48, et48, hf⟩ := Option.bind_eq_some_iff.mp hf
    refine r_iald (dGet dX12_sweep (j := 59) rfl) et48 ?_
    refine r_aload_n (dGet dX12_sweep (j := 60) rfl) nv0 rfl ?_
    obtain ⟨t49, et49, hf⟩ := Option.bind_eq_some_iff.mp hf
    refine r_getR (dGet dX12_sweep (j := 61) rfl) F12_184 et49 ?_
    refine r_iload_n (dGet dX12_sweep (j := 62) rfl) rfl ?_
    obtain ⟨t50, et50, hf⟩ := Option.bind_eq_some_iff.mp hf
    refine r_iald (dGet dX12_sweep (j := 63) rfl) et50 ?_
    refine r_iadd (dGet dX12_sweep (j := 64) rfl) ?_
    by_cases c51 : (t48 + t50) ≤ v3
    · rw [if_pos c51] at hf
      refine r_icmp_ge_t (dGet dX12_sweep (j := 65) rfl) rfl c51 ?_
      refine r_iinc (lv' := [(2, .int (v2 + (1 : Int32))), (0, .ref v0), (1, .int v1), (3, .int v3)]) (dGet dX12_sweep (j := 83) rfl) rfl (by decide) kI_1 rfl ?_
      refine r_goto (dGet dX12_sweep (j := 84) rfl) rfl ?_
      refine Run.weak [(0, .ref v0), (1, .int v1), (2, .int (v2 + (1 : Int32)))] (by simp) (by simp [pNd]) ?_
      exact K58 v0 v1 (v2 + (1 : Int32)) h q hf nv0
    · rw [if_neg c51] at hf
      refine r_icmp_ge_f (dGet dX12_sweep (j := 65) rfl) rfl c51 ?_
      refine r_aload_n (dGet dX12_sweep (j := 66) rfl) nv0 rfl ?_
      obtain ⟨t52, et52, hf⟩ := Option.bind_eq_some_iff.mp hf
      refine r_getR (dGet dX12_sweep (j := 67) rfl) F12_194 et52 ?_
      refine r_iload_n (dGet dX12_sweep (j := 68) rfl) rfl ?_
      obtain ⟨t53, et53, hf⟩ := Option.bind_eq_some_iff.mp hf
      refine r_zald (dGet dX12_sweep (j := 69) rfl) et53 ?_
      by_cases c54 : t53 = 0
      · rw [if_pos c54] at hf
        refine r_if_eq_t (dGet dX12_sweep (j := 70) rfl) rfl c54 ?_
        exact lX12_sweep_131 X N d k58 K58 (fX12_sweep_89 N k58 n) ih v0 v1 v2 v3 h q hf nv0
      · rw [if_neg c54] at hf
        refine r_if_eq_f (dGet dX12_sweep (j := 70) rfl) rfl c54 ?_
        refine r_aload_n (dGet dX12_sweep (j := 71) rfl) nv0 rfl ?_
        obtain ⟨t55, et55, hf⟩ := Option.bind_eq_some_iff.mp hf
        refine r_getR (dGet dX12_sweep (j := 72) rfl) F12_191 et55 ?_
        refine r_iload_n (dGet dX12_sweep (j := 73) rfl) rfl ?_
        refine r_aload_n (dGet dX12_sweep (j := 74) rfl) nv0 rfl ?_
        refine r_aload_n (dGet dX12_sweep (j := 75) rfl) nv0 rfl ?_
        obtain ⟨t56, et56, hf⟩ := Option.bind_eq_some_iff.mp hf
        refine r_getR (dGet dX12_sweep (j := 76) rfl) F12_191 et56 ?_
        refine r_iload_n (dGet dX12_sweep (j := 77) rfl) rfl ?_
        obtain ⟨t57, et57, hf⟩ := Option.bind_eq_some_iff.mp hf
        refine r_iald (dGet dX12_sweep (j := 78) rfl) et57 ?_
        obtain ⟨q58, eq58, hf⟩ := Option.bind_eq_some_iff.mp hf
        refine r_virtual (dGet dX12_sweep (j := 79) rfl) L12_563 M327 rfl rfl (Nat.le_of_ble_eq_true rfl) (oX12_moved eq58) (cX12_moved X N (d + 0) v0 t57 h q58 eq58) ?_
        obtain ⟨h59, eh59, hf⟩ := Option.bind_eq_some_iff.mp hf
        refine r_iast (dGet dX12_sweep (j := 80) rfl) eh59 ?_
        exact lX12_sweep_131 X N d k58 K58 (fX12_sweep_89 N k58 n) ih v0 v1 v2 v3 h59 q hf nv0
def fX12_sweep_58 (N : Nat) : Nat → Nat → Int32 → Int32 → pH → Option (pH)
  | 0, _, _, _, _ => none
  | n + 1, v0, v1, v2, h => (getI h v0 12 93).bind fun t60 =>
  if t60 ≤ v2 then (
  fX12_sweep_145 N N v0 v1 (0 : Int32) h) else (
  (getR h v0 12 94).bind fun t62 =>
  (getR h v0 12 94).bind fun t63 =>
  (ldI h t63 v2).bind fun t64 =>
  (fX12_moved N v0 t64 h).bind fun q65 =>
  (stI q65.2 t62 v2 q65.1).bind fun h66 =>
  (getR h66 v0 12 95).bind fun t67 =>
  (ldI h66 t67 v2).bind fun t68 =>
  fX12_sweep_89 N (fX12_sweep_58 N n) N v0 v1 v2 t68 h66)
theorem lX12_sweep_58 (X : pX) (N d : Nat)  : ∀ (n : Nat) (v0 : Nat) (v1 : Int32) (v2 : Int32) (h : pH) (q : pH), fX12_sweep_58 N n v0 v1 v2 h = some q → ¬ v0 = 4 → Run X (d + 1) 12 false (pCd 10012) 8 none 58 [(0, .ref v0), (1, .int v1), (2, .int v2)] [] h 0 0 (none, q, 0, 0) := by
  intro n
  induction n with
  | zero => intro v0 v1 v2 h q hf; cases hf
  | succ n ih =>
    intro v0 v1 v2 h q hf nv0
    unfold fX12_sweep_58 at hf
    refine r_iload_n (dGet dX12_sweep (j := 36) rfl) rfl ?_
    refine r_aload_n (dGet dX12_sweep (j := 37) rfl) nv0 rfl ?_
    obtain ⟨t60, et60, hf⟩ := Option.bind_eq_some_iff.mp hf
    refine r_getI (dGet dX12_sweep (j := 38) rfl) F12_554 et60 ?_
    by_cases c61 : t60 ≤ v2
    · rw [if_pos c61] at hf
      refine r_icmp_ge_t (dGet dX12_sweep (j := 39) rfl) rfl c61 ?_
      refine r_iconst (dGet dX12_sweep (j := 85) rfl) kI_0 ?_
      refine r_istore_n (lv' := [(2, .int (0 : Int32)), (0, .ref v0), (1, .int v1)]) (dGet dX12_sweep (j := 86) rfl) (by decide) rfl ?_
      refine Run.weak [(0, .ref v0), (1, .int v1), (2, .int (0 : Int32))] (by simp) (by simp [pNd]) ?_
      exact lX12_sweep_145 X N d N v0 v1 (0 : Int32) h q hf nv0
    · rw [if_neg c61] at hf
      refine r_icmp_ge_f (dGet dX12_sweep (j := 39) rfl) rfl c61 ?_
      refine r_aload_n (dGet dX12_sweep (j := 40) rfl) nv0 rfl ?_
      obtain ⟨t62, et62, hf⟩ := Option.bind_eq_some_iff.mp hf
      refine r_getR (dGet dX12_sweep (j := 41) rfl) F12_178 et62 ?_
      refine r_iload_n (dGet dX12_sweep (j := 42) rfl) rfl ?_
      refine r_aload_n (dGet dX12_sweep (j := 43) rfl) nv0 rfl ?_
      refine r_aload_n (dGet dX12_sweep (j := 44) rfl) nv0 rfl ?_
      obtain ⟨t63, et63, hf⟩ := Option.bind_eq_some_iff.mp hf
      refine r_getR (dGet dX12_sweep (j := 45) rfl) F12_178 et63 ?_
      refine r_iload_n (dGet dX12_sweep (j := 46) rfl) rfl ?_
      obtain ⟨t64, et64, hf⟩ := Option.bind_eq_some_iff.mp hf
      refine r_iald (dGet dX12_sweep (j := 47) rfl) et64 ?_
      obtain ⟨q65, eq65, hf⟩ := Option.bind_eq_some_iff.mp hf
      refine r_virtual (dGet dX12_sweep (j := 48) rfl) L12_563 M327 rfl rfl (Nat.le_of_ble_eq_true rfl) (oX12_moved eq65) (cX12_moved X N (d + 0) v0 t64 h q65 eq65) ?_
      obtain ⟨h66, eh66, hf⟩ := Option.bind_eq_some_iff.mp hf
      refine r_iast (dGet dX12_sweep (j := 49) rfl) eh66 ?_
      refine r_aload_n (dGet dX12_sweep (j := 50) rfl) nv0 rfl ?_
      obtain ⟨t67, et67, hf⟩ := Option.bind_eq_some_iff.mp hf
      refine r_getR (dGet dX12_sweep (j := 51) rfl) F12_181 et67 ?_
      refine r_iload_n (dGet dX12_sweep (j := 52) rfl) rfl ?_
      obtain ⟨t68, et68, hf⟩ := Option.bind_eq_some_iff.mp hf
      refine r_iald (dGet dX12_sweep (j := 53) rfl) et68 ?_
      refine r_istore_n (lv' := [(3, .int t68), (0, .ref v0), (1, .int v1), (2, .int v2)]) (dGet dX12_sweep (j := 54) rfl) (by decide) rfl ?_
      refine Run.weak [(0, .ref v0), (1, .int v1), (2, .int v2), (3, .int t68)] (by simp) (by simp [pNd]) ?_
      exact lX12_sweep_89 X N d (fX12_sweep_58 N n) ih N v0 v1 v2 t68 h66 q hf nv0
def fX12_sweep_48 (N : Nat) (k4 : Nat → Int32 → Int32 → pH → Option (pH)) (v0 : Nat) (v2 : Int32) (s0 : Int32) (s1 : Int32) (h : pH) : Option (pH) :=
  k4 v0 (s0 + s1) (v2 + (1 : Int32)) h
theorem lX12_sweep_48 (X : pX) (N d : Nat)  (k4 : Nat → Int32 → Int32 → pH → Option (pH)) (K4 : ∀ (w0 : Nat) (w1 : Int32) (w2 : Int32) (h : pH) (q : pH), k4 w0 w1 w2 h = some q → ¬ w0 = 4 → Run X (d + 1) 12 false (pCd 10012) 8 none 4 [(0, .ref w0), (1, .int w1), (2, .int w2)] [] h 0 0 (none, q, 0, 0)) (v0 : Nat) (v2 : Int32) (s0 : Int32) (s1 : Int32) (h : pH) (q : pH) (hf : fX12_sweep_48 N k4 v0 v2 s0 s1 h = some q) (nv0 : ¬ v0 = 4) : Run X (d + 1) 12 false (pCd 10012) 8 none 48 [(0, .ref v0), (2, .int v2)] [.int s1, .int s0] h 0 0 (none, q, 0, 0) := by
  unfold fX12_sweep_48 at hf
  refine r_iadd (dGet dX12_sweep (j := 30) rfl) ?_
  refine r_istore_n (lv' := [(1, .int (s0 + s1)), (0, .ref v0), (2, .int v2)]) (dGet dX12_sweep (j := 31) rfl) (by decide) rfl ?_
  refine r_iinc (lv' := [(2, .int (v2 + (1 : Int32))), (1, .int (s0 + s1)), (0, .ref v0)]) (dGet dX12_sweep (j := 32) rfl) rfl (by decide) kI_1 rfl ?_
  refine r_goto (dGet dX12_sweep (j := 33) rfl) rfl ?_
  refine Run.weak [(0, .ref v0), (1, .int (s0 + s1)), (2, .int (v2 + (1 : Int32)))] (by simp) (by simp [pNd]) ?_
  exact K4 v0 (s0 + s1) (v2 + (1 : Int32)) h q hf nv0
def fX12_sweep_47 (N : Nat) (k4 : Nat → Int32 → Int32 → pH → Option (pH)) (v0 : Nat) (v2 : Int32) (s0 : Int32) (h : pH) : Option (pH) :=
  fX12_sweep_48 N k4 v0 v2 s0 (0 : Int32) h
theorem lX12_sweep_47 (X : pX) (N d : Nat)  (k4 : Nat → Int32 → Int32 → pH → Option (pH)) (K4 : ∀ (w0 : Nat) (w1 : Int32) (w2 : Int32) (h : pH) (q : pH), k4 w0 w1 w2 h = some q → ¬ w0 = 4 → Run X (d + 1) 12 false (pCd 10012) 8 none 4 [(0, .ref w0), (1, .int w1), (2, .int w2)] [] h 0 0 (none, q, 0, 0)) (v0 : Nat) (v2 : Int32) (s0 : Int32) (h : pH) (q : pH) (hf : fX12_sweep_47 N k4 v0 v2 s0 h = some q) (nv0 : ¬ v0 = 4) : Run X (d + 1) 12 false (pCd 10012) 8 none 47 [(0, .ref v0), (2, .int v2)] [.int s0] h 0 0 (none, q, 0, 0) := by
  unfold fX12_sweep_47 at hf
  refine r_iconst (dGet dX12_sweep (j := 29) rfl) kI_0 ?_
  exact lX12_sweep_48 X N d k4 K4 v0 v2 s0 (0 : Int32) h q hf nv0
def fX12_sweep_27 (N : Nat) (k4 : Nat → Int32 → Int32 → pH → Option (pH)) (v0 : Nat) (v1 : Int32) (v2 : Int32) (s0 : Nat) (s1 : Int32) (s2 : Int32) (h : pH) : Option (pH) :=
  (stI h s0 s1 s2).bind fun h69 =>
  if v2 < (5 : Int32) then (
  fX12_sweep_47 N k4 v0 v2 v1 h69) else (
  (getR h69 v0 12 86).bind fun t71 =>
  (ldZ h69 t71 v2).bind fun t72 =>
  if t72 = 0 then (
  fX12_sweep_47 N k4 v0 v2 v1 h69) else (
  fX12_sweep_48 N k4 v0 v2 v1 (1 : Int32) h69))
theorem lX12_sweep_27 (X : pX) (N d : Nat)  (k4 : Nat → Int32 → Int32 → pH → Option (pH)) (K4 : ∀ (w0 : Nat) (w1 : Int32) (w2 : Int32) (h : pH) (q : pH), k4 w0 w1 w2 h = some q → ¬ w0 = 4 → Run X (d + 1) 12 false (pCd 10012) 8 none 4 [(0, .ref w0), (1, .int w1), (2, .int w2)] [] h 0 0 (none, q, 0, 0)) (v0 : Nat) (v1 : Int32) (v2 : Int32) (s0 : Nat) (s1 : Int32) (s2 : Int32) (h : pH) (q : pH) (hf : fX12_sweep_27 N k4 v0 v1 v2 s0 s1 s2 h = some q) (nv0 : ¬ v0 = 4) (ns0 : ¬ s0 = 4) : Run X (d + 1) 12 false (pCd 10012) 8 none 27 [(0, .ref v0), (1, .int v1), (2, .int v2)] [.int s2, .int s1, .ref s0] h 0 0 (none, q, 0, 0) := by
  unfold fX12_sweep_27 at hf
  obtain ⟨h69, eh69, hf⟩ := Option.bind_eq_some_iff.mp hf
  refine r_iast (dGet dX12_sweep (j := 17) rfl) eh69 ?_
  refine r_iload_n (dGet dX12_sweep (j := 18) rfl) rfl ?_
  refine r_iload_n (dGet dX12_sweep (j := 19) rfl) rfl ?_
  refine r_iconst (dGet dX12_sweep (j := 20) rfl) kI_5 ?_
  by_cases c70 : v2 < (5 : Int32)
  · rw [if_pos c70] at hf
    refine r_icmp_lt_t (dGet dX12_sweep (j := 21) rfl) rfl c70 ?_
    refine Run.weak [(0, .ref v0), (2, .int v2)] (by simp) (by simp [pNd]) ?_
    exact lX12_sweep_47 X N d k4 K4 v0 v2 v1 h69 q hf nv0
  · rw [if_neg c70] at hf
    refine r_icmp_lt_f (dGet dX12_sweep (j := 21) rfl) rfl c70 ?_
    refine r_aload_n (dGet dX12_sweep (j := 22) rfl) nv0 rfl ?_
    obtain ⟨t71, et71, hf⟩ := Option.bind_eq_some_iff.mp hf
    refine r_getR (dGet dX12_sweep (j := 23) rfl) F12_163 et71 ?_
    refine r_iload_n (dGet dX12_sweep (j := 24) rfl) rfl ?_
    obtain ⟨t72, et72, hf⟩ := Option.bind_eq_some_iff.mp hf
    refine r_zald (dGet dX12_sweep (j := 25) rfl) et72 ?_
    by_cases c73 : t72 = 0
    · rw [if_pos c73] at hf
      refine r_if_eq_t (dGet dX12_sweep (j := 26) rfl) rfl c73 ?_
      refine Run.weak [(0, .ref v0), (2, .int v2)] (by simp) (by simp [pNd]) ?_
      exact lX12_sweep_47 X N d k4 K4 v0 v2 v1 h69 q hf nv0
    · rw [if_neg c73] at hf
      refine r_if_eq_f (dGet dX12_sweep (j := 26) rfl) rfl c73 ?_
      refine r_iconst (dGet dX12_sweep (j := 27) rfl) kI_1 ?_
      refine r_goto (dGet dX12_sweep (j := 28) rfl) rfl ?_
      refine Run.weak [(0, .ref v0), (2, .int v2)] (by simp) (by simp [pNd]) ?_
      exact lX12_sweep_48 X N d k4 K4 v0 v2 v1 (1 : Int32) h69 q hf nv0
def fX12_sweep_4 (N : Nat) : Nat → Nat → Int32 → Int32 → pH → Option (pH)
  | 0, _, _, _, _ => none
  | n + 1, v0, v1, v2, h => (getI h v0 12 82).bind fun t74 =>
  if t74 ≤ v2 then (
  fX12_sweep_58 N N v0 v1 (0 : Int32) h) else (
  (getR h v0 12 87).bind fun t76 =>
  if (5 : Int32) ≤ v2 then (
  if t76 = 4 then none else
  fX12_sweep_27 N (fX12_sweep_4 N n) v0 v1 v2 t76 v2 v1 h) else (
  if t76 = 4 then none else
  fX12_sweep_27 N (fX12_sweep_4 N n) v0 v1 v2 t76 v2 v2 h))
theorem lX12_sweep_4 (X : pX) (N d : Nat)  : ∀ (n : Nat) (v0 : Nat) (v1 : Int32) (v2 : Int32) (h : pH) (q : pH), fX12_sweep_4 N n v0 v1 v2 h = some q → ¬ v0 = 4 → Run X (d + 1) 12 false (pCd 10012) 8 none 4 [(0, .ref v0), (1, .int v1), (2, .int v2)] [] h 0 0 (none, q, 0, 0) := by
  intro n
  induction n with
  | zero => intro v0 v1 v2 h q hf; cases hf
  | succ n ih =>
    intro v0 v1 v2 h q hf nv0
    unfold fX12_sweep_4 at hf
    refine r_iload_n (dGet dX12_sweep (j := 4) rfl) rfl ?_
    refine r_aload_n (dGet dX12_sweep (j := 5) rfl) nv0 rfl ?_
    obtain ⟨t74, et74, hf⟩ := Option.bind_eq_some_iff.mp hf
    refine r_getI (dGet dX12_sweep (j := 6) rfl) F12_551 et74 ?_
    by_cases c75 : t74 ≤ v2
    · rw [if_pos c75] at hf
      refine r_icmp_ge_t (dGet dX12_sweep (j := 7) rfl) rfl c75 ?_
      refine r_iconst (dGet dX12_sweep (j := 34) rfl) kI_0 ?_
      refine r_istore_n (lv' := [(2, .int (0 : Int32)), (0, .ref v0), (1, .int v1)]) (dGet dX12_sweep (j := 35) rfl) (by decide) rfl ?_
      refine Run.weak [(0, .ref v0), (1, .int v1), (2, .int (0 : Int32))] (by simp) (by simp [pNd]) ?_
      exact lX12_sweep_58 X N d N v0 v1 (0 : Int32) h q hf nv0
    · rw [if_neg c75] at hf
      refine r_icmp_ge_f (dGet dX12_sweep (j := 7) rfl) rfl c75 ?_
      refine r_aload_n (dGet dX12_sweep (j := 8) rfl) nv0 rfl ?_
      obtain ⟨t76, et76, hf⟩ := Option.bind_eq_some_iff.mp hf
      refine r_getR (dGet dX12_sweep (j := 9) rfl) F12_166 et76 ?_
      refine r_iload_n (dGet dX12_sweep (j := 10) rfl) rfl ?_
      refine r_iload_n (dGet dX12_sweep (j := 11) rfl) rfl ?_
      refine r_iconst (dGet dX12_sweep (j := 12) rfl) kI_5 ?_
      by_cases c77 : (5 : Int32) ≤ v2
      · rw [if_pos c77] at hf
        refine r_icmp_ge_t (dGet dX12_sweep (j := 13) rfl) rfl c77 ?_
        refine r_iload_n (dGet dX12_sweep (j := 16) rfl) rfl ?_
        by_cases nt76 : t76 = 4
        · rw [if_pos nt76] at hf; cases hf
        rw [if_neg nt76] at hf
        exact lX12_sweep_27 X N d (fX12_sweep_4 N n) ih v0 v1 v2 t76 v2 v1 h q hf nv0 nt76
      · rw [if_neg c77] at hf
        refine r_icmp_ge_f (dGet dX12_sweep (j := 13) rfl) rfl c77 ?_
        refine r_iload_n (dGet dX12_sweep (j := 14) rfl) rfl ?_
        refine r_goto (dGet dX12_sweep (j := 15) rfl) rfl ?_
        by_cases nt76 : t76 = 4
        · rw [if_pos nt76] at hf; cases hf
        rw [if_neg nt76] at hf
        exact lX12_sweep_27 X N d (fX12_sweep_4 N n) ih v0 v1 v2 t76 v2 v2 h q hf nv0 nt76
def fX12_sweep (N : Nat) (v0 : Nat) (h : pH) : Option (pH) := if isO h v0 12 = true then (
  fX12_sweep_4 N N v0 (5 : Int32) (0 : Int32) h) else none
theorem oX12_sweep {N : Nat} {v0 : Nat} {h : pH} {q : pH} (hf : fX12_sweep N v0 h = some q) : isO h v0 12 = true := by
  unfold fX12_sweep at hf
  by_cases hc : isO h v0 12 = true
  · exact hc
  · rw [if_neg hc] at hf; cases hf
theorem cX12_sweep (X : pX) (N d : Nat) (v0 : Nat) (h : pH) (q : pH) (hf : fX12_sweep N v0 h = some q) : Calls X (d + 1) 326 [.ref v0] h (none, q, 0, 0) := by
  refine Calls.of M326 (Nat.le_of_ble_eq_true rfl) ?_
  show Run X (d + 1) 12 false (pCd 10012) 8 none 0 [(0, .ref v0)] [] h 0 0 (none, q, 0, 0)
  unfold fX12_sweep at hf
  by_cases hc : isO h v0 12 = true
  · rw [if_pos hc] at hf
    have nv0 : ¬ v0 = 4 := isO_ne hc
    refine r_iconst (dGet dX12_sweep (j := 0) rfl) kI_5 ?_
    refine r_istore_n (lv' := [(1, .int (5 : Int32)), (0, .ref v0)]) (dGet dX12_sweep (j := 1) rfl) (by decide) rfl ?_
    refine r_iconst (dGet dX12_sweep (j := 2) rfl) kI_0 ?_
    refine r_istore_n (lv' := [(2, .int (0 : Int32)), (1, .int (5 : Int32)), (0, .ref v0)]) (dGet dX12_sweep (j := 3) rfl) (by decide) rfl ?_
    refine Run.weak [(0, .ref v0), (1, .int (5 : Int32)), (2, .int (0 : Int32))] (by simp) (by simp [pNd]) ?_
    exact lX12_sweep_4 X N d N v0 (5 : Int32) (0 : Int32) h q hf nv0
  · rw [if_neg hc] at hf; cases hf
def eX12_hasRoom : List (Nat × Instr × Nat) := [(0, .iload_n 1, 1), (1, .aload_n 0, 1), (2, .getfield 569, 3), (5, .aload_n 0, 1), (6, .getfield 572, 3), (9, .isub, 1), (10, .if_icmp .gt 5, 3), (13, .iconst 1, 1), (14, .ireturn, 1), (15, .aload_n 0, 1), (16, .aload_n 0, 1), (17, .invokevirtual 575, 3), (20, .putfield 572, 3), (23, .aload_n 0, 1), (24, .invokevirtual 578, 3), (27, .iload_n 1, 1), (28, .aload_n 0, 1), (29, .getfield 569, 3), (32, .aload_n 0, 1), (33, .getfield 572, 3), (36, .isub, 1), (37, .if_icmp .gt 7, 3), (40, .iconst 1, 1), (41, .goto 4, 3), (44, .iconst 0, 1), (45, .ireturn, 1)]
theorem dX12_hasRoom : dChk (pCd 10000) eX12_hasRoom = true := by decide +kernel
def fX12_hasRoom (N : Nat) (v0 : Nat) (v1 : Int32) (h : pH) : Option (Int32 × pH) := if isO h v0 12 = true then (
  (getI h v0 12 72).bind fun t1 =>
  (getI h v0 12 73).bind fun t2 =>
  if (t1 - t2) < v1 then (
  (fX12_marked N v0 h).bind fun q4 =>
  (putI q4.2 v0 12 73 q4.1).bind fun h5 =>
  (fX12_sweep N v0 h5).bind fun h6 =>
  (getI h6 v0 12 72).bind fun t7 =>
  (getI h6 v0 12 73).bind fun t8 =>
  if (t7 - t8) < v1 then (
  some ((0 : Int32), h6)) else (
  some ((1 : Int32), h6))) else (
  some ((1 : Int32), h))) else none
theorem oX12_hasRoom {N : Nat} {v0 : Nat} {v1 : Int32} {h : pH} {q : Int32 × pH} (hf : fX12_hasRoom N v0 v1 h = some q) : isO h v0 12 = true := by
  unfold fX12_hasRoom at hf
  by_cases hc : isO h v0 12 = true
  · exact hc
  · rw [if_neg hc] at hf; cases hf
theorem cX12_hasRoom (X : pX) (N d : Nat) (v0 : Nat) (v1 : Int32) (h : pH) (q : Int32 × pH) (hf : fX12_hasRoom N v0 v1 h = some q) : Calls X (d + 2) 323 [.ref v0, .int v1] h (some (.int q.1), q.2, 0, 0) := by
  refine Calls.of M323 (Nat.le_of_ble_eq_true rfl) ?_
  show Run X (d + 2) 12 false (pCd 10000) 2 (some .boolean) 0 [(0, .ref v0), (1, .int v1)] [] h 0 0 (some (.int q.1), q.2, 0, 0)
  unfold fX12_hasRoom at hf
  by_cases hc : isO h v0 12 = true
  · rw [if_pos hc] at hf
    have nv0 : ¬ v0 = 4 := isO_ne hc
    refine r_iload_n (dGet dX12_hasRoom (j := 0) rfl) rfl ?_
    refine r_aload_n (dGet dX12_hasRoom (j := 1) rfl) nv0 rfl ?_
    obtain ⟨t1, et1, hf⟩ := Option.bind_eq_some_iff.mp hf
    refine r_getI (dGet dX12_hasRoom (j := 2) rfl) F12_569 et1 ?_
    refine r_aload_n (dGet dX12_hasRoom (j := 3) rfl) nv0 rfl ?_
    obtain ⟨t2, et2, hf⟩ := Option.bind_eq_some_iff.mp hf
    refine r_getI (dGet dX12_hasRoom (j := 4) rfl) F12_572 et2 ?_
    refine r_isub (dGet dX12_hasRoom (j := 5) rfl) ?_
    by_cases c3 : (t1 - t2) < v1
    · rw [if_pos c3] at hf
      refine r_icmp_gt_t (dGet dX12_hasRoom (j := 6) rfl) rfl c3 ?_
      refine r_aload_n (dGet dX12_hasRoom (j := 9) rfl) nv0 rfl ?_
      refine r_aload_n (dGet dX12_hasRoom (j := 10) rfl) nv0 rfl ?_
      obtain ⟨q4, eq4, hf⟩ := Option.bind_eq_some_iff.mp hf
      refine r_virtual (dGet dX12_hasRoom (j := 11) rfl) L12_575 M324 rfl rfl (Nat.le_of_ble_eq_true rfl) (oX12_marked eq4) (cX12_marked X N (d + 0) v0 h q4 eq4) ?_
      obtain ⟨h5, eh5, hf⟩ := Option.bind_eq_some_iff.mp hf
      refine r_putI (dGet dX12_hasRoom (j := 12) rfl) F12_572 rfl rfl eh5 ?_
      refine r_aload_n (dGet dX12_hasRoom (j := 13) rfl) nv0 rfl ?_
      obtain ⟨h6, eh6, hf⟩ := Option.bind_eq_some_iff.mp hf
      refine r_virtual (dGet dX12_hasRoom (j := 14) rfl) L12_578 M326 rfl rfl (Nat.le_of_ble_eq_true rfl) (oX12_sweep eh6) (cX12_sweep X N (d + 0) v0 h5 h6 eh6) ?_
      refine r_iload_n (dGet dX12_hasRoom (j := 15) rfl) rfl ?_
      refine r_aload_n (dGet dX12_hasRoom (j := 16) rfl) nv0 rfl ?_
      obtain ⟨t7, et7, hf⟩ := Option.bind_eq_some_iff.mp hf
      refine r_getI (dGet dX12_hasRoom (j := 17) rfl) F12_569 et7 ?_
      refine r_aload_n (dGet dX12_hasRoom (j := 18) rfl) nv0 rfl ?_
      obtain ⟨t8, et8, hf⟩ := Option.bind_eq_some_iff.mp hf
      refine r_getI (dGet dX12_hasRoom (j := 19) rfl) F12_572 et8 ?_
      refine r_isub (dGet dX12_hasRoom (j := 20) rfl) ?_
      by_cases c9 : (t7 - t8) < v1
      · rw [if_pos c9] at hf
        refine r_icmp_gt_t (dGet dX12_hasRoom (j := 21) rfl) rfl c9 ?_
        refine r_iconst (dGet dX12_hasRoom (j := 24) rfl) kI_0 ?_
        have hq := Option.some.inj hf
        subst hq
        exact r_iret (dGet dX12_hasRoom (j := 25) rfl) rfl (by decide)
      · rw [if_neg c9] at hf
        refine r_icmp_gt_f (dGet dX12_hasRoom (j := 21) rfl) rfl c9 ?_
        refine r_iconst (dGet dX12_hasRoom (j := 22) rfl) kI_1 ?_
        refine r_goto (dGet dX12_hasRoom (j := 23) rfl) rfl ?_
        have hq := Option.some.inj hf
        subst hq
        exact r_iret (dGet dX12_hasRoom (j := 25) rfl) rfl (by decide)
    · rw [if_neg c3] at hf
      refine r_icmp_gt_f (dGet dX12_hasRoom (j := 6) rfl) rfl c3 ?_
      refine r_iconst (dGet dX12_hasRoom (j := 7) rfl) kI_1 ?_
      have hq := Option.some.inj hf
      subst hq
      exact r_iret (dGet dX12_hasRoom (j := 8) rfl) rfl (by decide)
  · rw [if_neg hc] at hf; cases hf
def eX12_heap : List (Nat × Instr × Nat) := [(0, .iload_n 1, 1), (1, .i2l, 1), (2, .ldc2_w 680, 3), (5, .ldc2_w 682, 3), (8, .invokestatic 228, 3), (11, .ifCond .ne 5, 3), (14, .iconst (-1), 1), (15, .ireturn, 1), (16, .aload_n 0, 1), (17, .iload_n 1, 1), (18, .putfield 144, 3), (21, .iconst 1, 1), (22, .ireturn, 1)]
theorem dX12_heap : dChk (pCd 9168) eX12_heap = true := by decide +kernel
def fX12_heap (N : Nat) (v0 : Nat) (v1 : Int32) (h : pH) : Option (Int32 × pH) := if isO h v0 12 = true then (
  (fX12_isIn N (v1.toInt64) (10 : Int64) (10000 : Int64) h).bind fun q1 =>
  if q1.1 = 0 then (
  some ((-1 : Int32), q1.2)) else (
  (putI q1.2 v0 12 71 v1).bind fun h3 =>
  some ((1 : Int32), h3))) else none
theorem oX12_heap {N : Nat} {v0 : Nat} {v1 : Int32} {h : pH} {q : Int32 × pH} (hf : fX12_heap N v0 v1 h = some q) : isO h v0 12 = true := by
  unfold fX12_heap at hf
  by_cases hc : isO h v0 12 = true
  · exact hc
  · rw [if_neg hc] at hf; cases hf
theorem cX12_heap (X : pX) (N d : Nat) (v0 : Nat) (v1 : Int32) (h : pH) (q : Int32 × pH) (hf : fX12_heap N v0 v1 h = some q) : Calls X (d + 1) 306 [.ref v0, .int v1] h (some (.int q.1), q.2, 0, 0) := by
  refine Calls.of M306 (Nat.le_of_ble_eq_true rfl) ?_
  show Run X (d + 1) 12 false (pCd 9168) 2 (some .int) 0 [(0, .ref v0), (1, .int v1)] [] h 0 0 (some (.int q.1), q.2, 0, 0)
  unfold fX12_heap at hf
  by_cases hc : isO h v0 12 = true
  · rw [if_pos hc] at hf
    have nv0 : ¬ v0 = 4 := isO_ne hc
    refine r_iload_n (dGet dX12_heap (j := 0) rfl) rfl ?_
    refine r_i2l (dGet dX12_heap (j := 1) rfl) ?_
    refine r_ldc2 (v := 10) (dGet dX12_heap (j := 2) rfl) (by decide +kernel : pFind pKl 12 680 = some (10, 9169)) ?_
    refine r_ldc2 (v := 10000) (dGet dX12_heap (j := 3) rfl) (by decide +kernel : pFind pKl 12 682 = some (10000, 9170)) ?_
    obtain ⟨q1, eq1, hf⟩ := Option.bind_eq_some_iff.mp hf
    refine r_static (dGet dX12_heap (j := 4) rfl) (by decide +kernel) (by decide +kernel) L12_228 M236 rfl rfl (Nat.le_of_ble_eq_true rfl) (cX12_isIn X N (d + 0) (v1.toInt64) (10 : Int64) (10000 : Int64) h q1 eq1) ?_
    by_cases c2 : q1.1 = 0
    · rw [if_pos c2] at hf
      refine r_if_ne_f (dGet dX12_heap (j := 5) rfl) rfl c2 ?_
      refine r_iconst (dGet dX12_heap (j := 6) rfl) kI_m1 ?_
      have hq := Option.some.inj hf
      subst hq
      exact r_iret (dGet dX12_heap (j := 7) rfl) rfl rfl
    · rw [if_neg c2] at hf
      refine r_if_ne_t (dGet dX12_heap (j := 5) rfl) rfl c2 ?_
      refine r_aload_n (dGet dX12_heap (j := 8) rfl) nv0 rfl ?_
      refine r_iload_n (dGet dX12_heap (j := 9) rfl) rfl ?_
      obtain ⟨h3, eh3, hf⟩ := Option.bind_eq_some_iff.mp hf
      refine r_putI (dGet dX12_heap (j := 10) rfl) F12_144 rfl rfl eh3 ?_
      refine r_iconst (dGet dX12_heap (j := 11) rfl) kI_1 ?_
      have hq := Option.some.inj hf
      subst hq
      exact r_iret (dGet dX12_heap (j := 12) rfl) rfl rfl
  · rw [if_neg hc] at hf; cases hf
def eX12_input : List (Nat × Instr × Nat) := [(0, .aload_n 0, 1), (1, .getfield 635, 3), (4, .iconst 3, 1), (5, .iadd, 1), (6, .sipush 300, 3), (9, .if_icmp .le 5, 3), (12, .iconst (-1), 1), (13, .ireturn, 1), (14, .aload_n 0, 1), (15, .getfield 151, 3), (18, .aload_n 0, 1), (19, .getfield 635, 3), (22, .iload_n 1, 1), (23, .iastore, 1), (24, .aload_n 0, 1), (25, .getfield 151, 3), (28, .aload_n 0, 1), (29, .getfield 635, 3), (32, .iconst 1, 1), (33, .iadd, 1), (34, .iload_n 2, 1), (35, .iastore, 1), (36, .aload_n 0, 1), (37, .getfield 151, 3), (40, .aload_n 0, 1), (41, .getfield 635, 3), (44, .iconst 2, 1), (45, .iadd, 1), (46, .iload_n 3, 1), (47, .iastore, 1), (48, .aload_n 0, 1), (49, .dup, 1), (50, .getfield 635, 3), (53, .iconst 3, 1), (54, .iadd, 1), (55, .putfield 635, 3), (58, .aload_n 0, 1), (59, .getfield 635, 3), (62, .ireturn, 1)]
theorem dX12_input : dChk (pCd 9174) eX12_input = true := by decide +kernel
def fX12_input (N : Nat) (v0 : Nat) (v1 : Int32) (v2 : Int32) (v3 : Int32) (h : pH) : Option (Int32 × pH) := if isO h v0 12 = true then (
  (getI h v0 12 80).bind fun t1 =>
  if (t1 + (3 : Int32)) ≤ (300 : Int32) then (
  (getR h v0 12 81).bind fun t3 =>
  (getI h v0 12 80).bind fun t4 =>
  (stI h t3 t4 v1).bind fun h5 =>
  (getR h5 v0 12 81).bind fun t6 =>
  (getI h5 v0 12 80).bind fun t7 =>
  (stI h5 t6 (t7 + (1 : Int32)) v2).bind fun h8 =>
  (getR h8 v0 12 81).bind fun t9 =>
  (getI h8 v0 12 80).bind fun t10 =>
  (stI h8 t9 (t10 + (2 : Int32)) v3).bind fun h11 =>
  (getI h11 v0 12 80).bind fun t12 =>
  (putI h11 v0 12 80 (t12 + (3 : Int32))).bind fun h13 =>
  (getI h13 v0 12 80).bind fun t14 =>
  some (t14, h13)) else (
  some ((-1 : Int32), h))) else none
theorem oX12_input {N : Nat} {v0 : Nat} {v1 : Int32} {v2 : Int32} {v3 : Int32} {h : pH} {q : Int32 × pH} (hf : fX12_input N v0 v1 v2 v3 h = some q) : isO h v0 12 = true := by
  unfold fX12_input at hf
  by_cases hc : isO h v0 12 = true
  · exact hc
  · rw [if_neg hc] at hf; cases hf
theorem cX12_input (X : pX) (N d : Nat) (v0 : Nat) (v1 : Int32) (v2 : Int32) (v3 : Int32) (h : pH) (q : Int32 × pH) (hf : fX12_input N v0 v1 v2 v3 h = some q) : Calls X (d + 0) 307 [.ref v0, .int v1, .int v2, .int v3] h (some (.int q.1), q.2, 0, 0) := by
  refine Calls.of M307 (Nat.le_of_ble_eq_true rfl) ?_
  show Run X (d + 0) 12 false (pCd 9174) 4 (some .int) 0 [(0, .ref v0), (1, .int v1), (2, .int v2), (3, .int v3)] [] h 0 0 (some (.int q.1), q.2, 0, 0)
  unfold fX12_input at hf
  by_cases hc : isO h v0 12 = true
  · rw [if_pos hc] at hf
    have nv0 : ¬ v0 = 4 := isO_ne hc
    refine r_aload_n (dGet dX12_input (j := 0) rfl) nv0 rfl ?_
    obtain ⟨t1, et1, hf⟩ := Option.bind_eq_some_iff.mp hf
    refine r_getI (dGet dX12_input (j := 1) rfl) F12_635 et1 ?_
    refine r_iconst (dGet dX12_input (j := 2) rfl) kI_3 ?_
    refine r_iadd (dGet dX12_input (j := 3) rfl) ?_
    refine r_sipush (dGet dX12_input (j := 4) rfl) kS_300 ?_
    by_cases c2 : (t1 + (3 : Int32)) ≤ (300 : Int32)
    · rw [if_pos c2] at hf
      refine r_icmp_le_t (dGet dX12_input (j := 5) rfl) rfl c2 ?_
      refine r_aload_n (dGet dX12_input (j := 8) rfl) nv0 rfl ?_
      obtain ⟨t3, et3, hf⟩ := Option.bind_eq_some_iff.mp hf
      refine r_getR (dGet dX12_input (j := 9) rfl) F12_151 et3 ?_
      refine r_aload_n (dGet dX12_input (j := 10) rfl) nv0 rfl ?_
      obtain ⟨t4, et4, hf⟩ := Option.bind_eq_some_iff.mp hf
      refine r_getI (dGet dX12_input (j := 11) rfl) F12_635 et4 ?_
      refine r_iload_n (dGet dX12_input (j := 12) rfl) rfl ?_
      obtain ⟨h5, eh5, hf⟩ := Option.bind_eq_some_iff.mp hf
      refine r_iast (dGet dX12_input (j := 13) rfl) eh5 ?_
      refine r_aload_n (dGet dX12_input (j := 14) rfl) nv0 rfl ?_
      obtain ⟨t6, et6, hf⟩ := Option.bind_eq_some_iff.mp hf
      refine r_getR (dGet dX12_input (j := 15) rfl) F12_151 et6 ?_
      refine r_aload_n (dGet dX12_input (j := 16) rfl) nv0 rfl ?_
      obtain ⟨t7, et7, hf⟩ := Option.bind_eq_some_iff.mp hf
      refine r_getI (dGet dX12_input (j := 17) rfl) F12_635 et7 ?_
      refine r_iconst (dGet dX12_input (j := 18) rfl) kI_1 ?_
      refine r_iadd (dGet dX12_input (j := 19) rfl) ?_
      refine r_iload_n (dGet dX12_input (j := 20) rfl) rfl ?_
      obtain ⟨h8, eh8, hf⟩ := Option.bind_eq_some_iff.mp hf
      refine r_iast (dGet dX12_input (j := 21) rfl) eh8 ?_
      refine r_aload_n (dGet dX12_input (j := 22) rfl) nv0 rfl ?_
      obtain ⟨t9, et9, hf⟩ := Option.bind_eq_some_iff.mp hf
      refine r_getR (dGet dX12_input (j := 23) rfl) F12_151 et9 ?_
      refine r_aload_n (dGet dX12_input (j := 24) rfl) nv0 rfl ?_
      obtain ⟨t10, et10, hf⟩ := Option.bind_eq_some_iff.mp hf
      refine r_getI (dGet dX12_input (j := 25) rfl) F12_635 et10 ?_
      refine r_iconst (dGet dX12_input (j := 26) rfl) kI_2 ?_
      refine r_iadd (dGet dX12_input (j := 27) rfl) ?_
      refine r_iload_n (dGet dX12_input (j := 28) rfl) rfl ?_
      obtain ⟨h11, eh11, hf⟩ := Option.bind_eq_some_iff.mp hf
      refine r_iast (dGet dX12_input (j := 29) rfl) eh11 ?_
      refine r_aload_n (dGet dX12_input (j := 30) rfl) nv0 rfl ?_
      refine r_dup (dGet dX12_input (j := 31) rfl) rfl ?_
      obtain ⟨t12, et12, hf⟩ := Option.bind_eq_some_iff.mp hf
      refine r_getI (dGet dX12_input (j := 32) rfl) F12_635 et12 ?_
      refine r_iconst (dGet dX12_input (j := 33) rfl) kI_3 ?_
      refine r_iadd (dGet dX12_input (j := 34) rfl) ?_
      obtain ⟨h13, eh13, hf⟩ := Option.bind_eq_some_iff.mp hf
      refine r_putI (dGet dX12_input (j := 35) rfl) F12_635 rfl rfl eh13 ?_
      refine r_aload_n (dGet dX12_input (j := 36) rfl) nv0 rfl ?_
      obtain ⟨t14, et14, hf⟩ := Option.bind_eq_some_iff.mp hf
      refine r_getI (dGet dX12_input (j := 37) rfl) F12_635 et14 ?_
      have hq := Option.some.inj hf
      subst hq
      exact r_iret (dGet dX12_input (j := 38) rfl) rfl rfl
    · rw [if_neg c2] at hf
      refine r_icmp_le_f (dGet dX12_input (j := 5) rfl) rfl c2 ?_
      refine r_iconst (dGet dX12_input (j := 6) rfl) kI_m1 ?_
      have hq := Option.some.inj hf
      subst hq
      exact r_iret (dGet dX12_input (j := 7) rfl) rfl rfl
  · rw [if_neg hc] at hf; cases hf
def eX12_isLeaf : List (Nat × Instr × Nat) := [(0, .aload_n 0, 1), (1, .getfield 25, 3), (4, .iload_n 1, 1), (5, .iaload, 1), (6, .iconst 5, 1), (7, .if_icmp .le 36, 3), (10, .aload_n 0, 1), (11, .getfield 25, 3), (14, .iload_n 1, 1), (15, .iaload, 1), (16, .bipush 19, 2), (18, .if_icmp .eq 25, 3), (21, .aload_n 0, 1), (22, .getfield 25, 3), (25, .iload_n 1, 1), (26, .iaload, 1), (27, .bipush 20, 2), (29, .if_icmp .eq 14, 3), (32, .aload_n 0, 1), (33, .getfield 25, 3), (36, .iload_n 1, 1), (37, .iaload, 1), (38, .bipush 21, 2), (40, .if_icmp .ne 7, 3), (43, .iconst 1, 1), (44, .goto 4, 3), (47, .iconst 0, 1), (48, .ireturn, 1)]
theorem dX12_isLeaf : dChk (pCd 9207) eX12_isLeaf = true := by decide +kernel
def fX12_isLeaf (N : Nat) (v0 : Nat) (v1 : Int32) (h : pH) : Option (Int32 × pH) := if isO h v0 12 = true then (
  (getR h v0 12 16).bind fun t1 =>
  (ldI h t1 v1).bind fun t2 =>
  if t2 ≤ (5 : Int32) then (
  some ((1 : Int32), h)) else (
  (getR h v0 12 16).bind fun t4 =>
  (ldI h t4 v1).bind fun t5 =>
  if t5 = (19 : Int32) then (
  some ((1 : Int32), h)) else (
  (getR h v0 12 16).bind fun t7 =>
  (ldI h t7 v1).bind fun t8 =>
  if t8 = (20 : Int32) then (
  some ((1 : Int32), h)) else (
  (getR h v0 12 16).bind fun t10 =>
  (ldI h t10 v1).bind fun t11 =>
  if t11 = (21 : Int32) then (
  some ((1 : Int32), h)) else (
  some ((0 : Int32), h)))))) else none
theorem oX12_isLeaf {N : Nat} {v0 : Nat} {v1 : Int32} {h : pH} {q : Int32 × pH} (hf : fX12_isLeaf N v0 v1 h = some q) : isO h v0 12 = true := by
  unfold fX12_isLeaf at hf
  by_cases hc : isO h v0 12 = true
  · exact hc
  · rw [if_neg hc] at hf; cases hf
theorem cX12_isLeaf (X : pX) (N d : Nat) (v0 : Nat) (v1 : Int32) (h : pH) (q : Int32 × pH) (hf : fX12_isLeaf N v0 v1 h = some q) : Calls X (d + 0) 315 [.ref v0, .int v1] h (some (.int q.1), q.2, 0, 0) := by
  refine Calls.of M315 (Nat.le_of_ble_eq_true rfl) ?_
  show Run X (d + 0) 12 false (pCd 9207) 2 (some .boolean) 0 [(0, .ref v0), (1, .int v1)] [] h 0 0 (some (.int q.1), q.2, 0, 0)
  unfold fX12_isLeaf at hf
  by_cases hc : isO h v0 12 = true
  · rw [if_pos hc] at hf
    have nv0 : ¬ v0 = 4 := isO_ne hc
    refine r_aload_n (dGet dX12_isLeaf (j := 0) rfl) nv0 rfl ?_
    obtain ⟨t1, et1, hf⟩ := Option.bind_eq_some_iff.mp hf
    refine r_getR (dGet dX12_isLeaf (j := 1) rfl) F12_25 et1 ?_
    refine r_iload_n (dGet dX12_isLeaf (j := 2) rfl) rfl ?_
    obtain ⟨t2, et2, hf⟩ := Option.bind_eq_some_iff.mp hf
    refine r_iald (dGet dX12_isLeaf (j := 3) rfl) et2 ?_
    refine r_iconst (dGet dX12_isLeaf (j := 4) rfl) kI_5 ?_
    by_cases c3 : t2 ≤ (5 : Int32)
    · rw [if_pos c3] at hf
      refine r_icmp_le_t (dGet dX12_isLeaf (j := 5) rfl) rfl c3 ?_
      refine r_iconst (dGet dX12_isLeaf (j := 24) rfl) kI_1 ?_
      refine r_goto (dGet dX12_isLeaf (j := 25) rfl) rfl ?_
      have hq := Option.some.inj hf
      subst hq
      exact r_iret (dGet dX12_isLeaf (j := 27) rfl) rfl (by decide)
    · rw [if_neg c3] at hf
      refine r_icmp_le_f (dGet dX12_isLeaf (j := 5) rfl) rfl c3 ?_
      refine r_aload_n (dGet dX12_isLeaf (j := 6) rfl) nv0 rfl ?_
      obtain ⟨t4, et4, hf⟩ := Option.bind_eq_some_iff.mp hf
      refine r_getR (dGet dX12_isLeaf (j := 7) rfl) F12_25 et4 ?_
      refine r_iload_n (dGet dX12_isLeaf (j := 8) rfl) rfl ?_
      obtain ⟨t5, et5, hf⟩ := Option.bind_eq_some_iff.mp hf
      refine r_iald (dGet dX12_isLeaf (j := 9) rfl) et5 ?_
      refine r_bipush (dGet dX12_isLeaf (j := 10) rfl) kB_19 ?_
      by_cases c6 : t5 = (19 : Int32)
      · rw [if_pos c6] at hf
        refine r_icmp_eq_t (dGet dX12_isLeaf (j := 11) rfl) rfl c6 ?_
        refine r_iconst (dGet dX12_isLeaf (j := 24) rfl) kI_1 ?_
        refine r_goto (dGet dX12_isLeaf (j := 25) rfl) rfl ?_
        have hq := Option.some.inj hf
        subst hq
        exact r_iret (dGet dX12_isLeaf (j := 27) rfl) rfl (by decide)
      · rw [if_neg c6] at hf
        refine r_icmp_eq_f (dGet dX12_isLeaf (j := 11) rfl) rfl c6 ?_
        refine r_aload_n (dGet dX12_isLeaf (j := 12) rfl) nv0 rfl ?_
        obtain ⟨t7, et7, hf⟩ := Option.bind_eq_some_iff.mp hf
        refine r_getR (dGet dX12_isLeaf (j := 13) rfl) F12_25 et7 ?_
        refine r_iload_n (dGet dX12_isLeaf (j := 14) rfl) rfl ?_
        obtain ⟨t8, et8, hf⟩ := Option.bind_eq_some_iff.mp hf
        refine r_iald (dGet dX12_isLeaf (j := 15) rfl) et8 ?_
        refine r_bipush (dGet dX12_isLeaf (j := 16) rfl) kB_20 ?_
        by_cases c9 : t8 = (20 : Int32)
        · rw [if_pos c9] at hf
          refine r_icmp_eq_t (dGet dX12_isLeaf (j := 17) rfl) rfl c9 ?_
          refine r_iconst (dGet dX12_isLeaf (j := 24) rfl) kI_1 ?_
          refine r_goto (dGet dX12_isLeaf (j := 25) rfl) rfl ?_
          have hq := Option.some.inj hf
          subst hq
          exact r_iret (dGet dX12_isLeaf (j := 27) rfl) rfl (by decide)
        · rw [if_neg c9] at hf
          refine r_icmp_eq_f (dGet dX12_isLeaf (j := 17) rfl) rfl c9 ?_
          refine r_aload_n (dGet dX12_isLeaf (j := 18) rfl) nv0 rfl ?_
          obtain ⟨t10, et10, hf⟩ := Option.bind_eq_some_iff.mp hf
          refine r_getR (dGet dX12_isLeaf (j := 19) rfl) F12_25 et10 ?_
          refine r_iload_n (dGet dX12_isLeaf (j := 20) rfl) rfl ?_
          obtain ⟨t11, et11, hf⟩ := Option.bind_eq_some_iff.mp hf
          refine r_iald (dGet dX12_isLeaf (j := 21) rfl) et11 ?_
          refine r_bipush (dGet dX12_isLeaf (j := 22) rfl) kB_21 ?_
          by_cases c12 : t11 = (21 : Int32)
          · rw [if_pos c12] at hf
            refine r_icmp_ne_f (dGet dX12_isLeaf (j := 23) rfl) rfl c12 ?_
            refine r_iconst (dGet dX12_isLeaf (j := 24) rfl) kI_1 ?_
            refine r_goto (dGet dX12_isLeaf (j := 25) rfl) rfl ?_
            have hq := Option.some.inj hf
            subst hq
            exact r_iret (dGet dX12_isLeaf (j := 27) rfl) rfl (by decide)
          · rw [if_neg c12] at hf
            refine r_icmp_ne_t (dGet dX12_isLeaf (j := 23) rfl) rfl c12 ?_
            refine r_iconst (dGet dX12_isLeaf (j := 26) rfl) kI_0 ?_
            have hq := Option.some.inj hf
            subst hq
            exact r_iret (dGet dX12_isLeaf (j := 27) rfl) rfl (by decide)
  · rw [if_neg hc] at hf; cases hf
def eX12_isStep : List (Nat × Instr × Nat) := [(0, .aload_n 0, 1), (1, .getfield 205, 3), (4, .aload_n 0, 1), (5, .getfield 584, 3), (8, .iconst 1, 1), (9, .isub, 1), (10, .iaload, 1), (11, .istore_n 1, 1), (12, .iload_n 1, 1), (13, .iconst 1, 1), (14, .if_icmp .eq 35, 3), (17, .iload_n 1, 1), (18, .iconst 2, 1), (19, .if_icmp .eq 30, 3), (22, .iload_n 1, 1), (23, .iconst 4, 1), (24, .if_icmp .eq 25, 3), (27, .iload_n 1, 1), (28, .ifCond .ne 25, 3), (31, .aload_n 0, 1), (32, .aload_n 0, 1), (33, .getfield 208, 3), (36, .aload_n 0, 1), (37, .getfield 584, 3), (40, .iconst 1, 1), (41, .isub, 1), (42, .iaload, 1), (43, .invokevirtual 620, 3), (46, .ifCond .eq 7, 3), (49, .iconst 1, 1), (50, .goto 4, 3), (53, .iconst 0, 1), (54, .ireturn, 1)]
theorem dX12_isStep : dChk (pCd 9203) eX12_isStep = true := by decide +kernel
def fX12_isStep (N : Nat) (v0 : Nat) (h : pH) : Option (Int32 × pH) := if isO h v0 12 = true then (
  (getR h v0 12 104).bind fun t1 =>
  (getI h v0 12 103).bind fun t2 =>
  (ldI h t1 (t2 - (1 : Int32))).bind fun t3 =>
  if t3 = (1 : Int32) then (
  some ((1 : Int32), h)) else (
  if t3 = (2 : Int32) then (
  some ((1 : Int32), h)) else (
  if t3 = (4 : Int32) then (
  some ((1 : Int32), h)) else (
  if t3 = 0 then (
  (getR h v0 12 105).bind fun t8 =>
  (getI h v0 12 103).bind fun t9 =>
  (ldI h t8 (t9 - (1 : Int32))).bind fun t10 =>
  (fX12_isLeaf N v0 t10 h).bind fun q11 =>
  if q11.1 = 0 then (
  some ((0 : Int32), q11.2)) else (
  some ((1 : Int32), q11.2))) else (
  some ((0 : Int32), h)))))) else none
theorem oX12_isStep {N : Nat} {v0 : Nat} {h : pH} {q : Int32 × pH} (hf : fX12_isStep N v0 h = some q) : isO h v0 12 = true := by
  unfold fX12_isStep at hf
  by_cases hc : isO h v0 12 = true
  · exact hc
  · rw [if_neg hc] at hf; cases hf
theorem cX12_isStep (X : pX) (N d : Nat) (v0 : Nat) (h : pH) (q : Int32 × pH) (hf : fX12_isStep N v0 h = some q) : Calls X (d + 1) 314 [.ref v0] h (some (.int q.1), q.2, 0, 0) := by
  refine Calls.of M314 (Nat.le_of_ble_eq_true rfl) ?_
  show Run X (d + 1) 12 false (pCd 9203) 2 (some .boolean) 0 [(0, .ref v0)] [] h 0 0 (some (.int q.1), q.2, 0, 0)
  unfold fX12_isStep at hf
  by_cases hc : isO h v0 12 = true
  · rw [if_pos hc] at hf
    have nv0 : ¬ v0 = 4 := isO_ne hc
    refine r_aload_n (dGet dX12_isStep (j := 0) rfl) nv0 rfl ?_
    obtain ⟨t1, et1, hf⟩ := Option.bind_eq_some_iff.mp hf
    refine r_getR (dGet dX12_isStep (j := 1) rfl) F12_205 et1 ?_
    refine r_aload_n (dGet dX12_isStep (j := 2) rfl) nv0 rfl ?_
    obtain ⟨t2, et2, hf⟩ := Option.bind_eq_some_iff.mp hf
    refine r_getI (dGet dX12_isStep (j := 3) rfl) F12_584 et2 ?_
    refine r_iconst (dGet dX12_isStep (j := 4) rfl) kI_1 ?_
    refine r_isub (dGet dX12_isStep (j := 5) rfl) ?_
    obtain ⟨t3, et3, hf⟩ := Option.bind_eq_some_iff.mp hf
    refine r_iald (dGet dX12_isStep (j := 6) rfl) et3 ?_
    refine r_istore_n (lv' := [(1, .int t3), (0, .ref v0)]) (dGet dX12_isStep (j := 7) rfl) (by decide) rfl ?_
    refine r_iload_n (dGet dX12_isStep (j := 8) rfl) rfl ?_
    refine r_iconst (dGet dX12_isStep (j := 9) rfl) kI_1 ?_
    by_cases c4 : t3 = (1 : Int32)
    · rw [if_pos c4] at hf
      refine r_icmp_eq_t (dGet dX12_isStep (j := 10) rfl) rfl c4 ?_
      refine r_iconst (dGet dX12_isStep (j := 29) rfl) kI_1 ?_
      refine r_goto (dGet dX12_isStep (j := 30) rfl) rfl ?_
      have hq := Option.some.inj hf
      subst hq
      exact r_iret (dGet dX12_isStep (j := 32) rfl) rfl (by decide)
    · rw [if_neg c4] at hf
      refine r_icmp_eq_f (dGet dX12_isStep (j := 10) rfl) rfl c4 ?_
      refine r_iload_n (dGet dX12_isStep (j := 11) rfl) rfl ?_
      refine r_iconst (dGet dX12_isStep (j := 12) rfl) kI_2 ?_
      by_cases c5 : t3 = (2 : Int32)
      · rw [if_pos c5] at hf
        refine r_icmp_eq_t (dGet dX12_isStep (j := 13) rfl) rfl c5 ?_
        refine r_iconst (dGet dX12_isStep (j := 29) rfl) kI_1 ?_
        refine r_goto (dGet dX12_isStep (j := 30) rfl) rfl ?_
        have hq := Option.some.inj hf
        subst hq
        exact r_iret (dGet dX12_isStep (j := 32) rfl) rfl (by decide)
      · rw [if_neg c5] at hf
        refine r_icmp_eq_f (dGet dX12_isStep (j := 13) rfl) rfl c5 ?_
        refine r_iload_n (dGet dX12_isStep (j := 14) rfl) rfl ?_
        refine r_iconst (dGet dX12_isStep (j := 15) rfl) kI_4 ?_
        by_cases c6 : t3 = (4 : Int32)
        · rw [if_pos c6] at hf
          refine r_icmp_eq_t (dGet dX12_isStep (j := 16) rfl) rfl c6 ?_
          refine r_iconst (dGet dX12_isStep (j := 29) rfl) kI_1 ?_
          refine r_goto (dGet dX12_isStep (j := 30) rfl) rfl ?_
          have hq := Option.some.inj hf
          subst hq
          exact r_iret (dGet dX12_isStep (j := 32) rfl) rfl (by decide)
        · rw [if_neg c6] at hf
          refine r_icmp_eq_f (dGet dX12_isStep (j := 16) rfl) rfl c6 ?_
          refine r_iload_n (dGet dX12_isStep (j := 17) rfl) rfl ?_
          by_cases c7 : t3 = 0
          · rw [if_pos c7] at hf
            refine r_if_ne_f (dGet dX12_isStep (j := 18) rfl) rfl c7 ?_
            refine r_aload_n (dGet dX12_isStep (j := 19) rfl) nv0 rfl ?_
            refine r_aload_n (dGet dX12_isStep (j := 20) rfl) nv0 rfl ?_
            obtain ⟨t8, et8, hf⟩ := Option.bind_eq_some_iff.mp hf
            refine r_getR (dGet dX12_isStep (j := 21) rfl) F12_208 et8 ?_
            refine r_aload_n (dGet dX12_isStep (j := 22) rfl) nv0 rfl ?_
            obtain ⟨t9, et9, hf⟩ := Option.bind_eq_some_iff.mp hf
            refine r_getI (dGet dX12_isStep (j := 23) rfl) F12_584 et9 ?_
            refine r_iconst (dGet dX12_isStep (j := 24) rfl) kI_1 ?_
            refine r_isub (dGet dX12_isStep (j := 25) rfl) ?_
            obtain ⟨t10, et10, hf⟩ := Option.bind_eq_some_iff.mp hf
            refine r_iald (dGet dX12_isStep (j := 26) rfl) et10 ?_
            obtain ⟨q11, eq11, hf⟩ := Option.bind_eq_some_iff.mp hf
            refine r_virtual (dGet dX12_isStep (j := 27) rfl) L12_620 M315 rfl rfl (Nat.le_of_ble_eq_true rfl) (oX12_isLeaf eq11) (cX12_isLeaf X N (d + 0) v0 t10 h q11 eq11) ?_
            by_cases c12 : q11.1 = 0
            · rw [if_pos c12] at hf
              refine r_if_eq_t (dGet dX12_isStep (j := 28) rfl) rfl c12 ?_
              refine r_iconst (dGet dX12_isStep (j := 31) rfl) kI_0 ?_
              have hq := Option.some.inj hf
              subst hq
              exact r_iret (dGet dX12_isStep (j := 32) rfl) rfl (by decide)
            · rw [if_neg c12] at hf
              refine r_if_eq_f (dGet dX12_isStep (j := 28) rfl) rfl c12 ?_
              refine r_iconst (dGet dX12_isStep (j := 29) rfl) kI_1 ?_
              refine r_goto (dGet dX12_isStep (j := 30) rfl) rfl ?_
              have hq := Option.some.inj hf
              subst hq
              exact r_iret (dGet dX12_isStep (j := 32) rfl) rfl (by decide)
          · rw [if_neg c7] at hf
            refine r_if_ne_t (dGet dX12_isStep (j := 18) rfl) rfl c7 ?_
            refine r_iconst (dGet dX12_isStep (j := 31) rfl) kI_0 ?_
            have hq := Option.some.inj hf
            subst hq
            exact r_iret (dGet dX12_isStep (j := 32) rfl) rfl (by decide)
  · rw [if_neg hc] at hf; cases hf
def eX12_knownNames : List (Nat × Instr × Nat) := [(0, .aload_n 0, 1), (1, .iconst 0, 1), (2, .putfield 221, 3), (5, .iconst 0, 1), (6, .istore_n 1, 1), (7, .iload_n 1, 1), (8, .bipush 8, 2), (10, .if_icmp .ge 158, 3), (13, .sipush 3000, 3), (16, .bipush 6, 2), (18, .iload_n 1, 1), (19, .imul, 1), (20, .iadd, 1), (21, .istore_n 2, 1), (22, .iload_n 1, 1), (23, .iconst 1, 1), (24, .if_icmp .ne 8, 3), (27, .bipush 6, 2), (29, .goto 4, 3), (32, .iconst 4, 1), (33, .istore_n 3, 1), (34, .iconst 0, 1), (35, .istore 4, 2), (37, .iload 4, 2), (39, .iload_n 3, 1), (40, .if_icmp .ge 92, 3), (43, .aload_n 0, 1), (44, .getfield 13, 3), (47, .iload_n 2, 1), (48, .iload 4, 2), (50, .iadd, 1), (51, .iload_n 1, 1), (52, .bipush 6, 2), (54, .if_icmp .ge 18, 3), (57, .aload_n 0, 1), (58, .getfield 22, 3), (61, .bipush 6, 2), (63, .iload_n 1, 1), (64, .imul, 1), (65, .iload 4, 2), (67, .iadd, 1), (68, .iaload, 1), (69, .goto 56, 3), (72, .iload_n 1, 1), (73, .bipush 6, 2), (75, .if_icmp .ne 28, 3), (78, .aload_n 0, 1), (79, .getfield 22, 3), (82, .bipush 30, 2), (84, .iload 4, 2), (86, .iadd, 1), (87, .iaload, 1), (88, .iload 4, 2), (90, .ifCond .ne 8, 3), (93, .bipush 32, 2), (95, .goto 4, 3), (98, .iconst 0, 1), (99, .iadd, 1), (100, .goto 25, 3), (103, .aload_n 0, 1), (104, .getfield 22, 3), (107, .bipush 24, 2), (109, .iload 4, 2), (111, .iadd, 1), (112, .iaload, 1), (113, .iload 4, 2), (115, .ifCond .ne 8, 3), (118, .bipush 32, 2), (120, .goto 4, 3), (123, .iconst 0, 1), (124, .iadd, 1), (125, .iastore, 1), (126, .iinc 4 1, 3), (129, .goto (-92), 3), (132, .aload_n 0, 1), (133, .getfield 16, 3), (136, .aload_n 0, 1), (137, .getfield 221, 3), (140, .iload_n 2, 1), (141, .iastore, 1), (142, .aload_n 0, 1), (143, .getfield 19, 3), (146, .aload_n 0, 1), (147, .getfield 221, 3), (150, .iload_n 3, 1), (151, .iastore, 1), (152, .aload_n 0, 1), (153, .dup, 1), (154, .getfield 221, 3), (157, .iconst 1, 1), (158, .iadd, 1), (159, .putfield 221, 3), (162, .iinc 1 1, 3), (165, .goto (-158), 3), (168, .return_, 1)]
theorem dX12_knownNames : dChk (pCd 8109) eX12_knownNames = true := by decide +kernel
def fX12_knownNames_125 (N : Nat) (k7 : Nat → Int32 → pH → Option (pH)) (k37 : Nat → Int32 → Int32 → Int32 → Int32 → pH → Option (pH)) (v0 : Nat) (v1 : Int32) (v2 : Int32) (v3 : Int32) (v4 : Int32) (s0 : Nat) (s1 : Int32) (s2 : Int32) (h : pH) : Option (pH) :=
  (stI h s0 s1 s2).bind fun h1 =>
  k37 v0 v1 v2 v3 (v4 + (1 : Int32)) h1
theorem lX12_knownNames_125 (X : pX) (N d : Nat)  (k7 : Nat → Int32 → pH → Option (pH)) (K7 : ∀ (w0 : Nat) (w1 : Int32) (h : pH) (q : pH), k7 w0 w1 h = some q → ¬ w0 = 4 → Run X (d + 0) 12 false (pCd 8109) 5 none 7 [(0, .ref w0), (1, .int w1)] [] h 0 0 (none, q, 0, 0)) (k37 : Nat → Int32 → Int32 → Int32 → Int32 → pH → Option (pH)) (K37 : ∀ (w0 : Nat) (w1 : Int32) (w2 : Int32) (w3 : Int32) (w4 : Int32) (h : pH) (q : pH), k37 w0 w1 w2 w3 w4 h = some q → ¬ w0 = 4 → Run X (d + 0) 12 false (pCd 8109) 5 none 37 [(0, .ref w0), (1, .int w1), (2, .int w2), (3, .int w3), (4, .int w4)] [] h 0 0 (none, q, 0, 0)) (v0 : Nat) (v1 : Int32) (v2 : Int32) (v3 : Int32) (v4 : Int32) (s0 : Nat) (s1 : Int32) (s2 : Int32) (h : pH) (q : pH) (hf : fX12_knownNames_125 N k7 k37 v0 v1 v2 v3 v4 s0 s1 s2 h = some q) (nv0 : ¬ v0 = 4) (ns0 : ¬ s0 = 4) : Run X (d + 0) 12 false (pCd 8109) 5 none 125 [(0, .ref v0), (1, .int v1), (2, .int v2), (3, .int v3), (4, .int v4)] [.int s2, .int s1, .ref s0] h 0 0 (none, q, 0, 0) := by
  unfold fX12_knownNames_125 at hf
  obtain ⟨h1, eh1, hf⟩ := Option.bind_eq_some_iff.mp hf
  refine r_iast (dGet dX12_knownNames (j := 71) rfl) eh1 ?_
  refine r_iinc (lv' := [(4, .int (v4 + (1 : Int32))), (0, .ref v0), (1, .int v1), (2, .int v2), (3, .int v3)]) (dGet dX12_knownNames (j := 72) rfl) rfl (by decide) kI_1 rfl ?_
  refine r_goto (dGet dX12_knownNames (j := 73) rfl) rfl ?_
  refine Run.weak [(0, .ref v0), (1, .int v1), (2, .int v2), (3, .int v3), (4, .int (v4 + (1 : Int32)))] (by simp) (by simp [pNd]) ?_
  exact K37 v0 v1 v2 v3 (v4 + (1 : Int32)) h1 q hf nv0
def fX12_knownNames_124 (N : Nat) (k7 : Nat → Int32 → pH → Option (pH)) (k37 : Nat → Int32 → Int32 → Int32 → Int32 → pH → Option (pH)) (v0 : Nat) (v1 : Int32) (v2 : Int32) (v3 : Int32) (v4 : Int32) (s0 : Nat) (s1 : Int32) (s2 : Int32) (s3 : Int32) (h : pH) : Option (pH) :=
  fX12_knownNames_125 N k7 k37 v0 v1 v2 v3 v4 s0 s1 (s2 + s3) h
theorem lX12_knownNames_124 (X : pX) (N d : Nat)  (k7 : Nat → Int32 → pH → Option (pH)) (K7 : ∀ (w0 : Nat) (w1 : Int32) (h : pH) (q : pH), k7 w0 w1 h = some q → ¬ w0 = 4 → Run X (d + 0) 12 false (pCd 8109) 5 none 7 [(0, .ref w0), (1, .int w1)] [] h 0 0 (none, q, 0, 0)) (k37 : Nat → Int32 → Int32 → Int32 → Int32 → pH → Option (pH)) (K37 : ∀ (w0 : Nat) (w1 : Int32) (w2 : Int32) (w3 : Int32) (w4 : Int32) (h : pH) (q : pH), k37 w0 w1 w2 w3 w4 h = some q → ¬ w0 = 4 → Run X (d + 0) 12 false (pCd 8109) 5 none 37 [(0, .ref w0), (1, .int w1), (2, .int w2), (3, .int w3), (4, .int w4)] [] h 0 0 (none, q, 0, 0)) (v0 : Nat) (v1 : Int32) (v2 : Int32) (v3 : Int32) (v4 : Int32) (s0 : Nat) (s1 : Int32) (s2 : Int32) (s3 : Int32) (h : pH) (q : pH) (hf : fX12_knownNames_124 N k7 k37 v0 v1 v2 v3 v4 s0 s1 s2 s3 h = some q) (nv0 : ¬ v0 = 4) (ns0 : ¬ s0 = 4) : Run X (d + 0) 12 false (pCd 8109) 5 none 124 [(0, .ref v0), (1, .int v1), (2, .int v2), (3, .int v3), (4, .int v4)] [.int s3, .int s2, .int s1, .ref s0] h 0 0 (none, q, 0, 0) := by
  unfold fX12_knownNames_124 at hf
  refine r_iadd (dGet dX12_knownNames (j := 70) rfl) ?_
  exact lX12_knownNames_125 X N d k7 K7 k37 K37 v0 v1 v2 v3 v4 s0 s1 (s2 + s3) h q hf nv0 ns0
def fX12_knownNames_99 (N : Nat) (k7 : Nat → Int32 → pH → Option (pH)) (k37 : Nat → Int32 → Int32 → Int32 → Int32 → pH → Option (pH)) (v0 : Nat) (v1 : Int32) (v2 : Int32) (v3 : Int32) (v4 : Int32) (s0 : Nat) (s1 : Int32) (s2 : Int32) (s3 : Int32) (h : pH) : Option (pH) :=
  fX12_knownNames_125 N k7 k37 v0 v1 v2 v3 v4 s0 s1 (s2 + s3) h
theorem lX12_knownNames_99 (X : pX) (N d : Nat)  (k7 : Nat → Int32 → pH → Option (pH)) (K7 : ∀ (w0 : Nat) (w1 : Int32) (h : pH) (q : pH), k7 w0 w1 h = some q → ¬ w0 = 4 → Run X (d + 0) 12 false (pCd 8109) 5 none 7 [(0, .ref w0), (1, .int w1)] [] h 0 0 (none, q, 0, 0)) (k37 : Nat → Int32 → Int32 → Int32 → Int32 → pH → Option (pH)) (K37 : ∀ (w0 : Nat) (w1 : Int32) (w2 : Int32) (w3 : Int32) (w4 : Int32) (h : pH) (q : pH), k37 w0 w1 w2 w3 w4 h = some q → ¬ w0 = 4 → Run X (d + 0) 12 false (pCd 8109) 5 none 37 [(0, .ref w0), (1, .int w1), (2, .int w2), (3, .int w3), (4, .int w4)] [] h 0 0 (none, q, 0, 0)) (v0 : Nat) (v1 : Int32) (v2 : Int32) (v3 : Int32) (v4 : Int32) (s0 : Nat) (s1 : Int32) (s2 : Int32) (s3 : Int32) (h : pH) (q : pH) (hf : fX12_knownNames_99 N k7 k37 v0 v1 v2 v3 v4 s0 s1 s2 s3 h = some q) (nv0 : ¬ v0 = 4) (ns0 : ¬ s0 = 4) : Run X (d + 0) 12 false (pCd 8109) 5 none 99 [(0, .ref v0), (1, .int v1), (2, .int v2), (3, .int v3), (4, .int v4)] [.int s3, .int s2, .int s1, .ref s0] h 0 0 (none, q, 0, 0) := by
  unfold fX12_knownNames_99 at hf
  refine r_iadd (dGet dX12_knownNames (j := 57) rfl) ?_
  refine r_goto (dGet dX12_knownNames (j := 58) rfl) rfl ?_
  exact lX12_knownNames_125 X N d k7 K7 k37 K37 v0 v1 v2 v3 v4 s0 s1 (s2 + s3) h q hf nv0 ns0
def fX12_knownNames_37 (N : Nat) (k7 : Nat → Int32 → pH → Option (pH)) : Nat → Nat → Int32 → Int32 → Int32 → Int32 → pH → Option (pH)
  | 0, _, _, _, _, _, _ => none
  | n + 1, v0, v1, v2, v3, v4, h => if v3 ≤ v4 then (
  (getR h v0 12 12).bind fun t3 =>
  (getI h v0 12 11).bind fun t4 =>
  (stI h t3 t4 v2).bind fun h5 =>
  (getR h5 v0 12 13).bind fun t6 =>
  (getI h5 v0 12 11).bind fun t7 =>
  (stI h5 t6 t7 v3).bind fun h8 =>
  (getI h8 v0 12 11).bind fun t9 =>
  (putI h8 v0 12 11 (t9 + (1 : Int32))).bind fun h10 =>
  k7 v0 (v1 + (1 : Int32)) h10) else (
  (getR h v0 12 2).bind fun t11 =>
  if (6 : Int32) ≤ v1 then (
  if v1 = (6 : Int32) then (
  (getR h v0 12 14).bind fun t17 =>
  (ldI h t17 ((30 : Int32) + v4)).bind fun t18 =>
  if v4 = 0 then (
  if t11 = 4 then none else
  fX12_knownNames_99 N k7 (fX12_knownNames_37 N k7 n) v0 v1 v2 v3 v4 t11 (v2 + v4) t18 (32 : Int32) h) else (
  if t11 = 4 then none else
  fX12_knownNames_99 N k7 (fX12_knownNames_37 N k7 n) v0 v1 v2 v3 v4 t11 (v2 + v4) t18 (0 : Int32) h)) else (
  (getR h v0 12 14).bind fun t14 =>
  (ldI h t14 ((24 : Int32) + v4)).bind fun t15 =>
  if v4 = 0 then (
  if t11 = 4 then none else
  fX12_knownNames_124 N k7 (fX12_knownNames_37 N k7 n) v0 v1 v2 v3 v4 t11 (v2 + v4) t15 (32 : Int32) h) else (
  if t11 = 4 then none else
  fX12_knownNames_124 N k7 (fX12_knownNames_37 N k7 n) v0 v1 v2 v3 v4 t11 (v2 + v4) t15 (0 : Int32) h))) else (
  (getR h v0 12 14).bind fun t20 =>
  (ldI h t20 (((6 : Int32) * v1) + v4)).bind fun t21 =>
  if t11 = 4 then none else
  fX12_knownNames_125 N k7 (fX12_knownNames_37 N k7 n) v0 v1 v2 v3 v4 t11 (v2 + v4) t21 h))
theorem lX12_knownNames_37 (X : pX) (N d : Nat)  (k7 : Nat → Int32 → pH → Option (pH)) (K7 : ∀ (w0 : Nat) (w1 : Int32) (h : pH) (q : pH), k7 w0 w1 h = some q → ¬ w0 = 4 → Run X (d + 0) 12 false (pCd 8109) 5 none 7 [(0, .ref w0), (1, .int w1)] [] h 0 0 (none, q, 0, 0)) : ∀ (n : Nat) (v0 : Nat) (v1 : Int32) (v2 : Int32) (v3 : Int32) (v4 : Int32) (h : pH) (q : pH), fX12_knownNames_37 N k7 n v0 v1 v2 v3 v4 h = some q → ¬ v0 = 4 → Run X (d + 0) 12 false (pCd 8109) 5 none 37 [(0, .ref v0), (1, .int v1), (2, .int v2), (3, .int v3), (4, .int v4)] [] h 0 0 (none, q, 0, 0) := by
  intro n
  induction n with
  | zero => intro v0 v1 v2 v3 v4 h q hf; cases hf
  | succ n ih =>
    intro v0 v1 v2 v3 v4 h q hf nv0
    unfold fX12_knownNames_37 at hf
    refine r_iload (dGet dX12_knownNames (j := 23) rfl) rfl ?_
    refine r_iload_n (dGet dX12_knownNames (j := 24) rfl) rfl ?_
    by_cases c2 : v3 ≤ v4
    · rw [if_pos c2] at hf
      refine r_icmp_ge_t (dGet dX12_knownNames (j := 25) rfl) rfl c2 ?_
      refine r_aload_n (dGet dX12_knownNames (j := 74) rfl) nv0 rfl ?_
      obtain ⟨t3, et3, hf⟩ := Option.bind_eq_some_iff.mp hf
      refine r_getR (dGet dX12_knownNames (j := 75) rfl) F12_16 et3 ?_
      refine r_aload_n (dGet dX12_knownNames (j := 76) rfl) nv0 rfl ?_
      obtain ⟨t4, et4, hf⟩ := Option.bind_eq_some_iff.mp hf
      refine r_getI (dGet dX12_knownNames (j := 77) rfl) F12_221 et4 ?_
      refine r_iload_n (dGet dX12_knownNames (j := 78) rfl) rfl ?_
      obtain ⟨h5, eh5, hf⟩ := Option.bind_eq_some_iff.mp hf
      refine r_iast (dGet dX12_knownNames (j := 79) rfl) eh5 ?_
      refine r_aload_n (dGet dX12_knownNames (j := 80) rfl) nv0 rfl ?_
      obtain ⟨t6, et6, hf⟩ := Option.bind_eq_some_iff.mp hf
      refine r_getR (dGet dX12_knownNames (j := 81) rfl) F12_19 et6 ?_
      refine r_aload_n (dGet dX12_knownNames (j := 82) rfl) nv0 rfl ?_
      obtain ⟨t7, et7, hf⟩ := Option.bind_eq_some_iff.mp hf
      refine r_getI (dGet dX12_knownNames (j := 83) rfl) F12_221 et7 ?_
      refine r_iload_n (dGet dX12_knownNames (j := 84) rfl) rfl ?_
      obtain ⟨h8, eh8, hf⟩ := Option.bind_eq_some_iff.mp hf
      refine r_iast (dGet dX12_knownNames (j := 85) rfl) eh8 ?_
      refine r_aload_n (dGet dX12_knownNames (j := 86) rfl) nv0 rfl ?_
      refine r_dup (dGet dX12_knownNames (j := 87) rfl) rfl ?_
      obtain ⟨t9, et9, hf⟩ := Option.bind_eq_some_iff.mp hf
      refine r_getI (dGet dX12_knownNames (j := 88) rfl) F12_221 et9 ?_
      refine r_iconst (dGet dX12_knownNames (j := 89) rfl) kI_1 ?_
      refine r_iadd (dGet dX12_knownNames (j := 90) rfl) ?_
      obtain ⟨h10, eh10, hf⟩ := Option.bind_eq_some_iff.mp hf
      refine r_putI (dGet dX12_knownNames (j := 91) rfl) F12_221 rfl rfl eh10 ?_
      refine r_iinc (lv' := [(1, .int (v1 + (1 : Int32))), (0, .ref v0), (2, .int v2), (3, .int v3), (4, .int v4)]) (dGet dX12_knownNames (j := 92) rfl) rfl (by decide) kI_1 rfl ?_
      refine r_goto (dGet dX12_knownNames (j := 93) rfl) rfl ?_
      refine Run.weak [(0, .ref v0), (1, .int (v1 + (1 : Int32)))] (by simp) (by simp [pNd]) ?_
      exact K7 v0 (v1 + (1 : Int32)) h10 q hf nv0
    · rw [if_neg c2] at hf
      refine r_icmp_ge_f (dGet dX12_knownNames (j := 25) rfl) rfl c2 ?_
      refine r_aload_n (dGet dX12_knownNames (j := 26) rfl) nv0 rfl ?_
      obtain ⟨t11, et11, hf⟩ := Option.bind_eq_some_iff.mp hf
      refine r_getR (dGet dX12_knownNames (j := 27) rfl) F12_13 et11 ?_
      refine r_iload_n (dGet dX12_knownNames (j := 28) rfl) rfl ?_
      refine r_iload (dGet dX12_knownNames (j := 29) rfl) rfl ?_
      refine r_iadd (dGet dX12_knownNames (j := 30) rfl) ?_
      refine r_iload_n (dGet dX12_knownNames (j := 31) rfl) rfl ?_
      refine r_bipush (dGet dX12_knownNames (j := 32) rfl) kB_6 ?_
      by_cases c12 : (6 : Int32) ≤ v1
      · rw [if_pos c12] at hf
        refine r_icmp_ge_t (dGet dX12_knownNames (j := 33) rfl) rfl c12 ?_
        refine r_iload_n (dGet dX12_knownNames (j := 43) rfl) rfl ?_
        refine r_bipush (dGet dX12_knownNames (j := 44) rfl) kB_6 ?_
        by_cases c13 : v1 = (6 : Int32)
        · rw [if_pos c13] at hf
          refine r_icmp_ne_f (dGet dX12_knownNames (j := 45) rfl) rfl c13 ?_
          refine r_aload_n (dGet dX12_knownNames (j := 46) rfl) nv0 rfl ?_
          obtain ⟨t17, et17, hf⟩ := Option.bind_eq_some_iff.mp hf
          refine r_getR (dGet dX12_knownNames (j := 47) rfl) F12_22 et17 ?_
          refine r_bipush (dGet dX12_knownNames (j := 48) rfl) kB_30 ?_
          refine r_iload (dGet dX12_knownNames (j := 49) rfl) rfl ?_
          refine r_iadd (dGet dX12_knownNames (j := 50) rfl) ?_
          obtain ⟨t18, et18, hf⟩ := Option.bind_eq_some_iff.mp hf
          refine r_iald (dGet dX12_knownNames (j := 51) rfl) et18 ?_
          refine r_iload (dGet dX12_knownNames (j := 52) rfl) rfl ?_
          by_cases c19 : v4 = 0
          · rw [if_pos c19] at hf
            refine r_if_ne_f (dGet dX12_knownNames (j := 53) rfl) rfl c19 ?_
            refine r_bipush (dGet dX12_knownNames (j := 54) rfl) kB_32 ?_
            refine r_goto (dGet dX12_knownNames (j := 55) rfl) rfl ?_
            by_cases nt11 : t11 = 4
            · rw [if_pos nt11] at hf; cases hf
            rw [if_neg nt11] at hf
            exact lX12_knownNames_99 X N d k7 K7 (fX12_knownNames_37 N k7 n) ih v0 v1 v2 v3 v4 t11 (v2 + v4) t18 (32 : Int32) h q hf nv0 nt11
          · rw [if_neg c19] at hf
            refine r_if_ne_t (dGet dX12_knownNames (j := 53) rfl) rfl c19 ?_
            refine r_iconst (dGet dX12_knownNames (j := 56) rfl) kI_0 ?_
            by_cases nt11 : t11 = 4
            · rw [if_pos nt11] at hf; cases hf
            rw [if_neg nt11] at hf
            exact lX12_knownNames_99 X N d k7 K7 (fX12_knownNames_37 N k7 n) ih v0 v1 v2 v3 v4 t11 (v2 + v4) t18 (0 : Int32) h q hf nv0 nt11
        · rw [if_neg c13] at hf
          refine r_icmp_ne_t (dGet dX12_knownNames (j := 45) rfl) rfl c13 ?_
          refine r_aload_n (dGet dX12_knownNames (j := 59) rfl) nv0 rfl ?_
          obtain ⟨t14, et14, hf⟩ := Option.bind_eq_some_iff.mp hf
          refine r_getR (dGet dX12_knownNames (j := 60) rfl) F12_22 et14 ?_
          refine r_bipush (dGet dX12_knownNames (j := 61) rfl) kB_24 ?_
          refine r_iload (dGet dX12_knownNames (j := 62) rfl) rfl ?_
          refine r_iadd (dGet dX12_knownNames (j := 63) rfl) ?_
          obtain ⟨t15, et15, hf⟩ := Option.bind_eq_some_iff.mp hf
          refine r_iald (dGet dX12_knownNames (j := 64) rfl) et15 ?_
          refine r_iload (dGet dX12_knownNames (j := 65) rfl) rfl ?_
          by_cases c16 : v4 = 0
          · rw [if_pos c16] at hf
            refine r_if_ne_f (dGet dX12_knownNames (j := 66) rfl) rfl c16 ?_
            refine r_bipush (dGet dX12_knownNames (j := 67) rfl) kB_32 ?_
            refine r_goto (dGet dX12_knownNames (j := 68) rfl) rfl ?_
            by_cases nt11 : t11 = 4
            · rw [if_pos nt11] at hf; cases hf
            rw [if_neg nt11] at hf
            exact lX12_knownNames_124 X N d k7 K7 (fX12_knownNames_37 N k7 n) ih v0 v1 v2 v3 v4 t11 (v2 + v4) t15 (32 : Int32) h q hf nv0 nt11
          · rw [if_neg c16] at hf
            refine r_if_ne_t (dGet dX12_knownNames (j := 66) rfl) rfl c16 ?_
            refine r_iconst (dGet dX12_knownNames (j := 69) rfl) kI_0 ?_
            by_cases nt11 : t11 = 4
            · rw [if_pos nt11] at hf; cases hf
            rw [if_neg nt11] at hf
            exact lX12_knownNames_124 X N d k7 K7 (fX12_knownNames_37 N k7 n) ih v0 v1 v2 v3 v4 t11 (v2 + v4) t15 (0 : Int32) h q hf nv0 nt11
      · rw [if_neg c12] at hf
        refine r_icmp_ge_f (dGet dX12_knownNames (j := 33) rfl) rfl c12 ?_
        refine r_aload_n (dGet dX12_knownNames (j := 34) rfl) nv0 rfl ?_
        obtain ⟨t20, et20, hf⟩ := Option.bind_eq_some_iff.mp hf
        refine r_getR (dGet dX12_knownNames (j := 35) rfl) F12_22 et20 ?_
        refine r_bipush (dGet dX12_knownNames (j := 36) rfl) kB_6 ?_
        refine r_iload_n (dGet dX12_knownNames (j := 37) rfl) rfl ?_
        refine r_imul (dGet dX12_knownNames (j := 38) rfl) ?_
        refine r_iload (dGet dX12_knownNames (j := 39) rfl) rfl ?_
        refine r_iadd (dGet dX12_knownNames (j := 40) rfl) ?_
        obtain ⟨t21, et21, hf⟩ := Option.bind_eq_some_iff.mp hf
        refine r_iald (dGet dX12_knownNames (j := 41) rfl) et21 ?_
        refine r_goto (dGet dX12_knownNames (j := 42) rfl) rfl ?_
        by_cases nt11 : t11 = 4
        · rw [if_pos nt11] at hf; cases hf
        rw [if_neg nt11] at hf
        exact lX12_knownNames_125 X N d k7 K7 (fX12_knownNames_37 N k7 n) ih v0 v1 v2 v3 v4 t11 (v2 + v4) t21 h q hf nv0 nt11
def fX12_knownNames_33 (N : Nat) (k7 : Nat → Int32 → pH → Option (pH)) (v0 : Nat) (v1 : Int32) (v2 : Int32) (s0 : Int32) (h : pH) : Option (pH) :=
  fX12_knownNames_37 N k7 N v0 v1 v2 s0 (0 : Int32) h
theorem lX12_knownNames_33 (X : pX) (N d : Nat)  (k7 : Nat → Int32 → pH → Option (pH)) (K7 : ∀ (w0 : Nat) (w1 : Int32) (h : pH) (q : pH), k7 w0 w1 h = some q → ¬ w0 = 4 → Run X (d + 0) 12 false (pCd 8109) 5 none 7 [(0, .ref w0), (1, .int w1)] [] h 0 0 (none, q, 0, 0)) (v0 : Nat) (v1 : Int32) (v2 : Int32) (s0 : Int32) (h : pH) (q : pH) (hf : fX12_knownNames_33 N k7 v0 v1 v2 s0 h = some q) (nv0 : ¬ v0 = 4) : Run X (d + 0) 12 false (pCd 8109) 5 none 33 [(0, .ref v0), (1, .int v1), (2, .int v2)] [.int s0] h 0 0 (none, q, 0, 0) := by
  unfold fX12_knownNames_33 at hf
  refine r_istore_n (lv' := [(3, .int s0), (0, .ref v0), (1, .int v1), (2, .int v2)]) (dGet dX12_knownNames (j := 20) rfl) (by decide) rfl ?_
  refine r_iconst (dGet dX12_knownNames (j := 21) rfl) kI_0 ?_
  refine r_istore (lv' := [(4, .int (0 : Int32)), (3, .int s0), (0, .ref v0), (1, .int v1), (2, .int v2)]) (dGet dX12_knownNames (j := 22) rfl) (by decide) rfl ?_
  refine Run.weak [(0, .ref v0), (1, .int v1), (2, .int v2), (3, .int s0), (4, .int (0 : Int32))] (by simp) (by simp [pNd]) ?_
  exact lX12_knownNames_37 X N d k7 K7 N v0 v1 v2 s0 (0 : Int32) h q hf nv0
def fX12_knownNames_7 (N : Nat) : Nat → Nat → Int32 → pH → Option (pH)
  | 0, _, _, _ => none
  | n + 1, v0, v1, h => if (8 : Int32) ≤ v1 then (
  some h) else (
  if v1 = (1 : Int32) then (
  fX12_knownNames_33 N (fX12_knownNames_7 N n) v0 v1 ((3000 : Int32) + ((6 : Int32) * v1)) (6 : Int32) h) else (
  fX12_knownNames_33 N (fX12_knownNames_7 N n) v0 v1 ((3000 : Int32) + ((6 : Int32) * v1)) (4 : Int32) h))
theorem lX12_knownNames_7 (X : pX) (N d : Nat)  : ∀ (n : Nat) (v0 : Nat) (v1 : Int32) (h : pH) (q : pH), fX12_knownNames_7 N n v0 v1 h = some q → ¬ v0 = 4 → Run X (d + 0) 12 false (pCd 8109) 5 none 7 [(0, .ref v0), (1, .int v1)] [] h 0 0 (none, q, 0, 0) := by
  intro n
  induction n with
  | zero => intro v0 v1 h q hf; cases hf
  | succ n ih =>
    intro v0 v1 h q hf nv0
    unfold fX12_knownNames_7 at hf
    refine r_iload_n (dGet dX12_knownNames (j := 5) rfl) rfl ?_
    refine r_bipush (dGet dX12_knownNames (j := 6) rfl) kB_8 ?_
    by_cases c22 : (8 : Int32) ≤ v1
    · rw [if_pos c22] at hf
      refine r_icmp_ge_t (dGet dX12_knownNames (j := 7) rfl) rfl c22 ?_
      have hq := Option.some.inj hf
      subst hq
      exact r_vret (dGet dX12_knownNames (j := 94) rfl) rfl
    · rw [if_neg c22] at hf
      refine r_icmp_ge_f (dGet dX12_knownNames (j := 7) rfl) rfl c22 ?_
      refine r_sipush (dGet dX12_knownNames (j := 8) rfl) kS_3000 ?_
      refine r_bipush (dGet dX12_knownNames (j := 9) rfl) kB_6 ?_
      refine r_iload_n (dGet dX12_knownNames (j := 10) rfl) rfl ?_
      refine r_imul (dGet dX12_knownNames (j := 11) rfl) ?_
      refine r_iadd (dGet dX12_knownNames (j := 12) rfl) ?_
      refine r_istore_n (lv' := [(2, .int ((3000 : Int32) + ((6 : Int32) * v1))), (0, .ref v0), (1, .int v1)]) (dGet dX12_knownNames (j := 13) rfl) (by decide) rfl ?_
      refine r_iload_n (dGet dX12_knownNames (j := 14) rfl) rfl ?_
      refine r_iconst (dGet dX12_knownNames (j := 15) rfl) kI_1 ?_
      by_cases c23 : v1 = (1 : Int32)
      · rw [if_pos c23] at hf
        refine r_icmp_ne_f (dGet dX12_knownNames (j := 16) rfl) rfl c23 ?_
        refine r_bipush (dGet dX12_knownNames (j := 17) rfl) kB_6 ?_
        refine r_goto (dGet dX12_knownNames (j := 18) rfl) rfl ?_
        refine Run.weak [(0, .ref v0), (1, .int v1), (2, .int ((3000 : Int32) + ((6 : Int32) * v1)))] (by simp) (by simp [pNd]) ?_
        exact lX12_knownNames_33 X N d (fX12_knownNames_7 N n) ih v0 v1 ((3000 : Int32) + ((6 : Int32) * v1)) (6 : Int32) h q hf nv0
      · rw [if_neg c23] at hf
        refine r_icmp_ne_t (dGet dX12_knownNames (j := 16) rfl) rfl c23 ?_
        refine r_iconst (dGet dX12_knownNames (j := 19) rfl) kI_4 ?_
        refine Run.weak [(0, .ref v0), (1, .int v1), (2, .int ((3000 : Int32) + ((6 : Int32) * v1)))] (by simp) (by simp [pNd]) ?_
        exact lX12_knownNames_33 X N d (fX12_knownNames_7 N n) ih v0 v1 ((3000 : Int32) + ((6 : Int32) * v1)) (4 : Int32) h q hf nv0
def fX12_knownNames (N : Nat) (v0 : Nat) (h : pH) : Option (pH) := if isO h v0 12 = true then (
  (putI h v0 12 11 (0 : Int32)).bind fun h24 =>
  fX12_knownNames_7 N N v0 (0 : Int32) h24) else none
theorem oX12_knownNames {N : Nat} {v0 : Nat} {h : pH} {q : pH} (hf : fX12_knownNames N v0 h = some q) : isO h v0 12 = true := by
  unfold fX12_knownNames at hf
  by_cases hc : isO h v0 12 = true
  · exact hc
  · rw [if_neg hc] at hf; cases hf
theorem cX12_knownNames (X : pX) (N d : Nat) (v0 : Nat) (h : pH) (q : pH) (hf : fX12_knownNames N v0 h = some q) : Calls X (d + 0) 232 [.ref v0] h (none, q, 0, 0) := by
  refine Calls.of M232 (Nat.le_of_ble_eq_true rfl) ?_
  show Run X (d + 0) 12 false (pCd 8109) 5 none 0 [(0, .ref v0)] [] h 0 0 (none, q, 0, 0)
  unfold fX12_knownNames at hf
  by_cases hc : isO h v0 12 = true
  · rw [if_pos hc] at hf
    have nv0 : ¬ v0 = 4 := isO_ne hc
    refine r_aload_n (dGet dX12_knownNames (j := 0) rfl) nv0 rfl ?_
    refine r_iconst (dGet dX12_knownNames (j := 1) rfl) kI_0 ?_
    obtain ⟨h24, eh24, hf⟩ := Option.bind_eq_some_iff.mp hf
    refine r_putI (dGet dX12_knownNames (j := 2) rfl) F12_221 rfl rfl eh24 ?_
    refine r_iconst (dGet dX12_knownNames (j := 3) rfl) kI_0 ?_
    refine r_istore_n (lv' := [(1, .int (0 : Int32)), (0, .ref v0)]) (dGet dX12_knownNames (j := 4) rfl) (by decide) rfl ?_
    refine Run.weak [(0, .ref v0), (1, .int (0 : Int32))] (by simp) (by simp [pNd]) ?_
    exact lX12_knownNames_7 X N d N v0 (0 : Int32) h24 q hf nv0
  · rw [if_neg hc] at hf; cases hf
def eX12_nextInput : List (Nat × Instr × Nat) := [(0, .aload_n 0, 1), (1, .getfield 635, 3), (4, .ifCond .ne 5, 3), (7, .iconst 0, 1), (8, .ireturn, 1), (9, .aload_n 0, 1), (10, .getfield 151, 3), (13, .iconst 0, 1), (14, .iaload, 1), (15, .istore_n 1, 1), (16, .aload_n 0, 1), (17, .dup, 1), (18, .getfield 635, 3), (21, .iconst 1, 1), (22, .isub, 1), (23, .putfield 635, 3), (26, .iconst 0, 1), (27, .istore_n 2, 1), (28, .iload_n 2, 1), (29, .aload_n 0, 1), (30, .getfield 635, 3), (33, .if_icmp .ge 23, 3), (36, .aload_n 0, 1), (37, .getfield 151, 3), (40, .iload_n 2, 1), (41, .aload_n 0, 1), (42, .getfield 151, 3), (45, .iload_n 2, 1), (46, .iconst 1, 1), (47, .iadd, 1), (48, .iaload, 1), (49, .iastore, 1), (50, .iinc 2 1, 3), (53, .goto (-25), 3), (56, .iload_n 1, 1), (57, .ireturn, 1)]
theorem dX12_nextInput : dChk (pCd 9236) eX12_nextInput = true := by decide +kernel
def fX12_nextInput_28 (N : Nat) : Nat → Nat → Int32 → Int32 → pH → Option (Int32 × pH)
  | 0, _, _, _, _ => none
  | n + 1, v0, v1, v2, h => (getI h v0 12 80).bind fun t1 =>
  if t1 ≤ v2 then (
  some (v1, h)) else (
  (getR h v0 12 81).bind fun t3 =>
  (getR h v0 12 81).bind fun t4 =>
  (ldI h t4 (v2 + (1 : Int32))).bind fun t5 =>
  (stI h t3 v2 t5).bind fun h6 =>
  fX12_nextInput_28 N n v0 v1 (v2 + (1 : Int32)) h6)
theorem lX12_nextInput_28 (X : pX) (N d : Nat)  : ∀ (n : Nat) (v0 : Nat) (v1 : Int32) (v2 : Int32) (h : pH) (q : Int32 × pH), fX12_nextInput_28 N n v0 v1 v2 h = some q → ¬ v0 = 4 → Run X (d + 0) 12 false (pCd 9236) 3 (some .int) 28 [(0, .ref v0), (1, .int v1), (2, .int v2)] [] h 0 0 (some (.int q.1), q.2, 0, 0) := by
  intro n
  induction n with
  | zero => intro v0 v1 v2 h q hf; cases hf
  | succ n ih =>
    intro v0 v1 v2 h q hf nv0
    unfold fX12_nextInput_28 at hf
    refine r_iload_n (dGet dX12_nextInput (j := 18) rfl) rfl ?_
    refine r_aload_n (dGet dX12_nextInput (j := 19) rfl) nv0 rfl ?_
    obtain ⟨t1, et1, hf⟩ := Option.bind_eq_some_iff.mp hf
    refine r_getI (dGet dX12_nextInput (j := 20) rfl) F12_635 et1 ?_
    by_cases c2 : t1 ≤ v2
    · rw [if_pos c2] at hf
      refine r_icmp_ge_t (dGet dX12_nextInput (j := 21) rfl) rfl c2 ?_
      refine r_iload_n (dGet dX12_nextInput (j := 34) rfl) rfl ?_
      have hq := Option.some.inj hf
      subst hq
      exact r_iret (dGet dX12_nextInput (j := 35) rfl) rfl rfl
    · rw [if_neg c2] at hf
      refine r_icmp_ge_f (dGet dX12_nextInput (j := 21) rfl) rfl c2 ?_
      refine r_aload_n (dGet dX12_nextInput (j := 22) rfl) nv0 rfl ?_
      obtain ⟨t3, et3, hf⟩ := Option.bind_eq_some_iff.mp hf
      refine r_getR (dGet dX12_nextInput (j := 23) rfl) F12_151 et3 ?_
      refine r_iload_n (dGet dX12_nextInput (j := 24) rfl) rfl ?_
      refine r_aload_n (dGet dX12_nextInput (j := 25) rfl) nv0 rfl ?_
      obtain ⟨t4, et4, hf⟩ := Option.bind_eq_some_iff.mp hf
      refine r_getR (dGet dX12_nextInput (j := 26) rfl) F12_151 et4 ?_
      refine r_iload_n (dGet dX12_nextInput (j := 27) rfl) rfl ?_
      refine r_iconst (dGet dX12_nextInput (j := 28) rfl) kI_1 ?_
      refine r_iadd (dGet dX12_nextInput (j := 29) rfl) ?_
      obtain ⟨t5, et5, hf⟩ := Option.bind_eq_some_iff.mp hf
      refine r_iald (dGet dX12_nextInput (j := 30) rfl) et5 ?_
      obtain ⟨h6, eh6, hf⟩ := Option.bind_eq_some_iff.mp hf
      refine r_iast (dGet dX12_nextInput (j := 31) rfl) eh6 ?_
      refine r_iinc (lv' := [(2, .int (v2 + (1 : Int32))), (0, .ref v0), (1, .int v1)]) (dGet dX12_nextInput (j := 32) rfl) rfl (by decide) kI_1 rfl ?_
      refine r_goto (dGet dX12_nextInput (j := 33) rfl) rfl ?_
      refine Run.weak [(0, .ref v0), (1, .int v1), (2, .int (v2 + (1 : Int32)))] (by simp) (by simp [pNd]) ?_
      exact ih v0 v1 (v2 + (1 : Int32)) h6 q hf nv0
def fX12_nextInput (N : Nat) (v0 : Nat) (h : pH) : Option (Int32 × pH) := if isO h v0 12 = true then (
  (getI h v0 12 80).bind fun t7 =>
  if t7 = 0 then (
  some ((0 : Int32), h)) else (
  (getR h v0 12 81).bind fun t9 =>
  (ldI h t9 (0 : Int32)).bind fun t10 =>
  (getI h v0 12 80).bind fun t11 =>
  (putI h v0 12 80 (t11 - (1 : Int32))).bind fun h12 =>
  fX12_nextInput_28 N N v0 t10 (0 : Int32) h12)) else none
theorem oX12_nextInput {N : Nat} {v0 : Nat} {h : pH} {q : Int32 × pH} (hf : fX12_nextInput N v0 h = some q) : isO h v0 12 = true := by
  unfold fX12_nextInput at hf
  by_cases hc : isO h v0 12 = true
  · exact hc
  · rw [if_neg hc] at hf; cases hf
theorem cX12_nextInput (X : pX) (N d : Nat) (v0 : Nat) (h : pH) (q : Int32 × pH) (hf : fX12_nextInput N v0 h = some q) : Calls X (d + 0) 322 [.ref v0] h (some (.int q.1), q.2, 0, 0) := by
  refine Calls.of M322 (Nat.le_of_ble_eq_true rfl) ?_
  show Run X (d + 0) 12 false (pCd 9236) 3 (some .int) 0 [(0, .ref v0)] [] h 0 0 (some (.int q.1), q.2, 0, 0)
  unfold fX12_nextInput at hf
  by_cases hc : isO h v0 12 = true
  · rw [if_pos hc] at hf
    have nv0 : ¬ v0 = 4 := isO_ne hc
    refine r_aload_n (dGet dX12_nextInput (j := 0) rfl) nv0 rfl ?_
    obtain ⟨t7, et7, hf⟩ := Option.bind_eq_some_iff.mp hf
    refine r_getI (dGet dX12_nextInput (j := 1) rfl) F12_635 et7 ?_
    by_cases c8 : t7 = 0
    · rw [if_pos c8] at hf
      refine r_if_ne_f (dGet dX12_nextInput (j := 2) rfl) rfl c8 ?_
      refine r_iconst (dGet dX12_nextInput (j := 3) rfl) kI_0 ?_
      have hq := Option.some.inj hf
      subst hq
      exact r_iret (dGet dX12_nextInput (j := 4) rfl) rfl rfl
    · rw [if_neg c8] at hf
      refine r_if_ne_t (dGet dX12_nextInput (j := 2) rfl) rfl c8 ?_
      refine r_aload_n (dGet dX12_nextInput (j := 5) rfl) nv0 rfl ?_
      obtain ⟨t9, et9, hf⟩ := Option.bind_eq_some_iff.mp hf
      refine r_getR (dGet dX12_nextInput (j := 6) rfl) F12_151 et9 ?_
      refine r_iconst (dGet dX12_nextInput (j := 7) rfl) kI_0 ?_
      obtain ⟨t10, et10, hf⟩ := Option.bind_eq_some_iff.mp hf
      refine r_iald (dGet dX12_nextInput (j := 8) rfl) et10 ?_
      refine r_istore_n (lv' := [(1, .int t10), (0, .ref v0)]) (dGet dX12_nextInput (j := 9) rfl) (by decide) rfl ?_
      refine r_aload_n (dGet dX12_nextInput (j := 10) rfl) nv0 rfl ?_
      refine r_dup (dGet dX12_nextInput (j := 11) rfl) rfl ?_
      obtain ⟨t11, et11, hf⟩ := Option.bind_eq_some_iff.mp hf
      refine r_getI (dGet dX12_nextInput (j := 12) rfl) F12_635 et11 ?_
      refine r_iconst (dGet dX12_nextInput (j := 13) rfl) kI_1 ?_
      refine r_isub (dGet dX12_nextInput (j := 14) rfl) ?_
      obtain ⟨h12, eh12, hf⟩ := Option.bind_eq_some_iff.mp hf
      refine r_putI (dGet dX12_nextInput (j := 15) rfl) F12_635 rfl rfl eh12 ?_
      refine r_iconst (dGet dX12_nextInput (j := 16) rfl) kI_0 ?_
      refine r_istore_n (lv' := [(2, .int (0 : Int32)), (1, .int t10), (0, .ref v0)]) (dGet dX12_nextInput (j := 17) rfl) (by decide) rfl ?_
      refine Run.weak [(0, .ref v0), (1, .int t10), (2, .int (0 : Int32))] (by simp) (by simp [pNd]) ?_
      exact lX12_nextInput_28 X N d N v0 t10 (0 : Int32) h12 q hf nv0
  · rw [if_neg hc] at hf; cases hf
def eX12_object : List (Nat × Instr × Nat) := [(0, .aload_n 0, 1), (1, .getfield 551, 3), (4, .istore_n 3, 1), (5, .aload_n 0, 1), (6, .getfield 154, 3), (9, .iload_n 3, 1), (10, .iload_n 1, 1), (11, .iastore, 1), (12, .aload_n 0, 1), (13, .getfield 157, 3), (16, .iload_n 3, 1), (17, .aload_n 0, 1), (18, .getfield 566, 3), (21, .iastore, 1), (22, .aload_n 0, 1), (23, .getfield 160, 3), (26, .iload_n 3, 1), (27, .iload_n 2, 1), (28, .iastore, 1), (29, .aload_n 0, 1), (30, .getfield 566, 3), (33, .istore 4, 2), (35, .iload 4, 2), (37, .aload_n 0, 1), (38, .getfield 566, 3), (41, .iload_n 2, 1), (42, .iadd, 1), (43, .if_icmp .ge 25, 3), (46, .aload_n 0, 1), (47, .getfield 172, 3), (50, .iload 4, 2), (52, .iconst 0, 1), (53, .iastore, 1), (54, .aload_n 0, 1), (55, .getfield 175, 3), (58, .iload 4, 2), (60, .iconst 0, 1), (61, .bastore, 1), (62, .iinc 4 1, 3), (65, .goto (-30), 3), (68, .iload_n 1, 1), (69, .istore 4, 2), (71, .iload 4, 2), (73, .ifCond .lt 116, 3), (76, .aload_n 0, 1), (77, .getfield 94, 3), (80, .iload 4, 2), (82, .iaload, 1), (83, .istore 5, 2), (85, .iload 5, 2), (87, .aload_n 0, 1), (88, .getfield 94, 3), (91, .iload 4, 2), (93, .iconst 1, 1), (94, .iadd, 1), (95, .iaload, 1), (96, .if_icmp .ge 81, 3), (99, .aload_n 0, 1), (100, .getfield 106, 3), (103, .iload 5, 2), (105, .baload, 1), (106, .ifCond .ne 65, 3), (109, .aload_n 0, 1), (110, .getfield 103, 3), (113, .iload 5, 2), (115, .iaload, 1), (116, .bipush 10, 2), (118, .if_icmp .ge 17, 3), (121, .aload_n 0, 1), (122, .getfield 103, 3), (125, .iload 5, 2), (127, .iaload, 1), (128, .iconst 2, 1), (129, .if_icmp .eq 6, 3), (132, .goto 39, 3), (135, .aload_n 0, 1), (136, .getfield 172, 3), (139, .aload_n 0, 1), (140, .getfield 566, 3), (143, .aload_n 0, 1), (144, .getfield 119, 3), (147, .iload 5, 2), (149, .iaload, 1), (150, .iadd, 1), (151, .iconst (-1), 1), (152, .iastore, 1), (153, .aload_n 0, 1), (154, .getfield 175, 3), (157, .aload_n 0, 1), (158, .getfield 566, 3), (161, .aload_n 0, 1), (162, .getfield 119, 3), (165, .iload 5, 2), (167, .iaload, 1), (168, .iadd, 1), (169, .iconst 1, 1), (170, .bastore, 1), (171, .iinc 5 1, 3), (174, .goto (-89), 3), (177, .aload_n 0, 1), (178, .getfield 88, 3), (181, .iload 4, 2), (183, .iaload, 1), (184, .istore 4, 2), (186, .goto (-115), 3), (189, .aload_n 0, 1), (190, .dup, 1), (191, .getfield 566, 3), (194, .iload_n 2, 1), (195, .iadd, 1), (196, .putfield 566, 3), (199, .aload_n 0, 1), (200, .dup, 1), (201, .getfield 551, 3), (204, .iconst 1, 1), (205, .iadd, 1), (206, .putfield 551, 3), (209, .aload_n 0, 1), (210, .dup, 1), (211, .getfield 572, 3), (214, .iconst 2, 1), (215, .iload_n 2, 1), (216, .iadd, 1), (217, .iadd, 1), (218, .putfield 572, 3), (221, .aload_n 0, 1), (222, .dup, 1), (223, .getfield 581, 3), (226, .iconst 2, 1), (227, .iload_n 2, 1), (228, .iadd, 1), (229, .iadd, 1), (230, .putfield 581, 3), (233, .iload_n 3, 1), (234, .ireturn, 1)]
theorem dX12_object : dChk (pCd 9183) eX12_object = true := by decide +kernel
def fX12_object_171 (N : Nat) (k71 : Nat → Int32 → Int32 → Int32 → pH → Option (Int32 × pH)) (k85 : Nat → Int32 → Int32 → Int32 → Int32 → pH → Option (Int32 × pH)) (v0 : Nat) (v2 : Int32) (v3 : Int32) (v4 : Int32) (v5 : Int32) (h : pH) : Option (Int32 × pH) :=
  k85 v0 v2 v3 v4 (v5 + (1 : Int32)) h
theorem lX12_object_171 (X : pX) (N d : Nat)  (k71 : Nat → Int32 → Int32 → Int32 → pH → Option (Int32 × pH)) (K71 : ∀ (w0 : Nat) (w2 : Int32) (w3 : Int32) (w4 : Int32) (h : pH) (q : Int32 × pH), k71 w0 w2 w3 w4 h = some q → ¬ w0 = 4 → Run X (d + 0) 12 false (pCd 9183) 6 (some .int) 71 [(0, .ref w0), (2, .int w2), (3, .int w3), (4, .int w4)] [] h 0 0 (some (.int q.1), q.2, 0, 0)) (k85 : Nat → Int32 → Int32 → Int32 → Int32 → pH → Option (Int32 × pH)) (K85 : ∀ (w0 : Nat) (w2 : Int32) (w3 : Int32) (w4 : Int32) (w5 : Int32) (h : pH) (q : Int32 × pH), k85 w0 w2 w3 w4 w5 h = some q → ¬ w0 = 4 → Run X (d + 0) 12 false (pCd 9183) 6 (some .int) 85 [(0, .ref w0), (2, .int w2), (3, .int w3), (4, .int w4), (5, .int w5)] [] h 0 0 (some (.int q.1), q.2, 0, 0)) (v0 : Nat) (v2 : Int32) (v3 : Int32) (v4 : Int32) (v5 : Int32) (h : pH) (q : Int32 × pH) (hf : fX12_object_171 N k71 k85 v0 v2 v3 v4 v5 h = some q) (nv0 : ¬ v0 = 4) : Run X (d + 0) 12 false (pCd 9183) 6 (some .int) 171 [(0, .ref v0), (2, .int v2), (3, .int v3), (4, .int v4), (5, .int v5)] [] h 0 0 (some (.int q.1), q.2, 0, 0) := by
  unfold fX12_object_171 at hf
  refine r_iinc (lv' := [(5, .int (v5 + (1 : Int32))), (0, .ref v0), (2, .int v2), (3, .int v3), (4, .int v4)]) (dGet dX12_object (j := 97) rfl) rfl (by decide) kI_1 rfl ?_
  refine r_goto (dGet dX12_object (j := 98) rfl) rfl ?_
  refine Run.weak [(0, .ref v0), (2, .int v2), (3, .int v3), (4, .int v4), (5, .int (v5 + (1 : Int32)))] (by simp) (by simp [pNd]) ?_
  exact K85 v0 v2 v3 v4 (v5 + (1 : Int32)) h q hf nv0
def fX12_object_135 (N : Nat) (k71 : Nat → Int32 → Int32 → Int32 → pH → Option (Int32 × pH)) (k85 : Nat → Int32 → Int32 → Int32 → Int32 → pH → Option (Int32 × pH)) (v0 : Nat) (v2 : Int32) (v3 : Int32) (v4 : Int32) (v5 : Int32) (h : pH) : Option (Int32 × pH) :=
  (getR h v0 12 91).bind fun t1 =>
  (getI h v0 12 90).bind fun t2 =>
  (getR h v0 12 52).bind fun t3 =>
  (ldI h t3 v5).bind fun t4 =>
  (stI h t1 (t2 + t4) (-1 : Int32)).bind fun h5 =>
  (getR h5 v0 12 92).bind fun t6 =>
  (getI h5 v0 12 90).bind fun t7 =>
  (getR h5 v0 12 52).bind fun t8 =>
  (ldI h5 t8 v5).bind fun t9 =>
  (stZ h5 t6 (t7 + t9) (1 : Int32)).bind fun h10 =>
  fX12_object_171 N k71 k85 v0 v2 v3 v4 v5 h10
theorem lX12_object_135 (X : pX) (N d : Nat)  (k71 : Nat → Int32 → Int32 → Int32 → pH → Option (Int32 × pH)) (K71 : ∀ (w0 : Nat) (w2 : Int32) (w3 : Int32) (w4 : Int32) (h : pH) (q : Int32 × pH), k71 w0 w2 w3 w4 h = some q → ¬ w0 = 4 → Run X (d + 0) 12 false (pCd 9183) 6 (some .int) 71 [(0, .ref w0), (2, .int w2), (3, .int w3), (4, .int w4)] [] h 0 0 (some (.int q.1), q.2, 0, 0)) (k85 : Nat → Int32 → Int32 → Int32 → Int32 → pH → Option (Int32 × pH)) (K85 : ∀ (w0 : Nat) (w2 : Int32) (w3 : Int32) (w4 : Int32) (w5 : Int32) (h : pH) (q : Int32 × pH), k85 w0 w2 w3 w4 w5 h = some q → ¬ w0 = 4 → Run X (d + 0) 12 false (pCd 9183) 6 (some .int) 85 [(0, .ref w0), (2, .int w2), (3, .int w3), (4, .int w4), (5, .int w5)] [] h 0 0 (some (.int q.1), q.2, 0, 0)) (v0 : Nat) (v2 : Int32) (v3 : Int32) (v4 : Int32) (v5 : Int32) (h : pH) (q : Int32 × pH) (hf : fX12_object_135 N k71 k85 v0 v2 v3 v4 v5 h = some q) (nv0 : ¬ v0 = 4) : Run X (d + 0) 12 false (pCd 9183) 6 (some .int) 135 [(0, .ref v0), (2, .int v2), (3, .int v3), (4, .int v4), (5, .int v5)] [] h 0 0 (some (.int q.1), q.2, 0, 0) := by
  unfold fX12_object_135 at hf
  refine r_aload_n (dGet dX12_object (j := 75) rfl) nv0 rfl ?_
  obtain ⟨t1, et1, hf⟩ := Option.bind_eq_some_iff.mp hf
  refine r_getR (dGet dX12_object (j := 76) rfl) F12_172 et1 ?_
  refine r_aload_n (dGet dX12_object (j := 77) rfl) nv0 rfl ?_
  obtain ⟨t2, et2, hf⟩ := Option.bind_eq_some_iff.mp hf
  refine r_getI (dGet dX12_object (j := 78) rfl) F12_566 et2 ?_
  refine r_aload_n (dGet dX12_object (j := 79) rfl) nv0 rfl ?_
  obtain ⟨t3, et3, hf⟩ := Option.bind_eq_some_iff.mp hf
  refine r_getR (dGet dX12_object (j := 80) rfl) F12_119 et3 ?_
  refine r_iload (dGet dX12_object (j := 81) rfl) rfl ?_
  obtain ⟨t4, et4, hf⟩ := Option.bind_eq_some_iff.mp hf
  refine r_iald (dGet dX12_object (j := 82) rfl) et4 ?_
  refine r_iadd (dGet dX12_object (j := 83) rfl) ?_
  refine r_iconst (dGet dX12_object (j := 84) rfl) kI_m1 ?_
  obtain ⟨h5, eh5, hf⟩ := Option.bind_eq_some_iff.mp hf
  refine r_iast (dGet dX12_object (j := 85) rfl) eh5 ?_
  refine r_aload_n (dGet dX12_object (j := 86) rfl) nv0 rfl ?_
  obtain ⟨t6, et6, hf⟩ := Option.bind_eq_some_iff.mp hf
  refine r_getR (dGet dX12_object (j := 87) rfl) F12_175 et6 ?_
  refine r_aload_n (dGet dX12_object (j := 88) rfl) nv0 rfl ?_
  obtain ⟨t7, et7, hf⟩ := Option.bind_eq_some_iff.mp hf
  refine r_getI (dGet dX12_object (j := 89) rfl) F12_566 et7 ?_
  refine r_aload_n (dGet dX12_object (j := 90) rfl) nv0 rfl ?_
  obtain ⟨t8, et8, hf⟩ := Option.bind_eq_some_iff.mp hf
  refine r_getR (dGet dX12_object (j := 91) rfl) F12_119 et8 ?_
  refine r_iload (dGet dX12_object (j := 92) rfl) rfl ?_
  obtain ⟨t9, et9, hf⟩ := Option.bind_eq_some_iff.mp hf
  refine r_iald (dGet dX12_object (j := 93) rfl) et9 ?_
  refine r_iadd (dGet dX12_object (j := 94) rfl) ?_
  refine r_iconst (dGet dX12_object (j := 95) rfl) kI_1 ?_
  obtain ⟨h10, eh10, hf⟩ := Option.bind_eq_some_iff.mp hf
  refine r_zast (dGet dX12_object (j := 96) rfl) eh10 ?_
  exact lX12_object_171 X N d k71 K71 k85 K85 v0 v2 v3 v4 v5 h10 q hf nv0
def fX12_object_85 (N : Nat) (k71 : Nat → Int32 → Int32 → Int32 → pH → Option (Int32 × pH)) : Nat → Nat → Int32 → Int32 → Int32 → Int32 → pH → Option (Int32 × pH)
  | 0, _, _, _, _, _, _ => none
  | n + 1, v0, v2, v3, v4, v5, h => (getR h v0 12 43).bind fun t11 =>
  (ldI h t11 (v4 + (1 : Int32))).bind fun t12 =>
  if t12 ≤ v5 then (
  (getR h v0 12 41).bind fun t14 =>
  (ldI h t14 v4).bind fun t15 =>
  k71 v0 v2 v3 t15 h) else (
  (getR h v0 12 48).bind fun t16 =>
  (ldZ h t16 v5).bind fun t17 =>
  if t17 = 0 then (
  (getR h v0 12 47).bind fun t19 =>
  (ldI h t19 v5).bind fun t20 =>
  if (10 : Int32) ≤ t20 then (
  fX12_object_135 N k71 (fX12_object_85 N k71 n) v0 v2 v3 v4 v5 h) else (
  (getR h v0 12 47).bind fun t22 =>
  (ldI h t22 v5).bind fun t23 =>
  if t23 = (2 : Int32) then (
  fX12_object_135 N k71 (fX12_object_85 N k71 n) v0 v2 v3 v4 v5 h) else (
  fX12_object_171 N k71 (fX12_object_85 N k71 n) v0 v2 v3 v4 v5 h))) else (
  fX12_object_171 N k71 (fX12_object_85 N k71 n) v0 v2 v3 v4 v5 h))
theorem lX12_object_85 (X : pX) (N d : Nat)  (k71 : Nat → Int32 → Int32 → Int32 → pH → Option (Int32 × pH)) (K71 : ∀ (w0 : Nat) (w2 : Int32) (w3 : Int32) (w4 : Int32) (h : pH) (q : Int32 × pH), k71 w0 w2 w3 w4 h = some q → ¬ w0 = 4 → Run X (d + 0) 12 false (pCd 9183) 6 (some .int) 71 [(0, .ref w0), (2, .int w2), (3, .int w3), (4, .int w4)] [] h 0 0 (some (.int q.1), q.2, 0, 0)) : ∀ (n : Nat) (v0 : Nat) (v2 : Int32) (v3 : Int32) (v4 : Int32) (v5 : Int32) (h : pH) (q : Int32 × pH), fX12_object_85 N k71 n v0 v2 v3 v4 v5 h = some q → ¬ v0 = 4 → Run X (d + 0) 12 false (pCd 9183) 6 (some .int) 85 [(0, .ref v0), (2, .int v2), (3, .int v3), (4, .int v4), (5, .int v5)] [] h 0 0 (some (.int q.1), q.2, 0, 0) := by
  intro n
  induction n with
  | zero => intro v0 v2 v3 v4 v5 h q hf; cases hf
  | succ n ih =>
    intro v0 v2 v3 v4 v5 h q hf nv0
    unfold fX12_object_85 at hf
    refine r_iload (dGet dX12_object (j := 49) rfl) rfl ?_
    refine r_aload_n (dGet dX12_object (j := 50) rfl) nv0 rfl ?_
    obtain ⟨t11, et11, hf⟩ := Option.bind_eq_some_iff.mp hf
    refine r_getR (dGet dX12_object (j := 51) rfl) F12_94 et11 ?_
    refine r_iload (dGet dX12_object (j := 52) rfl) rfl ?_
    refine r_iconst (dGet dX12_object (j := 53) rfl) kI_1 ?_
    refine r_iadd (dGet dX12_object (j := 54) rfl) ?_
    obtain ⟨t12, et12, hf⟩ := Option.bind_eq_some_iff.mp hf
    refine r_iald (dGet dX12_object (j := 55) rfl) et12 ?_
    by_cases c13 : t12 ≤ v5
    · rw [if_pos c13] at hf
      refine r_icmp_ge_t (dGet dX12_object (j := 56) rfl) rfl c13 ?_
      refine r_aload_n (dGet dX12_object (j := 99) rfl) nv0 rfl ?_
      obtain ⟨t14, et14, hf⟩ := Option.bind_eq_some_iff.mp hf
      refine r_getR (dGet dX12_object (j := 100) rfl) F12_88 et14 ?_
      refine r_iload (dGet dX12_object (j := 101) rfl) rfl ?_
      obtain ⟨t15, et15, hf⟩ := Option.bind_eq_some_iff.mp hf
      refine r_iald (dGet dX12_object (j := 102) rfl) et15 ?_
      refine r_istore (lv' := [(4, .int t15), (0, .ref v0), (2, .int v2), (3, .int v3), (5, .int v5)]) (dGet dX12_object (j := 103) rfl) (by decide) rfl ?_
      refine r_goto (dGet dX12_object (j := 104) rfl) rfl ?_
      refine Run.weak [(0, .ref v0), (2, .int v2), (3, .int v3), (4, .int t15)] (by simp) (by simp [pNd]) ?_
      exact K71 v0 v2 v3 t15 h q hf nv0
    · rw [if_neg c13] at hf
      refine r_icmp_ge_f (dGet dX12_object (j := 56) rfl) rfl c13 ?_
      refine r_aload_n (dGet dX12_object (j := 57) rfl) nv0 rfl ?_
      obtain ⟨t16, et16, hf⟩ := Option.bind_eq_some_iff.mp hf
      refine r_getR (dGet dX12_object (j := 58) rfl) F12_106 et16 ?_
      refine r_iload (dGet dX12_object (j := 59) rfl) rfl ?_
      obtain ⟨t17, et17, hf⟩ := Option.bind_eq_some_iff.mp hf
      refine r_zald (dGet dX12_object (j := 60) rfl) et17 ?_
      by_cases c18 : t17 = 0
      · rw [if_pos c18] at hf
        refine r_if_ne_f (dGet dX12_object (j := 61) rfl) rfl c18 ?_
        refine r_aload_n (dGet dX12_object (j := 62) rfl) nv0 rfl ?_
        obtain ⟨t19, et19, hf⟩ := Option.bind_eq_some_iff.mp hf
        refine r_getR (dGet dX12_object (j := 63) rfl) F12_103 et19 ?_
        refine r_iload (dGet dX12_object (j := 64) rfl) rfl ?_
        obtain ⟨t20, et20, hf⟩ := Option.bind_eq_some_iff.mp hf
        refine r_iald (dGet dX12_object (j := 65) rfl) et20 ?_
        refine r_bipush (dGet dX12_object (j := 66) rfl) kB_10 ?_
        by_cases c21 : (10 : Int32) ≤ t20
        · rw [if_pos c21] at hf
          refine r_icmp_ge_t (dGet dX12_object (j := 67) rfl) rfl c21 ?_
          exact lX12_object_135 X N d k71 K71 (fX12_object_85 N k71 n) ih v0 v2 v3 v4 v5 h q hf nv0
        · rw [if_neg c21] at hf
          refine r_icmp_ge_f (dGet dX12_object (j := 67) rfl) rfl c21 ?_
          refine r_aload_n (dGet dX12_object (j := 68) rfl) nv0 rfl ?_
          obtain ⟨t22, et22, hf⟩ := Option.bind_eq_some_iff.mp hf
          refine r_getR (dGet dX12_object (j := 69) rfl) F12_103 et22 ?_
          refine r_iload (dGet dX12_object (j := 70) rfl) rfl ?_
          obtain ⟨t23, et23, hf⟩ := Option.bind_eq_some_iff.mp hf
          refine r_iald (dGet dX12_object (j := 71) rfl) et23 ?_
          refine r_iconst (dGet dX12_object (j := 72) rfl) kI_2 ?_
          by_cases c24 : t23 = (2 : Int32)
          · rw [if_pos c24] at hf
            refine r_icmp_eq_t (dGet dX12_object (j := 73) rfl) rfl c24 ?_
            exact lX12_object_135 X N d k71 K71 (fX12_object_85 N k71 n) ih v0 v2 v3 v4 v5 h q hf nv0
          · rw [if_neg c24] at hf
            refine r_icmp_eq_f (dGet dX12_object (j := 73) rfl) rfl c24 ?_
            refine r_goto (dGet dX12_object (j := 74) rfl) rfl ?_
            exact lX12_object_171 X N d k71 K71 (fX12_object_85 N k71 n) ih v0 v2 v3 v4 v5 h q hf nv0
      · rw [if_neg c18] at hf
        refine r_if_ne_t (dGet dX12_object (j := 61) rfl) rfl c18 ?_
        exact lX12_object_171 X N d k71 K71 (fX12_object_85 N k71 n) ih v0 v2 v3 v4 v5 h q hf nv0
def fX12_object_71 (N : Nat) : Nat → Nat → Int32 → Int32 → Int32 → pH → Option (Int32 × pH)
  | 0, _, _, _, _, _ => none
  | n + 1, v0, v2, v3, v4, h => if v4 < 0 then (
  (getI h v0 12 90).bind fun t26 =>
  (putI h v0 12 90 (t26 + v2)).bind fun h27 =>
  (getI h27 v0 12 82).bind fun t28 =>
  (putI h27 v0 12 82 (t28 + (1 : Int32))).bind fun h29 =>
  (getI h29 v0 12 73).bind fun t30 =>
  (putI h29 v0 12 73 (t30 + ((2 : Int32) + v2))).bind fun h31 =>
  (getI h31 v0 12 74).bind fun t32 =>
  (putI h31 v0 12 74 (t32 + ((2 : Int32) + v2))).bind fun h33 =>
  some (v3, h33)) else (
  (getR h v0 12 43).bind fun t34 =>
  (ldI h t34 v4).bind fun t35 =>
  fX12_object_85 N (fX12_object_71 N n) N v0 v2 v3 v4 t35 h)
theorem lX12_object_71 (X : pX) (N d : Nat)  : ∀ (n : Nat) (v0 : Nat) (v2 : Int32) (v3 : Int32) (v4 : Int32) (h : pH) (q : Int32 × pH), fX12_object_71 N n v0 v2 v3 v4 h = some q → ¬ v0 = 4 → Run X (d + 0) 12 false (pCd 9183) 6 (some .int) 71 [(0, .ref v0), (2, .int v2), (3, .int v3), (4, .int v4)] [] h 0 0 (some (.int q.1), q.2, 0, 0) := by
  intro n
  induction n with
  | zero => intro v0 v2 v3 v4 h q hf; cases hf
  | succ n ih =>
    intro v0 v2 v3 v4 h q hf nv0
    unfold fX12_object_71 at hf
    refine r_iload (dGet dX12_object (j := 42) rfl) rfl ?_
    by_cases c25 : v4 < 0
    · rw [if_pos c25] at hf
      refine r_if_lt_t (dGet dX12_object (j := 43) rfl) rfl c25 ?_
      refine r_aload_n (dGet dX12_object (j := 105) rfl) nv0 rfl ?_
      refine r_dup (dGet dX12_object (j := 106) rfl) rfl ?_
      obtain ⟨t26, et26, hf⟩ := Option.bind_eq_some_iff.mp hf
      refine r_getI (dGet dX12_object (j := 107) rfl) F12_566 et26 ?_
      refine r_iload_n (dGet dX12_object (j := 108) rfl) rfl ?_
      refine r_iadd (dGet dX12_object (j := 109) rfl) ?_
      obtain ⟨h27, eh27, hf⟩ := Option.bind_eq_some_iff.mp hf
      refine r_putI (dGet dX12_object (j := 110) rfl) F12_566 rfl rfl eh27 ?_
      refine r_aload_n (dGet dX12_object (j := 111) rfl) nv0 rfl ?_
      refine r_dup (dGet dX12_object (j := 112) rfl) rfl ?_
      obtain ⟨t28, et28, hf⟩ := Option.bind_eq_some_iff.mp hf
      refine r_getI (dGet dX12_object (j := 113) rfl) F12_551 et28 ?_
      refine r_iconst (dGet dX12_object (j := 114) rfl) kI_1 ?_
      refine r_iadd (dGet dX12_object (j := 115) rfl) ?_
      obtain ⟨h29, eh29, hf⟩ := Option.bind_eq_some_iff.mp hf
      refine r_putI (dGet dX12_object (j := 116) rfl) F12_551 rfl rfl eh29 ?_
      refine r_aload_n (dGet dX12_object (j := 117) rfl) nv0 rfl ?_
      refine r_dup (dGet dX12_object (j := 118) rfl) rfl ?_
      obtain ⟨t30, et30, hf⟩ := Option.bind_eq_some_iff.mp hf
      refine r_getI (dGet dX12_object (j := 119) rfl) F12_572 et30 ?_
      refine r_iconst (dGet dX12_object (j := 120) rfl) kI_2 ?_
      refine r_iload_n (dGet dX12_object (j := 121) rfl) rfl ?_
      refine r_iadd (dGet dX12_object (j := 122) rfl) ?_
      refine r_iadd (dGet dX12_object (j := 123) rfl) ?_
      obtain ⟨h31, eh31, hf⟩ := Option.bind_eq_some_iff.mp hf
      refine r_putI (dGet dX12_object (j := 124) rfl) F12_572 rfl rfl eh31 ?_
      refine r_aload_n (dGet dX12_object (j := 125) rfl) nv0 rfl ?_
      refine r_dup (dGet dX12_object (j := 126) rfl) rfl ?_
      obtain ⟨t32, et32, hf⟩ := Option.bind_eq_some_iff.mp hf
      refine r_getI (dGet dX12_object (j := 127) rfl) F12_581 et32 ?_
      refine r_iconst (dGet dX12_object (j := 128) rfl) kI_2 ?_
      refine r_iload_n (dGet dX12_object (j := 129) rfl) rfl ?_
      refine r_iadd (dGet dX12_object (j := 130) rfl) ?_
      refine r_iadd (dGet dX12_object (j := 131) rfl) ?_
      obtain ⟨h33, eh33, hf⟩ := Option.bind_eq_some_iff.mp hf
      refine r_putI (dGet dX12_object (j := 132) rfl) F12_581 rfl rfl eh33 ?_
      refine r_iload_n (dGet dX12_object (j := 133) rfl) rfl ?_
      have hq := Option.some.inj hf
      subst hq
      exact r_iret (dGet dX12_object (j := 134) rfl) rfl rfl
    · rw [if_neg c25] at hf
      refine r_if_lt_f (dGet dX12_object (j := 43) rfl) rfl c25 ?_
      refine r_aload_n (dGet dX12_object (j := 44) rfl) nv0 rfl ?_
      obtain ⟨t34, et34, hf⟩ := Option.bind_eq_some_iff.mp hf
      refine r_getR (dGet dX12_object (j := 45) rfl) F12_94 et34 ?_
      refine r_iload (dGet dX12_object (j := 46) rfl) rfl ?_
      obtain ⟨t35, et35, hf⟩ := Option.bind_eq_some_iff.mp hf
      refine r_iald (dGet dX12_object (j := 47) rfl) et35 ?_
      refine r_istore (lv' := [(5, .int t35), (0, .ref v0), (2, .int v2), (3, .int v3), (4, .int v4)]) (dGet dX12_object (j := 48) rfl) (by decide) rfl ?_
      refine Run.weak [(0, .ref v0), (2, .int v2), (3, .int v3), (4, .int v4), (5, .int t35)] (by simp) (by simp [pNd]) ?_
      exact lX12_object_85 X N d (fX12_object_71 N n) ih N v0 v2 v3 v4 t35 h q hf nv0
def fX12_object_35 (N : Nat) : Nat → Nat → Int32 → Int32 → Int32 → Int32 → pH → Option (Int32 × pH)
  | 0, _, _, _, _, _, _ => none
  | n + 1, v0, v1, v2, v3, v4, h => (getI h v0 12 90).bind fun t36 =>
  if (t36 + v2) ≤ v4 then (
  fX12_object_71 N N v0 v2 v3 v1 h) else (
  (getR h v0 12 91).bind fun t38 =>
  (stI h t38 v4 (0 : Int32)).bind fun h39 =>
  (getR h39 v0 12 92).bind fun t40 =>
  (stZ h39 t40 v4 (0 : Int32)).bind fun h41 =>
  fX12_object_35 N n v0 v1 v2 v3 (v4 + (1 : Int32)) h41)
theorem lX12_object_35 (X : pX) (N d : Nat)  : ∀ (n : Nat) (v0 : Nat) (v1 : Int32) (v2 : Int32) (v3 : Int32) (v4 : Int32) (h : pH) (q : Int32 × pH), fX12_object_35 N n v0 v1 v2 v3 v4 h = some q → ¬ v0 = 4 → Run X (d + 0) 12 false (pCd 9183) 6 (some .int) 35 [(0, .ref v0), (1, .int v1), (2, .int v2), (3, .int v3), (4, .int v4)] [] h 0 0 (some (.int q.1), q.2, 0, 0) := by
  intro n
  induction n with
  | zero => intro v0 v1 v2 v3 v4 h q hf; cases hf
  | succ n ih =>
    intro v0 v1 v2 v3 v4 h q hf nv0
    unfold fX12_object_35 at hf
    refine r_iload (dGet dX12_object (j := 22) rfl) rfl ?_
    refine r_aload_n (dGet dX12_object (j := 23) rfl) nv0 rfl ?_
    obtain ⟨t36, et36, hf⟩ := Option.bind_eq_some_iff.mp hf
    refine r_getI (dGet dX12_object (j := 24) rfl) F12_566 et36 ?_
    refine r_iload_n (dGet dX12_object (j := 25) rfl) rfl ?_
    refine r_iadd (dGet dX12_object (j := 26) rfl) ?_
    by_cases c37 : (t36 + v2) ≤ v4
    · rw [if_pos c37] at hf
      refine r_icmp_ge_t (dGet dX12_object (j := 27) rfl) rfl c37 ?_
      refine r_iload_n (dGet dX12_object (j := 40) rfl) rfl ?_
      refine r_istore (lv' := [(4, .int v1), (0, .ref v0), (1, .int v1), (2, .int v2), (3, .int v3)]) (dGet dX12_object (j := 41) rfl) (by decide) rfl ?_
      refine Run.weak [(0, .ref v0), (2, .int v2), (3, .int v3), (4, .int v1)] (by simp) (by simp [pNd]) ?_
      exact lX12_object_71 X N d N v0 v2 v3 v1 h q hf nv0
    · rw [if_neg c37] at hf
      refine r_icmp_ge_f (dGet dX12_object (j := 27) rfl) rfl c37 ?_
      refine r_aload_n (dGet dX12_object (j := 28) rfl) nv0 rfl ?_
      obtain ⟨t38, et38, hf⟩ := Option.bind_eq_some_iff.mp hf
      refine r_getR (dGet dX12_object (j := 29) rfl) F12_172 et38 ?_
      refine r_iload (dGet dX12_object (j := 30) rfl) rfl ?_
      refine r_iconst (dGet dX12_object (j := 31) rfl) kI_0 ?_
      obtain ⟨h39, eh39, hf⟩ := Option.bind_eq_some_iff.mp hf
      refine r_iast (dGet dX12_object (j := 32) rfl) eh39 ?_
      refine r_aload_n (dGet dX12_object (j := 33) rfl) nv0 rfl ?_
      obtain ⟨t40, et40, hf⟩ := Option.bind_eq_some_iff.mp hf
      refine r_getR (dGet dX12_object (j := 34) rfl) F12_175 et40 ?_
      refine r_iload (dGet dX12_object (j := 35) rfl) rfl ?_
      refine r_iconst (dGet dX12_object (j := 36) rfl) kI_0 ?_
      obtain ⟨h41, eh41, hf⟩ := Option.bind_eq_some_iff.mp hf
      refine r_zast (dGet dX12_object (j := 37) rfl) eh41 ?_
      refine r_iinc (lv' := [(4, .int (v4 + (1 : Int32))), (0, .ref v0), (1, .int v1), (2, .int v2), (3, .int v3)]) (dGet dX12_object (j := 38) rfl) rfl (by decide) kI_1 rfl ?_
      refine r_goto (dGet dX12_object (j := 39) rfl) rfl ?_
      refine Run.weak [(0, .ref v0), (1, .int v1), (2, .int v2), (3, .int v3), (4, .int (v4 + (1 : Int32)))] (by simp) (by simp [pNd]) ?_
      exact ih v0 v1 v2 v3 (v4 + (1 : Int32)) h41 q hf nv0
def fX12_object (N : Nat) (v0 : Nat) (v1 : Int32) (v2 : Int32) (h : pH) : Option (Int32 × pH) := if isO h v0 12 = true then (
  (getI h v0 12 82).bind fun t42 =>
  (getR h v0 12 83).bind fun t43 =>
  (stI h t43 t42 v1).bind fun h44 =>
  (getR h44 v0 12 84).bind fun t45 =>
  (getI h44 v0 12 90).bind fun t46 =>
  (stI h44 t45 t42 t46).bind fun h47 =>
  (getR h47 v0 12 85).bind fun t48 =>
  (stI h47 t48 t42 v2).bind fun h49 =>
  (getI h49 v0 12 90).bind fun t50 =>
  fX12_object_35 N N v0 v1 v2 t42 t50 h49) else none
theorem oX12_object {N : Nat} {v0 : Nat} {v1 : Int32} {v2 : Int32} {h : pH} {q : Int32 × pH} (hf : fX12_object N v0 v1 v2 h = some q) : isO h v0 12 = true := by
  unfold fX12_object at hf
  by_cases hc : isO h v0 12 = true
  · exact hc
  · rw [if_neg hc] at hf; cases hf
theorem cX12_object (X : pX) (N d : Nat) (v0 : Nat) (v1 : Int32) (v2 : Int32) (h : pH) (q : Int32 × pH) (hf : fX12_object N v0 v1 v2 h = some q) : Calls X (d + 0) 309 [.ref v0, .int v1, .int v2] h (some (.int q.1), q.2, 0, 0) := by
  refine Calls.of M309 (Nat.le_of_ble_eq_true rfl) ?_
  show Run X (d + 0) 12 false (pCd 9183) 6 (some .int) 0 [(0, .ref v0), (1, .int v1), (2, .int v2)] [] h 0 0 (some (.int q.1), q.2, 0, 0)
  unfold fX12_object at hf
  by_cases hc : isO h v0 12 = true
  · rw [if_pos hc] at hf
    have nv0 : ¬ v0 = 4 := isO_ne hc
    refine r_aload_n (dGet dX12_object (j := 0) rfl) nv0 rfl ?_
    obtain ⟨t42, et42, hf⟩ := Option.bind_eq_some_iff.mp hf
    refine r_getI (dGet dX12_object (j := 1) rfl) F12_551 et42 ?_
    refine r_istore_n (lv' := [(3, .int t42), (0, .ref v0), (1, .int v1), (2, .int v2)]) (dGet dX12_object (j := 2) rfl) (by decide) rfl ?_
    refine r_aload_n (dGet dX12_object (j := 3) rfl) nv0 rfl ?_
    obtain ⟨t43, et43, hf⟩ := Option.bind_eq_some_iff.mp hf
    refine r_getR (dGet dX12_object (j := 4) rfl) F12_154 et43 ?_
    refine r_iload_n (dGet dX12_object (j := 5) rfl) rfl ?_
    refine r_iload_n (dGet dX12_object (j := 6) rfl) rfl ?_
    obtain ⟨h44, eh44, hf⟩ := Option.bind_eq_some_iff.mp hf
    refine r_iast (dGet dX12_object (j := 7) rfl) eh44 ?_
    refine r_aload_n (dGet dX12_object (j := 8) rfl) nv0 rfl ?_
    obtain ⟨t45, et45, hf⟩ := Option.bind_eq_some_iff.mp hf
    refine r_getR (dGet dX12_object (j := 9) rfl) F12_157 et45 ?_
    refine r_iload_n (dGet dX12_object (j := 10) rfl) rfl ?_
    refine r_aload_n (dGet dX12_object (j := 11) rfl) nv0 rfl ?_
    obtain ⟨t46, et46, hf⟩ := Option.bind_eq_some_iff.mp hf
    refine r_getI (dGet dX12_object (j := 12) rfl) F12_566 et46 ?_
    obtain ⟨h47, eh47, hf⟩ := Option.bind_eq_some_iff.mp hf
    refine r_iast (dGet dX12_object (j := 13) rfl) eh47 ?_
    refine r_aload_n (dGet dX12_object (j := 14) rfl) nv0 rfl ?_
    obtain ⟨t48, et48, hf⟩ := Option.bind_eq_some_iff.mp hf
    refine r_getR (dGet dX12_object (j := 15) rfl) F12_160 et48 ?_
    refine r_iload_n (dGet dX12_object (j := 16) rfl) rfl ?_
    refine r_iload_n (dGet dX12_object (j := 17) rfl) rfl ?_
    obtain ⟨h49, eh49, hf⟩ := Option.bind_eq_some_iff.mp hf
    refine r_iast (dGet dX12_object (j := 18) rfl) eh49 ?_
    refine r_aload_n (dGet dX12_object (j := 19) rfl) nv0 rfl ?_
    obtain ⟨t50, et50, hf⟩ := Option.bind_eq_some_iff.mp hf
    refine r_getI (dGet dX12_object (j := 20) rfl) F12_566 et50 ?_
    refine r_istore (lv' := [(4, .int t50), (3, .int t42), (0, .ref v0), (1, .int v1), (2, .int v2)]) (dGet dX12_object (j := 21) rfl) (by decide) rfl ?_
    refine Run.weak [(0, .ref v0), (1, .int v1), (2, .int v2), (3, .int t42), (4, .int t50)] (by simp) (by simp [pNd]) ?_
    exact lX12_object_35 X N d N v0 v1 v2 t42 t50 h49 q hf nv0
  · rw [if_neg hc] at hf; cases hf
