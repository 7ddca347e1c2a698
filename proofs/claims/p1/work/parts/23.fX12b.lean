def eX12_chain : List (Nat × Instr × Nat) := [(0, .aload_n 0, 1), (1, .invokevirtual 342, 3), (4, .istore_n 1, 1), (5, .aload_n 0, 1), (6, .getfield 283, 3), (9, .ifCond .ge 150, 3), (12, .aload_n 0, 1), (13, .bipush 46, 2), (15, .invokevirtual 295, 3), (18, .ifCond .ne 21, 3), (21, .aload_n 0, 1), (22, .bipush 91, 2), (24, .invokevirtual 295, 3), (27, .ifCond .ne 12, 3), (30, .aload_n 0, 1), (31, .bipush 20, 2), (33, .invokevirtual 330, 3), (36, .ifCond .eq 123, 3), (39, .aload_n 0, 1), (40, .bipush 46, 2), (42, .invokevirtual 295, 3), (45, .ifCond .eq 45, 3), (48, .aload_n 0, 1), (49, .invokevirtual 289, 3), (52, .aload_n 0, 1), (53, .invokevirtual 333, 3), (56, .istore_n 2, 1), (57, .aload_n 0, 1), (58, .bipush 40, 2), (60, .invokevirtual 295, 3), (63, .ifCond .eq 14, 3), (66, .aload_n 0, 1), (67, .bipush 8, 2), (69, .iload_n 1, 1), (70, .iload_n 2, 1), (71, .invokevirtual 345, 3), (74, .goto 12, 3), (77, .aload_n 0, 1), (78, .bipush 6, 2), (80, .iload_n 1, 1), (81, .iconst 0, 1), (82, .iload_n 2, 1), (83, .invokevirtual 308, 3), (86, .istore_n 1, 1), (87, .goto (-82), 3), (90, .aload_n 0, 1), (91, .bipush 91, 2), (93, .invokevirtual 295, 3), (96, .ifCond .eq 41, 3), (99, .aload_n 0, 1), (100, .iconst 1, 1), (101, .invokevirtual 339, 3), (104, .istore_n 2, 1), (105, .iload_n 2, 1), (106, .ifCond .eq 10, 3), (109, .aload_n 0, 1), (110, .invokevirtual 349, 3), (113, .goto 4, 3), (116, .iconst (-1), 1), (117, .istore_n 3, 1), (118, .aload_n 0, 1), (119, .bipush 93, 2), (121, .invokevirtual 352, 3), (124, .aload_n 0, 1), (125, .bipush 7, 2), (127, .iload_n 1, 1), (128, .iload_n 3, 1), (129, .iconst 0, 1), (130, .invokevirtual 308, 3), (133, .istore_n 1, 1), (134, .goto (-129), 3), (137, .aload_n 0, 1), (138, .invokevirtual 289, 3), (141, .aload_n 0, 1), (142, .invokevirtual 333, 3), (145, .istore_n 2, 1), (146, .aload_n 0, 1), (147, .bipush 10, 2), (149, .iload_n 1, 1), (150, .iconst 0, 1), (151, .iload_n 2, 1), (152, .invokevirtual 308, 3), (155, .istore_n 1, 1), (156, .goto (-151), 3), (159, .iload_n 1, 1), (160, .ireturn, 1)]
theorem dX12_chain : dChk (pCd 8239) eX12_chain = true := by decide +kernel
def fX12_chain_117 (N : Nat) (rc : Nat → List Value → pH → Option (Option Value × pH)) (k5 : Nat → Int32 → pH → Option (Int32 × pH)) (v0 : Nat) (v1 : Int32) (s0 : Int32) (h : pH) : Option (Int32 × pH) :=
  (fX12_closes N v0 (93 : Int32) h).bind fun h1 =>
  (fX12_node N v0 (7 : Int32) v1 s0 (0 : Int32) h1).bind fun q2 =>
  k5 v0 q2.1 q2.2
theorem lX12_chain_117 (X : pX) (N d : Nat) (rc : Nat → List Value → pH → Option (Option Value × pH)) (hrc : ∀ mn as h q, rc mn as h = some q → Calls X (d + 4) mn as h (q.1, q.2, 0, 0))  (k5 : Nat → Int32 → pH → Option (Int32 × pH)) (K5 : ∀ (w0 : Nat) (w1 : Int32) (h : pH) (q : Int32 × pH), k5 w0 w1 h = some q → ¬ w0 = 4 → Run X (d + 5) 12 false (pCd 8239) 4 (some .int) 5 [(0, .ref w0), (1, .int w1)] [] h 0 0 (some (.int q.1), q.2, 0, 0)) (v0 : Nat) (v1 : Int32) (s0 : Int32) (h : pH) (q : Int32 × pH) (hf : fX12_chain_117 N rc k5 v0 v1 s0 h = some q) (nv0 : ¬ v0 = 4) : Run X (d + 5) 12 false (pCd 8239) 4 (some .int) 117 [(0, .ref v0), (1, .int v1)] [.int s0] h 0 0 (some (.int q.1), q.2, 0, 0) := by
  unfold fX12_chain_117 at hf
  refine r_istore_n (lv' := [(3, .int s0), (0, .ref v0), (1, .int v1)]) (dGet dX12_chain (j := 59) rfl) (by decide) rfl ?_
  refine r_aload_n (dGet dX12_chain (j := 60) rfl) nv0 rfl ?_
  refine r_bipush (dGet dX12_chain (j := 61) rfl) kB_93 ?_
  obtain ⟨h1, eh1, hf⟩ := Option.bind_eq_some_iff.mp hf
  refine r_virtual (dGet dX12_chain (j := 62) rfl) L12_352 M252 rfl rfl (Nat.le_of_ble_eq_true rfl) (oX12_closes eh1) (cX12_closes X N (d + 0) v0 (93 : Int32) h h1 eh1) ?_
  refine r_aload_n (dGet dX12_chain (j := 63) rfl) nv0 rfl ?_
  refine r_bipush (dGet dX12_chain (j := 64) rfl) kB_7 ?_
  refine r_iload_n (dGet dX12_chain (j := 65) rfl) rfl ?_
  refine r_iload_n (dGet dX12_chain (j := 66) rfl) rfl ?_
  refine r_iconst (dGet dX12_chain (j := 67) rfl) kI_0 ?_
  obtain ⟨q2, eq2, hf⟩ := Option.bind_eq_some_iff.mp hf
  refine r_virtual (dGet dX12_chain (j := 68) rfl) L12_308 M266 rfl rfl (Nat.le_of_ble_eq_true rfl) (oX12_node eq2) (cX12_node X N (d + 4) v0 (7 : Int32) v1 s0 (0 : Int32) h1 q2 eq2) ?_
  refine r_istore_n (lv' := [(1, .int q2.1), (3, .int s0), (0, .ref v0)]) (dGet dX12_chain (j := 69) rfl) (by decide) rfl ?_
  refine r_goto (dGet dX12_chain (j := 70) rfl) rfl ?_
  refine Run.weak [(0, .ref v0), (1, .int q2.1)] (by simp) (by simp [pNd]) ?_
  exact K5 v0 q2.1 q2.2 q hf nv0
def fX12_chain_86 (N : Nat) (rc : Nat → List Value → pH → Option (Option Value × pH)) (k5 : Nat → Int32 → pH → Option (Int32 × pH)) (v0 : Nat) (s0 : Int32) (h : pH) : Option (Int32 × pH) :=
  k5 v0 s0 h
theorem lX12_chain_86 (X : pX) (N d : Nat) (rc : Nat → List Value → pH → Option (Option Value × pH)) (hrc : ∀ mn as h q, rc mn as h = some q → Calls X (d + 4) mn as h (q.1, q.2, 0, 0))  (k5 : Nat → Int32 → pH → Option (Int32 × pH)) (K5 : ∀ (w0 : Nat) (w1 : Int32) (h : pH) (q : Int32 × pH), k5 w0 w1 h = some q → ¬ w0 = 4 → Run X (d + 5) 12 false (pCd 8239) 4 (some .int) 5 [(0, .ref w0), (1, .int w1)] [] h 0 0 (some (.int q.1), q.2, 0, 0)) (v0 : Nat) (s0 : Int32) (h : pH) (q : Int32 × pH) (hf : fX12_chain_86 N rc k5 v0 s0 h = some q) (nv0 : ¬ v0 = 4) : Run X (d + 5) 12 false (pCd 8239) 4 (some .int) 86 [(0, .ref v0)] [.int s0] h 0 0 (some (.int q.1), q.2, 0, 0) := by
  unfold fX12_chain_86 at hf
  refine r_istore_n (lv' := [(1, .int s0), (0, .ref v0)]) (dGet dX12_chain (j := 43) rfl) (by decide) rfl ?_
  refine r_goto (dGet dX12_chain (j := 44) rfl) rfl ?_
  refine Run.weak [(0, .ref v0), (1, .int s0)] (by simp) (by simp [pNd]) ?_
  exact K5 v0 s0 h q hf nv0
def fX12_chain_39 (N : Nat) (rc : Nat → List Value → pH → Option (Option Value × pH)) (k5 : Nat → Int32 → pH → Option (Int32 × pH)) (v0 : Nat) (v1 : Int32) (h : pH) : Option (Int32 × pH) :=
  (fX12_isSign N v0 (46 : Int32) h).bind fun q3 =>
  if q3.1 = 0 then (
  (fX12_isSign N v0 (91 : Int32) q3.2).bind fun q5 =>
  if q5.1 = 0 then (
  (fX12_next N v0 q5.2).bind fun h7 =>
  (fX12_name N v0 h7).bind fun q8 =>
  (fX12_node N v0 (10 : Int32) v1 (0 : Int32) q8.1 q8.2).bind fun q9 =>
  k5 v0 q9.1 q9.2) else (
  (fX12_opens N v0 (1 : Int32) q5.2).bind fun q10 =>
  if q10.1 = 0 then (
  fX12_chain_117 N rc k5 v0 v1 (-1 : Int32) q10.2) else (
  (if isO q10.2 v0 12 = true then some () else none).bind fun _ =>
  (rcI rc 257 [.ref v0] q10.2).bind fun q13 =>
  fX12_chain_117 N rc k5 v0 v1 q13.1 q13.2))) else (
  (fX12_next N v0 q3.2).bind fun h14 =>
  (fX12_name N v0 h14).bind fun q15 =>
  (fX12_isSign N v0 (40 : Int32) q15.2).bind fun q16 =>
  if q16.1 = 0 then (
  (fX12_node N v0 (6 : Int32) v1 (0 : Int32) q15.1 q16.2).bind fun q18 =>
  fX12_chain_86 N rc k5 v0 q18.1 q18.2) else (
  (if isO q16.2 v0 12 = true then some () else none).bind fun _ =>
  (rcI rc 267 [.ref v0, .int (8 : Int32), .int v1, .int q15.1] q16.2).bind fun q20 =>
  fX12_chain_86 N rc k5 v0 q20.1 q20.2))
theorem lX12_chain_39 (X : pX) (N d : Nat) (rc : Nat → List Value → pH → Option (Option Value × pH)) (hrc : ∀ mn as h q, rc mn as h = some q → Calls X (d + 4) mn as h (q.1, q.2, 0, 0))  (k5 : Nat → Int32 → pH → Option (Int32 × pH)) (K5 : ∀ (w0 : Nat) (w1 : Int32) (h : pH) (q : Int32 × pH), k5 w0 w1 h = some q → ¬ w0 = 4 → Run X (d + 5) 12 false (pCd 8239) 4 (some .int) 5 [(0, .ref w0), (1, .int w1)] [] h 0 0 (some (.int q.1), q.2, 0, 0)) (v0 : Nat) (v1 : Int32) (h : pH) (q : Int32 × pH) (hf : fX12_chain_39 N rc k5 v0 v1 h = some q) (nv0 : ¬ v0 = 4) : Run X (d + 5) 12 false (pCd 8239) 4 (some .int) 39 [(0, .ref v0), (1, .int v1)] [] h 0 0 (some (.int q.1), q.2, 0, 0) := by
  unfold fX12_chain_39 at hf
  refine r_aload_n (dGet dX12_chain (j := 18) rfl) nv0 rfl ?_
  refine r_bipush (dGet dX12_chain (j := 19) rfl) kB_46 ?_
  obtain ⟨q3, eq3, hf⟩ := Option.bind_eq_some_iff.mp hf
  refine r_virtual (dGet dX12_chain (j := 20) rfl) L12_295 M247 rfl rfl (Nat.le_of_ble_eq_true rfl) (oX12_isSign eq3) (cX12_isSign X N (d + 4) v0 (46 : Int32) h q3 eq3) ?_
  by_cases c4 : q3.1 = 0
  · rw [if_pos c4] at hf
    refine r_if_eq_t (dGet dX12_chain (j := 21) rfl) rfl c4 ?_
    refine r_aload_n (dGet dX12_chain (j := 45) rfl) nv0 rfl ?_
    refine r_bipush (dGet dX12_chain (j := 46) rfl) kB_91 ?_
    obtain ⟨q5, eq5, hf⟩ := Option.bind_eq_some_iff.mp hf
    refine r_virtual (dGet dX12_chain (j := 47) rfl) L12_295 M247 rfl rfl (Nat.le_of_ble_eq_true rfl) (oX12_isSign eq5) (cX12_isSign X N (d + 4) v0 (91 : Int32) q3.2 q5 eq5) ?_
    by_cases c6 : q5.1 = 0
    · rw [if_pos c6] at hf
      refine r_if_eq_t (dGet dX12_chain (j := 48) rfl) rfl c6 ?_
      refine r_aload_n (dGet dX12_chain (j := 71) rfl) nv0 rfl ?_
      obtain ⟨h7, eh7, hf⟩ := Option.bind_eq_some_iff.mp hf
      refine r_virtual (dGet dX12_chain (j := 72) rfl) L12_289 M233 rfl rfl (Nat.le_of_ble_eq_true rfl) (oX12_next eh7) (cX12_next X N (d + 2) v0 q5.2 h7 eh7) ?_
      refine r_aload_n (dGet dX12_chain (j := 73) rfl) nv0 rfl ?_
      obtain ⟨q8, eq8, hf⟩ := Option.bind_eq_some_iff.mp hf
      refine r_virtual (dGet dX12_chain (j := 74) rfl) L12_333 M246 rfl rfl (Nat.le_of_ble_eq_true rfl) (oX12_name eq8) (cX12_name X N (d + 0) v0 h7 q8 eq8) ?_
      refine r_istore_n (lv' := [(2, .int q8.1), (0, .ref v0), (1, .int v1)]) (dGet dX12_chain (j := 75) rfl) (by decide) rfl ?_
      refine r_aload_n (dGet dX12_chain (j := 76) rfl) nv0 rfl ?_
      refine r_bipush (dGet dX12_chain (j := 77) rfl) kB_10 ?_
      refine r_iload_n (dGet dX12_chain (j := 78) rfl) rfl ?_
      refine r_iconst (dGet dX12_chain (j := 79) rfl) kI_0 ?_
      refine r_iload_n (dGet dX12_chain (j := 80) rfl) rfl ?_
      obtain ⟨q9, eq9, hf⟩ := Option.bind_eq_some_iff.mp hf
      refine r_virtual (dGet dX12_chain (j := 81) rfl) L12_308 M266 rfl rfl (Nat.le_of_ble_eq_true rfl) (oX12_node eq9) (cX12_node X N (d + 4) v0 (10 : Int32) v1 (0 : Int32) q8.1 q8.2 q9 eq9) ?_
      refine r_istore_n (lv' := [(1, .int q9.1), (2, .int q8.1), (0, .ref v0)]) (dGet dX12_chain (j := 82) rfl) (by decide) rfl ?_
      refine r_goto (dGet dX12_chain (j := 83) rfl) rfl ?_
      refine Run.weak [(0, .ref v0), (1, .int q9.1)] (by simp) (by simp [pNd]) ?_
      exact K5 v0 q9.1 q9.2 q hf nv0
    · rw [if_neg c6] at hf
      refine r_if_eq_f (dGet dX12_chain (j := 48) rfl) rfl c6 ?_
      refine r_aload_n (dGet dX12_chain (j := 49) rfl) nv0 rfl ?_
      refine r_iconst (dGet dX12_chain (j := 50) rfl) kI_1 ?_
      obtain ⟨q10, eq10, hf⟩ := Option.bind_eq_some_iff.mp hf
      refine r_virtual (dGet dX12_chain (j := 51) rfl) L12_339 M248 rfl rfl (Nat.le_of_ble_eq_true rfl) (oX12_opens eq10) (cX12_opens X N (d + 1) v0 (1 : Int32) q5.2 q10 eq10) ?_
      refine r_istore_n (lv' := [(2, .int q10.1), (0, .ref v0), (1, .int v1)]) (dGet dX12_chain (j := 52) rfl) (by decide) rfl ?_
      refine r_iload_n (dGet dX12_chain (j := 53) rfl) rfl ?_
      by_cases c11 : q10.1 = 0
      · rw [if_pos c11] at hf
        refine r_if_eq_t (dGet dX12_chain (j := 54) rfl) rfl c11 ?_
        refine r_iconst (dGet dX12_chain (j := 58) rfl) kI_m1 ?_
        refine Run.weak [(0, .ref v0), (1, .int v1)] (by simp) (by simp [pNd]) ?_
        exact lX12_chain_117 X N d rc hrc k5 K5 v0 v1 (-1 : Int32) q10.2 q hf nv0
      · rw [if_neg c11] at hf
        refine r_if_eq_f (dGet dX12_chain (j := 54) rfl) rfl c11 ?_
        refine r_aload_n (dGet dX12_chain (j := 55) rfl) nv0 rfl ?_
        obtain ⟨_, ec12, hf⟩ := Option.bind_eq_some_iff.mp hf
        obtain ⟨q13, eq13, hf⟩ := Option.bind_eq_some_iff.mp hf
        refine r_virtual (dGet dX12_chain (j := 56) rfl) L12_349 M257 rfl rfl (Nat.le_of_ble_eq_true rfl) (guard_of ec12) (rcI_calls hrc eq13) ?_
        refine r_goto (dGet dX12_chain (j := 57) rfl) rfl ?_
        refine Run.weak [(0, .ref v0), (1, .int v1)] (by simp) (by simp [pNd]) ?_
        exact lX12_chain_117 X N d rc hrc k5 K5 v0 v1 q13.1 q13.2 q hf nv0
  · rw [if_neg c4] at hf
    refine r_if_eq_f (dGet dX12_chain (j := 21) rfl) rfl c4 ?_
    refine r_aload_n (dGet dX12_chain (j := 22) rfl) nv0 rfl ?_
    obtain ⟨h14, eh14, hf⟩ := Option.bind_eq_some_iff.mp hf
    refine r_virtual (dGet dX12_chain (j := 23) rfl) L12_289 M233 rfl rfl (Nat.le_of_ble_eq_true rfl) (oX12_next eh14) (cX12_next X N (d + 2) v0 q3.2 h14 eh14) ?_
    refine r_aload_n (dGet dX12_chain (j := 24) rfl) nv0 rfl ?_
    obtain ⟨q15, eq15, hf⟩ := Option.bind_eq_some_iff.mp hf
    refine r_virtual (dGet dX12_chain (j := 25) rfl) L12_333 M246 rfl rfl (Nat.le_of_ble_eq_true rfl) (oX12_name eq15) (cX12_name X N (d + 0) v0 h14 q15 eq15) ?_
    refine r_istore_n (lv' := [(2, .int q15.1), (0, .ref v0), (1, .int v1)]) (dGet dX12_chain (j := 26) rfl) (by decide) rfl ?_
    refine r_aload_n (dGet dX12_chain (j := 27) rfl) nv0 rfl ?_
    refine r_bipush (dGet dX12_chain (j := 28) rfl) kB_40 ?_
    obtain ⟨q16, eq16, hf⟩ := Option.bind_eq_some_iff.mp hf
    refine r_virtual (dGet dX12_chain (j := 29) rfl) L12_295 M247 rfl rfl (Nat.le_of_ble_eq_true rfl) (oX12_isSign eq16) (cX12_isSign X N (d + 4) v0 (40 : Int32) q15.2 q16 eq16) ?_
    by_cases c17 : q16.1 = 0
    · rw [if_pos c17] at hf
      refine r_if_eq_t (dGet dX12_chain (j := 30) rfl) rfl c17 ?_
      refine r_aload_n (dGet dX12_chain (j := 37) rfl) nv0 rfl ?_
      refine r_bipush (dGet dX12_chain (j := 38) rfl) kB_6 ?_
      refine r_iload_n (dGet dX12_chain (j := 39) rfl) rfl ?_
      refine r_iconst (dGet dX12_chain (j := 40) rfl) kI_0 ?_
      refine r_iload_n (dGet dX12_chain (j := 41) rfl) rfl ?_
      obtain ⟨q18, eq18, hf⟩ := Option.bind_eq_some_iff.mp hf
      refine r_virtual (dGet dX12_chain (j := 42) rfl) L12_308 M266 rfl rfl (Nat.le_of_ble_eq_true rfl) (oX12_node eq18) (cX12_node X N (d + 4) v0 (6 : Int32) v1 (0 : Int32) q15.1 q16.2 q18 eq18) ?_
      refine Run.weak [(0, .ref v0)] (by simp) (by simp [pNd]) ?_
      exact lX12_chain_86 X N d rc hrc k5 K5 v0 q18.1 q18.2 q hf nv0
    · rw [if_neg c17] at hf
      refine r_if_eq_f (dGet dX12_chain (j := 30) rfl) rfl c17 ?_
      refine r_aload_n (dGet dX12_chain (j := 31) rfl) nv0 rfl ?_
      refine r_bipush (dGet dX12_chain (j := 32) rfl) kB_8 ?_
      refine r_iload_n (dGet dX12_chain (j := 33) rfl) rfl ?_
      refine r_iload_n (dGet dX12_chain (j := 34) rfl) rfl ?_
      obtain ⟨_, ec19, hf⟩ := Option.bind_eq_some_iff.mp hf
      obtain ⟨q20, eq20, hf⟩ := Option.bind_eq_some_iff.mp hf
      refine r_virtual (dGet dX12_chain (j := 35) rfl) L12_345 M267 rfl rfl (Nat.le_of_ble_eq_true rfl) (guard_of ec19) (rcI_calls hrc eq20) ?_
      refine r_goto (dGet dX12_chain (j := 36) rfl) rfl ?_
      refine Run.weak [(0, .ref v0)] (by simp) (by simp [pNd]) ?_
      exact lX12_chain_86 X N d rc hrc k5 K5 v0 q20.1 q20.2 q hf nv0
def fX12_chain_5 (N : Nat) (rc : Nat → List Value → pH → Option (Option Value × pH)) : Nat → Nat → Int32 → pH → Option (Int32 × pH)
  | 0, _, _, _ => none
  | n + 1, v0, v1, h => (getI h v0 12 9).bind fun t21 =>
  if 0 ≤ t21 then (
  some (v1, h)) else (
  (fX12_isSign N v0 (46 : Int32) h).bind fun q23 =>
  if q23.1 = 0 then (
  (fX12_isSign N v0 (91 : Int32) q23.2).bind fun q25 =>
  if q25.1 = 0 then (
  (fX12_isKey N v0 (20 : Int32) q25.2).bind fun q27 =>
  if q27.1 = 0 then (
  some (v1, q27.2)) else (
  fX12_chain_39 N rc (fX12_chain_5 N rc n) v0 v1 q27.2)) else (
  fX12_chain_39 N rc (fX12_chain_5 N rc n) v0 v1 q25.2)) else (
  fX12_chain_39 N rc (fX12_chain_5 N rc n) v0 v1 q23.2))
theorem lX12_chain_5 (X : pX) (N d : Nat) (rc : Nat → List Value → pH → Option (Option Value × pH)) (hrc : ∀ mn as h q, rc mn as h = some q → Calls X (d + 4) mn as h (q.1, q.2, 0, 0))  : ∀ (n : Nat) (v0 : Nat) (v1 : Int32) (h : pH) (q : Int32 × pH), fX12_chain_5 N rc n v0 v1 h = some q → ¬ v0 = 4 → Run X (d + 5) 12 false (pCd 8239) 4 (some .int) 5 [(0, .ref v0), (1, .int v1)] [] h 0 0 (some (.int q.1), q.2, 0, 0) := by
  intro n
  induction n with
  | zero => intro v0 v1 h q hf; cases hf
  | succ n ih =>
    intro v0 v1 h q hf nv0
    unfold fX12_chain_5 at hf
    refine r_aload_n (dGet dX12_chain (j := 3) rfl) nv0 rfl ?_
    obtain ⟨t21, et21, hf⟩ := Option.bind_eq_some_iff.mp hf
    refine r_getI (dGet dX12_chain (j := 4) rfl) F12_283 et21 ?_
    by_cases c22 : 0 ≤ t21
    · rw [if_pos c22] at hf
      refine r_if_ge_t (dGet dX12_chain (j := 5) rfl) rfl c22 ?_
      refine r_iload_n (dGet dX12_chain (j := 84) rfl) rfl ?_
      have hq := Option.some.inj hf
      subst hq
      exact r_iret (dGet dX12_chain (j := 85) rfl) rfl rfl
    · rw [if_neg c22] at hf
      refine r_if_ge_f (dGet dX12_chain (j := 5) rfl) rfl c22 ?_
      refine r_aload_n (dGet dX12_chain (j := 6) rfl) nv0 rfl ?_
      refine r_bipush (dGet dX12_chain (j := 7) rfl) kB_46 ?_
      obtain ⟨q23, eq23, hf⟩ := Option.bind_eq_some_iff.mp hf
      refine r_virtual (dGet dX12_chain (j := 8) rfl) L12_295 M247 rfl rfl (Nat.le_of_ble_eq_true rfl) (oX12_isSign eq23) (cX12_isSign X N (d + 4) v0 (46 : Int32) h q23 eq23) ?_
      by_cases c24 : q23.1 = 0
      · rw [if_pos c24] at hf
        refine r_if_ne_f (dGet dX12_chain (j := 9) rfl) rfl c24 ?_
        refine r_aload_n (dGet dX12_chain (j := 10) rfl) nv0 rfl ?_
        refine r_bipush (dGet dX12_chain (j := 11) rfl) kB_91 ?_
        obtain ⟨q25, eq25, hf⟩ := Option.bind_eq_some_iff.mp hf
        refine r_virtual (dGet dX12_chain (j := 12) rfl) L12_295 M247 rfl rfl (Nat.le_of_ble_eq_true rfl) (oX12_isSign eq25) (cX12_isSign X N (d + 4) v0 (91 : Int32) q23.2 q25 eq25) ?_
        by_cases c26 : q25.1 = 0
        · rw [if_pos c26] at hf
          refine r_if_ne_f (dGet dX12_chain (j := 13) rfl) rfl c26 ?_
          refine r_aload_n (dGet dX12_chain (j := 14) rfl) nv0 rfl ?_
          refine r_bipush (dGet dX12_chain (j := 15) rfl) kB_20 ?_
          obtain ⟨q27, eq27, hf⟩ := Option.bind_eq_some_iff.mp hf
          refine r_virtual (dGet dX12_chain (j := 16) rfl) L12_330 M242 rfl rfl (Nat.le_of_ble_eq_true rfl) (oX12_isKey eq27) (cX12_isKey X N (d + 4) v0 (20 : Int32) q25.2 q27 eq27) ?_
          by_cases c28 : q27.1 = 0
          · rw [if_pos c28] at hf
            refine r_if_eq_t (dGet dX12_chain (j := 17) rfl) rfl c28 ?_
            refine r_iload_n (dGet dX12_chain (j := 84) rfl) rfl ?_
            have hq := Option.some.inj hf
            subst hq
            exact r_iret (dGet dX12_chain (j := 85) rfl) rfl rfl
          · rw [if_neg c28] at hf
            refine r_if_eq_f (dGet dX12_chain (j := 17) rfl) rfl c28 ?_
            exact lX12_chain_39 X N d rc hrc (fX12_chain_5 N rc n) ih v0 v1 q27.2 q hf nv0
        · rw [if_neg c26] at hf
          refine r_if_ne_t (dGet dX12_chain (j := 13) rfl) rfl c26 ?_
          exact lX12_chain_39 X N d rc hrc (fX12_chain_5 N rc n) ih v0 v1 q25.2 q hf nv0
      · rw [if_neg c24] at hf
        refine r_if_ne_t (dGet dX12_chain (j := 9) rfl) rfl c24 ?_
        exact lX12_chain_39 X N d rc hrc (fX12_chain_5 N rc n) ih v0 v1 q23.2 q hf nv0
def fX12_chain (N : Nat) (rc : Nat → List Value → pH → Option (Option Value × pH)) (v0 : Nat) (h : pH) : Option (Int32 × pH) := if isO h v0 12 = true then (
  (if isO h v0 12 = true then some () else none).bind fun _ =>
  (rcI rc 265 [.ref v0] h).bind fun q30 =>
  fX12_chain_5 N rc N v0 q30.1 q30.2) else none
theorem oX12_chain {N : Nat} {rc : Nat → List Value → pH → Option (Option Value × pH)} {v0 : Nat} {h : pH} {q : Int32 × pH} (hf : fX12_chain N rc v0 h = some q) : isO h v0 12 = true := by
  unfold fX12_chain at hf
  by_cases hc : isO h v0 12 = true
  · exact hc
  · rw [if_neg hc] at hf; cases hf
theorem cX12_chain (X : pX) (N d : Nat) (rc : Nat → List Value → pH → Option (Option Value × pH)) (hrc : ∀ mn as h q, rc mn as h = some q → Calls X (d + 4) mn as h (q.1, q.2, 0, 0)) (v0 : Nat) (h : pH) (q : Int32 × pH) (hf : fX12_chain N rc v0 h = some q) : Calls X (d + 5) 264 [.ref v0] h (some (.int q.1), q.2, 0, 0) := by
  refine Calls.of M264 (Nat.le_of_ble_eq_true rfl) ?_
  show Run X (d + 5) 12 false (pCd 8239) 4 (some .int) 0 [(0, .ref v0)] [] h 0 0 (some (.int q.1), q.2, 0, 0)
  unfold fX12_chain at hf
  by_cases hc : isO h v0 12 = true
  · rw [if_pos hc] at hf
    have nv0 : ¬ v0 = 4 := isO_ne hc
    refine r_aload_n (dGet dX12_chain (j := 0) rfl) nv0 rfl ?_
    obtain ⟨_, ec29, hf⟩ := Option.bind_eq_some_iff.mp hf
    obtain ⟨q30, eq30, hf⟩ := Option.bind_eq_some_iff.mp hf
    refine r_virtual (dGet dX12_chain (j := 1) rfl) L12_342 M265 rfl rfl (Nat.le_of_ble_eq_true rfl) (guard_of ec29) (rcI_calls hrc eq30) ?_
    refine r_istore_n (lv' := [(1, .int q30.1), (0, .ref v0)]) (dGet dX12_chain (j := 2) rfl) (by decide) rfl ?_
    refine Run.weak [(0, .ref v0), (1, .int q30.1)] (by simp) (by simp [pNd]) ?_
    exact lX12_chain_5 X N d rc hrc N v0 q30.1 q30.2 q hf nv0
  · rw [if_neg hc] at hf; cases hf
def eX12_single : List (Nat × Instr × Nat) := [(0, .aload_n 0, 1), (1, .bipush 45, 2), (3, .invokevirtual 295, 3), (6, .ifCond .ne 17, 3), (9, .aload_n 0, 1), (10, .bipush 33, 2), (12, .invokevirtual 295, 3), (15, .ifCond .ne 8, 3), (18, .aload_n 0, 1), (19, .invokevirtual 336, 3), (22, .ireturn, 1), (23, .aload_n 0, 1), (24, .bipush 45, 2), (26, .invokevirtual 295, 3), (29, .istore_n 1, 1), (30, .aload_n 0, 1), (31, .iconst 1, 1), (32, .invokevirtual 339, 3), (35, .ifCond .ne 5, 3), (38, .iconst (-1), 1), (39, .ireturn, 1), (40, .aload_n 0, 1), (41, .invokevirtual 324, 3), (44, .istore_n 2, 1), (45, .aload_n 0, 1), (46, .getfield 283, 3), (49, .ifCond .ge 13, 3), (52, .aload_n 0, 1), (53, .dup, 1), (54, .getfield 292, 3), (57, .iconst 1, 1), (58, .isub, 1), (59, .putfield 292, 3), (62, .aload_n 0, 1), (63, .iload_n 1, 1), (64, .ifCond .eq 8, 3), (67, .bipush 13, 2), (69, .goto 5, 3), (72, .bipush 14, 2), (74, .iload_n 2, 1), (75, .iconst 0, 1), (76, .iconst 0, 1), (77, .invokevirtual 308, 3), (80, .ireturn, 1)]
theorem dX12_single : dChk (pCd 8235) eX12_single = true := by decide +kernel
def fX12_single_74 (N : Nat) (rc : Nat → List Value → pH → Option (Option Value × pH)) (v2 : Int32) (s0 : Nat) (s1 : Int32) (h : pH) : Option (Int32 × pH) :=
  (fX12_node N s0 s1 v2 (0 : Int32) (0 : Int32) h).bind fun q1 =>
  some (q1.1, q1.2)
theorem lX12_single_74 (X : pX) (N d : Nat) (rc : Nat → List Value → pH → Option (Option Value × pH)) (hrc : ∀ mn as h q, rc mn as h = some q → Calls X (d + 4) mn as h (q.1, q.2, 0, 0))  (v2 : Int32) (s0 : Nat) (s1 : Int32) (h : pH) (q : Int32 × pH) (hf : fX12_single_74 N rc v2 s0 s1 h = some q) (ns0 : ¬ s0 = 4) : Run X (d + 5) 12 false (pCd 8235) 3 (some .int) 74 [(2, .int v2)] [.int s1, .ref s0] h 0 0 (some (.int q.1), q.2, 0, 0) := by
  unfold fX12_single_74 at hf
  refine r_iload_n (dGet dX12_single (j := 39) rfl) rfl ?_
  refine r_iconst (dGet dX12_single (j := 40) rfl) kI_0 ?_
  refine r_iconst (dGet dX12_single (j := 41) rfl) kI_0 ?_
  obtain ⟨q1, eq1, hf⟩ := Option.bind_eq_some_iff.mp hf
  refine r_virtual (dGet dX12_single (j := 42) rfl) L12_308 M266 rfl rfl (Nat.le_of_ble_eq_true rfl) (oX12_node eq1) (cX12_node X N (d + 4) s0 s1 v2 (0 : Int32) (0 : Int32) h q1 eq1) ?_
  have hq := Option.some.inj hf
  subst hq
  exact r_iret (dGet dX12_single (j := 43) rfl) rfl rfl
def fX12_single_62 (N : Nat) (rc : Nat → List Value → pH → Option (Option Value × pH)) (v0 : Nat) (v1 : Int32) (v2 : Int32) (h : pH) : Option (Int32 × pH) :=
  if v1 = 0 then (
  fX12_single_74 N rc v2 v0 (14 : Int32) h) else (
  fX12_single_74 N rc v2 v0 (13 : Int32) h)
theorem lX12_single_62 (X : pX) (N d : Nat) (rc : Nat → List Value → pH → Option (Option Value × pH)) (hrc : ∀ mn as h q, rc mn as h = some q → Calls X (d + 4) mn as h (q.1, q.2, 0, 0))  (v0 : Nat) (v1 : Int32) (v2 : Int32) (h : pH) (q : Int32 × pH) (hf : fX12_single_62 N rc v0 v1 v2 h = some q) (nv0 : ¬ v0 = 4) : Run X (d + 5) 12 false (pCd 8235) 3 (some .int) 62 [(0, .ref v0), (1, .int v1), (2, .int v2)] [] h 0 0 (some (.int q.1), q.2, 0, 0) := by
  unfold fX12_single_62 at hf
  refine r_aload_n (dGet dX12_single (j := 33) rfl) nv0 rfl ?_
  refine r_iload_n (dGet dX12_single (j := 34) rfl) rfl ?_
  by_cases c2 : v1 = 0
  · rw [if_pos c2] at hf
    refine r_if_eq_t (dGet dX12_single (j := 35) rfl) rfl c2 ?_
    refine r_bipush (dGet dX12_single (j := 38) rfl) kB_14 ?_
    refine Run.weak [(2, .int v2)] (by simp) (by simp [pNd]) ?_
    exact lX12_single_74 X N d rc hrc v2 v0 (14 : Int32) h q hf nv0
  · rw [if_neg c2] at hf
    refine r_if_eq_f (dGet dX12_single (j := 35) rfl) rfl c2 ?_
    refine r_bipush (dGet dX12_single (j := 36) rfl) kB_13 ?_
    refine r_goto (dGet dX12_single (j := 37) rfl) rfl ?_
    refine Run.weak [(2, .int v2)] (by simp) (by simp [pNd]) ?_
    exact lX12_single_74 X N d rc hrc v2 v0 (13 : Int32) h q hf nv0
def fX12_single_23 (N : Nat) (rc : Nat → List Value → pH → Option (Option Value × pH)) (v0 : Nat) (h : pH) : Option (Int32 × pH) :=
  (fX12_isSign N v0 (45 : Int32) h).bind fun q3 =>
  (fX12_opens N v0 (1 : Int32) q3.2).bind fun q4 =>
  if q4.1 = 0 then (
  some ((-1 : Int32), q4.2)) else (
  (if isO q4.2 v0 12 = true then some () else none).bind fun _ =>
  (rcI rc 263 [.ref v0] q4.2).bind fun q7 =>
  (getI q7.2 v0 12 9).bind fun t8 =>
  if 0 ≤ t8 then (
  fX12_single_62 N rc v0 q3.1 q7.1 q7.2) else (
  (getI q7.2 v0 12 10).bind fun t10 =>
  (putI q7.2 v0 12 10 (t10 - (1 : Int32))).bind fun h11 =>
  fX12_single_62 N rc v0 q3.1 q7.1 h11))
theorem lX12_single_23 (X : pX) (N d : Nat) (rc : Nat → List Value → pH → Option (Option Value × pH)) (hrc : ∀ mn as h q, rc mn as h = some q → Calls X (d + 4) mn as h (q.1, q.2, 0, 0))  (v0 : Nat) (h : pH) (q : Int32 × pH) (hf : fX12_single_23 N rc v0 h = some q) (nv0 : ¬ v0 = 4) : Run X (d + 5) 12 false (pCd 8235) 3 (some .int) 23 [(0, .ref v0)] [] h 0 0 (some (.int q.1), q.2, 0, 0) := by
  unfold fX12_single_23 at hf
  refine r_aload_n (dGet dX12_single (j := 11) rfl) nv0 rfl ?_
  refine r_bipush (dGet dX12_single (j := 12) rfl) kB_45 ?_
  obtain ⟨q3, eq3, hf⟩ := Option.bind_eq_some_iff.mp hf
  refine r_virtual (dGet dX12_single (j := 13) rfl) L12_295 M247 rfl rfl (Nat.le_of_ble_eq_true rfl) (oX12_isSign eq3) (cX12_isSign X N (d + 4) v0 (45 : Int32) h q3 eq3) ?_
  refine r_istore_n (lv' := [(1, .int q3.1), (0, .ref v0)]) (dGet dX12_single (j := 14) rfl) (by decide) rfl ?_
  refine r_aload_n (dGet dX12_single (j := 15) rfl) nv0 rfl ?_
  refine r_iconst (dGet dX12_single (j := 16) rfl) kI_1 ?_
  obtain ⟨q4, eq4, hf⟩ := Option.bind_eq_some_iff.mp hf
  refine r_virtual (dGet dX12_single (j := 17) rfl) L12_339 M248 rfl rfl (Nat.le_of_ble_eq_true rfl) (oX12_opens eq4) (cX12_opens X N (d + 1) v0 (1 : Int32) q3.2 q4 eq4) ?_
  by_cases c5 : q4.1 = 0
  · rw [if_pos c5] at hf
    refine r_if_ne_f (dGet dX12_single (j := 18) rfl) rfl c5 ?_
    refine r_iconst (dGet dX12_single (j := 19) rfl) kI_m1 ?_
    have hq := Option.some.inj hf
    subst hq
    exact r_iret (dGet dX12_single (j := 20) rfl) rfl rfl
  · rw [if_neg c5] at hf
    refine r_if_ne_t (dGet dX12_single (j := 18) rfl) rfl c5 ?_
    refine r_aload_n (dGet dX12_single (j := 21) rfl) nv0 rfl ?_
    obtain ⟨_, ec6, hf⟩ := Option.bind_eq_some_iff.mp hf
    obtain ⟨q7, eq7, hf⟩ := Option.bind_eq_some_iff.mp hf
    refine r_virtual (dGet dX12_single (j := 22) rfl) L12_324 M263 rfl rfl (Nat.le_of_ble_eq_true rfl) (guard_of ec6) (rcI_calls hrc eq7) ?_
    refine r_istore_n (lv' := [(2, .int q7.1), (1, .int q3.1), (0, .ref v0)]) (dGet dX12_single (j := 23) rfl) (by decide) rfl ?_
    refine r_aload_n (dGet dX12_single (j := 24) rfl) nv0 rfl ?_
    obtain ⟨t8, et8, hf⟩ := Option.bind_eq_some_iff.mp hf
    refine r_getI (dGet dX12_single (j := 25) rfl) F12_283 et8 ?_
    by_cases c9 : 0 ≤ t8
    · rw [if_pos c9] at hf
      refine r_if_ge_t (dGet dX12_single (j := 26) rfl) rfl c9 ?_
      refine Run.weak [(0, .ref v0), (1, .int q3.1), (2, .int q7.1)] (by simp) (by simp [pNd]) ?_
      exact lX12_single_62 X N d rc hrc v0 q3.1 q7.1 q7.2 q hf nv0
    · rw [if_neg c9] at hf
      refine r_if_ge_f (dGet dX12_single (j := 26) rfl) rfl c9 ?_
      refine r_aload_n (dGet dX12_single (j := 27) rfl) nv0 rfl ?_
      refine r_dup (dGet dX12_single (j := 28) rfl) rfl ?_
      obtain ⟨t10, et10, hf⟩ := Option.bind_eq_some_iff.mp hf
      refine r_getI (dGet dX12_single (j := 29) rfl) F12_292 et10 ?_
      refine r_iconst (dGet dX12_single (j := 30) rfl) kI_1 ?_
      refine r_isub (dGet dX12_single (j := 31) rfl) ?_
      obtain ⟨h11, eh11, hf⟩ := Option.bind_eq_some_iff.mp hf
      refine r_putI (dGet dX12_single (j := 32) rfl) F12_292 rfl rfl eh11 ?_
      refine Run.weak [(0, .ref v0), (1, .int q3.1), (2, .int q7.1)] (by simp) (by simp [pNd]) ?_
      exact lX12_single_62 X N d rc hrc v0 q3.1 q7.1 h11 q hf nv0
def fX12_single (N : Nat) (rc : Nat → List Value → pH → Option (Option Value × pH)) (v0 : Nat) (h : pH) : Option (Int32 × pH) := if isO h v0 12 = true then (
  (fX12_isSign N v0 (45 : Int32) h).bind fun q12 =>
  if q12.1 = 0 then (
  (fX12_isSign N v0 (33 : Int32) q12.2).bind fun q14 =>
  if q14.1 = 0 then (
  (if isO q14.2 v0 12 = true then some () else none).bind fun _ =>
  (rcI rc 264 [.ref v0] q14.2).bind fun q17 =>
  some (q17.1, q17.2)) else (
  fX12_single_23 N rc v0 q14.2)) else (
  fX12_single_23 N rc v0 q12.2)) else none
theorem oX12_single {N : Nat} {rc : Nat → List Value → pH → Option (Option Value × pH)} {v0 : Nat} {h : pH} {q : Int32 × pH} (hf : fX12_single N rc v0 h = some q) : isO h v0 12 = true := by
  unfold fX12_single at hf
  by_cases hc : isO h v0 12 = true
  · exact hc
  · rw [if_neg hc] at hf; cases hf
theorem cX12_single (X : pX) (N d : Nat) (rc : Nat → List Value → pH → Option (Option Value × pH)) (hrc : ∀ mn as h q, rc mn as h = some q → Calls X (d + 4) mn as h (q.1, q.2, 0, 0)) (v0 : Nat) (h : pH) (q : Int32 × pH) (hf : fX12_single N rc v0 h = some q) : Calls X (d + 5) 263 [.ref v0] h (some (.int q.1), q.2, 0, 0) := by
  refine Calls.of M263 (Nat.le_of_ble_eq_true rfl) ?_
  show Run X (d + 5) 12 false (pCd 8235) 3 (some .int) 0 [(0, .ref v0)] [] h 0 0 (some (.int q.1), q.2, 0, 0)
  unfold fX12_single at hf
  by_cases hc : isO h v0 12 = true
  · rw [if_pos hc] at hf
    have nv0 : ¬ v0 = 4 := isO_ne hc
    refine r_aload_n (dGet dX12_single (j := 0) rfl) nv0 rfl ?_
    refine r_bipush (dGet dX12_single (j := 1) rfl) kB_45 ?_
    obtain ⟨q12, eq12, hf⟩ := Option.bind_eq_some_iff.mp hf
    refine r_virtual (dGet dX12_single (j := 2) rfl) L12_295 M247 rfl rfl (Nat.le_of_ble_eq_true rfl) (oX12_isSign eq12) (cX12_isSign X N (d + 4) v0 (45 : Int32) h q12 eq12) ?_
    by_cases c13 : q12.1 = 0
    · rw [if_pos c13] at hf
      refine r_if_ne_f (dGet dX12_single (j := 3) rfl) rfl c13 ?_
      refine r_aload_n (dGet dX12_single (j := 4) rfl) nv0 rfl ?_
      refine r_bipush (dGet dX12_single (j := 5) rfl) kB_33 ?_
      obtain ⟨q14, eq14, hf⟩ := Option.bind_eq_some_iff.mp hf
      refine r_virtual (dGet dX12_single (j := 6) rfl) L12_295 M247 rfl rfl (Nat.le_of_ble_eq_true rfl) (oX12_isSign eq14) (cX12_isSign X N (d + 4) v0 (33 : Int32) q12.2 q14 eq14) ?_
      by_cases c15 : q14.1 = 0
      · rw [if_pos c15] at hf
        refine r_if_ne_f (dGet dX12_single (j := 7) rfl) rfl c15 ?_
        refine r_aload_n (dGet dX12_single (j := 8) rfl) nv0 rfl ?_
        obtain ⟨_, ec16, hf⟩ := Option.bind_eq_some_iff.mp hf
        obtain ⟨q17, eq17, hf⟩ := Option.bind_eq_some_iff.mp hf
        refine r_virtual (dGet dX12_single (j := 9) rfl) L12_336 M264 rfl rfl (Nat.le_of_ble_eq_true rfl) (guard_of ec16) (rcI_calls hrc eq17) ?_
        have hq := Option.some.inj hf
        subst hq
        exact r_iret (dGet dX12_single (j := 10) rfl) rfl rfl
      · rw [if_neg c15] at hf
        refine r_if_ne_t (dGet dX12_single (j := 7) rfl) rfl c15 ?_
        exact lX12_single_23 X N d rc hrc v0 q14.2 q hf nv0
    · rw [if_neg c13] at hf
      refine r_if_ne_t (dGet dX12_single (j := 3) rfl) rfl c13 ?_
      exact lX12_single_23 X N d rc hrc v0 q12.2 q hf nv0
  · rw [if_neg hc] at hf; cases hf
def eX12_product : List (Nat × Instr × Nat) := [(0, .aload_n 0, 1), (1, .invokevirtual 324, 3), (4, .istore_n 1, 1), (5, .aload_n 0, 1), (6, .bipush 42, 2), (8, .invokevirtual 295, 3), (11, .ifCond .ne 21, 3), (14, .aload_n 0, 1), (15, .bipush 47, 2), (17, .invokevirtual 295, 3), (20, .ifCond .ne 12, 3), (23, .aload_n 0, 1), (24, .bipush 37, 2), (26, .invokevirtual 295, 3), (29, .ifCond .eq 12, 3), (32, .aload_n 0, 1), (33, .iload_n 1, 1), (34, .invokevirtual 327, 3), (37, .istore_n 1, 1), (38, .goto (-33), 3), (41, .iload_n 1, 1), (42, .ireturn, 1)]
theorem dX12_product : dChk (pCd 8231) eX12_product = true := by decide +kernel
def fX12_product_32 (N : Nat) (rc : Nat → List Value → pH → Option (Option Value × pH)) (k5 : Nat → Int32 → pH → Option (Int32 × pH)) (v0 : Nat) (v1 : Int32) (h : pH) : Option (Int32 × pH) :=
  (if isO h v0 12 = true then some () else none).bind fun _ =>
  (rcI rc 268 [.ref v0, .int v1] h).bind fun q2 =>
  k5 v0 q2.1 q2.2
theorem lX12_product_32 (X : pX) (N d : Nat) (rc : Nat → List Value → pH → Option (Option Value × pH)) (hrc : ∀ mn as h q, rc mn as h = some q → Calls X (d + 4) mn as h (q.1, q.2, 0, 0))  (k5 : Nat → Int32 → pH → Option (Int32 × pH)) (K5 : ∀ (w0 : Nat) (w1 : Int32) (h : pH) (q : Int32 × pH), k5 w0 w1 h = some q → ¬ w0 = 4 → Run X (d + 5) 12 false (pCd 8231) 2 (some .int) 5 [(0, .ref w0), (1, .int w1)] [] h 0 0 (some (.int q.1), q.2, 0, 0)) (v0 : Nat) (v1 : Int32) (h : pH) (q : Int32 × pH) (hf : fX12_product_32 N rc k5 v0 v1 h = some q) (nv0 : ¬ v0 = 4) : Run X (d + 5) 12 false (pCd 8231) 2 (some .int) 32 [(0, .ref v0), (1, .int v1)] [] h 0 0 (some (.int q.1), q.2, 0, 0) := by
  unfold fX12_product_32 at hf
  refine r_aload_n (dGet dX12_product (j := 15) rfl) nv0 rfl ?_
  refine r_iload_n (dGet dX12_product (j := 16) rfl) rfl ?_
  obtain ⟨_, ec1, hf⟩ := Option.bind_eq_some_iff.mp hf
  obtain ⟨q2, eq2, hf⟩ := Option.bind_eq_some_iff.mp hf
  refine r_virtual (dGet dX12_product (j := 17) rfl) L12_327 M268 rfl rfl (Nat.le_of_ble_eq_true rfl) (guard_of ec1) (rcI_calls hrc eq2) ?_
  refine r_istore_n (lv' := [(1, .int q2.1), (0, .ref v0)]) (dGet dX12_product (j := 18) rfl) (by decide) rfl ?_
  refine r_goto (dGet dX12_product (j := 19) rfl) rfl ?_
  refine Run.weak [(0, .ref v0), (1, .int q2.1)] (by simp) (by simp [pNd]) ?_
  exact K5 v0 q2.1 q2.2 q hf nv0
def fX12_product_5 (N : Nat) (rc : Nat → List Value → pH → Option (Option Value × pH)) : Nat → Nat → Int32 → pH → Option (Int32 × pH)
  | 0, _, _, _ => none
  | n + 1, v0, v1, h => (fX12_isSign N v0 (42 : Int32) h).bind fun q3 =>
  if q3.1 = 0 then (
  (fX12_isSign N v0 (47 : Int32) q3.2).bind fun q5 =>
  if q5.1 = 0 then (
  (fX12_isSign N v0 (37 : Int32) q5.2).bind fun q7 =>
  if q7.1 = 0 then (
  some (v1, q7.2)) else (
  fX12_product_32 N rc (fX12_product_5 N rc n) v0 v1 q7.2)) else (
  fX12_product_32 N rc (fX12_product_5 N rc n) v0 v1 q5.2)) else (
  fX12_product_32 N rc (fX12_product_5 N rc n) v0 v1 q3.2)
theorem lX12_product_5 (X : pX) (N d : Nat) (rc : Nat → List Value → pH → Option (Option Value × pH)) (hrc : ∀ mn as h q, rc mn as h = some q → Calls X (d + 4) mn as h (q.1, q.2, 0, 0))  : ∀ (n : Nat) (v0 : Nat) (v1 : Int32) (h : pH) (q : Int32 × pH), fX12_product_5 N rc n v0 v1 h = some q → ¬ v0 = 4 → Run X (d + 5) 12 false (pCd 8231) 2 (some .int) 5 [(0, .ref v0), (1, .int v1)] [] h 0 0 (some (.int q.1), q.2, 0, 0) := by
  intro n
  induction n with
  | zero => intro v0 v1 h q hf; cases hf
  | succ n ih =>
    intro v0 v1 h q hf nv0
    unfold fX12_product_5 at hf
    refine r_aload_n (dGet dX12_product (j := 3) rfl) nv0 rfl ?_
    refine r_bipush (dGet dX12_product (j := 4) rfl) kB_42 ?_
    obtain ⟨q3, eq3, hf⟩ := Option.bind_eq_some_iff.mp hf
    refine r_virtual (dGet dX12_product (j := 5) rfl) L12_295 M247 rfl rfl (Nat.le_of_ble_eq_true rfl) (oX12_isSign eq3) (cX12_isSign X N (d + 4) v0 (42 : Int32) h q3 eq3) ?_
    by_cases c4 : q3.1 = 0
    · rw [if_pos c4] at hf
      refine r_if_ne_f (dGet dX12_product (j := 6) rfl) rfl c4 ?_
      refine r_aload_n (dGet dX12_product (j := 7) rfl) nv0 rfl ?_
      refine r_bipush (dGet dX12_product (j := 8) rfl) kB_47 ?_
      obtain ⟨q5, eq5, hf⟩ := Option.bind_eq_some_iff.mp hf
      refine r_virtual (dGet dX12_product (j := 9) rfl) L12_295 M247 rfl rfl (Nat.le_of_ble_eq_true rfl) (oX12_isSign eq5) (cX12_isSign X N (d + 4) v0 (47 : Int32) q3.2 q5 eq5) ?_
      by_cases c6 : q5.1 = 0
      · rw [if_pos c6] at hf
        refine r_if_ne_f (dGet dX12_product (j := 10) rfl) rfl c6 ?_
        refine r_aload_n (dGet dX12_product (j := 11) rfl) nv0 rfl ?_
        refine r_bipush (dGet dX12_product (j := 12) rfl) kB_37 ?_
        obtain ⟨q7, eq7, hf⟩ := Option.bind_eq_some_iff.mp hf
        refine r_virtual (dGet dX12_product (j := 13) rfl) L12_295 M247 rfl rfl (Nat.le_of_ble_eq_true rfl) (oX12_isSign eq7) (cX12_isSign X N (d + 4) v0 (37 : Int32) q5.2 q7 eq7) ?_
        by_cases c8 : q7.1 = 0
        · rw [if_pos c8] at hf
          refine r_if_eq_t (dGet dX12_product (j := 14) rfl) rfl c8 ?_
          refine r_iload_n (dGet dX12_product (j := 20) rfl) rfl ?_
          have hq := Option.some.inj hf
          subst hq
          exact r_iret (dGet dX12_product (j := 21) rfl) rfl rfl
        · rw [if_neg c8] at hf
          refine r_if_eq_f (dGet dX12_product (j := 14) rfl) rfl c8 ?_
          exact lX12_product_32 X N d rc hrc (fX12_product_5 N rc n) ih v0 v1 q7.2 q hf nv0
      · rw [if_neg c6] at hf
        refine r_if_ne_t (dGet dX12_product (j := 10) rfl) rfl c6 ?_
        exact lX12_product_32 X N d rc hrc (fX12_product_5 N rc n) ih v0 v1 q5.2 q hf nv0
    · rw [if_neg c4] at hf
      refine r_if_ne_t (dGet dX12_product (j := 6) rfl) rfl c4 ?_
      exact lX12_product_32 X N d rc hrc (fX12_product_5 N rc n) ih v0 v1 q3.2 q hf nv0
def fX12_product (N : Nat) (rc : Nat → List Value → pH → Option (Option Value × pH)) (v0 : Nat) (h : pH) : Option (Int32 × pH) := if isO h v0 12 = true then (
  (if isO h v0 12 = true then some () else none).bind fun _ =>
  (rcI rc 263 [.ref v0] h).bind fun q10 =>
  fX12_product_5 N rc N v0 q10.1 q10.2) else none
theorem oX12_product {N : Nat} {rc : Nat → List Value → pH → Option (Option Value × pH)} {v0 : Nat} {h : pH} {q : Int32 × pH} (hf : fX12_product N rc v0 h = some q) : isO h v0 12 = true := by
  unfold fX12_product at hf
  by_cases hc : isO h v0 12 = true
  · exact hc
  · rw [if_neg hc] at hf; cases hf
theorem cX12_product (X : pX) (N d : Nat) (rc : Nat → List Value → pH → Option (Option Value × pH)) (hrc : ∀ mn as h q, rc mn as h = some q → Calls X (d + 4) mn as h (q.1, q.2, 0, 0)) (v0 : Nat) (h : pH) (q : Int32 × pH) (hf : fX12_product N rc v0 h = some q) : Calls X (d + 5) 262 [.ref v0] h (some (.int q.1), q.2, 0, 0) := by
  refine Calls.of M262 (Nat.le_of_ble_eq_true rfl) ?_
  show Run X (d + 5) 12 false (pCd 8231) 2 (some .int) 0 [(0, .ref v0)] [] h 0 0 (some (.int q.1), q.2, 0, 0)
  unfold fX12_product at hf
  by_cases hc : isO h v0 12 = true
  · rw [if_pos hc] at hf
    have nv0 : ¬ v0 = 4 := isO_ne hc
    refine r_aload_n (dGet dX12_product (j := 0) rfl) nv0 rfl ?_
    obtain ⟨_, ec9, hf⟩ := Option.bind_eq_some_iff.mp hf
    obtain ⟨q10, eq10, hf⟩ := Option.bind_eq_some_iff.mp hf
    refine r_virtual (dGet dX12_product (j := 1) rfl) L12_324 M263 rfl rfl (Nat.le_of_ble_eq_true rfl) (guard_of ec9) (rcI_calls hrc eq10) ?_
    refine r_istore_n (lv' := [(1, .int q10.1), (0, .ref v0)]) (dGet dX12_product (j := 2) rfl) (by decide) rfl ?_
    refine Run.weak [(0, .ref v0), (1, .int q10.1)] (by simp) (by simp [pNd]) ?_
    exact lX12_product_5 X N d rc hrc N v0 q10.1 q10.2 q hf nv0
  · rw [if_neg hc] at hf; cases hf
def eX12_signed : List (Nat × Instr × Nat) := [(0, .aload_n 0, 1), (1, .getfield 256, 3), (4, .istore_n 2, 1), (5, .aload_n 0, 1), (6, .invokevirtual 289, 3), (9, .iload_n 2, 1), (10, .sipush 317, 3), (13, .if_icmp .eq 10, 3), (16, .iload_n 2, 1), (17, .sipush 289, 3), (20, .if_icmp .ne 10, 3), (23, .aload_n 0, 1), (24, .invokevirtual 315, 3), (27, .goto 46, 3), (30, .iload_n 2, 1), (31, .bipush 60, 2), (33, .if_icmp .eq 10, 3), (36, .iload_n 2, 1), (37, .sipush 316, 3), (40, .if_icmp .ne 10, 3), (43, .aload_n 0, 1), (44, .invokevirtual 318, 3), (47, .goto 26, 3), (50, .iload_n 2, 1), (51, .bipush 43, 2), (53, .if_icmp .eq 9, 3), (56, .iload_n 2, 1), (57, .bipush 45, 2), (59, .if_icmp .ne 10, 3), (62, .aload_n 0, 1), (63, .invokevirtual 321, 3), (66, .goto 7, 3), (69, .aload_n 0, 1), (70, .invokevirtual 324, 3), (73, .istore_n 3, 1), (74, .aload_n 0, 1), (75, .bipush 15, 2), (77, .iload_n 1, 1), (78, .iload_n 3, 1), (79, .iload_n 2, 1), (80, .invokevirtual 308, 3), (83, .ireturn, 1)]
theorem dX12_signed : dChk (pCd 9017) eX12_signed = true := by decide +kernel
def fX12_signed_73 (N : Nat) (rc : Nat → List Value → pH → Option (Option Value × pH)) (v0 : Nat) (v1 : Int32) (v2 : Int32) (s0 : Int32) (h : pH) : Option (Int32 × pH) :=
  (fX12_node N v0 (15 : Int32) v1 s0 v2 h).bind fun q1 =>
  some (q1.1, q1.2)
theorem lX12_signed_73 (X : pX) (N d : Nat) (rc : Nat → List Value → pH → Option (Option Value × pH)) (hrc : ∀ mn as h q, rc mn as h = some q → Calls X (d + 4) mn as h (q.1, q.2, 0, 0))  (v0 : Nat) (v1 : Int32) (v2 : Int32) (s0 : Int32) (h : pH) (q : Int32 × pH) (hf : fX12_signed_73 N rc v0 v1 v2 s0 h = some q) (nv0 : ¬ v0 = 4) : Run X (d + 5) 12 false (pCd 9017) 4 (some .int) 73 [(0, .ref v0), (1, .int v1), (2, .int v2)] [.int s0] h 0 0 (some (.int q.1), q.2, 0, 0) := by
  unfold fX12_signed_73 at hf
  refine r_istore_n (lv' := [(3, .int s0), (0, .ref v0), (1, .int v1), (2, .int v2)]) (dGet dX12_signed (j := 34) rfl) (by decide) rfl ?_
  refine r_aload_n (dGet dX12_signed (j := 35) rfl) nv0 rfl ?_
  refine r_bipush (dGet dX12_signed (j := 36) rfl) kB_15 ?_
  refine r_iload_n (dGet dX12_signed (j := 37) rfl) rfl ?_
  refine r_iload_n (dGet dX12_signed (j := 38) rfl) rfl ?_
  refine r_iload_n (dGet dX12_signed (j := 39) rfl) rfl ?_
  obtain ⟨q1, eq1, hf⟩ := Option.bind_eq_some_iff.mp hf
  refine r_virtual (dGet dX12_signed (j := 40) rfl) L12_308 M266 rfl rfl (Nat.le_of_ble_eq_true rfl) (oX12_node eq1) (cX12_node X N (d + 4) v0 (15 : Int32) v1 s0 v2 h q1 eq1) ?_
  have hq := Option.some.inj hf
  subst hq
  exact r_iret (dGet dX12_signed (j := 41) rfl) rfl rfl
def fX12_signed_62 (N : Nat) (rc : Nat → List Value → pH → Option (Option Value × pH)) (v0 : Nat) (v1 : Int32) (v2 : Int32) (h : pH) : Option (Int32 × pH) :=
  (if isO h v0 12 = true then some () else none).bind fun _ =>
  (rcI rc 262 [.ref v0] h).bind fun q3 =>
  fX12_signed_73 N rc v0 v1 v2 q3.1 q3.2
theorem lX12_signed_62 (X : pX) (N d : Nat) (rc : Nat → List Value → pH → Option (Option Value × pH)) (hrc : ∀ mn as h q, rc mn as h = some q → Calls X (d + 4) mn as h (q.1, q.2, 0, 0))  (v0 : Nat) (v1 : Int32) (v2 : Int32) (h : pH) (q : Int32 × pH) (hf : fX12_signed_62 N rc v0 v1 v2 h = some q) (nv0 : ¬ v0 = 4) : Run X (d + 5) 12 false (pCd 9017) 4 (some .int) 62 [(0, .ref v0), (1, .int v1), (2, .int v2)] [] h 0 0 (some (.int q.1), q.2, 0, 0) := by
  unfold fX12_signed_62 at hf
  refine r_aload_n (dGet dX12_signed (j := 29) rfl) nv0 rfl ?_
  obtain ⟨_, ec2, hf⟩ := Option.bind_eq_some_iff.mp hf
  obtain ⟨q3, eq3, hf⟩ := Option.bind_eq_some_iff.mp hf
  refine r_virtual (dGet dX12_signed (j := 30) rfl) L12_321 M262 rfl rfl (Nat.le_of_ble_eq_true rfl) (guard_of ec2) (rcI_calls hrc eq3) ?_
  refine r_goto (dGet dX12_signed (j := 31) rfl) rfl ?_
  exact lX12_signed_73 X N d rc hrc v0 v1 v2 q3.1 q3.2 q hf nv0
def fX12_signed_43 (N : Nat) (rc : Nat → List Value → pH → Option (Option Value × pH)) (v0 : Nat) (v1 : Int32) (v2 : Int32) (h : pH) : Option (Int32 × pH) :=
  (if isO h v0 12 = true then some () else none).bind fun _ =>
  (rcI rc 261 [.ref v0] h).bind fun q5 =>
  fX12_signed_73 N rc v0 v1 v2 q5.1 q5.2
theorem lX12_signed_43 (X : pX) (N d : Nat) (rc : Nat → List Value → pH → Option (Option Value × pH)) (hrc : ∀ mn as h q, rc mn as h = some q → Calls X (d + 4) mn as h (q.1, q.2, 0, 0))  (v0 : Nat) (v1 : Int32) (v2 : Int32) (h : pH) (q : Int32 × pH) (hf : fX12_signed_43 N rc v0 v1 v2 h = some q) (nv0 : ¬ v0 = 4) : Run X (d + 5) 12 false (pCd 9017) 4 (some .int) 43 [(0, .ref v0), (1, .int v1), (2, .int v2)] [] h 0 0 (some (.int q.1), q.2, 0, 0) := by
  unfold fX12_signed_43 at hf
  refine r_aload_n (dGet dX12_signed (j := 20) rfl) nv0 rfl ?_
  obtain ⟨_, ec4, hf⟩ := Option.bind_eq_some_iff.mp hf
  obtain ⟨q5, eq5, hf⟩ := Option.bind_eq_some_iff.mp hf
  refine r_virtual (dGet dX12_signed (j := 21) rfl) L12_318 M261 rfl rfl (Nat.le_of_ble_eq_true rfl) (guard_of ec4) (rcI_calls hrc eq5) ?_
  refine r_goto (dGet dX12_signed (j := 22) rfl) rfl ?_
  exact lX12_signed_73 X N d rc hrc v0 v1 v2 q5.1 q5.2 q hf nv0
def fX12_signed_23 (N : Nat) (rc : Nat → List Value → pH → Option (Option Value × pH)) (v0 : Nat) (v1 : Int32) (v2 : Int32) (h : pH) : Option (Int32 × pH) :=
  (if isO h v0 12 = true then some () else none).bind fun _ =>
  (rcI rc 260 [.ref v0] h).bind fun q7 =>
  fX12_signed_73 N rc v0 v1 v2 q7.1 q7.2
theorem lX12_signed_23 (X : pX) (N d : Nat) (rc : Nat → List Value → pH → Option (Option Value × pH)) (hrc : ∀ mn as h q, rc mn as h = some q → Calls X (d + 4) mn as h (q.1, q.2, 0, 0))  (v0 : Nat) (v1 : Int32) (v2 : Int32) (h : pH) (q : Int32 × pH) (hf : fX12_signed_23 N rc v0 v1 v2 h = some q) (nv0 : ¬ v0 = 4) : Run X (d + 5) 12 false (pCd 9017) 4 (some .int) 23 [(0, .ref v0), (1, .int v1), (2, .int v2)] [] h 0 0 (some (.int q.1), q.2, 0, 0) := by
  unfold fX12_signed_23 at hf
  refine r_aload_n (dGet dX12_signed (j := 11) rfl) nv0 rfl ?_
  obtain ⟨_, ec6, hf⟩ := Option.bind_eq_some_iff.mp hf
  obtain ⟨q7, eq7, hf⟩ := Option.bind_eq_some_iff.mp hf
  refine r_virtual (dGet dX12_signed (j := 12) rfl) L12_315 M260 rfl rfl (Nat.le_of_ble_eq_true rfl) (guard_of ec6) (rcI_calls hrc eq7) ?_
  refine r_goto (dGet dX12_signed (j := 13) rfl) rfl ?_
  exact lX12_signed_73 X N d rc hrc v0 v1 v2 q7.1 q7.2 q hf nv0
def fX12_signed (N : Nat) (rc : Nat → List Value → pH → Option (Option Value × pH)) (v0 : Nat) (v1 : Int32) (h : pH) : Option (Int32 × pH) := if isO h v0 12 = true then (
  (getI h v0 12 8).bind fun t8 =>
  (fX12_next N v0 h).bind fun h9 =>
  if t8 = (317 : Int32) then (
  fX12_signed_23 N rc v0 v1 t8 h9) else (
  if t8 = (289 : Int32) then (
  fX12_signed_23 N rc v0 v1 t8 h9) else (
  if t8 = (60 : Int32) then (
  fX12_signed_43 N rc v0 v1 t8 h9) else (
  if t8 = (316 : Int32) then (
  fX12_signed_43 N rc v0 v1 t8 h9) else (
  if t8 = (43 : Int32) then (
  fX12_signed_62 N rc v0 v1 t8 h9) else (
  if t8 = (45 : Int32) then (
  fX12_signed_62 N rc v0 v1 t8 h9) else (
  (if isO h9 v0 12 = true then some () else none).bind fun _ =>
  (rcI rc 263 [.ref v0] h9).bind fun q17 =>
  fX12_signed_73 N rc v0 v1 t8 q17.1 q17.2))))))) else none
theorem oX12_signed {N : Nat} {rc : Nat → List Value → pH → Option (Option Value × pH)} {v0 : Nat} {v1 : Int32} {h : pH} {q : Int32 × pH} (hf : fX12_signed N rc v0 v1 h = some q) : isO h v0 12 = true := by
  unfold fX12_signed at hf
  by_cases hc : isO h v0 12 = true
  · exact hc
  · rw [if_neg hc] at hf; cases hf
theorem cX12_signed (X : pX) (N d : Nat) (rc : Nat → List Value → pH → Option (Option Value × pH)) (hrc : ∀ mn as h q, rc mn as h = some q → Calls X (d + 4) mn as h (q.1, q.2, 0, 0)) (v0 : Nat) (v1 : Int32) (h : pH) (q : Int32 × pH) (hf : fX12_signed N rc v0 v1 h = some q) : Calls X (d + 5) 268 [.ref v0, .int v1] h (some (.int q.1), q.2, 0, 0) := by
  refine Calls.of M268 (Nat.le_of_ble_eq_true rfl) ?_
  show Run X (d + 5) 12 false (pCd 9017) 4 (some .int) 0 [(0, .ref v0), (1, .int v1)] [] h 0 0 (some (.int q.1), q.2, 0, 0)
  unfold fX12_signed at hf
  by_cases hc : isO h v0 12 = true
  · rw [if_pos hc] at hf
    have nv0 : ¬ v0 = 4 := isO_ne hc
    refine r_aload_n (dGet dX12_signed (j := 0) rfl) nv0 rfl ?_
    obtain ⟨t8, et8, hf⟩ := Option.bind_eq_some_iff.mp hf
    refine r_getI (dGet dX12_signed (j := 1) rfl) F12_256 et8 ?_
    refine r_istore_n (lv' := [(2, .int t8), (0, .ref v0), (1, .int v1)]) (dGet dX12_signed (j := 2) rfl) (by decide) rfl ?_
    refine r_aload_n (dGet dX12_signed (j := 3) rfl) nv0 rfl ?_
    obtain ⟨h9, eh9, hf⟩ := Option.bind_eq_some_iff.mp hf
    refine r_virtual (dGet dX12_signed (j := 4) rfl) L12_289 M233 rfl rfl (Nat.le_of_ble_eq_true rfl) (oX12_next eh9) (cX12_next X N (d + 2) v0 h h9 eh9) ?_
    refine r_iload_n (dGet dX12_signed (j := 5) rfl) rfl ?_
    refine r_sipush (dGet dX12_signed (j := 6) rfl) kS_317 ?_
    by_cases c10 : t8 = (317 : Int32)
    · rw [if_pos c10] at hf
      refine r_icmp_eq_t (dGet dX12_signed (j := 7) rfl) rfl c10 ?_
      refine Run.weak [(0, .ref v0), (1, .int v1), (2, .int t8)] (by simp) (by simp [pNd]) ?_
      exact lX12_signed_23 X N d rc hrc v0 v1 t8 h9 q hf nv0
    · rw [if_neg c10] at hf
      refine r_icmp_eq_f (dGet dX12_signed (j := 7) rfl) rfl c10 ?_
      refine r_iload_n (dGet dX12_signed (j := 8) rfl) rfl ?_
      refine r_sipush (dGet dX12_signed (j := 9) rfl) kS_289 ?_
      by_cases c11 : t8 = (289 : Int32)
      · rw [if_pos c11] at hf
        refine r_icmp_ne_f (dGet dX12_signed (j := 10) rfl) rfl c11 ?_
        refine Run.weak [(0, .ref v0), (1, .int v1), (2, .int t8)] (by simp) (by simp [pNd]) ?_
        exact lX12_signed_23 X N d rc hrc v0 v1 t8 h9 q hf nv0
      · rw [if_neg c11] at hf
        refine r_icmp_ne_t (dGet dX12_signed (j := 10) rfl) rfl c11 ?_
        refine r_iload_n (dGet dX12_signed (j := 14) rfl) rfl ?_
        refine r_bipush (dGet dX12_signed (j := 15) rfl) kB_60 ?_
        by_cases c12 : t8 = (60 : Int32)
        · rw [if_pos c12] at hf
          refine r_icmp_eq_t (dGet dX12_signed (j := 16) rfl) rfl c12 ?_
          refine Run.weak [(0, .ref v0), (1, .int v1), (2, .int t8)] (by simp) (by simp [pNd]) ?_
          exact lX12_signed_43 X N d rc hrc v0 v1 t8 h9 q hf nv0
        · rw [if_neg c12] at hf
          refine r_icmp_eq_f (dGet dX12_signed (j := 16) rfl) rfl c12 ?_
          refine r_iload_n (dGet dX12_signed (j := 17) rfl) rfl ?_
          refine r_sipush (dGet dX12_signed (j := 18) rfl) kS_316 ?_
          by_cases c13 : t8 = (316 : Int32)
          · rw [if_pos c13] at hf
            refine r_icmp_ne_f (dGet dX12_signed (j := 19) rfl) rfl c13 ?_
            refine Run.weak [(0, .ref v0), (1, .int v1), (2, .int t8)] (by simp) (by simp [pNd]) ?_
            exact lX12_signed_43 X N d rc hrc v0 v1 t8 h9 q hf nv0
          · rw [if_neg c13] at hf
            refine r_icmp_ne_t (dGet dX12_signed (j := 19) rfl) rfl c13 ?_
            refine r_iload_n (dGet dX12_signed (j := 23) rfl) rfl ?_
            refine r_bipush (dGet dX12_signed (j := 24) rfl) kB_43 ?_
            by_cases c14 : t8 = (43 : Int32)
            · rw [if_pos c14] at hf
              refine r_icmp_eq_t (dGet dX12_signed (j := 25) rfl) rfl c14 ?_
              refine Run.weak [(0, .ref v0), (1, .int v1), (2, .int t8)] (by simp) (by simp [pNd]) ?_
              exact lX12_signed_62 X N d rc hrc v0 v1 t8 h9 q hf nv0
            · rw [if_neg c14] at hf
              refine r_icmp_eq_f (dGet dX12_signed (j := 25) rfl) rfl c14 ?_
              refine r_iload_n (dGet dX12_signed (j := 26) rfl) rfl ?_
              refine r_bipush (dGet dX12_signed (j := 27) rfl) kB_45 ?_
              by_cases c15 : t8 = (45 : Int32)
              · rw [if_pos c15] at hf
                refine r_icmp_ne_f (dGet dX12_signed (j := 28) rfl) rfl c15 ?_
                refine Run.weak [(0, .ref v0), (1, .int v1), (2, .int t8)] (by simp) (by simp [pNd]) ?_
                exact lX12_signed_62 X N d rc hrc v0 v1 t8 h9 q hf nv0
              · rw [if_neg c15] at hf
                refine r_icmp_ne_t (dGet dX12_signed (j := 28) rfl) rfl c15 ?_
                refine r_aload_n (dGet dX12_signed (j := 32) rfl) nv0 rfl ?_
                obtain ⟨_, ec16, hf⟩ := Option.bind_eq_some_iff.mp hf
                obtain ⟨q17, eq17, hf⟩ := Option.bind_eq_some_iff.mp hf
                refine r_virtual (dGet dX12_signed (j := 33) rfl) L12_324 M263 rfl rfl (Nat.le_of_ble_eq_true rfl) (guard_of ec16) (rcI_calls hrc eq17) ?_
                refine Run.weak [(0, .ref v0), (1, .int v1), (2, .int t8)] (by simp) (by simp [pNd]) ?_
                exact lX12_signed_73 X N d rc hrc v0 v1 t8 q17.1 q17.2 q hf nv0
  · rw [if_neg hc] at hf; cases hf
def eX12_related : List (Nat × Instr × Nat) := [(0, .aload_n 0, 1), (1, .invokevirtual 318, 3), (4, .istore_n 1, 1), (5, .aload_n 0, 1), (6, .bipush 60, 2), (8, .invokevirtual 295, 3), (11, .ifCond .ne 13, 3), (14, .aload_n 0, 1), (15, .sipush 316, 3), (18, .invokevirtual 295, 3), (21, .ifCond .eq 9, 3), (24, .aload_n 0, 1), (25, .iload_n 1, 1), (26, .invokevirtual 327, 3), (29, .ireturn, 1), (30, .aload_n 0, 1), (31, .bipush 21, 2), (33, .invokevirtual 330, 3), (36, .ifCond .ne 5, 3), (39, .iload_n 1, 1), (40, .ireturn, 1), (41, .aload_n 0, 1), (42, .invokevirtual 289, 3), (45, .aload_n 0, 1), (46, .invokevirtual 333, 3), (49, .istore_n 2, 1), (50, .aload_n 0, 1), (51, .bipush 11, 2), (53, .iload_n 1, 1), (54, .iconst 0, 1), (55, .iload_n 2, 1), (56, .invokevirtual 308, 3), (59, .ireturn, 1)]
theorem dX12_related : dChk (pCd 8223) eX12_related = true := by decide +kernel
def fX12_related_24 (N : Nat) (rc : Nat → List Value → pH → Option (Option Value × pH)) (v0 : Nat) (v1 : Int32) (h : pH) : Option (Int32 × pH) :=
  (if isO h v0 12 = true then some () else none).bind fun _ =>
  (rcI rc 268 [.ref v0, .int v1] h).bind fun q2 =>
  some (q2.1, q2.2)
theorem lX12_related_24 (X : pX) (N d : Nat) (rc : Nat → List Value → pH → Option (Option Value × pH)) (hrc : ∀ mn as h q, rc mn as h = some q → Calls X (d + 4) mn as h (q.1, q.2, 0, 0))  (v0 : Nat) (v1 : Int32) (h : pH) (q : Int32 × pH) (hf : fX12_related_24 N rc v0 v1 h = some q) (nv0 : ¬ v0 = 4) : Run X (d + 5) 12 false (pCd 8223) 3 (some .int) 24 [(0, .ref v0), (1, .int v1)] [] h 0 0 (some (.int q.1), q.2, 0, 0) := by
  unfold fX12_related_24 at hf
  refine r_aload_n (dGet dX12_related (j := 11) rfl) nv0 rfl ?_
  refine r_iload_n (dGet dX12_related (j := 12) rfl) rfl ?_
  obtain ⟨_, ec1, hf⟩ := Option.bind_eq_some_iff.mp hf
  obtain ⟨q2, eq2, hf⟩ := Option.bind_eq_some_iff.mp hf
  refine r_virtual (dGet dX12_related (j := 13) rfl) L12_327 M268 rfl rfl (Nat.le_of_ble_eq_true rfl) (guard_of ec1) (rcI_calls hrc eq2) ?_
  have hq := Option.some.inj hf
  subst hq
  exact r_iret (dGet dX12_related (j := 14) rfl) rfl rfl
def fX12_related (N : Nat) (rc : Nat → List Value → pH → Option (Option Value × pH)) (v0 : Nat) (h : pH) : Option (Int32 × pH) := if isO h v0 12 = true then (
  (if isO h v0 12 = true then some () else none).bind fun _ =>
  (rcI rc 261 [.ref v0] h).bind fun q4 =>
  (fX12_isSign N v0 (60 : Int32) q4.2).bind fun q5 =>
  if q5.1 = 0 then (
  (fX12_isSign N v0 (316 : Int32) q5.2).bind fun q7 =>
  if q7.1 = 0 then (
  (fX12_isKey N v0 (21 : Int32) q7.2).bind fun q9 =>
  if q9.1 = 0 then (
  some (q4.1, q9.2)) else (
  (fX12_next N v0 q9.2).bind fun h11 =>
  (fX12_name N v0 h11).bind fun q12 =>
  (fX12_node N v0 (11 : Int32) q4.1 (0 : Int32) q12.1 q12.2).bind fun q13 =>
  some (q13.1, q13.2))) else (
  fX12_related_24 N rc v0 q4.1 q7.2)) else (
  fX12_related_24 N rc v0 q4.1 q5.2)) else none
theorem oX12_related {N : Nat} {rc : Nat → List Value → pH → Option (Option Value × pH)} {v0 : Nat} {h : pH} {q : Int32 × pH} (hf : fX12_related N rc v0 h = some q) : isO h v0 12 = true := by
  unfold fX12_related at hf
  by_cases hc : isO h v0 12 = true
  · exact hc
  · rw [if_neg hc] at hf; cases hf
theorem cX12_related (X : pX) (N d : Nat) (rc : Nat → List Value → pH → Option (Option Value × pH)) (hrc : ∀ mn as h q, rc mn as h = some q → Calls X (d + 4) mn as h (q.1, q.2, 0, 0)) (v0 : Nat) (h : pH) (q : Int32 × pH) (hf : fX12_related N rc v0 h = some q) : Calls X (d + 5) 260 [.ref v0] h (some (.int q.1), q.2, 0, 0) := by
  refine Calls.of M260 (Nat.le_of_ble_eq_true rfl) ?_
  show Run X (d + 5) 12 false (pCd 8223) 3 (some .int) 0 [(0, .ref v0)] [] h 0 0 (some (.int q.1), q.2, 0, 0)
  unfold fX12_related at hf
  by_cases hc : isO h v0 12 = true
  · rw [if_pos hc] at hf
    have nv0 : ¬ v0 = 4 := isO_ne hc
    refine r_aload_n (dGet dX12_related (j := 0) rfl) nv0 rfl ?_
    obtain ⟨_, ec3, hf⟩ := Option.bind_eq_some_iff.mp hf
    obtain ⟨q4, eq4, hf⟩ := Option.bind_eq_some_iff.mp hf
    refine r_virtual (dGet dX12_related (j := 1) rfl) L12_318 M261 rfl rfl (Nat.le_of_ble_eq_true rfl) (guard_of ec3) (rcI_calls hrc eq4) ?_
    refine r_istore_n (lv' := [(1, .int q4.1), (0, .ref v0)]) (dGet dX12_related (j := 2) rfl) (by decide) rfl ?_
    refine r_aload_n (dGet dX12_related (j := 3) rfl) nv0 rfl ?_
    refine r_bipush (dGet dX12_related (j := 4) rfl) kB_60 ?_
    obtain ⟨q5, eq5, hf⟩ := Option.bind_eq_some_iff.mp hf
    refine r_virtual (dGet dX12_related (j := 5) rfl) L12_295 M247 rfl rfl (Nat.le_of_ble_eq_true rfl) (oX12_isSign eq5) (cX12_isSign X N (d + 4) v0 (60 : Int32) q4.2 q5 eq5) ?_
    by_cases c6 : q5.1 = 0
    · rw [if_pos c6] at hf
      refine r_if_ne_f (dGet dX12_related (j := 6) rfl) rfl c6 ?_
      refine r_aload_n (dGet dX12_related (j := 7) rfl) nv0 rfl ?_
      refine r_sipush (dGet dX12_related (j := 8) rfl) kS_316 ?_
      obtain ⟨q7, eq7, hf⟩ := Option.bind_eq_some_iff.mp hf
      refine r_virtual (dGet dX12_related (j := 9) rfl) L12_295 M247 rfl rfl (Nat.le_of_ble_eq_true rfl) (oX12_isSign eq7) (cX12_isSign X N (d + 4) v0 (316 : Int32) q5.2 q7 eq7) ?_
      by_cases c8 : q7.1 = 0
      · rw [if_pos c8] at hf
        refine r_if_eq_t (dGet dX12_related (j := 10) rfl) rfl c8 ?_
        refine r_aload_n (dGet dX12_related (j := 15) rfl) nv0 rfl ?_
        refine r_bipush (dGet dX12_related (j := 16) rfl) kB_21 ?_
        obtain ⟨q9, eq9, hf⟩ := Option.bind_eq_some_iff.mp hf
        refine r_virtual (dGet dX12_related (j := 17) rfl) L12_330 M242 rfl rfl (Nat.le_of_ble_eq_true rfl) (oX12_isKey eq9) (cX12_isKey X N (d + 4) v0 (21 : Int32) q7.2 q9 eq9) ?_
        by_cases c10 : q9.1 = 0
        · rw [if_pos c10] at hf
          refine r_if_ne_f (dGet dX12_related (j := 18) rfl) rfl c10 ?_
          refine r_iload_n (dGet dX12_related (j := 19) rfl) rfl ?_
          have hq := Option.some.inj hf
          subst hq
          exact r_iret (dGet dX12_related (j := 20) rfl) rfl rfl
        · rw [if_neg c10] at hf
          refine r_if_ne_t (dGet dX12_related (j := 18) rfl) rfl c10 ?_
          refine r_aload_n (dGet dX12_related (j := 21) rfl) nv0 rfl ?_
          obtain ⟨h11, eh11, hf⟩ := Option.bind_eq_some_iff.mp hf
          refine r_virtual (dGet dX12_related (j := 22) rfl) L12_289 M233 rfl rfl (Nat.le_of_ble_eq_true rfl) (oX12_next eh11) (cX12_next X N (d + 2) v0 q9.2 h11 eh11) ?_
          refine r_aload_n (dGet dX12_related (j := 23) rfl) nv0 rfl ?_
          obtain ⟨q12, eq12, hf⟩ := Option.bind_eq_some_iff.mp hf
          refine r_virtual (dGet dX12_related (j := 24) rfl) L12_333 M246 rfl rfl (Nat.le_of_ble_eq_true rfl) (oX12_name eq12) (cX12_name X N (d + 0) v0 h11 q12 eq12) ?_
          refine r_istore_n (lv' := [(2, .int q12.1), (1, .int q4.1), (0, .ref v0)]) (dGet dX12_related (j := 25) rfl) (by decide) rfl ?_
          refine r_aload_n (dGet dX12_related (j := 26) rfl) nv0 rfl ?_
          refine r_bipush (dGet dX12_related (j := 27) rfl) kB_11 ?_
          refine r_iload_n (dGet dX12_related (j := 28) rfl) rfl ?_
          refine r_iconst (dGet dX12_related (j := 29) rfl) kI_0 ?_
          refine r_iload_n (dGet dX12_related (j := 30) rfl) rfl ?_
          obtain ⟨q13, eq13, hf⟩ := Option.bind_eq_some_iff.mp hf
          refine r_virtual (dGet dX12_related (j := 31) rfl) L12_308 M266 rfl rfl (Nat.le_of_ble_eq_true rfl) (oX12_node eq13) (cX12_node X N (d + 4) v0 (11 : Int32) q4.1 (0 : Int32) q12.1 q12.2 q13 eq13) ?_
          have hq := Option.some.inj hf
          subst hq
          exact r_iret (dGet dX12_related (j := 32) rfl) rfl rfl
      · rw [if_neg c8] at hf
        refine r_if_eq_f (dGet dX12_related (j := 10) rfl) rfl c8 ?_
        refine Run.weak [(0, .ref v0), (1, .int q4.1)] (by simp) (by simp [pNd]) ?_
        exact lX12_related_24 X N d rc hrc v0 q4.1 q7.2 q hf nv0
    · rw [if_neg c6] at hf
      refine r_if_ne_t (dGet dX12_related (j := 6) rfl) rfl c6 ?_
      refine Run.weak [(0, .ref v0), (1, .int q4.1)] (by simp) (by simp [pNd]) ?_
      exact lX12_related_24 X N d rc hrc v0 q4.1 q5.2 q hf nv0
  · rw [if_neg hc] at hf; cases hf
def eX12_equal : List (Nat × Instr × Nat) := [(0, .aload_n 0, 1), (1, .invokevirtual 315, 3), (4, .istore_n 1, 1), (5, .aload_n 0, 1), (6, .sipush 317, 3), (9, .invokevirtual 295, 3), (12, .ifCond .ne 13, 3), (15, .aload_n 0, 1), (16, .sipush 289, 3), (19, .invokevirtual 295, 3), (22, .ifCond .eq 11, 3), (25, .aload_n 0, 1), (26, .iload_n 1, 1), (27, .invokevirtual 327, 3), (30, .goto 4, 3), (33, .iload_n 1, 1), (34, .ireturn, 1)]
theorem dX12_equal : dChk (pCd 8219) eX12_equal = true := by decide +kernel
def fX12_equal_25 (N : Nat) (rc : Nat → List Value → pH → Option (Option Value × pH)) (v0 : Nat) (v1 : Int32) (h : pH) : Option (Int32 × pH) :=
  (if isO h v0 12 = true then some () else none).bind fun _ =>
  (rcI rc 268 [.ref v0, .int v1] h).bind fun q2 =>
  some (q2.1, q2.2)
theorem lX12_equal_25 (X : pX) (N d : Nat) (rc : Nat → List Value → pH → Option (Option Value × pH)) (hrc : ∀ mn as h q, rc mn as h = some q → Calls X (d + 4) mn as h (q.1, q.2, 0, 0))  (v0 : Nat) (v1 : Int32) (h : pH) (q : Int32 × pH) (hf : fX12_equal_25 N rc v0 v1 h = some q) (nv0 : ¬ v0 = 4) : Run X (d + 5) 12 false (pCd 8219) 2 (some .int) 25 [(0, .ref v0), (1, .int v1)] [] h 0 0 (some (.int q.1), q.2, 0, 0) := by
  unfold fX12_equal_25 at hf
  refine r_aload_n (dGet dX12_equal (j := 11) rfl) nv0 rfl ?_
  refine r_iload_n (dGet dX12_equal (j := 12) rfl) rfl ?_
  obtain ⟨_, ec1, hf⟩ := Option.bind_eq_some_iff.mp hf
  obtain ⟨q2, eq2, hf⟩ := Option.bind_eq_some_iff.mp hf
  refine r_virtual (dGet dX12_equal (j := 13) rfl) L12_327 M268 rfl rfl (Nat.le_of_ble_eq_true rfl) (guard_of ec1) (rcI_calls hrc eq2) ?_
  refine r_goto (dGet dX12_equal (j := 14) rfl) rfl ?_
  have hq := Option.some.inj hf
  subst hq
  exact r_iret (dGet dX12_equal (j := 16) rfl) rfl rfl
def fX12_equal (N : Nat) (rc : Nat → List Value → pH → Option (Option Value × pH)) (v0 : Nat) (h : pH) : Option (Int32 × pH) := if isO h v0 12 = true then (
  (if isO h v0 12 = true then some () else none).bind fun _ =>
  (rcI rc 260 [.ref v0] h).bind fun q4 =>
  (fX12_isSign N v0 (317 : Int32) q4.2).bind fun q5 =>
  if q5.1 = 0 then (
  (fX12_isSign N v0 (289 : Int32) q5.2).bind fun q7 =>
  if q7.1 = 0 then (
  some (q4.1, q7.2)) else (
  fX12_equal_25 N rc v0 q4.1 q7.2)) else (
  fX12_equal_25 N rc v0 q4.1 q5.2)) else none
theorem oX12_equal {N : Nat} {rc : Nat → List Value → pH → Option (Option Value × pH)} {v0 : Nat} {h : pH} {q : Int32 × pH} (hf : fX12_equal N rc v0 h = some q) : isO h v0 12 = true := by
  unfold fX12_equal at hf
  by_cases hc : isO h v0 12 = true
  · exact hc
  · rw [if_neg hc] at hf; cases hf
theorem cX12_equal (X : pX) (N d : Nat) (rc : Nat → List Value → pH → Option (Option Value × pH)) (hrc : ∀ mn as h q, rc mn as h = some q → Calls X (d + 4) mn as h (q.1, q.2, 0, 0)) (v0 : Nat) (h : pH) (q : Int32 × pH) (hf : fX12_equal N rc v0 h = some q) : Calls X (d + 5) 259 [.ref v0] h (some (.int q.1), q.2, 0, 0) := by
  refine Calls.of M259 (Nat.le_of_ble_eq_true rfl) ?_
  show Run X (d + 5) 12 false (pCd 8219) 2 (some .int) 0 [(0, .ref v0)] [] h 0 0 (some (.int q.1), q.2, 0, 0)
  unfold fX12_equal at hf
  by_cases hc : isO h v0 12 = true
  · rw [if_pos hc] at hf
    have nv0 : ¬ v0 = 4 := isO_ne hc
    refine r_aload_n (dGet dX12_equal (j := 0) rfl) nv0 rfl ?_
    obtain ⟨_, ec3, hf⟩ := Option.bind_eq_some_iff.mp hf
    obtain ⟨q4, eq4, hf⟩ := Option.bind_eq_some_iff.mp hf
    refine r_virtual (dGet dX12_equal (j := 1) rfl) L12_315 M260 rfl rfl (Nat.le_of_ble_eq_true rfl) (guard_of ec3) (rcI_calls hrc eq4) ?_
    refine r_istore_n (lv' := [(1, .int q4.1), (0, .ref v0)]) (dGet dX12_equal (j := 2) rfl) (by decide) rfl ?_
    refine r_aload_n (dGet dX12_equal (j := 3) rfl) nv0 rfl ?_
    refine r_sipush (dGet dX12_equal (j := 4) rfl) kS_317 ?_
    obtain ⟨q5, eq5, hf⟩ := Option.bind_eq_some_iff.mp hf
    refine r_virtual (dGet dX12_equal (j := 5) rfl) L12_295 M247 rfl rfl (Nat.le_of_ble_eq_true rfl) (oX12_isSign eq5) (cX12_isSign X N (d + 4) v0 (317 : Int32) q4.2 q5 eq5) ?_
    by_cases c6 : q5.1 = 0
    · rw [if_pos c6] at hf
      refine r_if_ne_f (dGet dX12_equal (j := 6) rfl) rfl c6 ?_
      refine r_aload_n (dGet dX12_equal (j := 7) rfl) nv0 rfl ?_
      refine r_sipush (dGet dX12_equal (j := 8) rfl) kS_289 ?_
      obtain ⟨q7, eq7, hf⟩ := Option.bind_eq_some_iff.mp hf
      refine r_virtual (dGet dX12_equal (j := 9) rfl) L12_295 M247 rfl rfl (Nat.le_of_ble_eq_true rfl) (oX12_isSign eq7) (cX12_isSign X N (d + 4) v0 (289 : Int32) q5.2 q7 eq7) ?_
      by_cases c8 : q7.1 = 0
      · rw [if_pos c8] at hf
        refine r_if_eq_t (dGet dX12_equal (j := 10) rfl) rfl c8 ?_
        refine r_iload_n (dGet dX12_equal (j := 15) rfl) rfl ?_
        have hq := Option.some.inj hf
        subst hq
        exact r_iret (dGet dX12_equal (j := 16) rfl) rfl rfl
      · rw [if_neg c8] at hf
        refine r_if_eq_f (dGet dX12_equal (j := 10) rfl) rfl c8 ?_
        refine Run.weak [(0, .ref v0), (1, .int q4.1)] (by simp) (by simp [pNd]) ?_
        exact lX12_equal_25 X N d rc hrc v0 q4.1 q7.2 q hf nv0
    · rw [if_neg c6] at hf
      refine r_if_ne_t (dGet dX12_equal (j := 6) rfl) rfl c6 ?_
      refine Run.weak [(0, .ref v0), (1, .int q4.1)] (by simp) (by simp [pNd]) ?_
      exact lX12_equal_25 X N d rc hrc v0 q4.1 q5.2 q hf nv0
  · rw [if_neg hc] at hf; cases hf
def eX12_both : List (Nat × Instr × Nat) := [(0, .aload_n 0, 1), (1, .invokevirtual 312, 3), (4, .istore_n 1, 1), (5, .aload_n 0, 1), (6, .sipush 294, 3), (9, .invokevirtual 295, 3), (12, .ifCond .eq 25, 3), (15, .aload_n 0, 1), (16, .invokevirtual 289, 3), (19, .aload_n 0, 1), (20, .invokevirtual 312, 3), (23, .istore_n 2, 1), (24, .aload_n 0, 1), (25, .bipush 16, 2), (27, .iload_n 1, 1), (28, .iload_n 2, 1), (29, .iconst 0, 1), (30, .invokevirtual 308, 3), (33, .istore_n 1, 1), (34, .goto (-29), 3), (37, .iload_n 1, 1), (38, .ireturn, 1)]
theorem dX12_both : dChk (pCd 8215) eX12_both = true := by decide +kernel
def fX12_both_5 (N : Nat) (rc : Nat → List Value → pH → Option (Option Value × pH)) : Nat → Nat → Int32 → pH → Option (Int32 × pH)
  | 0, _, _, _ => none
  | n + 1, v0, v1, h => (fX12_isSign N v0 (294 : Int32) h).bind fun q1 =>
  if q1.1 = 0 then (
  some (v1, q1.2)) else (
  (fX12_next N v0 q1.2).bind fun h3 =>
  (if isO h3 v0 12 = true then some () else none).bind fun _ =>
  (rcI rc 259 [.ref v0] h3).bind fun q5 =>
  (fX12_node N v0 (16 : Int32) v1 q5.1 (0 : Int32) q5.2).bind fun q6 =>
  fX12_both_5 N rc n v0 q6.1 q6.2)
theorem lX12_both_5 (X : pX) (N d : Nat) (rc : Nat → List Value → pH → Option (Option Value × pH)) (hrc : ∀ mn as h q, rc mn as h = some q → Calls X (d + 4) mn as h (q.1, q.2, 0, 0))  : ∀ (n : Nat) (v0 : Nat) (v1 : Int32) (h : pH) (q : Int32 × pH), fX12_both_5 N rc n v0 v1 h = some q → ¬ v0 = 4 → Run X (d + 5) 12 false (pCd 8215) 3 (some .int) 5 [(0, .ref v0), (1, .int v1)] [] h 0 0 (some (.int q.1), q.2, 0, 0) := by
  intro n
  induction n with
  | zero => intro v0 v1 h q hf; cases hf
  | succ n ih =>
    intro v0 v1 h q hf nv0
    unfold fX12_both_5 at hf
    refine r_aload_n (dGet dX12_both (j := 3) rfl) nv0 rfl ?_
    refine r_sipush (dGet dX12_both (j := 4) rfl) kS_294 ?_
    obtain ⟨q1, eq1, hf⟩ := Option.bind_eq_some_iff.mp hf
    refine r_virtual (dGet dX12_both (j := 5) rfl) L12_295 M247 rfl rfl (Nat.le_of_ble_eq_true rfl) (oX12_isSign eq1) (cX12_isSign X N (d + 4) v0 (294 : Int32) h q1 eq1) ?_
    by_cases c2 : q1.1 = 0
    · rw [if_pos c2] at hf
      refine r_if_eq_t (dGet dX12_both (j := 6) rfl) rfl c2 ?_
      refine r_iload_n (dGet dX12_both (j := 20) rfl) rfl ?_
      have hq := Option.some.inj hf
      subst hq
      exact r_iret (dGet dX12_both (j := 21) rfl) rfl rfl
    · rw [if_neg c2] at hf
      refine r_if_eq_f (dGet dX12_both (j := 6) rfl) rfl c2 ?_
      refine r_aload_n (dGet dX12_both (j := 7) rfl) nv0 rfl ?_
      obtain ⟨h3, eh3, hf⟩ := Option.bind_eq_some_iff.mp hf
      refine r_virtual (dGet dX12_both (j := 8) rfl) L12_289 M233 rfl rfl (Nat.le_of_ble_eq_true rfl) (oX12_next eh3) (cX12_next X N (d + 2) v0 q1.2 h3 eh3) ?_
      refine r_aload_n (dGet dX12_both (j := 9) rfl) nv0 rfl ?_
      obtain ⟨_, ec4, hf⟩ := Option.bind_eq_some_iff.mp hf
      obtain ⟨q5, eq5, hf⟩ := Option.bind_eq_some_iff.mp hf
      refine r_virtual (dGet dX12_both (j := 10) rfl) L12_312 M259 rfl rfl (Nat.le_of_ble_eq_true rfl) (guard_of ec4) (rcI_calls hrc eq5) ?_
      refine r_istore_n (lv' := [(2, .int q5.1), (0, .ref v0), (1, .int v1)]) (dGet dX12_both (j := 11) rfl) (by decide) rfl ?_
      refine r_aload_n (dGet dX12_both (j := 12) rfl) nv0 rfl ?_
      refine r_bipush (dGet dX12_both (j := 13) rfl) kB_16 ?_
      refine r_iload_n (dGet dX12_both (j := 14) rfl) rfl ?_
      refine r_iload_n (dGet dX12_both (j := 15) rfl) rfl ?_
      refine r_iconst (dGet dX12_both (j := 16) rfl) kI_0 ?_
      obtain ⟨q6, eq6, hf⟩ := Option.bind_eq_some_iff.mp hf
      refine r_virtual (dGet dX12_both (j := 17) rfl) L12_308 M266 rfl rfl (Nat.le_of_ble_eq_true rfl) (oX12_node eq6) (cX12_node X N (d + 4) v0 (16 : Int32) v1 q5.1 (0 : Int32) q5.2 q6 eq6) ?_
      refine r_istore_n (lv' := [(1, .int q6.1), (2, .int q5.1), (0, .ref v0)]) (dGet dX12_both (j := 18) rfl) (by decide) rfl ?_
      refine r_goto (dGet dX12_both (j := 19) rfl) rfl ?_
      refine Run.weak [(0, .ref v0), (1, .int q6.1)] (by simp) (by simp [pNd]) ?_
      exact ih v0 q6.1 q6.2 q hf nv0
def fX12_both (N : Nat) (rc : Nat → List Value → pH → Option (Option Value × pH)) (v0 : Nat) (h : pH) : Option (Int32 × pH) := if isO h v0 12 = true then (
  (if isO h v0 12 = true then some () else none).bind fun _ =>
  (rcI rc 259 [.ref v0] h).bind fun q8 =>
  fX12_both_5 N rc N v0 q8.1 q8.2) else none
theorem oX12_both {N : Nat} {rc : Nat → List Value → pH → Option (Option Value × pH)} {v0 : Nat} {h : pH} {q : Int32 × pH} (hf : fX12_both N rc v0 h = some q) : isO h v0 12 = true := by
  unfold fX12_both at hf
  by_cases hc : isO h v0 12 = true
  · exact hc
  · rw [if_neg hc] at hf; cases hf
theorem cX12_both (X : pX) (N d : Nat) (rc : Nat → List Value → pH → Option (Option Value × pH)) (hrc : ∀ mn as h q, rc mn as h = some q → Calls X (d + 4) mn as h (q.1, q.2, 0, 0)) (v0 : Nat) (h : pH) (q : Int32 × pH) (hf : fX12_both N rc v0 h = some q) : Calls X (d + 5) 258 [.ref v0] h (some (.int q.1), q.2, 0, 0) := by
  refine Calls.of M258 (Nat.le_of_ble_eq_true rfl) ?_
  show Run X (d + 5) 12 false (pCd 8215) 3 (some .int) 0 [(0, .ref v0)] [] h 0 0 (some (.int q.1), q.2, 0, 0)
  unfold fX12_both at hf
  by_cases hc : isO h v0 12 = true
  · rw [if_pos hc] at hf
    have nv0 : ¬ v0 = 4 := isO_ne hc
    refine r_aload_n (dGet dX12_both (j := 0) rfl) nv0 rfl ?_
    obtain ⟨_, ec7, hf⟩ := Option.bind_eq_some_iff.mp hf
    obtain ⟨q8, eq8, hf⟩ := Option.bind_eq_some_iff.mp hf
    refine r_virtual (dGet dX12_both (j := 1) rfl) L12_312 M259 rfl rfl (Nat.le_of_ble_eq_true rfl) (guard_of ec7) (rcI_calls hrc eq8) ?_
    refine r_istore_n (lv' := [(1, .int q8.1), (0, .ref v0)]) (dGet dX12_both (j := 2) rfl) (by decide) rfl ?_
    refine Run.weak [(0, .ref v0), (1, .int q8.1)] (by simp) (by simp [pNd]) ?_
    exact lX12_both_5 X N d rc hrc N v0 q8.1 q8.2 q hf nv0
  · rw [if_neg hc] at hf; cases hf
def eX12_expression : List (Nat × Instr × Nat) := [(0, .aload_n 0, 1), (1, .invokevirtual 305, 3), (4, .istore_n 1, 1), (5, .aload_n 0, 1), (6, .sipush 380, 3), (9, .invokevirtual 295, 3), (12, .ifCond .eq 25, 3), (15, .aload_n 0, 1), (16, .invokevirtual 289, 3), (19, .aload_n 0, 1), (20, .invokevirtual 305, 3), (23, .istore_n 2, 1), (24, .aload_n 0, 1), (25, .bipush 17, 2), (27, .iload_n 1, 1), (28, .iload_n 2, 1), (29, .iconst 0, 1), (30, .invokevirtual 308, 3), (33, .istore_n 1, 1), (34, .goto (-29), 3), (37, .iload_n 1, 1), (38, .ireturn, 1)]
theorem dX12_expression : dChk (pCd 8211) eX12_expression = true := by decide +kernel
def fX12_expression_5 (N : Nat) (rc : Nat → List Value → pH → Option (Option Value × pH)) : Nat → Nat → Int32 → pH → Option (Int32 × pH)
  | 0, _, _, _ => none
  | n + 1, v0, v1, h => (fX12_isSign N v0 (380 : Int32) h).bind fun q1 =>
  if q1.1 = 0 then (
  some (v1, q1.2)) else (
  (fX12_next N v0 q1.2).bind fun h3 =>
  (if isO h3 v0 12 = true then some () else none).bind fun _ =>
  (rcI rc 258 [.ref v0] h3).bind fun q5 =>
  (fX12_node N v0 (17 : Int32) v1 q5.1 (0 : Int32) q5.2).bind fun q6 =>
  fX12_expression_5 N rc n v0 q6.1 q6.2)
theorem lX12_expression_5 (X : pX) (N d : Nat) (rc : Nat → List Value → pH → Option (Option Value × pH)) (hrc : ∀ mn as h q, rc mn as h = some q → Calls X (d + 4) mn as h (q.1, q.2, 0, 0))  : ∀ (n : Nat) (v0 : Nat) (v1 : Int32) (h : pH) (q : Int32 × pH), fX12_expression_5 N rc n v0 v1 h = some q → ¬ v0 = 4 → Run X (d + 5) 12 false (pCd 8211) 3 (some .int) 5 [(0, .ref v0), (1, .int v1)] [] h 0 0 (some (.int q.1), q.2, 0, 0) := by
  intro n
  induction n with
  | zero => intro v0 v1 h q hf; cases hf
  | succ n ih =>
    intro v0 v1 h q hf nv0
    unfold fX12_expression_5 at hf
    refine r_aload_n (dGet dX12_expression (j := 3) rfl) nv0 rfl ?_
    refine r_sipush (dGet dX12_expression (j := 4) rfl) kS_380 ?_
    obtain ⟨q1, eq1, hf⟩ := Option.bind_eq_some_iff.mp hf
    refine r_virtual (dGet dX12_expression (j := 5) rfl) L12_295 M247 rfl rfl (Nat.le_of_ble_eq_true rfl) (oX12_isSign eq1) (cX12_isSign X N (d + 4) v0 (380 : Int32) h q1 eq1) ?_
    by_cases c2 : q1.1 = 0
    · rw [if_pos c2] at hf
      refine r_if_eq_t (dGet dX12_expression (j := 6) rfl) rfl c2 ?_
      refine r_iload_n (dGet dX12_expression (j := 20) rfl) rfl ?_
      have hq := Option.some.inj hf
      subst hq
      exact r_iret (dGet dX12_expression (j := 21) rfl) rfl rfl
    · rw [if_neg c2] at hf
      refine r_if_eq_f (dGet dX12_expression (j := 6) rfl) rfl c2 ?_
      refine r_aload_n (dGet dX12_expression (j := 7) rfl) nv0 rfl ?_
      obtain ⟨h3, eh3, hf⟩ := Option.bind_eq_some_iff.mp hf
      refine r_virtual (dGet dX12_expression (j := 8) rfl) L12_289 M233 rfl rfl (Nat.le_of_ble_eq_true rfl) (oX12_next eh3) (cX12_next X N (d + 2) v0 q1.2 h3 eh3) ?_
      refine r_aload_n (dGet dX12_expression (j := 9) rfl) nv0 rfl ?_
      obtain ⟨_, ec4, hf⟩ := Option.bind_eq_some_iff.mp hf
      obtain ⟨q5, eq5, hf⟩ := Option.bind_eq_some_iff.mp hf
      refine r_virtual (dGet dX12_expression (j := 10) rfl) L12_305 M258 rfl rfl (Nat.le_of_ble_eq_true rfl) (guard_of ec4) (rcI_calls hrc eq5) ?_
      refine r_istore_n (lv' := [(2, .int q5.1), (0, .ref v0), (1, .int v1)]) (dGet dX12_expression (j := 11) rfl) (by decide) rfl ?_
      refine r_aload_n (dGet dX12_expression (j := 12) rfl) nv0 rfl ?_
      refine r_bipush (dGet dX12_expression (j := 13) rfl) kB_17 ?_
      refine r_iload_n (dGet dX12_expression (j := 14) rfl) rfl ?_
      refine r_iload_n (dGet dX12_expression (j := 15) rfl) rfl ?_
      refine r_iconst (dGet dX12_expression (j := 16) rfl) kI_0 ?_
      obtain ⟨q6, eq6, hf⟩ := Option.bind_eq_some_iff.mp hf
      refine r_virtual (dGet dX12_expression (j := 17) rfl) L12_308 M266 rfl rfl (Nat.le_of_ble_eq_true rfl) (oX12_node eq6) (cX12_node X N (d + 4) v0 (17 : Int32) v1 q5.1 (0 : Int32) q5.2 q6 eq6) ?_
      refine r_istore_n (lv' := [(1, .int q6.1), (2, .int q5.1), (0, .ref v0)]) (dGet dX12_expression (j := 18) rfl) (by decide) rfl ?_
      refine r_goto (dGet dX12_expression (j := 19) rfl) rfl ?_
      refine Run.weak [(0, .ref v0), (1, .int q6.1)] (by simp) (by simp [pNd]) ?_
      exact ih v0 q6.1 q6.2 q hf nv0
def fX12_expression (N : Nat) (rc : Nat → List Value → pH → Option (Option Value × pH)) (v0 : Nat) (h : pH) : Option (Int32 × pH) := if isO h v0 12 = true then (
  (if isO h v0 12 = true then some () else none).bind fun _ =>
  (rcI rc 258 [.ref v0] h).bind fun q8 =>
  fX12_expression_5 N rc N v0 q8.1 q8.2) else none
theorem oX12_expression {N : Nat} {rc : Nat → List Value → pH → Option (Option Value × pH)} {v0 : Nat} {h : pH} {q : Int32 × pH} (hf : fX12_expression N rc v0 h = some q) : isO h v0 12 = true := by
  unfold fX12_expression at hf
  by_cases hc : isO h v0 12 = true
  · exact hc
  · rw [if_neg hc] at hf; cases hf
theorem cX12_expression (X : pX) (N d : Nat) (rc : Nat → List Value → pH → Option (Option Value × pH)) (hrc : ∀ mn as h q, rc mn as h = some q → Calls X (d + 4) mn as h (q.1, q.2, 0, 0)) (v0 : Nat) (h : pH) (q : Int32 × pH) (hf : fX12_expression N rc v0 h = some q) : Calls X (d + 5) 257 [.ref v0] h (some (.int q.1), q.2, 0, 0) := by
  refine Calls.of M257 (Nat.le_of_ble_eq_true rfl) ?_
  show Run X (d + 5) 12 false (pCd 8211) 3 (some .int) 0 [(0, .ref v0)] [] h 0 0 (some (.int q.1), q.2, 0, 0)
  unfold fX12_expression at hf
  by_cases hc : isO h v0 12 = true
  · rw [if_pos hc] at hf
    have nv0 : ¬ v0 = 4 := isO_ne hc
    refine r_aload_n (dGet dX12_expression (j := 0) rfl) nv0 rfl ?_
    obtain ⟨_, ec7, hf⟩ := Option.bind_eq_some_iff.mp hf
    obtain ⟨q8, eq8, hf⟩ := Option.bind_eq_some_iff.mp hf
    refine r_virtual (dGet dX12_expression (j := 1) rfl) L12_305 M258 rfl rfl (Nat.le_of_ble_eq_true rfl) (guard_of ec7) (rcI_calls hrc eq8) ?_
    refine r_istore_n (lv' := [(1, .int q8.1), (0, .ref v0)]) (dGet dX12_expression (j := 2) rfl) (by decide) rfl ?_
    refine Run.weak [(0, .ref v0), (1, .int q8.1)] (by simp) (by simp [pNd]) ?_
    exact lX12_expression_5 X N d rc hrc N v0 q8.1 q8.2 q hf nv0
  · rw [if_neg hc] at hf; cases hf
def gX12_sum (N : Nat) : Nat → Nat → List Value → pH → Option (Option Value × pH)
  | 0 => fun _ _ _ => none
  | j + 1 => fun mn as h =>
    if mn = 261 then (match as with
      | [.ref a0] => (fX12_sum N (gX12_sum N j) a0 h).map (fun q => (some (.int q.1), q.2))
      | _ => none) else
    if mn = 265 then (match as with
      | [.ref a0] => (fX12_first N (gX12_sum N j) a0 h).map (fun q => (some (.int q.1), q.2))
      | _ => none) else
    if mn = 267 then (match as with
      | [.ref a0, .int a1, .int a2, .int a3] => (fX12_called N (gX12_sum N j) a0 a1 a2 a3 h).map (fun q => (some (.int q.1), q.2))
      | _ => none) else
    if mn = 264 then (match as with
      | [.ref a0] => (fX12_chain N (gX12_sum N j) a0 h).map (fun q => (some (.int q.1), q.2))
      | _ => none) else
    if mn = 263 then (match as with
      | [.ref a0] => (fX12_single N (gX12_sum N j) a0 h).map (fun q => (some (.int q.1), q.2))
      | _ => none) else
    if mn = 262 then (match as with
      | [.ref a0] => (fX12_product N (gX12_sum N j) a0 h).map (fun q => (some (.int q.1), q.2))
      | _ => none) else
    if mn = 268 then (match as with
      | [.ref a0, .int a1] => (fX12_signed N (gX12_sum N j) a0 a1 h).map (fun q => (some (.int q.1), q.2))
      | _ => none) else
    if mn = 260 then (match as with
      | [.ref a0] => (fX12_related N (gX12_sum N j) a0 h).map (fun q => (some (.int q.1), q.2))
      | _ => none) else
    if mn = 259 then (match as with
      | [.ref a0] => (fX12_equal N (gX12_sum N j) a0 h).map (fun q => (some (.int q.1), q.2))
      | _ => none) else
    if mn = 258 then (match as with
      | [.ref a0] => (fX12_both N (gX12_sum N j) a0 h).map (fun q => (some (.int q.1), q.2))
      | _ => none) else
    if mn = 257 then (match as with
      | [.ref a0] => (fX12_expression N (gX12_sum N j) a0 h).map (fun q => (some (.int q.1), q.2))
      | _ => none) else
    none
theorem gX12_sum_calls (X : pX) (N d : Nat) : ∀ (j mn : Nat) (as : List Value) (h : pH) (q : Option Value × pH), gX12_sum N j mn as h = some q → Calls X (d + 4 + j) mn as h (q.1, q.2, 0, 0)
  | 0, _, _, _, _, hf => by cases hf
  | j + 1, mn, as, h, q, hf => by
    have ih := gX12_sum_calls X N d j
    unfold gX12_sum at hf
    by_cases c261 : mn = 261
    · rw [if_pos c261] at hf
      subst c261
      split at hf
      · rename_i a0
        obtain ⟨x, e1, rfl⟩ := Option.map_eq_some_iff.mp hf
        have := cX12_sum X N (d + j) (gX12_sum N j) (fun mn as h q e => by have := ih mn as h q e; rw [show d + j + 4 = d + 4 + j by omega]; exact this) a0 h x e1
        rw [show d + 4 + (j + 1) = d + j + 5 by omega]
        exact this
      · cases hf
    rw [if_neg c261] at hf
    by_cases c265 : mn = 265
    · rw [if_pos c265] at hf
      subst c265
      split at hf
      · rename_i a0
        obtain ⟨x, e1, rfl⟩ := Option.map_eq_some_iff.mp hf
        have := cX12_first X N (d + j) (gX12_sum N j) (fun mn as h q e => by have := ih mn as h q e; rw [show d + j + 4 = d + 4 + j by omega]; exact this) a0 h x e1
        rw [show d + 4 + (j + 1) = d + j + 5 by omega]
        exact this
      · cases hf
    rw [if_neg c265] at hf
    by_cases c267 : mn = 267
    · rw [if_pos c267] at hf
      subst c267
      split at hf
      · rename_i a0 a1 a2 a3
        obtain ⟨x, e1, rfl⟩ := Option.map_eq_some_iff.mp hf
        have := cX12_called X N (d + j) (gX12_sum N j) (fun mn as h q e => by have := ih mn as h q e; rw [show d + j + 4 = d + 4 + j by omega]; exact this) a0 a1 a2 a3 h x e1
        rw [show d + 4 + (j + 1) = d + j + 5 by omega]
        exact this
      · cases hf
    rw [if_neg c267] at hf
    by_cases c264 : mn = 264
    · rw [if_pos c264] at hf
      subst c264
      split at hf
      · rename_i a0
        obtain ⟨x, e1, rfl⟩ := Option.map_eq_some_iff.mp hf
        have := cX12_chain X N (d + j) (gX12_sum N j) (fun mn as h q e => by have := ih mn as h q e; rw [show d + j + 4 = d + 4 + j by omega]; exact this) a0 h x e1
        rw [show d + 4 + (j + 1) = d + j + 5 by omega]
        exact this
      · cases hf
    rw [if_neg c264] at hf
    by_cases c263 : mn = 263
    · rw [if_pos c263] at hf
      subst c263
      split at hf
      · rename_i a0
        obtain ⟨x, e1, rfl⟩ := Option.map_eq_some_iff.mp hf
        have := cX12_single X N (d + j) (gX12_sum N j) (fun mn as h q e => by have := ih mn as h q e; rw [show d + j + 4 = d + 4 + j by omega]; exact this) a0 h x e1
        rw [show d + 4 + (j + 1) = d + j + 5 by omega]
        exact this
      · cases hf
    rw [if_neg c263] at hf
    by_cases c262 : mn = 262
    · rw [if_pos c262] at hf
      subst c262
      split at hf
      · rename_i a0
        obtain ⟨x, e1, rfl⟩ := Option.map_eq_some_iff.mp hf
        have := cX12_product X N (d + j) (gX12_sum N j) (fun mn as h q e => by have := ih mn as h q e; rw [show d + j + 4 = d + 4 + j by omega]; exact this) a0 h x e1
        rw [show d + 4 + (j + 1) = d + j + 5 by omega]
        exact this
      · cases hf
    rw [if_neg c262] at hf
    by_cases c268 : mn = 268
    · rw [if_pos c268] at hf
      subst c268
      split at hf
      · rename_i a0 a1
        obtain ⟨x, e1, rfl⟩ := Option.map_eq_some_iff.mp hf
        have := cX12_signed X N (d + j) (gX12_sum N j) (fun mn as h q e => by have := ih mn as h q e; rw [show d + j + 4 = d + 4 + j by omega]; exact this) a0 a1 h x e1
        rw [show d + 4 + (j + 1) = d + j + 5 by omega]
        exact this
      · cases hf
    rw [if_neg c268] at hf
    by_cases c260 : mn = 260
    · rw [if_pos c260] at hf
      subst c260
      split at hf
      · rename_i a0
        obtain ⟨x, e1, rfl⟩ := Option.map_eq_some_iff.mp hf
        have := cX12_related X N (d + j) (gX12_sum N j) (fun mn as h q e => by have := ih mn as h q e; rw [show d + j + 4 = d + 4 + j by omega]; exact this) a0 h x e1
        rw [show d + 4 + (j + 1) = d + j + 5 by omega]
        exact this
      · cases hf
    rw [if_neg c260] at hf
    by_cases c259 : mn = 259
    · rw [if_pos c259] at hf
      subst c259
      split at hf
      · rename_i a0
        obtain ⟨x, e1, rfl⟩ := Option.map_eq_some_iff.mp hf
        have := cX12_equal X N (d + j) (gX12_sum N j) (fun mn as h q e => by have := ih mn as h q e; rw [show d + j + 4 = d + 4 + j by omega]; exact this) a0 h x e1
        rw [show d + 4 + (j + 1) = d + j + 5 by omega]
        exact this
      · cases hf
    rw [if_neg c259] at hf
    by_cases c258 : mn = 258
    · rw [if_pos c258] at hf
      subst c258
      split at hf
      · rename_i a0
        obtain ⟨x, e1, rfl⟩ := Option.map_eq_some_iff.mp hf
        have := cX12_both X N (d + j) (gX12_sum N j) (fun mn as h q e => by have := ih mn as h q e; rw [show d + j + 4 = d + 4 + j by omega]; exact this) a0 h x e1
        rw [show d + 4 + (j + 1) = d + j + 5 by omega]
        exact this
      · cases hf
    rw [if_neg c258] at hf
    by_cases c257 : mn = 257
    · rw [if_pos c257] at hf
      subst c257
      split at hf
      · rename_i a0
        obtain ⟨x, e1, rfl⟩ := Option.map_eq_some_iff.mp hf
        have := cX12_expression X N (d + j) (gX12_sum N j) (fun mn as h q e => by have := ih mn as h q e; rw [show d + j + 4 = d + 4 + j by omega]; exact this) a0 h x e1
        rw [show d + 4 + (j + 1) = d + j + 5 by omega]
        exact this
      · cases hf
    rw [if_neg c257] at hf
    cases hf
def eX12_inParentheses : List (Nat × Instr × Nat) := [(0, .aload_n 0, 1), (1, .aload_n 0, 1), (2, .bipush 40, 2), (4, .invokevirtual 295, 3), (7, .invokevirtual 339, 3), (10, .ifCond .eq 10, 3), (13, .aload_n 0, 1), (14, .invokevirtual 349, 3), (17, .goto 4, 3), (20, .iconst (-1), 1), (21, .istore_n 1, 1), (22, .aload_n 0, 1), (23, .bipush 41, 2), (25, .invokevirtual 352, 3), (28, .iload_n 1, 1), (29, .ireturn, 1)]
theorem dX12_inParentheses : dChk (pCd 9021) eX12_inParentheses = true := by decide +kernel
def fX12_inParentheses_21 (N : Nat) (v0 : Nat) (s0 : Int32) (h : pH) : Option (Int32 × pH) :=
  (fX12_closes N v0 (41 : Int32) h).bind fun h1 =>
  some (s0, h1)
theorem lX12_inParentheses_21 (X : pX) (N d : Nat)  (v0 : Nat) (s0 : Int32) (h : pH) (q : Int32 × pH) (hf : fX12_inParentheses_21 N v0 s0 h = some q) (nv0 : ¬ v0 = 4) : Run X (d + 605) 12 false (pCd 9021) 2 (some .int) 21 [(0, .ref v0)] [.int s0] h 0 0 (some (.int q.1), q.2, 0, 0) := by
  unfold fX12_inParentheses_21 at hf
  refine r_istore_n (lv' := [(1, .int s0), (0, .ref v0)]) (dGet dX12_inParentheses (j := 10) rfl) (by decide) rfl ?_
  refine r_aload_n (dGet dX12_inParentheses (j := 11) rfl) nv0 rfl ?_
  refine r_bipush (dGet dX12_inParentheses (j := 12) rfl) kB_41 ?_
  obtain ⟨h1, eh1, hf⟩ := Option.bind_eq_some_iff.mp hf
  refine r_virtual (dGet dX12_inParentheses (j := 13) rfl) L12_352 M252 rfl rfl (Nat.le_of_ble_eq_true rfl) (oX12_closes eh1) (cX12_closes X N (d + 600) v0 (41 : Int32) h h1 eh1) ?_
  refine r_iload_n (dGet dX12_inParentheses (j := 14) rfl) rfl ?_
  have hq := Option.some.inj hf
  subst hq
  exact r_iret (dGet dX12_inParentheses (j := 15) rfl) rfl rfl
def fX12_inParentheses (N : Nat) (v0 : Nat) (h : pH) : Option (Int32 × pH) := if isO h v0 12 = true then (
  (fX12_isSign N v0 (40 : Int32) h).bind fun q2 =>
  (fX12_opens N v0 q2.1 q2.2).bind fun q3 =>
  if q3.1 = 0 then (
  fX12_inParentheses_21 N v0 (-1 : Int32) q3.2) else (
  (if isO q3.2 v0 12 = true then some () else none).bind fun _ =>
  (rcI (gX12_sum N 600) 257 [.ref v0] q3.2).bind fun q5 =>
  fX12_inParentheses_21 N v0 q5.1 q5.2)) else none
theorem oX12_inParentheses {N : Nat} {v0 : Nat} {h : pH} {q : Int32 × pH} (hf : fX12_inParentheses N v0 h = some q) : isO h v0 12 = true := by
  unfold fX12_inParentheses at hf
  by_cases hc : isO h v0 12 = true
  · exact hc
  · rw [if_neg hc] at hf; cases hf
theorem cX12_inParentheses (X : pX) (N d : Nat) (v0 : Nat) (h : pH) (q : Int32 × pH) (hf : fX12_inParentheses N v0 h = some q) : Calls X (d + 605) 269 [.ref v0] h (some (.int q.1), q.2, 0, 0) := by
  refine Calls.of M269 (Nat.le_of_ble_eq_true rfl) ?_
  show Run X (d + 605) 12 false (pCd 9021) 2 (some .int) 0 [(0, .ref v0)] [] h 0 0 (some (.int q.1), q.2, 0, 0)
  unfold fX12_inParentheses at hf
  by_cases hc : isO h v0 12 = true
  · rw [if_pos hc] at hf
    have nv0 : ¬ v0 = 4 := isO_ne hc
    refine r_aload_n (dGet dX12_inParentheses (j := 0) rfl) nv0 rfl ?_
    refine r_aload_n (dGet dX12_inParentheses (j := 1) rfl) nv0 rfl ?_
    refine r_bipush (dGet dX12_inParentheses (j := 2) rfl) kB_40 ?_
    obtain ⟨q2, eq2, hf⟩ := Option.bind_eq_some_iff.mp hf
    refine r_virtual (dGet dX12_inParentheses (j := 3) rfl) L12_295 M247 rfl rfl (Nat.le_of_ble_eq_true rfl) (oX12_isSign eq2) (cX12_isSign X N (d + 604) v0 (40 : Int32) h q2 eq2) ?_
    obtain ⟨q3, eq3, hf⟩ := Option.bind_eq_some_iff.mp hf
    refine r_virtual (dGet dX12_inParentheses (j := 4) rfl) L12_339 M248 rfl rfl (Nat.le_of_ble_eq_true rfl) (oX12_opens eq3) (cX12_opens X N (d + 601) v0 q2.1 q2.2 q3 eq3) ?_
    by_cases c4 : q3.1 = 0
    · rw [if_pos c4] at hf
      refine r_if_eq_t (dGet dX12_inParentheses (j := 5) rfl) rfl c4 ?_
      refine r_iconst (dGet dX12_inParentheses (j := 9) rfl) kI_m1 ?_
      exact lX12_inParentheses_21 X N d v0 (-1 : Int32) q3.2 q hf nv0
    · rw [if_neg c4] at hf
      refine r_if_eq_f (dGet dX12_inParentheses (j := 5) rfl) rfl c4 ?_
      refine r_aload_n (dGet dX12_inParentheses (j := 6) rfl) nv0 rfl ?_
      obtain ⟨_, ec6, hf⟩ := Option.bind_eq_some_iff.mp hf
      obtain ⟨q5, eq5, hf⟩ := Option.bind_eq_some_iff.mp hf
      refine r_virtual (dGet dX12_inParentheses (j := 7) rfl) L12_349 M257 rfl rfl (Nat.le_of_ble_eq_true rfl) (guard_of ec6) (rcI_calls (gX12_sum_calls X N (d + 0) 600) eq5) ?_
      refine r_goto (dGet dX12_inParentheses (j := 8) rfl) rfl ?_
      exact lX12_inParentheses_21 X N d v0 q5.1 q5.2 q hf nv0
  · rw [if_neg hc] at hf; cases hf
def eX12_isNameAhead : List (Nat × Instr × Nat) := [(0, .aload_n 0, 1), (1, .getfield 253, 3), (4, .istore_n 1, 1), (5, .aload_n 0, 1), (6, .getfield 263, 3), (9, .istore_n 2, 1), (10, .aload_n 0, 1), (11, .getfield 246, 3), (14, .istore_n 3, 1), (15, .aload_n 0, 1), (16, .getfield 243, 3), (19, .istore 4, 2), (21, .aload_n 0, 1), (22, .getfield 256, 3), (25, .istore 5, 2), (27, .aload_n 0, 1), (28, .getfield 221, 3), (31, .istore 6, 2), (33, .aload_n 0, 1), (34, .invokevirtual 289, 3), (37, .aload_n 0, 1), (38, .getfield 263, 3), (41, .iconst 2, 1), (42, .if_icmp .ne 7, 3), (45, .iconst 1, 1), (46, .goto 4, 3), (49, .iconst 0, 1), (50, .istore 7, 2), (52, .aload_n 0, 1), (53, .iload_n 1, 1), (54, .putfield 253, 3), (57, .aload_n 0, 1), (58, .iload_n 2, 1), (59, .putfield 263, 3), (62, .aload_n 0, 1), (63, .iload_n 3, 1), (64, .putfield 246, 3), (67, .aload_n 0, 1), (68, .iload 4, 2), (70, .putfield 243, 3), (73, .aload_n 0, 1), (74, .iload 5, 2), (76, .putfield 256, 3), (79, .aload_n 0, 1), (80, .iload 6, 2), (82, .putfield 221, 3), (85, .iload 7, 2), (87, .ireturn, 1)]
theorem dX12_isNameAhead : dChk (pCd 8203) eX12_isNameAhead = true := by decide +kernel
def fX12_isNameAhead_50 (N : Nat) (v0 : Nat) (v1 : Int32) (v2 : Int32) (v3 : Int32) (v4 : Int32) (v5 : Int32) (v6 : Int32) (s0 : Int32) (h : pH) : Option (Int32 × pH) :=
  (putI h v0 12 4 v1).bind fun h1 =>
  (putI h1 v0 12 5 v2).bind fun h2 =>
  (putI h2 v0 12 6 v3).bind fun h3 =>
  (putI h3 v0 12 7 v4).bind fun h4 =>
  (putI h4 v0 12 8 v5).bind fun h5 =>
  (putI h5 v0 12 11 v6).bind fun h6 =>
  if pRet .boolean s0 = true then some (s0, h6) else none
theorem lX12_isNameAhead_50 (X : pX) (N d : Nat)  (v0 : Nat) (v1 : Int32) (v2 : Int32) (v3 : Int32) (v4 : Int32) (v5 : Int32) (v6 : Int32) (s0 : Int32) (h : pH) (q : Int32 × pH) (hf : fX12_isNameAhead_50 N v0 v1 v2 v3 v4 v5 v6 s0 h = some q) (nv0 : ¬ v0 = 4) : Run X (d + 3) 12 false (pCd 8203) 8 (some .boolean) 50 [(0, .ref v0), (1, .int v1), (2, .int v2), (3, .int v3), (4, .int v4), (5, .int v5), (6, .int v6)] [.int s0] h 0 0 (some (.int q.1), q.2, 0, 0) := by
  unfold fX12_isNameAhead_50 at hf
  refine r_istore (lv' := [(7, .int s0), (0, .ref v0), (1, .int v1), (2, .int v2), (3, .int v3), (4, .int v4), (5, .int v5), (6, .int v6)]) (dGet dX12_isNameAhead (j := 27) rfl) (by decide) rfl ?_
  refine r_aload_n (dGet dX12_isNameAhead (j := 28) rfl) nv0 rfl ?_
  refine r_iload_n (dGet dX12_isNameAhead (j := 29) rfl) rfl ?_
  obtain ⟨h1, eh1, hf⟩ := Option.bind_eq_some_iff.mp hf
  refine r_putI (dGet dX12_isNameAhead (j := 30) rfl) F12_253 rfl rfl eh1 ?_
  refine r_aload_n (dGet dX12_isNameAhead (j := 31) rfl) nv0 rfl ?_
  refine r_iload_n (dGet dX12_isNameAhead (j := 32) rfl) rfl ?_
  obtain ⟨h2, eh2, hf⟩ := Option.bind_eq_some_iff.mp hf
  refine r_putI (dGet dX12_isNameAhead (j := 33) rfl) F12_263 rfl rfl eh2 ?_
  refine r_aload_n (dGet dX12_isNameAhead (j := 34) rfl) nv0 rfl ?_
  refine r_iload_n (dGet dX12_isNameAhead (j := 35) rfl) rfl ?_
  obtain ⟨h3, eh3, hf⟩ := Option.bind_eq_some_iff.mp hf
  refine r_putI (dGet dX12_isNameAhead (j := 36) rfl) F12_246 rfl rfl eh3 ?_
  refine r_aload_n (dGet dX12_isNameAhead (j := 37) rfl) nv0 rfl ?_
  refine r_iload (dGet dX12_isNameAhead (j := 38) rfl) rfl ?_
  obtain ⟨h4, eh4, hf⟩ := Option.bind_eq_some_iff.mp hf
  refine r_putI (dGet dX12_isNameAhead (j := 39) rfl) F12_243 rfl rfl eh4 ?_
  refine r_aload_n (dGet dX12_isNameAhead (j := 40) rfl) nv0 rfl ?_
  refine r_iload (dGet dX12_isNameAhead (j := 41) rfl) rfl ?_
  obtain ⟨h5, eh5, hf⟩ := Option.bind_eq_some_iff.mp hf
  refine r_putI (dGet dX12_isNameAhead (j := 42) rfl) F12_256 rfl rfl eh5 ?_
  refine r_aload_n (dGet dX12_isNameAhead (j := 43) rfl) nv0 rfl ?_
  refine r_iload (dGet dX12_isNameAhead (j := 44) rfl) rfl ?_
  obtain ⟨h6, eh6, hf⟩ := Option.bind_eq_some_iff.mp hf
  refine r_putI (dGet dX12_isNameAhead (j := 45) rfl) F12_221 rfl rfl eh6 ?_
  refine r_iload (dGet dX12_isNameAhead (j := 46) rfl) rfl ?_
  by_cases c7 : pRet .boolean s0 = true
  · rw [if_pos c7] at hf
    have hq := Option.some.inj hf
    subst hq
    exact r_iret (dGet dX12_isNameAhead (j := 47) rfl) rfl c7
  · rw [if_neg c7] at hf; cases hf
def fX12_isNameAhead (N : Nat) (v0 : Nat) (h : pH) : Option (Int32 × pH) := if isO h v0 12 = true then (
  (getI h v0 12 4).bind fun t8 =>
  (getI h v0 12 5).bind fun t9 =>
  (getI h v0 12 6).bind fun t10 =>
  (getI h v0 12 7).bind fun t11 =>
  (getI h v0 12 8).bind fun t12 =>
  (getI h v0 12 11).bind fun t13 =>
  (fX12_next N v0 h).bind fun h14 =>
  (getI h14 v0 12 5).bind fun t15 =>
  if t15 = (2 : Int32) then (
  fX12_isNameAhead_50 N v0 t8 t9 t10 t11 t12 t13 (1 : Int32) h14) else (
  fX12_isNameAhead_50 N v0 t8 t9 t10 t11 t12 t13 (0 : Int32) h14)) else none
theorem oX12_isNameAhead {N : Nat} {v0 : Nat} {h : pH} {q : Int32 × pH} (hf : fX12_isNameAhead N v0 h = some q) : isO h v0 12 = true := by
  unfold fX12_isNameAhead at hf
  by_cases hc : isO h v0 12 = true
  · exact hc
  · rw [if_neg hc] at hf; cases hf
theorem cX12_isNameAhead (X : pX) (N d : Nat) (v0 : Nat) (h : pH) (q : Int32 × pH) (hf : fX12_isNameAhead N v0 h = some q) : Calls X (d + 3) 255 [.ref v0] h (some (.int q.1), q.2, 0, 0) := by
  refine Calls.of M255 (Nat.le_of_ble_eq_true rfl) ?_
  show Run X (d + 3) 12 false (pCd 8203) 8 (some .boolean) 0 [(0, .ref v0)] [] h 0 0 (some (.int q.1), q.2, 0, 0)
  unfold fX12_isNameAhead at hf
  by_cases hc : isO h v0 12 = true
  · rw [if_pos hc] at hf
    have nv0 : ¬ v0 = 4 := isO_ne hc
    refine r_aload_n (dGet dX12_isNameAhead (j := 0) rfl) nv0 rfl ?_
    obtain ⟨t8, et8, hf⟩ := Option.bind_eq_some_iff.mp hf
    refine r_getI (dGet dX12_isNameAhead (j := 1) rfl) F12_253 et8 ?_
    refine r_istore_n (lv' := [(1, .int t8), (0, .ref v0)]) (dGet dX12_isNameAhead (j := 2) rfl) (by decide) rfl ?_
    refine r_aload_n (dGet dX12_isNameAhead (j := 3) rfl) nv0 rfl ?_
    obtain ⟨t9, et9, hf⟩ := Option.bind_eq_some_iff.mp hf
    refine r_getI (dGet dX12_isNameAhead (j := 4) rfl) F12_263 et9 ?_
    refine r_istore_n (lv' := [(2, .int t9), (1, .int t8), (0, .ref v0)]) (dGet dX12_isNameAhead (j := 5) rfl) (by decide) rfl ?_
    refine r_aload_n (dGet dX12_isNameAhead (j := 6) rfl) nv0 rfl ?_
    obtain ⟨t10, et10, hf⟩ := Option.bind_eq_some_iff.mp hf
    refine r_getI (dGet dX12_isNameAhead (j := 7) rfl) F12_246 et10 ?_
    refine r_istore_n (lv' := [(3, .int t10), (2, .int t9), (1, .int t8), (0, .ref v0)]) (dGet dX12_isNameAhead (j := 8) rfl) (by decide) rfl ?_
    refine r_aload_n (dGet dX12_isNameAhead (j := 9) rfl) nv0 rfl ?_
    obtain ⟨t11, et11, hf⟩ := Option.bind_eq_some_iff.mp hf
    refine r_getI (dGet dX12_isNameAhead (j := 10) rfl) F12_243 et11 ?_
    refine r_istore (lv' := [(4, .int t11), (3, .int t10), (2, .int t9), (1, .int t8), (0, .ref v0)]) (dGet dX12_isNameAhead (j := 11) rfl) (by decide) rfl ?_
    refine r_aload_n (dGet dX12_isNameAhead (j := 12) rfl) nv0 rfl ?_
    obtain ⟨t12, et12, hf⟩ := Option.bind_eq_some_iff.mp hf
    refine r_getI (dGet dX12_isNameAhead (j := 13) rfl) F12_256 et12 ?_
    refine r_istore (lv' := [(5, .int t12), (4, .int t11), (3, .int t10), (2, .int t9), (1, .int t8), (0, .ref v0)]) (dGet dX12_isNameAhead (j := 14) rfl) (by decide) rfl ?_
    refine r_aload_n (dGet dX12_isNameAhead (j := 15) rfl) nv0 rfl ?_
    obtain ⟨t13, et13, hf⟩ := Option.bind_eq_some_iff.mp hf
    refine r_getI (dGet dX12_isNameAhead (j := 16) rfl) F12_221 et13 ?_
    refine r_istore (lv' := [(6, .int t13), (5, .int t12), (4, .int t11), (3, .int t10), (2, .int t9), (1, .int t8), (0, .ref v0)]) (dGet dX12_isNameAhead (j := 17) rfl) (by decide) rfl ?_
    refine r_aload_n (dGet dX12_isNameAhead (j := 18) rfl) nv0 rfl ?_
    obtain ⟨h14, eh14, hf⟩ := Option.bind_eq_some_iff.mp hf
    refine r_virtual (dGet dX12_isNameAhead (j := 19) rfl) L12_289 M233 rfl rfl (Nat.le_of_ble_eq_true rfl) (oX12_next eh14) (cX12_next X N (d + 0) v0 h h14 eh14) ?_
    refine r_aload_n (dGet dX12_isNameAhead (j := 20) rfl) nv0 rfl ?_
    obtain ⟨t15, et15, hf⟩ := Option.bind_eq_some_iff.mp hf
    refine r_getI (dGet dX12_isNameAhead (j := 21) rfl) F12_263 et15 ?_
    refine r_iconst (dGet dX12_isNameAhead (j := 22) rfl) kI_2 ?_
    by_cases c16 : t15 = (2 : Int32)
    · rw [if_pos c16] at hf
      refine r_icmp_ne_f (dGet dX12_isNameAhead (j := 23) rfl) rfl c16 ?_
      refine r_iconst (dGet dX12_isNameAhead (j := 24) rfl) kI_1 ?_
      refine r_goto (dGet dX12_isNameAhead (j := 25) rfl) rfl ?_
      refine Run.weak [(0, .ref v0), (1, .int t8), (2, .int t9), (3, .int t10), (4, .int t11), (5, .int t12), (6, .int t13)] (by simp) (by simp [pNd]) ?_
      exact lX12_isNameAhead_50 X N d v0 t8 t9 t10 t11 t12 t13 (1 : Int32) h14 q hf nv0
    · rw [if_neg c16] at hf
      refine r_icmp_ne_t (dGet dX12_isNameAhead (j := 23) rfl) rfl c16 ?_
      refine r_iconst (dGet dX12_isNameAhead (j := 26) rfl) kI_0 ?_
      refine Run.weak [(0, .ref v0), (1, .int t8), (2, .int t9), (3, .int t10), (4, .int t11), (5, .int t12), (6, .int t13)] (by simp) (by simp [pNd]) ?_
      exact lX12_isNameAhead_50 X N d v0 t8 t9 t10 t11 t12 t13 (0 : Int32) h14 q hf nv0
  · rw [if_neg hc] at hf; cases hf
def eX12_isType : List (Nat × Instr × Nat) := [(0, .aload_n 0, 1), (1, .iconst 2, 1), (2, .invokevirtual 330, 3), (5, .ifCond .ne 19, 3), (8, .aload_n 0, 1), (9, .iconst 3, 1), (10, .invokevirtual 330, 3), (13, .ifCond .ne 11, 3), (16, .aload_n 0, 1), (17, .iconst 4, 1), (18, .invokevirtual 330, 3), (21, .ifCond .eq 7, 3), (24, .iconst 1, 1), (25, .goto 4, 3), (28, .iconst 0, 1), (29, .ireturn, 1)]
theorem dX12_isType : dChk (pCd 8187) eX12_isType = true := by decide +kernel
def fX12_isType (N : Nat) (v0 : Nat) (h : pH) : Option (Int32 × pH) := if isO h v0 12 = true then (
  (fX12_isKey N v0 (2 : Int32) h).bind fun q1 =>
  if q1.1 = 0 then (
  (fX12_isKey N v0 (3 : Int32) q1.2).bind fun q3 =>
  if q3.1 = 0 then (
  (fX12_isKey N v0 (4 : Int32) q3.2).bind fun q5 =>
  if q5.1 = 0 then (
  some ((0 : Int32), q5.2)) else (
  some ((1 : Int32), q5.2))) else (
  some ((1 : Int32), q3.2))) else (
  some ((1 : Int32), q1.2))) else none
theorem oX12_isType {N : Nat} {v0 : Nat} {h : pH} {q : Int32 × pH} (hf : fX12_isType N v0 h = some q) : isO h v0 12 = true := by
  unfold fX12_isType at hf
  by_cases hc : isO h v0 12 = true
  · exact hc
  · rw [if_neg hc] at hf; cases hf
theorem cX12_isType (X : pX) (N d : Nat) (v0 : Nat) (h : pH) (q : Int32 × pH) (hf : fX12_isType N v0 h = some q) : Calls X (d + 1) 251 [.ref v0] h (some (.int q.1), q.2, 0, 0) := by
  refine Calls.of M251 (Nat.le_of_ble_eq_true rfl) ?_
  show Run X (d + 1) 12 false (pCd 8187) 1 (some .boolean) 0 [(0, .ref v0)] [] h 0 0 (some (.int q.1), q.2, 0, 0)
  unfold fX12_isType at hf
  by_cases hc : isO h v0 12 = true
  · rw [if_pos hc] at hf
    have nv0 : ¬ v0 = 4 := isO_ne hc
    refine r_aload_n (dGet dX12_isType (j := 0) rfl) nv0 rfl ?_
    refine r_iconst (dGet dX12_isType (j := 1) rfl) kI_2 ?_
    obtain ⟨q1, eq1, hf⟩ := Option.bind_eq_some_iff.mp hf
    refine r_virtual (dGet dX12_isType (j := 2) rfl) L12_330 M242 rfl rfl (Nat.le_of_ble_eq_true rfl) (oX12_isKey eq1) (cX12_isKey X N (d + 0) v0 (2 : Int32) h q1 eq1) ?_
    by_cases c2 : q1.1 = 0
    · rw [if_pos c2] at hf
      refine r_if_ne_f (dGet dX12_isType (j := 3) rfl) rfl c2 ?_
      refine r_aload_n (dGet dX12_isType (j := 4) rfl) nv0 rfl ?_
      refine r_iconst (dGet dX12_isType (j := 5) rfl) kI_3 ?_
      obtain ⟨q3, eq3, hf⟩ := Option.bind_eq_some_iff.mp hf
      refine r_virtual (dGet dX12_isType (j := 6) rfl) L12_330 M242 rfl rfl (Nat.le_of_ble_eq_true rfl) (oX12_isKey eq3) (cX12_isKey X N (d + 0) v0 (3 : Int32) q1.2 q3 eq3) ?_
      by_cases c4 : q3.1 = 0
      · rw [if_pos c4] at hf
        refine r_if_ne_f (dGet dX12_isType (j := 7) rfl) rfl c4 ?_
        refine r_aload_n (dGet dX12_isType (j := 8) rfl) nv0 rfl ?_
        refine r_iconst (dGet dX12_isType (j := 9) rfl) kI_4 ?_
        obtain ⟨q5, eq5, hf⟩ := Option.bind_eq_some_iff.mp hf
        refine r_virtual (dGet dX12_isType (j := 10) rfl) L12_330 M242 rfl rfl (Nat.le_of_ble_eq_true rfl) (oX12_isKey eq5) (cX12_isKey X N (d + 0) v0 (4 : Int32) q3.2 q5 eq5) ?_
        by_cases c6 : q5.1 = 0
        · rw [if_pos c6] at hf
          refine r_if_eq_t (dGet dX12_isType (j := 11) rfl) rfl c6 ?_
          refine r_iconst (dGet dX12_isType (j := 14) rfl) kI_0 ?_
          have hq := Option.some.inj hf
          subst hq
          exact r_iret (dGet dX12_isType (j := 15) rfl) rfl (by decide)
        · rw [if_neg c6] at hf
          refine r_if_eq_f (dGet dX12_isType (j := 11) rfl) rfl c6 ?_
          refine r_iconst (dGet dX12_isType (j := 12) rfl) kI_1 ?_
          refine r_goto (dGet dX12_isType (j := 13) rfl) rfl ?_
          have hq := Option.some.inj hf
          subst hq
          exact r_iret (dGet dX12_isType (j := 15) rfl) rfl (by decide)
      · rw [if_neg c4] at hf
        refine r_if_ne_t (dGet dX12_isType (j := 7) rfl) rfl c4 ?_
        refine r_iconst (dGet dX12_isType (j := 12) rfl) kI_1 ?_
        refine r_goto (dGet dX12_isType (j := 13) rfl) rfl ?_
        have hq := Option.some.inj hf
        subst hq
        exact r_iret (dGet dX12_isType (j := 15) rfl) rfl (by decide)
    · rw [if_neg c2] at hf
      refine r_if_ne_t (dGet dX12_isType (j := 3) rfl) rfl c2 ?_
      refine r_iconst (dGet dX12_isType (j := 12) rfl) kI_1 ?_
      refine r_goto (dGet dX12_isType (j := 13) rfl) rfl ?_
      have hq := Option.some.inj hf
      subst hq
      exact r_iret (dGet dX12_isType (j := 15) rfl) rfl (by decide)
  · rw [if_neg hc] at hf; cases hf
def eX12_placed : List (Nat × Instr × Nat) := [(0, .aload_n 0, 1), (1, .bipush 7, 2), (3, .invokevirtual 382, 3), (6, .istore_n 1, 1), (7, .aload_n 0, 1), (8, .invokevirtual 349, 3), (11, .istore_n 2, 1), (12, .aload_n 0, 1), (13, .getfield 283, 3), (16, .ifCond .lt 5, 3), (19, .iload_n 1, 1), (20, .ireturn, 1), (21, .aload_n 0, 1), (22, .getfield 55, 3), (25, .iload_n 1, 1), (26, .iload_n 2, 1), (27, .iastore, 1), (28, .aload_n 0, 1), (29, .bipush 61, 2), (31, .invokevirtual 295, 3), (34, .ifCond .eq 67, 3), (37, .aload_n 0, 1), (38, .getfield 25, 3), (41, .iload_n 2, 1), (42, .iaload, 1), (43, .iconst 4, 1), (44, .if_icmp .eq 25, 3), (47, .aload_n 0, 1), (48, .getfield 25, 3), (51, .iload_n 2, 1), (52, .iaload, 1), (53, .bipush 6, 2), (55, .if_icmp .eq 14, 3), (58, .aload_n 0, 1), (59, .getfield 25, 3), (62, .iload_n 2, 1), (63, .iaload, 1), (64, .bipush 7, 2), (66, .if_icmp .ne 35, 3), (69, .aload_n 0, 1), (70, .invokevirtual 289, 3), (73, .aload_n 0, 1), (74, .getfield 46, 3), (77, .iload_n 1, 1), (78, .bipush 8, 2), (80, .iastore, 1), (81, .aload_n 0, 1), (82, .getfield 58, 3), (85, .iload_n 1, 1), (86, .iload_n 2, 1), (87, .iastore, 1), (88, .aload_n 0, 1), (89, .getfield 55, 3), (92, .iload_n 1, 1), (93, .aload_n 0, 1), (94, .invokevirtual 349, 3), (97, .iastore, 1), (98, .goto 43, 3), (101, .aload_n 0, 1), (102, .bipush 59, 2), (104, .invokevirtual 295, 3), (107, .ifCond .eq 25, 3), (110, .aload_n 0, 1), (111, .getfield 25, 3), (114, .iload_n 2, 1), (115, .iaload, 1), (116, .bipush 8, 2), (118, .if_icmp .eq 23, 3), (121, .aload_n 0, 1), (122, .getfield 25, 3), (125, .iload_n 2, 1), (126, .iaload, 1), (127, .bipush 9, 2), (129, .if_icmp .eq 12, 3), (132, .aload_n 0, 1), (133, .aload_n 0, 1), (134, .getfield 246, 3), (137, .invokevirtual 286, 3), (140, .ireturn, 1), (141, .aload_n 0, 1), (142, .aload_n 0, 1), (143, .bipush 59, 2), (145, .invokevirtual 295, 3), (148, .invokevirtual 298, 3), (151, .istore_n 3, 1), (152, .iload_n 1, 1), (153, .ireturn, 1)]
theorem dX12_placed : dChk (pCd 9025) eX12_placed = true := by decide +kernel
def fX12_placed_141 (N : Nat) (v0 : Nat) (v1 : Int32) (h : pH) : Option (Int32 × pH) :=
  (fX12_isSign N v0 (59 : Int32) h).bind fun q1 =>
  (fX12_passes N v0 q1.1 q1.2).bind fun q2 =>
  some (v1, q2.2)
theorem lX12_placed_141 (X : pX) (N d : Nat)  (v0 : Nat) (v1 : Int32) (h : pH) (q : Int32 × pH) (hf : fX12_placed_141 N v0 v1 h = some q) (nv0 : ¬ v0 = 4) : Run X (d + 605) 12 false (pCd 9025) 4 (some .int) 141 [(0, .ref v0), (1, .int v1)] [] h 0 0 (some (.int q.1), q.2, 0, 0) := by
  unfold fX12_placed_141 at hf
  refine r_aload_n (dGet dX12_placed (j := 79) rfl) nv0 rfl ?_
  refine r_aload_n (dGet dX12_placed (j := 80) rfl) nv0 rfl ?_
  refine r_bipush (dGet dX12_placed (j := 81) rfl) kB_59 ?_
  obtain ⟨q1, eq1, hf⟩ := Option.bind_eq_some_iff.mp hf
  refine r_virtual (dGet dX12_placed (j := 82) rfl) L12_295 M247 rfl rfl (Nat.le_of_ble_eq_true rfl) (oX12_isSign eq1) (cX12_isSign X N (d + 604) v0 (59 : Int32) h q1 eq1) ?_
  obtain ⟨q2, eq2, hf⟩ := Option.bind_eq_some_iff.mp hf
  refine r_virtual (dGet dX12_placed (j := 83) rfl) L12_298 M243 rfl rfl (Nat.le_of_ble_eq_true rfl) (oX12_passes eq2) (cX12_passes X N (d + 601) v0 q1.1 q1.2 q2 eq2) ?_
  refine r_istore_n (lv' := [(3, .int q2.1), (0, .ref v0), (1, .int v1)]) (dGet dX12_placed (j := 84) rfl) (by decide) rfl ?_
  refine r_iload_n (dGet dX12_placed (j := 85) rfl) rfl ?_
  have hq := Option.some.inj hf
  subst hq
  exact r_iret (dGet dX12_placed (j := 86) rfl) rfl rfl
def fX12_placed_132 (N : Nat) (v0 : Nat) (h : pH) : Option (Int32 × pH) :=
  (getI h v0 12 6).bind fun t3 =>
  (fX12_fails N v0 t3 h).bind fun q4 =>
  some (q4.1, q4.2)
theorem lX12_placed_132 (X : pX) (N d : Nat)  (v0 : Nat) (h : pH) (q : Int32 × pH) (hf : fX12_placed_132 N v0 h = some q) (nv0 : ¬ v0 = 4) : Run X (d + 605) 12 false (pCd 9025) 4 (some .int) 132 [(0, .ref v0)] [] h 0 0 (some (.int q.1), q.2, 0, 0) := by
  unfold fX12_placed_132 at hf
  refine r_aload_n (dGet dX12_placed (j := 74) rfl) nv0 rfl ?_
  refine r_aload_n (dGet dX12_placed (j := 75) rfl) nv0 rfl ?_
  obtain ⟨t3, et3, hf⟩ := Option.bind_eq_some_iff.mp hf
  refine r_getI (dGet dX12_placed (j := 76) rfl) F12_246 et3 ?_
  obtain ⟨q4, eq4, hf⟩ := Option.bind_eq_some_iff.mp hf
  refine r_virtual (dGet dX12_placed (j := 77) rfl) L12_286 M244 rfl rfl (Nat.le_of_ble_eq_true rfl) (oX12_fails eq4) (cX12_fails X N (d + 604) v0 t3 h q4 eq4) ?_
  have hq := Option.some.inj hf
  subst hq
  exact r_iret (dGet dX12_placed (j := 78) rfl) rfl rfl
def fX12_placed_101 (N : Nat) (v0 : Nat) (v1 : Int32) (v2 : Int32) (h : pH) : Option (Int32 × pH) :=
  (fX12_isSign N v0 (59 : Int32) h).bind fun q5 =>
  if q5.1 = 0 then (
  fX12_placed_132 N v0 q5.2) else (
  (getR q5.2 v0 12 16).bind fun t7 =>
  (ldI q5.2 t7 v2).bind fun t8 =>
  if t8 = (8 : Int32) then (
  fX12_placed_141 N v0 v1 q5.2) else (
  (getR q5.2 v0 12 16).bind fun t10 =>
  (ldI q5.2 t10 v2).bind fun t11 =>
  if t11 = (9 : Int32) then (
  fX12_placed_141 N v0 v1 q5.2) else (
  fX12_placed_132 N v0 q5.2)))
theorem lX12_placed_101 (X : pX) (N d : Nat)  (v0 : Nat) (v1 : Int32) (v2 : Int32) (h : pH) (q : Int32 × pH) (hf : fX12_placed_101 N v0 v1 v2 h = some q) (nv0 : ¬ v0 = 4) : Run X (d + 605) 12 false (pCd 9025) 4 (some .int) 101 [(0, .ref v0), (1, .int v1), (2, .int v2)] [] h 0 0 (some (.int q.1), q.2, 0, 0) := by
  unfold fX12_placed_101 at hf
  refine r_aload_n (dGet dX12_placed (j := 58) rfl) nv0 rfl ?_
  refine r_bipush (dGet dX12_placed (j := 59) rfl) kB_59 ?_
  obtain ⟨q5, eq5, hf⟩ := Option.bind_eq_some_iff.mp hf
  refine r_virtual (dGet dX12_placed (j := 60) rfl) L12_295 M247 rfl rfl (Nat.le_of_ble_eq_true rfl) (oX12_isSign eq5) (cX12_isSign X N (d + 604) v0 (59 : Int32) h q5 eq5) ?_
  by_cases c6 : q5.1 = 0
  · rw [if_pos c6] at hf
    refine r_if_eq_t (dGet dX12_placed (j := 61) rfl) rfl c6 ?_
    refine Run.weak [(0, .ref v0)] (by simp) (by simp [pNd]) ?_
    exact lX12_placed_132 X N d v0 q5.2 q hf nv0
  · rw [if_neg c6] at hf
    refine r_if_eq_f (dGet dX12_placed (j := 61) rfl) rfl c6 ?_
    refine r_aload_n (dGet dX12_placed (j := 62) rfl) nv0 rfl ?_
    obtain ⟨t7, et7, hf⟩ := Option.bind_eq_some_iff.mp hf
    refine r_getR (dGet dX12_placed (j := 63) rfl) F12_25 et7 ?_
    refine r_iload_n (dGet dX12_placed (j := 64) rfl) rfl ?_
    obtain ⟨t8, et8, hf⟩ := Option.bind_eq_some_iff.mp hf
    refine r_iald (dGet dX12_placed (j := 65) rfl) et8 ?_
    refine r_bipush (dGet dX12_placed (j := 66) rfl) kB_8 ?_
    by_cases c9 : t8 = (8 : Int32)
    · rw [if_pos c9] at hf
      refine r_icmp_eq_t (dGet dX12_placed (j := 67) rfl) rfl c9 ?_
      refine Run.weak [(0, .ref v0), (1, .int v1)] (by simp) (by simp [pNd]) ?_
      exact lX12_placed_141 X N d v0 v1 q5.2 q hf nv0
    · rw [if_neg c9] at hf
      refine r_icmp_eq_f (dGet dX12_placed (j := 67) rfl) rfl c9 ?_
      refine r_aload_n (dGet dX12_placed (j := 68) rfl) nv0 rfl ?_
      obtain ⟨t10, et10, hf⟩ := Option.bind_eq_some_iff.mp hf
      refine r_getR (dGet dX12_placed (j := 69) rfl) F12_25 et10 ?_
      refine r_iload_n (dGet dX12_placed (j := 70) rfl) rfl ?_
      obtain ⟨t11, et11, hf⟩ := Option.bind_eq_some_iff.mp hf
      refine r_iald (dGet dX12_placed (j := 71) rfl) et11 ?_
      refine r_bipush (dGet dX12_placed (j := 72) rfl) kB_9 ?_
      by_cases c12 : t11 = (9 : Int32)
      · rw [if_pos c12] at hf
        refine r_icmp_eq_t (dGet dX12_placed (j := 73) rfl) rfl c12 ?_
        refine Run.weak [(0, .ref v0), (1, .int v1)] (by simp) (by simp [pNd]) ?_
        exact lX12_placed_141 X N d v0 v1 q5.2 q hf nv0
      · rw [if_neg c12] at hf
        refine r_icmp_eq_f (dGet dX12_placed (j := 73) rfl) rfl c12 ?_
        refine Run.weak [(0, .ref v0)] (by simp) (by simp [pNd]) ?_
        exact lX12_placed_132 X N d v0 q5.2 q hf nv0
def fX12_placed_69 (N : Nat) (v0 : Nat) (v1 : Int32) (v2 : Int32) (h : pH) : Option (Int32 × pH) :=
  (fX12_next N v0 h).bind fun h13 =>
  (getR h13 v0 12 26).bind fun t14 =>
  (stI h13 t14 v1 (8 : Int32)).bind fun h15 =>
  (getR h15 v0 12 30).bind fun t16 =>
  (stI h15 t16 v1 v2).bind fun h17 =>
  (getR h17 v0 12 29).bind fun t18 =>
  (if isO h17 v0 12 = true then some () else none).bind fun _ =>
  (rcI (gX12_sum N 600) 257 [.ref v0] h17).bind fun q19 =>
  (stI q19.2 t18 v1 q19.1).bind fun h21 =>
  fX12_placed_141 N v0 v1 h21
theorem lX12_placed_69 (X : pX) (N d : Nat)  (v0 : Nat) (v1 : Int32) (v2 : Int32) (h : pH) (q : Int32 × pH) (hf : fX12_placed_69 N v0 v1 v2 h = some q) (nv0 : ¬ v0 = 4) : Run X (d + 605) 12 false (pCd 9025) 4 (some .int) 69 [(0, .ref v0), (1, .int v1), (2, .int v2)] [] h 0 0 (some (.int q.1), q.2, 0, 0) := by
  unfold fX12_placed_69 at hf
  refine r_aload_n (dGet dX12_placed (j := 39) rfl) nv0 rfl ?_
  obtain ⟨h13, eh13, hf⟩ := Option.bind_eq_some_iff.mp hf
  refine r_virtual (dGet dX12_placed (j := 40) rfl) L12_289 M233 rfl rfl (Nat.le_of_ble_eq_true rfl) (oX12_next eh13) (cX12_next X N (d + 602) v0 h h13 eh13) ?_
  refine r_aload_n (dGet dX12_placed (j := 41) rfl) nv0 rfl ?_
  obtain ⟨t14, et14, hf⟩ := Option.bind_eq_some_iff.mp hf
  refine r_getR (dGet dX12_placed (j := 42) rfl) F12_46 et14 ?_
  refine r_iload_n (dGet dX12_placed (j := 43) rfl) rfl ?_
  refine r_bipush (dGet dX12_placed (j := 44) rfl) kB_8 ?_
  obtain ⟨h15, eh15, hf⟩ := Option.bind_eq_some_iff.mp hf
  refine r_iast (dGet dX12_placed (j := 45) rfl) eh15 ?_
  refine r_aload_n (dGet dX12_placed (j := 46) rfl) nv0 rfl ?_
  obtain ⟨t16, et16, hf⟩ := Option.bind_eq_some_iff.mp hf
  refine r_getR (dGet dX12_placed (j := 47) rfl) F12_58 et16 ?_
  refine r_iload_n (dGet dX12_placed (j := 48) rfl) rfl ?_
  refine r_iload_n (dGet dX12_placed (j := 49) rfl) rfl ?_
  obtain ⟨h17, eh17, hf⟩ := Option.bind_eq_some_iff.mp hf
  refine r_iast (dGet dX12_placed (j := 50) rfl) eh17 ?_
  refine r_aload_n (dGet dX12_placed (j := 51) rfl) nv0 rfl ?_
  obtain ⟨t18, et18, hf⟩ := Option.bind_eq_some_iff.mp hf
  refine r_getR (dGet dX12_placed (j := 52) rfl) F12_55 et18 ?_
  refine r_iload_n (dGet dX12_placed (j := 53) rfl) rfl ?_
  refine r_aload_n (dGet dX12_placed (j := 54) rfl) nv0 rfl ?_
  obtain ⟨_, ec20, hf⟩ := Option.bind_eq_some_iff.mp hf
  obtain ⟨q19, eq19, hf⟩ := Option.bind_eq_some_iff.mp hf
  refine r_virtual (dGet dX12_placed (j := 55) rfl) L12_349 M257 rfl rfl (Nat.le_of_ble_eq_true rfl) (guard_of ec20) (rcI_calls (gX12_sum_calls X N (d + 0) 600) eq19) ?_
  obtain ⟨h21, eh21, hf⟩ := Option.bind_eq_some_iff.mp hf
  refine r_iast (dGet dX12_placed (j := 56) rfl) eh21 ?_
  refine r_goto (dGet dX12_placed (j := 57) rfl) rfl ?_
  refine Run.weak [(0, .ref v0), (1, .int v1)] (by simp) (by simp [pNd]) ?_
  exact lX12_placed_141 X N d v0 v1 h21 q hf nv0
def fX12_placed (N : Nat) (v0 : Nat) (h : pH) : Option (Int32 × pH) := if isO h v0 12 = true then (
  (fX12_begun N v0 (7 : Int32) h).bind fun q22 =>
  (if isO q22.2 v0 12 = true then some () else none).bind fun _ =>
  (rcI (gX12_sum N 600) 257 [.ref v0] q22.2).bind fun q23 =>
  (getI q23.2 v0 12 9).bind fun t25 =>
  if t25 < 0 then (
  (getR q23.2 v0 12 29).bind fun t27 =>
  (stI q23.2 t27 q22.1 q23.1).bind fun h28 =>
  (fX12_isSign N v0 (61 : Int32) h28).bind fun q29 =>
  if q29.1 = 0 then (
  fX12_placed_101 N v0 q22.1 q23.1 q29.2) else (
  (getR q29.2 v0 12 16).bind fun t31 =>
  (ldI q29.2 t31 q23.1).bind fun t32 =>
  if t32 = (4 : Int32) then (
  fX12_placed_69 N v0 q22.1 q23.1 q29.2) else (
  (getR q29.2 v0 12 16).bind fun t34 =>
  (ldI q29.2 t34 q23.1).bind fun t35 =>
  if t35 = (6 : Int32) then (
  fX12_placed_69 N v0 q22.1 q23.1 q29.2) else (
  (getR q29.2 v0 12 16).bind fun t37 =>
  (ldI q29.2 t37 q23.1).bind fun t38 =>
  if t38 = (7 : Int32) then (
  fX12_placed_69 N v0 q22.1 q23.1 q29.2) else (
  fX12_placed_101 N v0 q22.1 q23.1 q29.2))))) else (
  some (q22.1, q23.2))) else none
theorem oX12_placed {N : Nat} {v0 : Nat} {h : pH} {q : Int32 × pH} (hf : fX12_placed N v0 h = some q) : isO h v0 12 = true := by
  unfold fX12_placed at hf
  by_cases hc : isO h v0 12 = true
  · exact hc
  · rw [if_neg hc] at hf; cases hf
theorem cX12_placed (X : pX) (N d : Nat) (v0 : Nat) (h : pH) (q : Int32 × pH) (hf : fX12_placed N v0 h = some q) : Calls X (d + 605) 270 [.ref v0] h (some (.int q.1), q.2, 0, 0) := by
  refine Calls.of M270 (Nat.le_of_ble_eq_true rfl) ?_
  show Run X (d + 605) 12 false (pCd 9025) 4 (some .int) 0 [(0, .ref v0)] [] h 0 0 (some (.int q.1), q.2, 0, 0)
  unfold fX12_placed at hf
  by_cases hc : isO h v0 12 = true
  · rw [if_pos hc] at hf
    have nv0 : ¬ v0 = 4 := isO_ne hc
    refine r_aload_n (dGet dX12_placed (j := 0) rfl) nv0 rfl ?_
    refine r_bipush (dGet dX12_placed (j := 1) rfl) kB_7 ?_
    obtain ⟨q22, eq22, hf⟩ := Option.bind_eq_some_iff.mp hf
    refine r_virtual (dGet dX12_placed (j := 2) rfl) L12_382 M256 rfl rfl (Nat.le_of_ble_eq_true rfl) (oX12_begun eq22) (cX12_begun X N (d + 604) v0 (7 : Int32) h q22 eq22) ?_
    refine r_istore_n (lv' := [(1, .int q22.1), (0, .ref v0)]) (dGet dX12_placed (j := 3) rfl) (by decide) rfl ?_
    refine r_aload_n (dGet dX12_placed (j := 4) rfl) nv0 rfl ?_
    obtain ⟨_, ec24, hf⟩ := Option.bind_eq_some_iff.mp hf
    obtain ⟨q23, eq23, hf⟩ := Option.bind_eq_some_iff.mp hf
    refine r_virtual (dGet dX12_placed (j := 5) rfl) L12_349 M257 rfl rfl (Nat.le_of_ble_eq_true rfl) (guard_of ec24) (rcI_calls (gX12_sum_calls X N (d + 0) 600) eq23) ?_
    refine r_istore_n (lv' := [(2, .int q23.1), (1, .int q22.1), (0, .ref v0)]) (dGet dX12_placed (j := 6) rfl) (by decide) rfl ?_
    refine r_aload_n (dGet dX12_placed (j := 7) rfl) nv0 rfl ?_
    obtain ⟨t25, et25, hf⟩ := Option.bind_eq_some_iff.mp hf
    refine r_getI (dGet dX12_placed (j := 8) rfl) F12_283 et25 ?_
    by_cases c26 : t25 < 0
    · rw [if_pos c26] at hf
      refine r_if_lt_t (dGet dX12_placed (j := 9) rfl) rfl c26 ?_
      refine r_aload_n (dGet dX12_placed (j := 12) rfl) nv0 rfl ?_
      obtain ⟨t27, et27, hf⟩ := Option.bind_eq_some_iff.mp hf
      refine r_getR (dGet dX12_placed (j := 13) rfl) F12_55 et27 ?_
      refine r_iload_n (dGet dX12_placed (j := 14) rfl) rfl ?_
      refine r_iload_n (dGet dX12_placed (j := 15) rfl) rfl ?_
      obtain ⟨h28, eh28, hf⟩ := Option.bind_eq_some_iff.mp hf
      refine r_iast (dGet dX12_placed (j := 16) rfl) eh28 ?_
      refine r_aload_n (dGet dX12_placed (j := 17) rfl) nv0 rfl ?_
      refine r_bipush (dGet dX12_placed (j := 18) rfl) kB_61 ?_
      obtain ⟨q29, eq29, hf⟩ := Option.bind_eq_some_iff.mp hf
      refine r_virtual (dGet dX12_placed (j := 19) rfl) L12_295 M247 rfl rfl (Nat.le_of_ble_eq_true rfl) (oX12_isSign eq29) (cX12_isSign X N (d + 604) v0 (61 : Int32) h28 q29 eq29) ?_
      by_cases c30 : q29.1 = 0
      · rw [if_pos c30] at hf
        refine r_if_eq_t (dGet dX12_placed (j := 20) rfl) rfl c30 ?_
        refine Run.weak [(0, .ref v0), (1, .int q22.1), (2, .int q23.1)] (by simp) (by simp [pNd]) ?_
        exact lX12_placed_101 X N d v0 q22.1 q23.1 q29.2 q hf nv0
      · rw [if_neg c30] at hf
        refine r_if_eq_f (dGet dX12_placed (j := 20) rfl) rfl c30 ?_
        refine r_aload_n (dGet dX12_placed (j := 21) rfl) nv0 rfl ?_
        obtain ⟨t31, et31, hf⟩ := Option.bind_eq_some_iff.mp hf
        refine r_getR (dGet dX12_placed (j := 22) rfl) F12_25 et31 ?_
        refine r_iload_n (dGet dX12_placed (j := 23) rfl) rfl ?_
        obtain ⟨t32, et32, hf⟩ := Option.bind_eq_some_iff.mp hf
        refine r_iald (dGet dX12_placed (j := 24) rfl) et32 ?_
        refine r_iconst (dGet dX12_placed (j := 25) rfl) kI_4 ?_
        by_cases c33 : t32 = (4 : Int32)
        · rw [if_pos c33] at hf
          refine r_icmp_eq_t (dGet dX12_placed (j := 26) rfl) rfl c33 ?_
          refine Run.weak [(0, .ref v0), (1, .int q22.1), (2, .int q23.1)] (by simp) (by simp [pNd]) ?_
          exact lX12_placed_69 X N d v0 q22.1 q23.1 q29.2 q hf nv0
        · rw [if_neg c33] at hf
          refine r_icmp_eq_f (dGet dX12_placed (j := 26) rfl) rfl c33 ?_
          refine r_aload_n (dGet dX12_placed (j := 27) rfl) nv0 rfl ?_
          obtain ⟨t34, et34, hf⟩ := Option.bind_eq_some_iff.mp hf
          refine r_getR (dGet dX12_placed (j := 28) rfl) F12_25 et34 ?_
          refine r_iload_n (dGet dX12_placed (j := 29) rfl) rfl ?_
          obtain ⟨t35, et35, hf⟩ := Option.bind_eq_some_iff.mp hf
          refine r_iald (dGet dX12_placed (j := 30) rfl) et35 ?_
          refine r_bipush (dGet dX12_placed (j := 31) rfl) kB_6 ?_
          by_cases c36 : t35 = (6 : Int32)
          · rw [if_pos c36] at hf
            refine r_icmp_eq_t (dGet dX12_placed (j := 32) rfl) rfl c36 ?_
            refine Run.weak [(0, .ref v0), (1, .int q22.1), (2, .int q23.1)] (by simp) (by simp [pNd]) ?_
            exact lX12_placed_69 X N d v0 q22.1 q23.1 q29.2 q hf nv0
          · rw [if_neg c36] at hf
            refine r_icmp_eq_f (dGet dX12_placed (j := 32) rfl) rfl c36 ?_
            refine r_aload_n (dGet dX12_placed (j := 33) rfl) nv0 rfl ?_
            obtain ⟨t37, et37, hf⟩ := Option.bind_eq_some_iff.mp hf
            refine r_getR (dGet dX12_placed (j := 34) rfl) F12_25 et37 ?_
            refine r_iload_n (dGet dX12_placed (j := 35) rfl) rfl ?_
            obtain ⟨t38, et38, hf⟩ := Option.bind_eq_some_iff.mp hf
            refine r_iald (dGet dX12_placed (j := 36) rfl) et38 ?_
            refine r_bipush (dGet dX12_placed (j := 37) rfl) kB_7 ?_
            by_cases c39 : t38 = (7 : Int32)
            · rw [if_pos c39] at hf
              refine r_icmp_ne_f (dGet dX12_placed (j := 38) rfl) rfl c39 ?_
              refine Run.weak [(0, .ref v0), (1, .int q22.1), (2, .int q23.1)] (by simp) (by simp [pNd]) ?_
              exact lX12_placed_69 X N d v0 q22.1 q23.1 q29.2 q hf nv0
            · rw [if_neg c39] at hf
              refine r_icmp_ne_t (dGet dX12_placed (j := 38) rfl) rfl c39 ?_
              refine Run.weak [(0, .ref v0), (1, .int q22.1), (2, .int q23.1)] (by simp) (by simp [pNd]) ?_
              exact lX12_placed_101 X N d v0 q22.1 q23.1 q29.2 q hf nv0
    · rw [if_neg c26] at hf
      refine r_if_lt_f (dGet dX12_placed (j := 9) rfl) rfl c26 ?_
      refine r_iload_n (dGet dX12_placed (j := 10) rfl) rfl ?_
      have hq := Option.some.inj hf
      subst hq
      exact r_iret (dGet dX12_placed (j := 11) rfl) rfl rfl
  · rw [if_neg hc] at hf; cases hf
def eX12_type : List (Nat × Instr × Nat) := [(0, .aload_n 0, 1), (1, .iconst 2, 1), (2, .invokevirtual 330, 3), (5, .ifCond .eq 7, 3), (8, .iconst 0, 1), (9, .goto 34, 3), (12, .aload_n 0, 1), (13, .iconst 3, 1), (14, .invokevirtual 330, 3), (17, .ifCond .eq 7, 3), (20, .iconst 1, 1), (21, .goto 22, 3), (24, .aload_n 0, 1), (25, .iconst 4, 1), (26, .invokevirtual 330, 3), (29, .ifCond .eq 7, 3), (32, .iconst 2, 1), (33, .goto 10, 3), (36, .bipush 10, 2), (38, .aload_n 0, 1), (39, .getfield 256, 3), (42, .iadd, 1), (43, .istore_n 1, 1), (44, .aload_n 0, 1), (45, .aload_n 0, 1), (46, .invokevirtual 375, 3), (49, .ifCond .ne 11, 3), (52, .aload_n 0, 1), (53, .getfield 263, 3), (56, .iconst 2, 1), (57, .if_icmp .ne 7, 3), (60, .iconst 1, 1), (61, .goto 4, 3), (64, .iconst 0, 1), (65, .invokevirtual 298, 3), (68, .istore_n 2, 1), (69, .iload_n 1, 1), (70, .ireturn, 1)]
theorem dX12_type : dChk (pCd 8183) eX12_type = true := by decide +kernel
def fX12_type_65 (N : Nat) (v1 : Int32) (s0 : Nat) (s1 : Int32) (h : pH) : Option (Int32 × pH) :=
  (fX12_passes N s0 s1 h).bind fun q1 =>
  some (v1, q1.2)
theorem lX12_type_65 (X : pX) (N d : Nat)  (v1 : Int32) (s0 : Nat) (s1 : Int32) (h : pH) (q : Int32 × pH) (hf : fX12_type_65 N v1 s0 s1 h = some q) (ns0 : ¬ s0 = 4) : Run X (d + 4) 12 false (pCd 8183) 3 (some .int) 65 [(1, .int v1)] [.int s1, .ref s0] h 0 0 (some (.int q.1), q.2, 0, 0) := by
  unfold fX12_type_65 at hf
  obtain ⟨q1, eq1, hf⟩ := Option.bind_eq_some_iff.mp hf
  refine r_virtual (dGet dX12_type (j := 34) rfl) L12_298 M243 rfl rfl (Nat.le_of_ble_eq_true rfl) (oX12_passes eq1) (cX12_passes X N (d + 0) s0 s1 h q1 eq1) ?_
  refine r_istore_n (lv' := [(2, .int q1.1), (1, .int v1)]) (dGet dX12_type (j := 35) rfl) (by decide) rfl ?_
  refine r_iload_n (dGet dX12_type (j := 36) rfl) rfl ?_
  have hq := Option.some.inj hf
  subst hq
  exact r_iret (dGet dX12_type (j := 37) rfl) rfl rfl
def fX12_type_60 (N : Nat) (v1 : Int32) (s0 : Nat) (h : pH) : Option (Int32 × pH) :=
  fX12_type_65 N v1 s0 (1 : Int32) h
theorem lX12_type_60 (X : pX) (N d : Nat)  (v1 : Int32) (s0 : Nat) (h : pH) (q : Int32 × pH) (hf : fX12_type_60 N v1 s0 h = some q) (ns0 : ¬ s0 = 4) : Run X (d + 4) 12 false (pCd 8183) 3 (some .int) 60 [(1, .int v1)] [.ref s0] h 0 0 (some (.int q.1), q.2, 0, 0) := by
  unfold fX12_type_60 at hf
  refine r_iconst (dGet dX12_type (j := 31) rfl) kI_1 ?_
  refine r_goto (dGet dX12_type (j := 32) rfl) rfl ?_
  exact lX12_type_65 X N d v1 s0 (1 : Int32) h q hf ns0
def fX12_type_43 (N : Nat) (v0 : Nat) (s0 : Int32) (h : pH) : Option (Int32 × pH) :=
  (fX12_isType N v0 h).bind fun q2 =>
  if q2.1 = 0 then (
  (getI q2.2 v0 12 5).bind fun t4 =>
  if t4 = (2 : Int32) then (
  fX12_type_60 N s0 v0 q2.2) else (
  fX12_type_65 N s0 v0 (0 : Int32) q2.2)) else (
  fX12_type_60 N s0 v0 q2.2)
theorem lX12_type_43 (X : pX) (N d : Nat)  (v0 : Nat) (s0 : Int32) (h : pH) (q : Int32 × pH) (hf : fX12_type_43 N v0 s0 h = some q) (nv0 : ¬ v0 = 4) : Run X (d + 4) 12 false (pCd 8183) 3 (some .int) 43 [(0, .ref v0)] [.int s0] h 0 0 (some (.int q.1), q.2, 0, 0) := by
  unfold fX12_type_43 at hf
  refine r_istore_n (lv' := [(1, .int s0), (0, .ref v0)]) (dGet dX12_type (j := 22) rfl) (by decide) rfl ?_
  refine r_aload_n (dGet dX12_type (j := 23) rfl) nv0 rfl ?_
  refine r_aload_n (dGet dX12_type (j := 24) rfl) nv0 rfl ?_
  obtain ⟨q2, eq2, hf⟩ := Option.bind_eq_some_iff.mp hf
  refine r_virtual (dGet dX12_type (j := 25) rfl) L12_375 M251 rfl rfl (Nat.le_of_ble_eq_true rfl) (oX12_isType eq2) (cX12_isType X N (d + 2) v0 h q2 eq2) ?_
  by_cases c3 : q2.1 = 0
  · rw [if_pos c3] at hf
    refine r_if_ne_f (dGet dX12_type (j := 26) rfl) rfl c3 ?_
    refine r_aload_n (dGet dX12_type (j := 27) rfl) nv0 rfl ?_
    obtain ⟨t4, et4, hf⟩ := Option.bind_eq_some_iff.mp hf
    refine r_getI (dGet dX12_type (j := 28) rfl) F12_263 et4 ?_
    refine r_iconst (dGet dX12_type (j := 29) rfl) kI_2 ?_
    by_cases c5 : t4 = (2 : Int32)
    · rw [if_pos c5] at hf
      refine r_icmp_ne_f (dGet dX12_type (j := 30) rfl) rfl c5 ?_
      refine Run.weak [(1, .int s0)] (by simp) (by simp [pNd]) ?_
      exact lX12_type_60 X N d s0 v0 q2.2 q hf nv0
    · rw [if_neg c5] at hf
      refine r_icmp_ne_t (dGet dX12_type (j := 30) rfl) rfl c5 ?_
      refine r_iconst (dGet dX12_type (j := 33) rfl) kI_0 ?_
      refine Run.weak [(1, .int s0)] (by simp) (by simp [pNd]) ?_
      exact lX12_type_65 X N d s0 v0 (0 : Int32) q2.2 q hf nv0
  · rw [if_neg c3] at hf
    refine r_if_ne_t (dGet dX12_type (j := 26) rfl) rfl c3 ?_
    refine Run.weak [(1, .int s0)] (by simp) (by simp [pNd]) ?_
    exact lX12_type_60 X N d s0 v0 q2.2 q hf nv0
def fX12_type (N : Nat) (v0 : Nat) (h : pH) : Option (Int32 × pH) := if isO h v0 12 = true then (
  (fX12_isKey N v0 (2 : Int32) h).bind fun q6 =>
  if q6.1 = 0 then (
  (fX12_isKey N v0 (3 : Int32) q6.2).bind fun q8 =>
  if q8.1 = 0 then (
  (fX12_isKey N v0 (4 : Int32) q8.2).bind fun q10 =>
  if q10.1 = 0 then (
  (getI q10.2 v0 12 8).bind fun t12 =>
  fX12_type_43 N v0 ((10 : Int32) + t12) q10.2) else (
  fX12_type_43 N v0 (2 : Int32) q10.2)) else (
  fX12_type_43 N v0 (1 : Int32) q8.2)) else (
  fX12_type_43 N v0 (0 : Int32) q6.2)) else none
theorem oX12_type {N : Nat} {v0 : Nat} {h : pH} {q : Int32 × pH} (hf : fX12_type N v0 h = some q) : isO h v0 12 = true := by
  unfold fX12_type at hf
  by_cases hc : isO h v0 12 = true
  · exact hc
  · rw [if_neg hc] at hf; cases hf
theorem cX12_type (X : pX) (N d : Nat) (v0 : Nat) (h : pH) (q : Int32 × pH) (hf : fX12_type N v0 h = some q) : Calls X (d + 4) 250 [.ref v0] h (some (.int q.1), q.2, 0, 0) := by
  refine Calls.of M250 (Nat.le_of_ble_eq_true rfl) ?_
  show Run X (d + 4) 12 false (pCd 8183) 3 (some .int) 0 [(0, .ref v0)] [] h 0 0 (some (.int q.1), q.2, 0, 0)
  unfold fX12_type at hf
  by_cases hc : isO h v0 12 = true
  · rw [if_pos hc] at hf
    have nv0 : ¬ v0 = 4 := isO_ne hc
    refine r_aload_n (dGet dX12_type (j := 0) rfl) nv0 rfl ?_
    refine r_iconst (dGet dX12_type (j := 1) rfl) kI_2 ?_
    obtain ⟨q6, eq6, hf⟩ := Option.bind_eq_some_iff.mp hf
    refine r_virtual (dGet dX12_type (j := 2) rfl) L12_330 M242 rfl rfl (Nat.le_of_ble_eq_true rfl) (oX12_isKey eq6) (cX12_isKey X N (d + 3) v0 (2 : Int32) h q6 eq6) ?_
    by_cases c7 : q6.1 = 0
    · rw [if_pos c7] at hf
      refine r_if_eq_t (dGet dX12_type (j := 3) rfl) rfl c7 ?_
      refine r_aload_n (dGet dX12_type (j := 6) rfl) nv0 rfl ?_
      refine r_iconst (dGet dX12_type (j := 7) rfl) kI_3 ?_
      obtain ⟨q8, eq8, hf⟩ := Option.bind_eq_some_iff.mp hf
      refine r_virtual (dGet dX12_type (j := 8) rfl) L12_330 M242 rfl rfl (Nat.le_of_ble_eq_true rfl) (oX12_isKey eq8) (cX12_isKey X N (d + 3) v0 (3 : Int32) q6.2 q8 eq8) ?_
      by_cases c9 : q8.1 = 0
      · rw [if_pos c9] at hf
        refine r_if_eq_t (dGet dX12_type (j := 9) rfl) rfl c9 ?_
        refine r_aload_n (dGet dX12_type (j := 12) rfl) nv0 rfl ?_
        refine r_iconst (dGet dX12_type (j := 13) rfl) kI_4 ?_
        obtain ⟨q10, eq10, hf⟩ := Option.bind_eq_some_iff.mp hf
        refine r_virtual (dGet dX12_type (j := 14) rfl) L12_330 M242 rfl rfl (Nat.le_of_ble_eq_true rfl) (oX12_isKey eq10) (cX12_isKey X N (d + 3) v0 (4 : Int32) q8.2 q10 eq10) ?_
        by_cases c11 : q10.1 = 0
        · rw [if_pos c11] at hf
          refine r_if_eq_t (dGet dX12_type (j := 15) rfl) rfl c11 ?_
          refine r_bipush (dGet dX12_type (j := 18) rfl) kB_10 ?_
          refine r_aload_n (dGet dX12_type (j := 19) rfl) nv0 rfl ?_
          obtain ⟨t12, et12, hf⟩ := Option.bind_eq_some_iff.mp hf
          refine r_getI (dGet dX12_type (j := 20) rfl) F12_256 et12 ?_
          refine r_iadd (dGet dX12_type (j := 21) rfl) ?_
          exact lX12_type_43 X N d v0 ((10 : Int32) + t12) q10.2 q hf nv0
        · rw [if_neg c11] at hf
          refine r_if_eq_f (dGet dX12_type (j := 15) rfl) rfl c11 ?_
          refine r_iconst (dGet dX12_type (j := 16) rfl) kI_2 ?_
          refine r_goto (dGet dX12_type (j := 17) rfl) rfl ?_
          exact lX12_type_43 X N d v0 (2 : Int32) q10.2 q hf nv0
      · rw [if_neg c9] at hf
        refine r_if_eq_f (dGet dX12_type (j := 9) rfl) rfl c9 ?_
        refine r_iconst (dGet dX12_type (j := 10) rfl) kI_1 ?_
        refine r_goto (dGet dX12_type (j := 11) rfl) rfl ?_
        exact lX12_type_43 X N d v0 (1 : Int32) q8.2 q hf nv0
    · rw [if_neg c7] at hf
      refine r_if_eq_f (dGet dX12_type (j := 3) rfl) rfl c7 ?_
      refine r_iconst (dGet dX12_type (j := 4) rfl) kI_0 ?_
      refine r_goto (dGet dX12_type (j := 5) rfl) rfl ?_
      exact lX12_type_43 X N d v0 (0 : Int32) q6.2 q hf nv0
  · rw [if_neg hc] at hf; cases hf
def eX12_statement : List (Nat × Instr × Nat) := [(0, .aload_n 0, 1), (1, .invokevirtual 375, 3), (4, .ifCond .ne 25, 3), (7, .aload_n 0, 1), (8, .getfield 263, 3), (11, .iconst 2, 1), (12, .if_icmp .ne 79, 3), (15, .aload_n 0, 1), (16, .getfield 283, 3), (19, .ifCond .ge 72, 3), (22, .aload_n 0, 1), (23, .invokevirtual 379, 3), (26, .ifCond .eq 65, 3), (29, .aload_n 0, 1), (30, .iconst 0, 1), (31, .invokevirtual 382, 3), (34, .istore_n 1, 1), (35, .aload_n 0, 1), (36, .getfield 61, 3), (39, .iload_n 1, 1), (40, .aload_n 0, 1), (41, .invokevirtual 385, 3), (44, .iastore, 1), (45, .aload_n 0, 1), (46, .getfield 64, 3), (49, .iload_n 1, 1), (50, .aload_n 0, 1), (51, .invokevirtual 333, 3), (54, .iastore, 1), (55, .aload_n 0, 1), (56, .bipush 61, 2), (58, .invokevirtual 295, 3), (61, .ifCond .eq 17, 3), (64, .aload_n 0, 1), (65, .invokevirtual 289, 3), (68, .aload_n 0, 1), (69, .getfield 55, 3), (72, .iload_n 1, 1), (73, .aload_n 0, 1), (74, .invokevirtual 349, 3), (77, .iastore, 1), (78, .aload_n 0, 1), (79, .aload_n 0, 1), (80, .bipush 59, 2), (82, .invokevirtual 295, 3), (85, .invokevirtual 298, 3), (88, .istore_n 2, 1), (89, .iload_n 1, 1), (90, .ireturn, 1), (91, .aload_n 0, 1), (92, .getfield 263, 3), (95, .iconst 5, 1), (96, .if_icmp .ne 10, 3), (99, .aload_n 0, 1), (100, .getfield 256, 3), (103, .goto 4, 3), (106, .iconst 0, 1), (107, .istore_n 1, 1), (108, .iload_n 1, 1), (109, .tableswitch 317 6 13 #[47, 317, 122, 248, 248, 154, 317, 248], 47), (156, .aload_n 0, 1), (157, .iconst 1, 1), (158, .invokevirtual 382, 3), (161, .istore_n 2, 1), (162, .aload_n 0, 1), (163, .invokevirtual 289, 3), (166, .aload_n 0, 1), (167, .getfield 55, 3), (170, .iload_n 2, 1), (171, .aload_n 0, 1), (172, .invokevirtual 388, 3), (175, .iastore, 1), (176, .aload_n 0, 1), (177, .getfield 70, 3), (180, .iload_n 2, 1), (181, .aload_n 0, 1), (182, .invokevirtual 391, 3), (185, .iastore, 1), (186, .aload_n 0, 1), (187, .getfield 58, 3), (190, .iload_n 2, 1), (191, .aload_n 0, 1), (192, .bipush 7, 2), (194, .invokevirtual 330, 3), (197, .ifCond .eq 7, 3), (200, .iconst 1, 1), (201, .goto 4, 3), (204, .iconst 0, 1), (205, .iastore, 1), (206, .aload_n 0, 1), (207, .bipush 7, 2), (209, .invokevirtual 330, 3), (212, .ifCond .eq 17, 3), (215, .aload_n 0, 1), (216, .invokevirtual 289, 3), (219, .aload_n 0, 1), (220, .getfield 73, 3), (223, .iload_n 2, 1), (224, .aload_n 0, 1), (225, .invokevirtual 391, 3), (228, .iastore, 1), (229, .iload_n 2, 1), (230, .ireturn, 1), (231, .aload_n 0, 1), (232, .iconst 2, 1), (233, .invokevirtual 382, 3), (236, .istore_n 2, 1), (237, .aload_n 0, 1), (238, .invokevirtual 289, 3), (241, .aload_n 0, 1), (242, .getfield 55, 3), (245, .iload_n 2, 1), (246, .aload_n 0, 1), (247, .invokevirtual 388, 3), (250, .iastore, 1), (251, .aload_n 0, 1), (252, .getfield 70, 3), (255, .iload_n 2, 1), (256, .aload_n 0, 1), (257, .invokevirtual 391, 3), (260, .iastore, 1), (261, .iload_n 2, 1), (262, .ireturn, 1), (263, .aload_n 0, 1), (264, .iconst 5, 1), (265, .invokevirtual 382, 3), (268, .istore_n 2, 1), (269, .aload_n 0, 1), (270, .invokevirtual 289, 3), (273, .aload_n 0, 1), (274, .getfield 70, 3), (277, .iload_n 2, 1), (278, .aload_n 0, 1), (279, .invokevirtual 391, 3), (282, .iastore, 1), (283, .aload_n 0, 1), (284, .aload_n 0, 1), (285, .bipush 12, 2), (287, .invokevirtual 330, 3), (290, .invokevirtual 298, 3), (293, .ifCond .eq 16, 3), (296, .aload_n 0, 1), (297, .aload_n 0, 1), (298, .bipush 40, 2), (300, .invokevirtual 295, 3), (303, .invokevirtual 339, 3), (306, .ifCond .ne 5, 3), (309, .iload_n 2, 1), (310, .ireturn, 1), (311, .aload_n 0, 1), (312, .getfield 61, 3), (315, .iload_n 2, 1), (316, .bipush 10, 2), (318, .aload_n 0, 1), (319, .getfield 256, 3), (322, .iadd, 1), (323, .iastore, 1), (324, .aload_n 0, 1), (325, .invokevirtual 333, 3), (328, .istore_n 3, 1), (329, .aload_n 0, 1), (330, .getfield 64, 3), (333, .iload_n 2, 1), (334, .aload_n 0, 1), (335, .invokevirtual 333, 3), (338, .iastore, 1), (339, .aload_n 0, 1), (340, .bipush 41, 2), (342, .invokevirtual 352, 3), (345, .aload_n 0, 1), (346, .getfield 73, 3), (349, .iload_n 2, 1), (350, .aload_n 0, 1), (351, .invokevirtual 391, 3), (354, .iastore, 1), (355, .iload_n 2, 1), (356, .ireturn, 1), (357, .aload_n 0, 1), (358, .iload_n 1, 1), (359, .bipush 9, 2), (361, .if_icmp .ne 7, 3), (364, .iconst 3, 1), (365, .goto 15, 3), (368, .iload_n 1, 1), (369, .bipush 10, 2), (371, .if_icmp .ne 7, 3), (374, .iconst 4, 1), (375, .goto 5, 3), (378, .bipush 6, 2), (380, .invokevirtual 382, 3), (383, .istore_n 2, 1), (384, .aload_n 0, 1), (385, .invokevirtual 289, 3), (388, .iload_n 1, 1), (389, .bipush 9, 2), (391, .if_icmp .ne 12, 3), (394, .aload_n 0, 1), (395, .bipush 59, 2), (397, .invokevirtual 295, 3), (400, .ifCond .ne 13, 3), (403, .aload_n 0, 1), (404, .getfield 55, 3), (407, .iload_n 2, 1), (408, .aload_n 0, 1), (409, .invokevirtual 349, 3), (412, .iastore, 1), (413, .aload_n 0, 1), (414, .aload_n 0, 1), (415, .bipush 59, 2), (417, .invokevirtual 295, 3), (420, .invokevirtual 298, 3), (423, .istore_n 3, 1), (424, .iload_n 2, 1), (425, .ireturn, 1), (426, .aload_n 0, 1), (427, .invokevirtual 394, 3), (430, .ireturn, 1)]
theorem dX12_statement : dChk (pCd 8199) eX12_statement = true := by decide +kernel
def fX12_statement_426 (N : Nat) (rc : Nat → List Value → pH → Option (Option Value × pH)) (v0 : Nat) (h : pH) : Option (Int32 × pH) :=
  (fX12_placed N v0 h).bind fun q1 =>
  some (q1.1, q1.2)
theorem lX12_statement_426 (X : pX) (N d : Nat) (rc : Nat → List Value → pH → Option (Option Value × pH)) (hrc : ∀ mn as h q, rc mn as h = some q → Calls X (d + 605) mn as h (q.1, q.2, 0, 0))  (v0 : Nat) (h : pH) (q : Int32 × pH) (hf : fX12_statement_426 N rc v0 h = some q) (nv0 : ¬ v0 = 4) : Run X (d + 606) 12 false (pCd 8199) 4 (some .int) 426 [(0, .ref v0)] [] h 0 0 (some (.int q.1), q.2, 0, 0) := by
  unfold fX12_statement_426 at hf
  refine r_aload_n (dGet dX12_statement (j := 214) rfl) nv0 rfl ?_
  obtain ⟨q1, eq1, hf⟩ := Option.bind_eq_some_iff.mp hf
  refine r_virtual (dGet dX12_statement (j := 215) rfl) L12_394 M270 rfl rfl (Nat.le_of_ble_eq_true rfl) (oX12_placed eq1) (cX12_placed X N (d + 0) v0 h q1 eq1) ?_
  have hq := Option.some.inj hf
  subst hq
  exact r_iret (dGet dX12_statement (j := 216) rfl) rfl rfl
def fX12_statement_413 (N : Nat) (rc : Nat → List Value → pH → Option (Option Value × pH)) (v0 : Nat) (v2 : Int32) (h : pH) : Option (Int32 × pH) :=
  (fX12_isSign N v0 (59 : Int32) h).bind fun q2 =>
  (fX12_passes N v0 q2.1 q2.2).bind fun q3 =>
  some (v2, q3.2)
theorem lX12_statement_413 (X : pX) (N d : Nat) (rc : Nat → List Value → pH → Option (Option Value × pH)) (hrc : ∀ mn as h q, rc mn as h = some q → Calls X (d + 605) mn as h (q.1, q.2, 0, 0))  (v0 : Nat) (v2 : Int32) (h : pH) (q : Int32 × pH) (hf : fX12_statement_413 N rc v0 v2 h = some q) (nv0 : ¬ v0 = 4) : Run X (d + 606) 12 false (pCd 8199) 4 (some .int) 413 [(0, .ref v0), (2, .int v2)] [] h 0 0 (some (.int q.1), q.2, 0, 0) := by
  unfold fX12_statement_413 at hf
  refine r_aload_n (dGet dX12_statement (j := 206) rfl) nv0 rfl ?_
  refine r_aload_n (dGet dX12_statement (j := 207) rfl) nv0 rfl ?_
  refine r_bipush (dGet dX12_statement (j := 208) rfl) kB_59 ?_
  obtain ⟨q2, eq2, hf⟩ := Option.bind_eq_some_iff.mp hf
  refine r_virtual (dGet dX12_statement (j := 209) rfl) L12_295 M247 rfl rfl (Nat.le_of_ble_eq_true rfl) (oX12_isSign eq2) (cX12_isSign X N (d + 605) v0 (59 : Int32) h q2 eq2) ?_
  obtain ⟨q3, eq3, hf⟩ := Option.bind_eq_some_iff.mp hf
  refine r_virtual (dGet dX12_statement (j := 210) rfl) L12_298 M243 rfl rfl (Nat.le_of_ble_eq_true rfl) (oX12_passes eq3) (cX12_passes X N (d + 602) v0 q2.1 q2.2 q3 eq3) ?_
  refine r_istore_n (lv' := [(3, .int q3.1), (0, .ref v0), (2, .int v2)]) (dGet dX12_statement (j := 211) rfl) (by decide) rfl ?_
  refine r_iload_n (dGet dX12_statement (j := 212) rfl) rfl ?_
  have hq := Option.some.inj hf
  subst hq
  exact r_iret (dGet dX12_statement (j := 213) rfl) rfl rfl
def fX12_statement_403 (N : Nat) (rc : Nat → List Value → pH → Option (Option Value × pH)) (v0 : Nat) (v2 : Int32) (h : pH) : Option (Int32 × pH) :=
  (getR h v0 12 29).bind fun t4 =>
  (if isO h v0 12 = true then some () else none).bind fun _ =>
  (rcI (gX12_sum N 600) 257 [.ref v0] h).bind fun q5 =>
  (stI q5.2 t4 v2 q5.1).bind fun h7 =>
  fX12_statement_413 N rc v0 v2 h7
theorem lX12_statement_403 (X : pX) (N d : Nat) (rc : Nat → List Value → pH → Option (Option Value × pH)) (hrc : ∀ mn as h q, rc mn as h = some q → Calls X (d + 605) mn as h (q.1, q.2, 0, 0))  (v0 : Nat) (v2 : Int32) (h : pH) (q : Int32 × pH) (hf : fX12_statement_403 N rc v0 v2 h = some q) (nv0 : ¬ v0 = 4) : Run X (d + 606) 12 false (pCd 8199) 4 (some .int) 403 [(0, .ref v0), (2, .int v2)] [] h 0 0 (some (.int q.1), q.2, 0, 0) := by
  unfold fX12_statement_403 at hf
  refine r_aload_n (dGet dX12_statement (j := 200) rfl) nv0 rfl ?_
  obtain ⟨t4, et4, hf⟩ := Option.bind_eq_some_iff.mp hf
  refine r_getR (dGet dX12_statement (j := 201) rfl) F12_55 et4 ?_
  refine r_iload_n (dGet dX12_statement (j := 202) rfl) rfl ?_
  refine r_aload_n (dGet dX12_statement (j := 203) rfl) nv0 rfl ?_
  obtain ⟨_, ec6, hf⟩ := Option.bind_eq_some_iff.mp hf
  obtain ⟨q5, eq5, hf⟩ := Option.bind_eq_some_iff.mp hf
  refine r_virtual (dGet dX12_statement (j := 204) rfl) L12_349 M257 rfl rfl (Nat.le_of_ble_eq_true rfl) (guard_of ec6) (rcI_calls (gX12_sum_calls X N (d + 1) 600) eq5) ?_
  obtain ⟨h7, eh7, hf⟩ := Option.bind_eq_some_iff.mp hf
  refine r_iast (dGet dX12_statement (j := 205) rfl) eh7 ?_
  exact lX12_statement_413 X N d rc hrc v0 v2 h7 q hf nv0
def fX12_statement_380 (N : Nat) (rc : Nat → List Value → pH → Option (Option Value × pH)) (v0 : Nat) (v1 : Int32) (s0 : Nat) (s1 : Int32) (h : pH) : Option (Int32 × pH) :=
  (fX12_begun N s0 s1 h).bind fun q8 =>
  (fX12_next N v0 q8.2).bind fun h9 =>
  if v1 = (9 : Int32) then (
  (fX12_isSign N v0 (59 : Int32) h9).bind fun q11 =>
  if q11.1 = 0 then (
  fX12_statement_403 N rc v0 q8.1 q11.2) else (
  fX12_statement_413 N rc v0 q8.1 q11.2)) else (
  fX12_statement_403 N rc v0 q8.1 h9)
theorem lX12_statement_380 (X : pX) (N d : Nat) (rc : Nat → List Value → pH → Option (Option Value × pH)) (hrc : ∀ mn as h q, rc mn as h = some q → Calls X (d + 605) mn as h (q.1, q.2, 0, 0))  (v0 : Nat) (v1 : Int32) (s0 : Nat) (s1 : Int32) (h : pH) (q : Int32 × pH) (hf : fX12_statement_380 N rc v0 v1 s0 s1 h = some q) (nv0 : ¬ v0 = 4) (ns0 : ¬ s0 = 4) : Run X (d + 606) 12 false (pCd 8199) 4 (some .int) 380 [(0, .ref v0), (1, .int v1)] [.int s1, .ref s0] h 0 0 (some (.int q.1), q.2, 0, 0) := by
  unfold fX12_statement_380 at hf
  obtain ⟨q8, eq8, hf⟩ := Option.bind_eq_some_iff.mp hf
  refine r_virtual (dGet dX12_statement (j := 189) rfl) L12_382 M256 rfl rfl (Nat.le_of_ble_eq_true rfl) (oX12_begun eq8) (cX12_begun X N (d + 605) s0 s1 h q8 eq8) ?_
  refine r_istore_n (lv' := [(2, .int q8.1), (0, .ref v0), (1, .int v1)]) (dGet dX12_statement (j := 190) rfl) (by decide) rfl ?_
  refine r_aload_n (dGet dX12_statement (j := 191) rfl) nv0 rfl ?_
  obtain ⟨h9, eh9, hf⟩ := Option.bind_eq_some_iff.mp hf
  refine r_virtual (dGet dX12_statement (j := 192) rfl) L12_289 M233 rfl rfl (Nat.le_of_ble_eq_true rfl) (oX12_next eh9) (cX12_next X N (d + 603) v0 q8.2 h9 eh9) ?_
  refine r_iload_n (dGet dX12_statement (j := 193) rfl) rfl ?_
  refine r_bipush (dGet dX12_statement (j := 194) rfl) kB_9 ?_
  by_cases c10 : v1 = (9 : Int32)
  · rw [if_pos c10] at hf
    refine r_icmp_ne_f (dGet dX12_statement (j := 195) rfl) rfl c10 ?_
    refine r_aload_n (dGet dX12_statement (j := 196) rfl) nv0 rfl ?_
    refine r_bipush (dGet dX12_statement (j := 197) rfl) kB_59 ?_
    obtain ⟨q11, eq11, hf⟩ := Option.bind_eq_some_iff.mp hf
    refine r_virtual (dGet dX12_statement (j := 198) rfl) L12_295 M247 rfl rfl (Nat.le_of_ble_eq_true rfl) (oX12_isSign eq11) (cX12_isSign X N (d + 605) v0 (59 : Int32) h9 q11 eq11) ?_
    by_cases c12 : q11.1 = 0
    · rw [if_pos c12] at hf
      refine r_if_ne_f (dGet dX12_statement (j := 199) rfl) rfl c12 ?_
      refine Run.weak [(0, .ref v0), (2, .int q8.1)] (by simp) (by simp [pNd]) ?_
      exact lX12_statement_403 X N d rc hrc v0 q8.1 q11.2 q hf nv0
    · rw [if_neg c12] at hf
      refine r_if_ne_t (dGet dX12_statement (j := 199) rfl) rfl c12 ?_
      refine Run.weak [(0, .ref v0), (2, .int q8.1)] (by simp) (by simp [pNd]) ?_
      exact lX12_statement_413 X N d rc hrc v0 q8.1 q11.2 q hf nv0
  · rw [if_neg c10] at hf
    refine r_icmp_ne_t (dGet dX12_statement (j := 195) rfl) rfl c10 ?_
    refine Run.weak [(0, .ref v0), (2, .int q8.1)] (by simp) (by simp [pNd]) ?_
    exact lX12_statement_403 X N d rc hrc v0 q8.1 h9 q hf nv0
def fX12_statement_357 (N : Nat) (rc : Nat → List Value → pH → Option (Option Value × pH)) (v0 : Nat) (v1 : Int32) (h : pH) : Option (Int32 × pH) :=
  if v1 = (9 : Int32) then (
  fX12_statement_380 N rc v0 v1 v0 (3 : Int32) h) else (
  if v1 = (10 : Int32) then (
  fX12_statement_380 N rc v0 v1 v0 (4 : Int32) h) else (
  fX12_statement_380 N rc v0 v1 v0 (6 : Int32) h))
theorem lX12_statement_357 (X : pX) (N d : Nat) (rc : Nat → List Value → pH → Option (Option Value × pH)) (hrc : ∀ mn as h q, rc mn as h = some q → Calls X (d + 605) mn as h (q.1, q.2, 0, 0))  (v0 : Nat) (v1 : Int32) (h : pH) (q : Int32 × pH) (hf : fX12_statement_357 N rc v0 v1 h = some q) (nv0 : ¬ v0 = 4) : Run X (d + 606) 12 false (pCd 8199) 4 (some .int) 357 [(0, .ref v0), (1, .int v1)] [] h 0 0 (some (.int q.1), q.2, 0, 0) := by
  unfold fX12_statement_357 at hf
  refine r_aload_n (dGet dX12_statement (j := 177) rfl) nv0 rfl ?_
  refine r_iload_n (dGet dX12_statement (j := 178) rfl) rfl ?_
  refine r_bipush (dGet dX12_statement (j := 179) rfl) kB_9 ?_
  by_cases c13 : v1 = (9 : Int32)
  · rw [if_pos c13] at hf
    refine r_icmp_ne_f (dGet dX12_statement (j := 180) rfl) rfl c13 ?_
    refine r_iconst (dGet dX12_statement (j := 181) rfl) kI_3 ?_
    refine r_goto (dGet dX12_statement (j := 182) rfl) rfl ?_
    exact lX12_statement_380 X N d rc hrc v0 v1 v0 (3 : Int32) h q hf nv0 nv0
  · rw [if_neg c13] at hf
    refine r_icmp_ne_t (dGet dX12_statement (j := 180) rfl) rfl c13 ?_
    refine r_iload_n (dGet dX12_statement (j := 183) rfl) rfl ?_
    refine r_bipush (dGet dX12_statement (j := 184) rfl) kB_10 ?_
    by_cases c14 : v1 = (10 : Int32)
    · rw [if_pos c14] at hf
      refine r_icmp_ne_f (dGet dX12_statement (j := 185) rfl) rfl c14 ?_
      refine r_iconst (dGet dX12_statement (j := 186) rfl) kI_4 ?_
      refine r_goto (dGet dX12_statement (j := 187) rfl) rfl ?_
      exact lX12_statement_380 X N d rc hrc v0 v1 v0 (4 : Int32) h q hf nv0 nv0
    · rw [if_neg c14] at hf
      refine r_icmp_ne_t (dGet dX12_statement (j := 185) rfl) rfl c14 ?_
      refine r_bipush (dGet dX12_statement (j := 188) rfl) kB_6 ?_
      exact lX12_statement_380 X N d rc hrc v0 v1 v0 (6 : Int32) h q hf nv0 nv0
def fX12_statement_205 (N : Nat) (rc : Nat → List Value → pH → Option (Option Value × pH)) (v0 : Nat) (v2 : Int32) (s0 : Nat) (s1 : Int32) (s2 : Int32) (h : pH) : Option (Int32 × pH) :=
  (stI h s0 s1 s2).bind fun h15 =>
  (fX12_isKey N v0 (7 : Int32) h15).bind fun q16 =>
  if q16.1 = 0 then (
  some (v2, q16.2)) else (
  (fX12_next N v0 q16.2).bind fun h18 =>
  (getR h18 v0 12 35).bind fun t19 =>
  (if isO h18 v0 12 = true then some () else none).bind fun _ =>
  (rcI rc 253 [.ref v0] h18).bind fun q21 =>
  (stI q21.2 t19 v2 q21.1).bind fun h22 =>
  some (v2, h22))
theorem lX12_statement_205 (X : pX) (N d : Nat) (rc : Nat → List Value → pH → Option (Option Value × pH)) (hrc : ∀ mn as h q, rc mn as h = some q → Calls X (d + 605) mn as h (q.1, q.2, 0, 0))  (v0 : Nat) (v2 : Int32) (s0 : Nat) (s1 : Int32) (s2 : Int32) (h : pH) (q : Int32 × pH) (hf : fX12_statement_205 N rc v0 v2 s0 s1 s2 h = some q) (nv0 : ¬ v0 = 4) (ns0 : ¬ s0 = 4) : Run X (d + 606) 12 false (pCd 8199) 4 (some .int) 205 [(0, .ref v0), (2, .int v2)] [.int s2, .int s1, .ref s0] h 0 0 (some (.int q.1), q.2, 0, 0) := by
  unfold fX12_statement_205 at hf
  obtain ⟨h15, eh15, hf⟩ := Option.bind_eq_some_iff.mp hf
  refine r_iast (dGet dX12_statement (j := 88) rfl) eh15 ?_
  refine r_aload_n (dGet dX12_statement (j := 89) rfl) nv0 rfl ?_
  refine r_bipush (dGet dX12_statement (j := 90) rfl) kB_7 ?_
  obtain ⟨q16, eq16, hf⟩ := Option.bind_eq_some_iff.mp hf
  refine r_virtual (dGet dX12_statement (j := 91) rfl) L12_330 M242 rfl rfl (Nat.le_of_ble_eq_true rfl) (oX12_isKey eq16) (cX12_isKey X N (d + 605) v0 (7 : Int32) h15 q16 eq16) ?_
  by_cases c17 : q16.1 = 0
  · rw [if_pos c17] at hf
    refine r_if_eq_t (dGet dX12_statement (j := 92) rfl) rfl c17 ?_
    refine r_iload_n (dGet dX12_statement (j := 101) rfl) rfl ?_
    have hq := Option.some.inj hf
    subst hq
    exact r_iret (dGet dX12_statement (j := 102) rfl) rfl rfl
  · rw [if_neg c17] at hf
    refine r_if_eq_f (dGet dX12_statement (j := 92) rfl) rfl c17 ?_
    refine r_aload_n (dGet dX12_statement (j := 93) rfl) nv0 rfl ?_
    obtain ⟨h18, eh18, hf⟩ := Option.bind_eq_some_iff.mp hf
    refine r_virtual (dGet dX12_statement (j := 94) rfl) L12_289 M233 rfl rfl (Nat.le_of_ble_eq_true rfl) (oX12_next eh18) (cX12_next X N (d + 603) v0 q16.2 h18 eh18) ?_
    refine r_aload_n (dGet dX12_statement (j := 95) rfl) nv0 rfl ?_
    obtain ⟨t19, et19, hf⟩ := Option.bind_eq_some_iff.mp hf
    refine r_getR (dGet dX12_statement (j := 96) rfl) F12_73 et19 ?_
    refine r_iload_n (dGet dX12_statement (j := 97) rfl) rfl ?_
    refine r_aload_n (dGet dX12_statement (j := 98) rfl) nv0 rfl ?_
    obtain ⟨_, ec20, hf⟩ := Option.bind_eq_some_iff.mp hf
    obtain ⟨q21, eq21, hf⟩ := Option.bind_eq_some_iff.mp hf
    refine r_virtual (dGet dX12_statement (j := 99) rfl) L12_391 M253 rfl rfl (Nat.le_of_ble_eq_true rfl) (guard_of ec20) (rcI_calls hrc eq21) ?_
    obtain ⟨h22, eh22, hf⟩ := Option.bind_eq_some_iff.mp hf
    refine r_iast (dGet dX12_statement (j := 100) rfl) eh22 ?_
    refine r_iload_n (dGet dX12_statement (j := 101) rfl) rfl ?_
    have hq := Option.some.inj hf
    subst hq
    exact r_iret (dGet dX12_statement (j := 102) rfl) rfl rfl
def fX12_statement_107 (N : Nat) (rc : Nat → List Value → pH → Option (Option Value × pH)) (v0 : Nat) (s0 : Int32) (h : pH) : Option (Int32 × pH) :=
  if s0 = 6 then (
  (fX12_begun N v0 (1 : Int32) h).bind fun q31 =>
  (fX12_next N v0 q31.2).bind fun h32 =>
  (getR h32 v0 12 29).bind fun t33 =>
  (fX12_inParentheses N v0 h32).bind fun q34 =>
  (stI q34.2 t33 q31.1 q34.1).bind fun h35 =>
  (getR h35 v0 12 34).bind fun t36 =>
  (if isO h35 v0 12 = true then some () else none).bind fun _ =>
  (rcI rc 253 [.ref v0] h35).bind fun q38 =>
  (stI q38.2 t36 q31.1 q38.1).bind fun h39 =>
  (getR h39 v0 12 30).bind fun t40 =>
  (fX12_isKey N v0 (7 : Int32) h39).bind fun q41 =>
  if q41.1 = 0 then (
  if t40 = 4 then none else
  fX12_statement_205 N rc v0 q31.1 t40 q31.1 (0 : Int32) q41.2) else (
  if t40 = 4 then none else
  fX12_statement_205 N rc v0 q31.1 t40 q31.1 (1 : Int32) q41.2)) else
  if s0 = 7 then (
  fX12_statement_426 N rc v0 h) else
  if s0 = 8 then (
  (fX12_begun N v0 (2 : Int32) h).bind fun q43 =>
  (fX12_next N v0 q43.2).bind fun h44 =>
  (getR h44 v0 12 29).bind fun t45 =>
  (fX12_inParentheses N v0 h44).bind fun q46 =>
  (stI q46.2 t45 q43.1 q46.1).bind fun h47 =>
  (getR h47 v0 12 34).bind fun t48 =>
  (if isO h47 v0 12 = true then some () else none).bind fun _ =>
  (rcI rc 253 [.ref v0] h47).bind fun q50 =>
  (stI q50.2 t48 q43.1 q50.1).bind fun h51 =>
  some (q43.1, h51)) else
  if s0 = 9 then (
  fX12_statement_357 N rc v0 s0 h) else
  if s0 = 10 then (
  fX12_statement_357 N rc v0 s0 h) else
  if s0 = 11 then (
  (fX12_begun N v0 (5 : Int32) h).bind fun q52 =>
  (fX12_next N v0 q52.2).bind fun h53 =>
  (getR h53 v0 12 34).bind fun t54 =>
  (if isO h53 v0 12 = true then some () else none).bind fun _ =>
  (rcI rc 253 [.ref v0] h53).bind fun q56 =>
  (stI q56.2 t54 q52.1 q56.1).bind fun h57 =>
  (fX12_isKey N v0 (12 : Int32) h57).bind fun q58 =>
  (fX12_passes N v0 q58.1 q58.2).bind fun q59 =>
  if q59.1 = 0 then (
  some (q52.1, q59.2)) else (
  (fX12_isSign N v0 (40 : Int32) q59.2).bind fun q61 =>
  (fX12_opens N v0 q61.1 q61.2).bind fun q62 =>
  if q62.1 = 0 then (
  some (q52.1, q62.2)) else (
  (getR q62.2 v0 12 31).bind fun t64 =>
  (getI q62.2 v0 12 8).bind fun t65 =>
  (stI q62.2 t64 q52.1 ((10 : Int32) + t65)).bind fun h66 =>
  (fX12_name N v0 h66).bind fun q67 =>
  (getR q67.2 v0 12 32).bind fun t68 =>
  (fX12_name N v0 q67.2).bind fun q69 =>
  (stI q69.2 t68 q52.1 q69.1).bind fun h70 =>
  (fX12_closes N v0 (41 : Int32) h70).bind fun h71 =>
  (getR h71 v0 12 35).bind fun t72 =>
  (if isO h71 v0 12 = true then some () else none).bind fun _ =>
  (rcI rc 253 [.ref v0] h71).bind fun q74 =>
  (stI q74.2 t72 q52.1 q74.1).bind fun h75 =>
  some (q52.1, h75)))) else
  if s0 = 12 then (
  fX12_statement_426 N rc v0 h) else
  if s0 = 13 then (
  fX12_statement_357 N rc v0 s0 h) else
  fX12_statement_426 N rc v0 h
theorem lX12_statement_107 (X : pX) (N d : Nat) (rc : Nat → List Value → pH → Option (Option Value × pH)) (hrc : ∀ mn as h q, rc mn as h = some q → Calls X (d + 605) mn as h (q.1, q.2, 0, 0))  (v0 : Nat) (s0 : Int32) (h : pH) (q : Int32 × pH) (hf : fX12_statement_107 N rc v0 s0 h = some q) (nv0 : ¬ v0 = 4) : Run X (d + 606) 12 false (pCd 8199) 4 (some .int) 107 [(0, .ref v0)] [.int s0] h 0 0 (some (.int q.1), q.2, 0, 0) := by
  unfold fX12_statement_107 at hf
  refine r_istore_n (lv' := [(1, .int s0), (0, .ref v0)]) (dGet dX12_statement (j := 57) rfl) (by decide) rfl ?_
  refine r_iload_n (dGet dX12_statement (j := 58) rfl) rfl ?_
  by_cases c23 : s0 = 6
  · rw [if_pos c23] at hf
    refine r_table (off := 47) (dGet dX12_statement (j := 59) rfl) (by rw [c23]; decide) rfl ?_
    refine r_aload_n (dGet dX12_statement (j := 60) rfl) nv0 rfl ?_
    refine r_iconst (dGet dX12_statement (j := 61) rfl) kI_1 ?_
    obtain ⟨q31, eq31, hf⟩ := Option.bind_eq_some_iff.mp hf
    refine r_virtual (dGet dX12_statement (j := 62) rfl) L12_382 M256 rfl rfl (Nat.le_of_ble_eq_true rfl) (oX12_begun eq31) (cX12_begun X N (d + 605) v0 (1 : Int32) h q31 eq31) ?_
    refine r_istore_n (lv' := [(2, .int q31.1), (1, .int s0), (0, .ref v0)]) (dGet dX12_statement (j := 63) rfl) (by decide) rfl ?_
    refine r_aload_n (dGet dX12_statement (j := 64) rfl) nv0 rfl ?_
    obtain ⟨h32, eh32, hf⟩ := Option.bind_eq_some_iff.mp hf
    refine r_virtual (dGet dX12_statement (j := 65) rfl) L12_289 M233 rfl rfl (Nat.le_of_ble_eq_true rfl) (oX12_next eh32) (cX12_next X N (d + 603) v0 q31.2 h32 eh32) ?_
    refine r_aload_n (dGet dX12_statement (j := 66) rfl) nv0 rfl ?_
    obtain ⟨t33, et33, hf⟩ := Option.bind_eq_some_iff.mp hf
    refine r_getR (dGet dX12_statement (j := 67) rfl) F12_55 et33 ?_
    refine r_iload_n (dGet dX12_statement (j := 68) rfl) rfl ?_
    refine r_aload_n (dGet dX12_statement (j := 69) rfl) nv0 rfl ?_
    obtain ⟨q34, eq34, hf⟩ := Option.bind_eq_some_iff.mp hf
    refine r_virtual (dGet dX12_statement (j := 70) rfl) L12_388 M269 rfl rfl (Nat.le_of_ble_eq_true rfl) (oX12_inParentheses eq34) (cX12_inParentheses X N (d + 0) v0 h32 q34 eq34) ?_
    obtain ⟨h35, eh35, hf⟩ := Option.bind_eq_some_iff.mp hf
    refine r_iast (dGet dX12_statement (j := 71) rfl) eh35 ?_
    refine r_aload_n (dGet dX12_statement (j := 72) rfl) nv0 rfl ?_
    obtain ⟨t36, et36, hf⟩ := Option.bind_eq_some_iff.mp hf
    refine r_getR (dGet dX12_statement (j := 73) rfl) F12_70 et36 ?_
    refine r_iload_n (dGet dX12_statement (j := 74) rfl) rfl ?_
    refine r_aload_n (dGet dX12_statement (j := 75) rfl) nv0 rfl ?_
    obtain ⟨_, ec37, hf⟩ := Option.bind_eq_some_iff.mp hf
    obtain ⟨q38, eq38, hf⟩ := Option.bind_eq_some_iff.mp hf
    refine r_virtual (dGet dX12_statement (j := 76) rfl) L12_391 M253 rfl rfl (Nat.le_of_ble_eq_true rfl) (guard_of ec37) (rcI_calls hrc eq38) ?_
    obtain ⟨h39, eh39, hf⟩ := Option.bind_eq_some_iff.mp hf
    refine r_iast (dGet dX12_statement (j := 77) rfl) eh39 ?_
    refine r_aload_n (dGet dX12_statement (j := 78) rfl) nv0 rfl ?_
    obtain ⟨t40, et40, hf⟩ := Option.bind_eq_some_iff.mp hf
    refine r_getR (dGet dX12_statement (j := 79) rfl) F12_58 et40 ?_
    refine r_iload_n (dGet dX12_statement (j := 80) rfl) rfl ?_
    refine r_aload_n (dGet dX12_statement (j := 81) rfl) nv0 rfl ?_
    refine r_bipush (dGet dX12_statement (j := 82) rfl) kB_7 ?_
    obtain ⟨q41, eq41, hf⟩ := Option.bind_eq_some_iff.mp hf
    refine r_virtual (dGet dX12_statement (j := 83) rfl) L12_330 M242 rfl rfl (Nat.le_of_ble_eq_true rfl) (oX12_isKey eq41) (cX12_isKey X N (d + 605) v0 (7 : Int32) h39 q41 eq41) ?_
    by_cases c42 : q41.1 = 0
    · rw [if_pos c42] at hf
      refine r_if_eq_t (dGet dX12_statement (j := 84) rfl) rfl c42 ?_
      refine r_iconst (dGet dX12_statement (j := 87) rfl) kI_0 ?_
      by_cases nt40 : t40 = 4
      · rw [if_pos nt40] at hf; cases hf
      rw [if_neg nt40] at hf
      refine Run.weak [(0, .ref v0), (2, .int q31.1)] (by simp) (by simp [pNd]) ?_
      exact lX12_statement_205 X N d rc hrc v0 q31.1 t40 q31.1 (0 : Int32) q41.2 q hf nv0 nt40
    · rw [if_neg c42] at hf
      refine r_if_eq_f (dGet dX12_statement (j := 84) rfl) rfl c42 ?_
      refine r_iconst (dGet dX12_statement (j := 85) rfl) kI_1 ?_
      refine r_goto (dGet dX12_statement (j := 86) rfl) rfl ?_
      by_cases nt40 : t40 = 4
      · rw [if_pos nt40] at hf; cases hf
      rw [if_neg nt40] at hf
      refine Run.weak [(0, .ref v0), (2, .int q31.1)] (by simp) (by simp [pNd]) ?_
      exact lX12_statement_205 X N d rc hrc v0 q31.1 t40 q31.1 (1 : Int32) q41.2 q hf nv0 nt40
  rw [if_neg c23] at hf
  by_cases c24 : s0 = 7
  · rw [if_pos c24] at hf
    refine r_table (off := 317) (dGet dX12_statement (j := 59) rfl) (by rw [c24]; decide) rfl ?_
    refine Run.weak [(0, .ref v0)] (by simp) (by simp [pNd]) ?_
    exact lX12_statement_426 X N d rc hrc v0 h q hf nv0
  rw [if_neg c24] at hf
  by_cases c25 : s0 = 8
  · rw [if_pos c25] at hf
    refine r_table (off := 122) (dGet dX12_statement (j := 59) rfl) (by rw [c25]; decide) rfl ?_
    refine r_aload_n (dGet dX12_statement (j := 103) rfl) nv0 rfl ?_
    refine r_iconst (dGet dX12_statement (j := 104) rfl) kI_2 ?_
    obtain ⟨q43, eq43, hf⟩ := Option.bind_eq_some_iff.mp hf
    refine r_virtual (dGet dX12_statement (j := 105) rfl) L12_382 M256 rfl rfl (Nat.le_of_ble_eq_true rfl) (oX12_begun eq43) (cX12_begun X N (d + 605) v0 (2 : Int32) h q43 eq43) ?_
    refine r_istore_n (lv' := [(2, .int q43.1), (1, .int s0), (0, .ref v0)]) (dGet dX12_statement (j := 106) rfl) (by decide) rfl ?_
    refine r_aload_n (dGet dX12_statement (j := 107) rfl) nv0 rfl ?_
    obtain ⟨h44, eh44, hf⟩ := Option.bind_eq_some_iff.mp hf
    refine r_virtual (dGet dX12_statement (j := 108) rfl) L12_289 M233 rfl rfl (Nat.le_of_ble_eq_true rfl) (oX12_next eh44) (cX12_next X N (d + 603) v0 q43.2 h44 eh44) ?_
    refine r_aload_n (dGet dX12_statement (j := 109) rfl) nv0 rfl ?_
    obtain ⟨t45, et45, hf⟩ := Option.bind_eq_some_iff.mp hf
    refine r_getR (dGet dX12_statement (j := 110) rfl) F12_55 et45 ?_
    refine r_iload_n (dGet dX12_statement (j := 111) rfl) rfl ?_
    refine r_aload_n (dGet dX12_statement (j := 112) rfl) nv0 rfl ?_
    obtain ⟨q46, eq46, hf⟩ := Option.bind_eq_some_iff.mp hf
    refine r_virtual (dGet dX12_statement (j := 113) rfl) L12_388 M269 rfl rfl (Nat.le_of_ble_eq_true rfl) (oX12_inParentheses eq46) (cX12_inParentheses X N (d + 0) v0 h44 q46 eq46) ?_
    obtain ⟨h47, eh47, hf⟩ := Option.bind_eq_some_iff.mp hf
    refine r_iast (dGet dX12_statement (j := 114) rfl) eh47 ?_
    refine r_aload_n (dGet dX12_statement (j := 115) rfl) nv0 rfl ?_
    obtain ⟨t48, et48, hf⟩ := Option.bind_eq_some_iff.mp hf
    refine r_getR (dGet dX12_statement (j := 116) rfl) F12_70 et48 ?_
    refine r_iload_n (dGet dX12_statement (j := 117) rfl) rfl ?_
    refine r_aload_n (dGet dX12_statement (j := 118) rfl) nv0 rfl ?_
    obtain ⟨_, ec49, hf⟩ := Option.bind_eq_some_iff.mp hf
    obtain ⟨q50, eq50, hf⟩ := Option.bind_eq_some_iff.mp hf
    refine r_virtual (dGet dX12_statement (j := 119) rfl) L12_391 M253 rfl rfl (Nat.le_of_ble_eq_true rfl) (guard_of ec49) (rcI_calls hrc eq50) ?_
    obtain ⟨h51, eh51, hf⟩ := Option.bind_eq_some_iff.mp hf
    refine r_iast (dGet dX12_statement (j := 120) rfl) eh51 ?_
    refine r_iload_n (dGet dX12_statement (j := 121) rfl) rfl ?_
    have hq := Option.some.inj hf
    subst hq
    exact r_iret (dGet dX12_statement (j := 122) rfl) rfl rfl
  rw [if_neg c25] at hf
  by_cases c26 : s0 = 9
  · rw [if_pos c26] at hf
    refine r_table (off := 248) (dGet dX12_statement (j := 59) rfl) (by rw [c26]; decide) rfl ?_
    refine Run.weak [(0, .ref v0), (1, .int s0)] (by simp) (by simp [pNd]) ?_
    exact lX12_statement_357 X N d rc hrc v0 s0 h q hf nv0
  rw [if_neg c26] at hf
  by_cases c27 : s0 = 10
  · rw [if_pos c27] at hf
    refine r_table (off := 248) (dGet dX12_statement (j := 59) rfl) (by rw [c27]; decide) rfl ?_
    refine Run.weak [(0, .ref v0), (1, .int s0)] (by simp) (by simp [pNd]) ?_
    exact lX12_statement_357 X N d rc hrc v0 s0 h q hf nv0
  rw [if_neg c27] at hf
  by_cases c28 : s0 = 11
  · rw [if_pos c28] at hf
    refine r_table (off := 154) (dGet dX12_statement (j := 59) rfl) (by rw [c28]; decide) rfl ?_
    refine r_aload_n (dGet dX12_statement (j := 123) rfl) nv0 rfl ?_
    refine r_iconst (dGet dX12_statement (j := 124) rfl) kI_5 ?_
    obtain ⟨q52, eq52, hf⟩ := Option.bind_eq_some_iff.mp hf
    refine r_virtual (dGet dX12_statement (j := 125) rfl) L12_382 M256 rfl rfl (Nat.le_of_ble_eq_true rfl) (oX12_begun eq52) (cX12_begun X N (d + 605) v0 (5 : Int32) h q52 eq52) ?_
    refine r_istore_n (lv' := [(2, .int q52.1), (1, .int s0), (0, .ref v0)]) (dGet dX12_statement (j := 126) rfl) (by decide) rfl ?_
    refine r_aload_n (dGet dX12_statement (j := 127) rfl) nv0 rfl ?_
    obtain ⟨h53, eh53, hf⟩ := Option.bind_eq_some_iff.mp hf
    refine r_virtual (dGet dX12_statement (j := 128) rfl) L12_289 M233 rfl rfl (Nat.le_of_ble_eq_true rfl) (oX12_next eh53) (cX12_next X N (d + 603) v0 q52.2 h53 eh53) ?_
    refine r_aload_n (dGet dX12_statement (j := 129) rfl) nv0 rfl ?_
    obtain ⟨t54, et54, hf⟩ := Option.bind_eq_some_iff.mp hf
    refine r_getR (dGet dX12_statement (j := 130) rfl) F12_70 et54 ?_
    refine r_iload_n (dGet dX12_statement (j := 131) rfl) rfl ?_
    refine r_aload_n (dGet dX12_statement (j := 132) rfl) nv0 rfl ?_
    obtain ⟨_, ec55, hf⟩ := Option.bind_eq_some_iff.mp hf
    obtain ⟨q56, eq56, hf⟩ := Option.bind_eq_some_iff.mp hf
    refine r_virtual (dGet dX12_statement (j := 133) rfl) L12_391 M253 rfl rfl (Nat.le_of_ble_eq_true rfl) (guard_of ec55) (rcI_calls hrc eq56) ?_
    obtain ⟨h57, eh57, hf⟩ := Option.bind_eq_some_iff.mp hf
    refine r_iast (dGet dX12_statement (j := 134) rfl) eh57 ?_
    refine r_aload_n (dGet dX12_statement (j := 135) rfl) nv0 rfl ?_
    refine r_aload_n (dGet dX12_statement (j := 136) rfl) nv0 rfl ?_
    refine r_bipush (dGet dX12_statement (j := 137) rfl) kB_12 ?_
    obtain ⟨q58, eq58, hf⟩ := Option.bind_eq_some_iff.mp hf
    refine r_virtual (dGet dX12_statement (j := 138) rfl) L12_330 M242 rfl rfl (Nat.le_of_ble_eq_true rfl) (oX12_isKey eq58) (cX12_isKey X N (d + 605) v0 (12 : Int32) h57 q58 eq58) ?_
    obtain ⟨q59, eq59, hf⟩ := Option.bind_eq_some_iff.mp hf
    refine r_virtual (dGet dX12_statement (j := 139) rfl) L12_298 M243 rfl rfl (Nat.le_of_ble_eq_true rfl) (oX12_passes eq59) (cX12_passes X N (d + 602) v0 q58.1 q58.2 q59 eq59) ?_
    by_cases c60 : q59.1 = 0
    · rw [if_pos c60] at hf
      refine r_if_eq_t (dGet dX12_statement (j := 140) rfl) rfl c60 ?_
      refine r_iload_n (dGet dX12_statement (j := 147) rfl) rfl ?_
      have hq := Option.some.inj hf
      subst hq
      exact r_iret (dGet dX12_statement (j := 148) rfl) rfl rfl
    · rw [if_neg c60] at hf
      refine r_if_eq_f (dGet dX12_statement (j := 140) rfl) rfl c60 ?_
      refine r_aload_n (dGet dX12_statement (j := 141) rfl) nv0 rfl ?_
      refine r_aload_n (dGet dX12_statement (j := 142) rfl) nv0 rfl ?_
      refine r_bipush (dGet dX12_statement (j := 143) rfl) kB_40 ?_
      obtain ⟨q61, eq61, hf⟩ := Option.bind_eq_some_iff.mp hf
      refine r_virtual (dGet dX12_statement (j := 144) rfl) L12_295 M247 rfl rfl (Nat.le_of_ble_eq_true rfl) (oX12_isSign eq61) (cX12_isSign X N (d + 605) v0 (40 : Int32) q59.2 q61 eq61) ?_
      obtain ⟨q62, eq62, hf⟩ := Option.bind_eq_some_iff.mp hf
      refine r_virtual (dGet dX12_statement (j := 145) rfl) L12_339 M248 rfl rfl (Nat.le_of_ble_eq_true rfl) (oX12_opens eq62) (cX12_opens X N (d + 602) v0 q61.1 q61.2 q62 eq62) ?_
      by_cases c63 : q62.1 = 0
      · rw [if_pos c63] at hf
        refine r_if_ne_f (dGet dX12_statement (j := 146) rfl) rfl c63 ?_
        refine r_iload_n (dGet dX12_statement (j := 147) rfl) rfl ?_
        have hq := Option.some.inj hf
        subst hq
        exact r_iret (dGet dX12_statement (j := 148) rfl) rfl rfl
      · rw [if_neg c63] at hf
        refine r_if_ne_t (dGet dX12_statement (j := 146) rfl) rfl c63 ?_
        refine r_aload_n (dGet dX12_statement (j := 149) rfl) nv0 rfl ?_
        obtain ⟨t64, et64, hf⟩ := Option.bind_eq_some_iff.mp hf
        refine r_getR (dGet dX12_statement (j := 150) rfl) F12_61 et64 ?_
        refine r_iload_n (dGet dX12_statement (j := 151) rfl) rfl ?_
        refine r_bipush (dGet dX12_statement (j := 152) rfl) kB_10 ?_
        refine r_aload_n (dGet dX12_statement (j := 153) rfl) nv0 rfl ?_
        obtain ⟨t65, et65, hf⟩ := Option.bind_eq_some_iff.mp hf
        refine r_getI (dGet dX12_statement (j := 154) rfl) F12_256 et65 ?_
        refine r_iadd (dGet dX12_statement (j := 155) rfl) ?_
        obtain ⟨h66, eh66, hf⟩ := Option.bind_eq_some_iff.mp hf
        refine r_iast (dGet dX12_statement (j := 156) rfl) eh66 ?_
        refine r_aload_n (dGet dX12_statement (j := 157) rfl) nv0 rfl ?_
        obtain ⟨q67, eq67, hf⟩ := Option.bind_eq_some_iff.mp hf
        refine r_virtual (dGet dX12_statement (j := 158) rfl) L12_333 M246 rfl rfl (Nat.le_of_ble_eq_true rfl) (oX12_name eq67) (cX12_name X N (d + 601) v0 h66 q67 eq67) ?_
        refine r_istore_n (lv' := [(3, .int q67.1), (2, .int q52.1), (1, .int s0), (0, .ref v0)]) (dGet dX12_statement (j := 159) rfl) (by decide) rfl ?_
        refine r_aload_n (dGet dX12_statement (j := 160) rfl) nv0 rfl ?_
        obtain ⟨t68, et68, hf⟩ := Option.bind_eq_some_iff.mp hf
        refine r_getR (dGet dX12_statement (j := 161) rfl) F12_64 et68 ?_
        refine r_iload_n (dGet dX12_statement (j := 162) rfl) rfl ?_
        refine r_aload_n (dGet dX12_statement (j := 163) rfl) nv0 rfl ?_
        obtain ⟨q69, eq69, hf⟩ := Option.bind_eq_some_iff.mp hf
        refine r_virtual (dGet dX12_statement (j := 164) rfl) L12_333 M246 rfl rfl (Nat.le_of_ble_eq_true rfl) (oX12_name eq69) (cX12_name X N (d + 601) v0 q67.2 q69 eq69) ?_
        obtain ⟨h70, eh70, hf⟩ := Option.bind_eq_some_iff.mp hf
        refine r_iast (dGet dX12_statement (j := 165) rfl) eh70 ?_
        refine r_aload_n (dGet dX12_statement (j := 166) rfl) nv0 rfl ?_
        refine r_bipush (dGet dX12_statement (j := 167) rfl) kB_41 ?_
        obtain ⟨h71, eh71, hf⟩ := Option.bind_eq_some_iff.mp hf
        refine r_virtual (dGet dX12_statement (j := 168) rfl) L12_352 M252 rfl rfl (Nat.le_of_ble_eq_true rfl) (oX12_closes eh71) (cX12_closes X N (d + 601) v0 (41 : Int32) h70 h71 eh71) ?_
        refine r_aload_n (dGet dX12_statement (j := 169) rfl) nv0 rfl ?_
        obtain ⟨t72, et72, hf⟩ := Option.bind_eq_some_iff.mp hf
        refine r_getR (dGet dX12_statement (j := 170) rfl) F12_73 et72 ?_
        refine r_iload_n (dGet dX12_statement (j := 171) rfl) rfl ?_
        refine r_aload_n (dGet dX12_statement (j := 172) rfl) nv0 rfl ?_
        obtain ⟨_, ec73, hf⟩ := Option.bind_eq_some_iff.mp hf
        obtain ⟨q74, eq74, hf⟩ := Option.bind_eq_some_iff.mp hf
        refine r_virtual (dGet dX12_statement (j := 173) rfl) L12_391 M253 rfl rfl (Nat.le_of_ble_eq_true rfl) (guard_of ec73) (rcI_calls hrc eq74) ?_
        obtain ⟨h75, eh75, hf⟩ := Option.bind_eq_some_iff.mp hf
        refine r_iast (dGet dX12_statement (j := 174) rfl) eh75 ?_
        refine r_iload_n (dGet dX12_statement (j := 175) rfl) rfl ?_
        have hq := Option.some.inj hf
        subst hq
        exact r_iret (dGet dX12_statement (j := 176) rfl) rfl rfl
  rw [if_neg c28] at hf
  by_cases c29 : s0 = 12
  · rw [if_pos c29] at hf
    refine r_table (off := 317) (dGet dX12_statement (j := 59) rfl) (by rw [c29]; decide) rfl ?_
    refine Run.weak [(0, .ref v0)] (by simp) (by simp [pNd]) ?_
    exact lX12_statement_426 X N d rc hrc v0 h q hf nv0
  rw [if_neg c29] at hf
  by_cases c30 : s0 = 13
  · rw [if_pos c30] at hf
    refine r_table (off := 248) (dGet dX12_statement (j := 59) rfl) (by rw [c30]; decide) rfl ?_
    refine Run.weak [(0, .ref v0), (1, .int s0)] (by simp) (by simp [pNd]) ?_
    exact lX12_statement_357 X N d rc hrc v0 s0 h q hf nv0
  rw [if_neg c30] at hf
  refine r_table (dGet dX12_statement (j := 59) rfl) (pTable_out (cs := [6, 7, 8, 9, 10, 11, 12, 13]) (by decide) (by decide) (by decide) (List.forall_mem_cons.mpr ⟨c23, List.forall_mem_cons.mpr ⟨c24, List.forall_mem_cons.mpr ⟨c25, List.forall_mem_cons.mpr ⟨c26, List.forall_mem_cons.mpr ⟨c27, List.forall_mem_cons.mpr ⟨c28, List.forall_mem_cons.mpr ⟨c29, List.forall_mem_cons.mpr ⟨c30, fun _ h => absurd h List.not_mem_nil⟩⟩⟩⟩⟩⟩⟩⟩)) rfl ?_
  refine Run.weak [(0, .ref v0)] (by simp) (by simp [pNd]) ?_
  exact lX12_statement_426 X N d rc hrc v0 h q hf nv0
def fX12_statement_91 (N : Nat) (rc : Nat → List Value → pH → Option (Option Value × pH)) (v0 : Nat) (h : pH) : Option (Int32 × pH) :=
  (getI h v0 12 5).bind fun t76 =>
  if t76 = (5 : Int32) then (
  (getI h v0 12 8).bind fun t78 =>
  fX12_statement_107 N rc v0 t78 h) else (
  fX12_statement_107 N rc v0 (0 : Int32) h)
theorem lX12_statement_91 (X : pX) (N d : Nat) (rc : Nat → List Value → pH → Option (Option Value × pH)) (hrc : ∀ mn as h q, rc mn as h = some q → Calls X (d + 605) mn as h (q.1, q.2, 0, 0))  (v0 : Nat) (h : pH) (q : Int32 × pH) (hf : fX12_statement_91 N rc v0 h = some q) (nv0 : ¬ v0 = 4) : Run X (d + 606) 12 false (pCd 8199) 4 (some .int) 91 [(0, .ref v0)] [] h 0 0 (some (.int q.1), q.2, 0, 0) := by
  unfold fX12_statement_91 at hf
  refine r_aload_n (dGet dX12_statement (j := 49) rfl) nv0 rfl ?_
  obtain ⟨t76, et76, hf⟩ := Option.bind_eq_some_iff.mp hf
  refine r_getI (dGet dX12_statement (j := 50) rfl) F12_263 et76 ?_
  refine r_iconst (dGet dX12_statement (j := 51) rfl) kI_5 ?_
  by_cases c77 : t76 = (5 : Int32)
  · rw [if_pos c77] at hf
    refine r_icmp_ne_f (dGet dX12_statement (j := 52) rfl) rfl c77 ?_
    refine r_aload_n (dGet dX12_statement (j := 53) rfl) nv0 rfl ?_
    obtain ⟨t78, et78, hf⟩ := Option.bind_eq_some_iff.mp hf
    refine r_getI (dGet dX12_statement (j := 54) rfl) F12_256 et78 ?_
    refine r_goto (dGet dX12_statement (j := 55) rfl) rfl ?_
    exact lX12_statement_107 X N d rc hrc v0 t78 h q hf nv0
  · rw [if_neg c77] at hf
    refine r_icmp_ne_t (dGet dX12_statement (j := 52) rfl) rfl c77 ?_
    refine r_iconst (dGet dX12_statement (j := 56) rfl) kI_0 ?_
    exact lX12_statement_107 X N d rc hrc v0 (0 : Int32) h q hf nv0
def fX12_statement_78 (N : Nat) (rc : Nat → List Value → pH → Option (Option Value × pH)) (v0 : Nat) (v1 : Int32) (h : pH) : Option (Int32 × pH) :=
  (fX12_isSign N v0 (59 : Int32) h).bind fun q79 =>
  (fX12_passes N v0 q79.1 q79.2).bind fun q80 =>
  some (v1, q80.2)
theorem lX12_statement_78 (X : pX) (N d : Nat) (rc : Nat → List Value → pH → Option (Option Value × pH)) (hrc : ∀ mn as h q, rc mn as h = some q → Calls X (d + 605) mn as h (q.1, q.2, 0, 0))  (v0 : Nat) (v1 : Int32) (h : pH) (q : Int32 × pH) (hf : fX12_statement_78 N rc v0 v1 h = some q) (nv0 : ¬ v0 = 4) : Run X (d + 606) 12 false (pCd 8199) 4 (some .int) 78 [(0, .ref v0), (1, .int v1)] [] h 0 0 (some (.int q.1), q.2, 0, 0) := by
  unfold fX12_statement_78 at hf
  refine r_aload_n (dGet dX12_statement (j := 41) rfl) nv0 rfl ?_
  refine r_aload_n (dGet dX12_statement (j := 42) rfl) nv0 rfl ?_
  refine r_bipush (dGet dX12_statement (j := 43) rfl) kB_59 ?_
  obtain ⟨q79, eq79, hf⟩ := Option.bind_eq_some_iff.mp hf
  refine r_virtual (dGet dX12_statement (j := 44) rfl) L12_295 M247 rfl rfl (Nat.le_of_ble_eq_true rfl) (oX12_isSign eq79) (cX12_isSign X N (d + 605) v0 (59 : Int32) h q79 eq79) ?_
  obtain ⟨q80, eq80, hf⟩ := Option.bind_eq_some_iff.mp hf
  refine r_virtual (dGet dX12_statement (j := 45) rfl) L12_298 M243 rfl rfl (Nat.le_of_ble_eq_true rfl) (oX12_passes eq80) (cX12_passes X N (d + 602) v0 q79.1 q79.2 q80 eq80) ?_
  refine r_istore_n (lv' := [(2, .int q80.1), (0, .ref v0), (1, .int v1)]) (dGet dX12_statement (j := 46) rfl) (by decide) rfl ?_
  refine r_iload_n (dGet dX12_statement (j := 47) rfl) rfl ?_
  have hq := Option.some.inj hf
  subst hq
  exact r_iret (dGet dX12_statement (j := 48) rfl) rfl rfl
def fX12_statement_29 (N : Nat) (rc : Nat → List Value → pH → Option (Option Value × pH)) (v0 : Nat) (h : pH) : Option (Int32 × pH) :=
  (fX12_begun N v0 (0 : Int32) h).bind fun q81 =>
  (getR q81.2 v0 12 31).bind fun t82 =>
  (fX12_type N v0 q81.2).bind fun q83 =>
  (stI q83.2 t82 q81.1 q83.1).bind fun h84 =>
  (getR h84 v0 12 32).bind fun t85 =>
  (fX12_name N v0 h84).bind fun q86 =>
  (stI q86.2 t85 q81.1 q86.1).bind fun h87 =>
  (fX12_isSign N v0 (61 : Int32) h87).bind fun q88 =>
  if q88.1 = 0 then (
  fX12_statement_78 N rc v0 q81.1 q88.2) else (
  (fX12_next N v0 q88.2).bind fun h90 =>
  (getR h90 v0 12 29).bind fun t91 =>
  (if isO h90 v0 12 = true then some () else none).bind fun _ =>
  (rcI (gX12_sum N 600) 257 [.ref v0] h90).bind fun q92 =>
  (stI q92.2 t91 q81.1 q92.1).bind fun h94 =>
  fX12_statement_78 N rc v0 q81.1 h94)
theorem lX12_statement_29 (X : pX) (N d : Nat) (rc : Nat → List Value → pH → Option (Option Value × pH)) (hrc : ∀ mn as h q, rc mn as h = some q → Calls X (d + 605) mn as h (q.1, q.2, 0, 0))  (v0 : Nat) (h : pH) (q : Int32 × pH) (hf : fX12_statement_29 N rc v0 h = some q) (nv0 : ¬ v0 = 4) : Run X (d + 606) 12 false (pCd 8199) 4 (some .int) 29 [(0, .ref v0)] [] h 0 0 (some (.int q.1), q.2, 0, 0) := by
  unfold fX12_statement_29 at hf
  refine r_aload_n (dGet dX12_statement (j := 13) rfl) nv0 rfl ?_
  refine r_iconst (dGet dX12_statement (j := 14) rfl) kI_0 ?_
  obtain ⟨q81, eq81, hf⟩ := Option.bind_eq_some_iff.mp hf
  refine r_virtual (dGet dX12_statement (j := 15) rfl) L12_382 M256 rfl rfl (Nat.le_of_ble_eq_true rfl) (oX12_begun eq81) (cX12_begun X N (d + 605) v0 (0 : Int32) h q81 eq81) ?_
  refine r_istore_n (lv' := [(1, .int q81.1), (0, .ref v0)]) (dGet dX12_statement (j := 16) rfl) (by decide) rfl ?_
  refine r_aload_n (dGet dX12_statement (j := 17) rfl) nv0 rfl ?_
  obtain ⟨t82, et82, hf⟩ := Option.bind_eq_some_iff.mp hf
  refine r_getR (dGet dX12_statement (j := 18) rfl) F12_61 et82 ?_
  refine r_iload_n (dGet dX12_statement (j := 19) rfl) rfl ?_
  refine r_aload_n (dGet dX12_statement (j := 20) rfl) nv0 rfl ?_
  obtain ⟨q83, eq83, hf⟩ := Option.bind_eq_some_iff.mp hf
  refine r_virtual (dGet dX12_statement (j := 21) rfl) L12_385 M250 rfl rfl (Nat.le_of_ble_eq_true rfl) (oX12_type eq83) (cX12_type X N (d + 601) v0 q81.2 q83 eq83) ?_
  obtain ⟨h84, eh84, hf⟩ := Option.bind_eq_some_iff.mp hf
  refine r_iast (dGet dX12_statement (j := 22) rfl) eh84 ?_
  refine r_aload_n (dGet dX12_statement (j := 23) rfl) nv0 rfl ?_
  obtain ⟨t85, et85, hf⟩ := Option.bind_eq_some_iff.mp hf
  refine r_getR (dGet dX12_statement (j := 24) rfl) F12_64 et85 ?_
  refine r_iload_n (dGet dX12_statement (j := 25) rfl) rfl ?_
  refine r_aload_n (dGet dX12_statement (j := 26) rfl) nv0 rfl ?_
  obtain ⟨q86, eq86, hf⟩ := Option.bind_eq_some_iff.mp hf
  refine r_virtual (dGet dX12_statement (j := 27) rfl) L12_333 M246 rfl rfl (Nat.le_of_ble_eq_true rfl) (oX12_name eq86) (cX12_name X N (d + 601) v0 h84 q86 eq86) ?_
  obtain ⟨h87, eh87, hf⟩ := Option.bind_eq_some_iff.mp hf
  refine r_iast (dGet dX12_statement (j := 28) rfl) eh87 ?_
  refine r_aload_n (dGet dX12_statement (j := 29) rfl) nv0 rfl ?_
  refine r_bipush (dGet dX12_statement (j := 30) rfl) kB_61 ?_
  obtain ⟨q88, eq88, hf⟩ := Option.bind_eq_some_iff.mp hf
  refine r_virtual (dGet dX12_statement (j := 31) rfl) L12_295 M247 rfl rfl (Nat.le_of_ble_eq_true rfl) (oX12_isSign eq88) (cX12_isSign X N (d + 605) v0 (61 : Int32) h87 q88 eq88) ?_
  by_cases c89 : q88.1 = 0
  · rw [if_pos c89] at hf
    refine r_if_eq_t (dGet dX12_statement (j := 32) rfl) rfl c89 ?_
    refine Run.weak [(0, .ref v0), (1, .int q81.1)] (by simp) (by simp [pNd]) ?_
    exact lX12_statement_78 X N d rc hrc v0 q81.1 q88.2 q hf nv0
  · rw [if_neg c89] at hf
    refine r_if_eq_f (dGet dX12_statement (j := 32) rfl) rfl c89 ?_
    refine r_aload_n (dGet dX12_statement (j := 33) rfl) nv0 rfl ?_
    obtain ⟨h90, eh90, hf⟩ := Option.bind_eq_some_iff.mp hf
    refine r_virtual (dGet dX12_statement (j := 34) rfl) L12_289 M233 rfl rfl (Nat.le_of_ble_eq_true rfl) (oX12_next eh90) (cX12_next X N (d + 603) v0 q88.2 h90 eh90) ?_
    refine r_aload_n (dGet dX12_statement (j := 35) rfl) nv0 rfl ?_
    obtain ⟨t91, et91, hf⟩ := Option.bind_eq_some_iff.mp hf
    refine r_getR (dGet dX12_statement (j := 36) rfl) F12_55 et91 ?_
    refine r_iload_n (dGet dX12_statement (j := 37) rfl) rfl ?_
    refine r_aload_n (dGet dX12_statement (j := 38) rfl) nv0 rfl ?_
    obtain ⟨_, ec93, hf⟩ := Option.bind_eq_some_iff.mp hf
    obtain ⟨q92, eq92, hf⟩ := Option.bind_eq_some_iff.mp hf
    refine r_virtual (dGet dX12_statement (j := 39) rfl) L12_349 M257 rfl rfl (Nat.le_of_ble_eq_true rfl) (guard_of ec93) (rcI_calls (gX12_sum_calls X N (d + 1) 600) eq92) ?_
    obtain ⟨h94, eh94, hf⟩ := Option.bind_eq_some_iff.mp hf
    refine r_iast (dGet dX12_statement (j := 40) rfl) eh94 ?_
    refine Run.weak [(0, .ref v0), (1, .int q81.1)] (by simp) (by simp [pNd]) ?_
    exact lX12_statement_78 X N d rc hrc v0 q81.1 h94 q hf nv0
def fX12_statement (N : Nat) (rc : Nat → List Value → pH → Option (Option Value × pH)) (v0 : Nat) (h : pH) : Option (Int32 × pH) := if isO h v0 12 = true then (
  (fX12_isType N v0 h).bind fun q95 =>
  if q95.1 = 0 then (
  (getI q95.2 v0 12 5).bind fun t97 =>
  if t97 = (2 : Int32) then (
  (getI q95.2 v0 12 9).bind fun t99 =>
  if 0 ≤ t99 then (
  fX12_statement_91 N rc v0 q95.2) else (
  (fX12_isNameAhead N v0 q95.2).bind fun q101 =>
  if q101.1 = 0 then (
  fX12_statement_91 N rc v0 q101.2) else (
  fX12_statement_29 N rc v0 q101.2))) else (
  fX12_statement_91 N rc v0 q95.2)) else (
  fX12_statement_29 N rc v0 q95.2)) else none
theorem oX12_statement {N : Nat} {rc : Nat → List Value → pH → Option (Option Value × pH)} {v0 : Nat} {h : pH} {q : Int32 × pH} (hf : fX12_statement N rc v0 h = some q) : isO h v0 12 = true := by
  unfold fX12_statement at hf
  by_cases hc : isO h v0 12 = true
  · exact hc
  · rw [if_neg hc] at hf; cases hf
theorem cX12_statement (X : pX) (N d : Nat) (rc : Nat → List Value → pH → Option (Option Value × pH)) (hrc : ∀ mn as h q, rc mn as h = some q → Calls X (d + 605) mn as h (q.1, q.2, 0, 0)) (v0 : Nat) (h : pH) (q : Int32 × pH) (hf : fX12_statement N rc v0 h = some q) : Calls X (d + 606) 254 [.ref v0] h (some (.int q.1), q.2, 0, 0) := by
  refine Calls.of M254 (Nat.le_of_ble_eq_true rfl) ?_
  show Run X (d + 606) 12 false (pCd 8199) 4 (some .int) 0 [(0, .ref v0)] [] h 0 0 (some (.int q.1), q.2, 0, 0)
  unfold fX12_statement at hf
  by_cases hc : isO h v0 12 = true
  · rw [if_pos hc] at hf
    have nv0 : ¬ v0 = 4 := isO_ne hc
    refine r_aload_n (dGet dX12_statement (j := 0) rfl) nv0 rfl ?_
    obtain ⟨q95, eq95, hf⟩ := Option.bind_eq_some_iff.mp hf
    refine r_virtual (dGet dX12_statement (j := 1) rfl) L12_375 M251 rfl rfl (Nat.le_of_ble_eq_true rfl) (oX12_isType eq95) (cX12_isType X N (d + 604) v0 h q95 eq95) ?_
    by_cases c96 : q95.1 = 0
    · rw [if_pos c96] at hf
      refine r_if_ne_f (dGet dX12_statement (j := 2) rfl) rfl c96 ?_
      refine r_aload_n (dGet dX12_statement (j := 3) rfl) nv0 rfl ?_
      obtain ⟨t97, et97, hf⟩ := Option.bind_eq_some_iff.mp hf
      refine r_getI (dGet dX12_statement (j := 4) rfl) F12_263 et97 ?_
      refine r_iconst (dGet dX12_statement (j := 5) rfl) kI_2 ?_
      by_cases c98 : t97 = (2 : Int32)
      · rw [if_pos c98] at hf
        refine r_icmp_ne_f (dGet dX12_statement (j := 6) rfl) rfl c98 ?_
        refine r_aload_n (dGet dX12_statement (j := 7) rfl) nv0 rfl ?_
        obtain ⟨t99, et99, hf⟩ := Option.bind_eq_some_iff.mp hf
        refine r_getI (dGet dX12_statement (j := 8) rfl) F12_283 et99 ?_
        by_cases c100 : 0 ≤ t99
        · rw [if_pos c100] at hf
          refine r_if_ge_t (dGet dX12_statement (j := 9) rfl) rfl c100 ?_
          exact lX12_statement_91 X N d rc hrc v0 q95.2 q hf nv0
        · rw [if_neg c100] at hf
          refine r_if_ge_f (dGet dX12_statement (j := 9) rfl) rfl c100 ?_
          refine r_aload_n (dGet dX12_statement (j := 10) rfl) nv0 rfl ?_
          obtain ⟨q101, eq101, hf⟩ := Option.bind_eq_some_iff.mp hf
          refine r_virtual (dGet dX12_statement (j := 11) rfl) L12_379 M255 rfl rfl (Nat.le_of_ble_eq_true rfl) (oX12_isNameAhead eq101) (cX12_isNameAhead X N (d + 602) v0 q95.2 q101 eq101) ?_
          by_cases c102 : q101.1 = 0
          · rw [if_pos c102] at hf
            refine r_if_eq_t (dGet dX12_statement (j := 12) rfl) rfl c102 ?_
            exact lX12_statement_91 X N d rc hrc v0 q101.2 q hf nv0
          · rw [if_neg c102] at hf
            refine r_if_eq_f (dGet dX12_statement (j := 12) rfl) rfl c102 ?_
            exact lX12_statement_29 X N d rc hrc v0 q101.2 q hf nv0
      · rw [if_neg c98] at hf
        refine r_icmp_ne_t (dGet dX12_statement (j := 6) rfl) rfl c98 ?_
        exact lX12_statement_91 X N d rc hrc v0 q95.2 q hf nv0
    · rw [if_neg c96] at hf
      refine r_if_ne_t (dGet dX12_statement (j := 2) rfl) rfl c96 ?_
      exact lX12_statement_29 X N d rc hrc v0 q95.2 q hf nv0
  · rw [if_neg hc] at hf; cases hf
def eX12_block : List (Nat × Instr × Nat) := [(0, .aload_n 0, 1), (1, .aload_n 0, 1), (2, .bipush 123, 2), (4, .invokevirtual 295, 3), (7, .invokevirtual 339, 3), (10, .ifCond .ne 5, 3), (13, .iconst (-1), 1), (14, .ireturn, 1), (15, .iconst (-1), 1), (16, .istore_n 1, 1), (17, .iconst (-1), 1), (18, .istore_n 2, 1), (19, .aload_n 0, 1), (20, .getfield 283, 3), (23, .ifCond .ge 43, 3), (26, .aload_n 0, 1), (27, .bipush 125, 2), (29, .invokevirtual 295, 3), (32, .ifCond .ne 34, 3), (35, .aload_n 0, 1), (36, .invokevirtual 369, 3), (39, .istore_n 3, 1), (40, .iload_n 2, 1), (41, .ifCond .lt 10, 3), (44, .aload_n 0, 1), (45, .getfield 76, 3), (48, .iload_n 2, 1), (49, .iload_n 3, 1), (50, .iastore, 1), (51, .iload_n 1, 1), (52, .ifCond .ge 7, 3), (55, .iload_n 3, 1), (56, .goto 4, 3), (59, .iload_n 1, 1), (60, .istore_n 1, 1), (61, .iload_n 3, 1), (62, .istore_n 2, 1), (63, .goto (-44), 3), (66, .aload_n 0, 1), (67, .aload_n 0, 1), (68, .getfield 246, 3), (71, .putfield 372, 3), (74, .aload_n 0, 1), (75, .bipush 125, 2), (77, .invokevirtual 352, 3), (80, .iload_n 1, 1), (81, .ireturn, 1)]
theorem dX12_block : dChk (pCd 8195) eX12_block = true := by decide +kernel
def fX12_block_66 (N : Nat) (rc : Nat → List Value → pH → Option (Option Value × pH)) (v0 : Nat) (v1 : Int32) (h : pH) : Option (Int32 × pH) :=
  (getI h v0 12 6).bind fun t1 =>
  (putI h v0 12 57 t1).bind fun h2 =>
  (fX12_closes N v0 (125 : Int32) h2).bind fun h3 =>
  some (v1, h3)
theorem lX12_block_66 (X : pX) (N d : Nat) (rc : Nat → List Value → pH → Option (Option Value × pH)) (hrc : ∀ mn as h q, rc mn as h = some q → Calls X (d + 605) mn as h (q.1, q.2, 0, 0))  (v0 : Nat) (v1 : Int32) (h : pH) (q : Int32 × pH) (hf : fX12_block_66 N rc v0 v1 h = some q) (nv0 : ¬ v0 = 4) : Run X (d + 606) 12 false (pCd 8195) 4 (some .int) 66 [(0, .ref v0), (1, .int v1)] [] h 0 0 (some (.int q.1), q.2, 0, 0) := by
  unfold fX12_block_66 at hf
  refine r_aload_n (dGet dX12_block (j := 38) rfl) nv0 rfl ?_
  refine r_aload_n (dGet dX12_block (j := 39) rfl) nv0 rfl ?_
  obtain ⟨t1, et1, hf⟩ := Option.bind_eq_some_iff.mp hf
  refine r_getI (dGet dX12_block (j := 40) rfl) F12_246 et1 ?_
  obtain ⟨h2, eh2, hf⟩ := Option.bind_eq_some_iff.mp hf
  refine r_putI (dGet dX12_block (j := 41) rfl) F12_372 rfl rfl eh2 ?_
  refine r_aload_n (dGet dX12_block (j := 42) rfl) nv0 rfl ?_
  refine r_bipush (dGet dX12_block (j := 43) rfl) kB_125 ?_
  obtain ⟨h3, eh3, hf⟩ := Option.bind_eq_some_iff.mp hf
  refine r_virtual (dGet dX12_block (j := 44) rfl) L12_352 M252 rfl rfl (Nat.le_of_ble_eq_true rfl) (oX12_closes eh3) (cX12_closes X N (d + 601) v0 (125 : Int32) h2 h3 eh3) ?_
  refine r_iload_n (dGet dX12_block (j := 45) rfl) rfl ?_
  have hq := Option.some.inj hf
  subst hq
  exact r_iret (dGet dX12_block (j := 46) rfl) rfl rfl
def fX12_block_60 (N : Nat) (rc : Nat → List Value → pH → Option (Option Value × pH)) (k19 : Nat → Int32 → Int32 → pH → Option (Int32 × pH)) (v0 : Nat) (v3 : Int32) (s0 : Int32) (h : pH) : Option (Int32 × pH) :=
  k19 v0 s0 v3 h
theorem lX12_block_60 (X : pX) (N d : Nat) (rc : Nat → List Value → pH → Option (Option Value × pH)) (hrc : ∀ mn as h q, rc mn as h = some q → Calls X (d + 605) mn as h (q.1, q.2, 0, 0))  (k19 : Nat → Int32 → Int32 → pH → Option (Int32 × pH)) (K19 : ∀ (w0 : Nat) (w1 : Int32) (w2 : Int32) (h : pH) (q : Int32 × pH), k19 w0 w1 w2 h = some q → ¬ w0 = 4 → Run X (d + 606) 12 false (pCd 8195) 4 (some .int) 19 [(0, .ref w0), (1, .int w1), (2, .int w2)] [] h 0 0 (some (.int q.1), q.2, 0, 0)) (v0 : Nat) (v3 : Int32) (s0 : Int32) (h : pH) (q : Int32 × pH) (hf : fX12_block_60 N rc k19 v0 v3 s0 h = some q) (nv0 : ¬ v0 = 4) : Run X (d + 606) 12 false (pCd 8195) 4 (some .int) 60 [(0, .ref v0), (3, .int v3)] [.int s0] h 0 0 (some (.int q.1), q.2, 0, 0) := by
  unfold fX12_block_60 at hf
  refine r_istore_n (lv' := [(1, .int s0), (0, .ref v0), (3, .int v3)]) (dGet dX12_block (j := 34) rfl) (by decide) rfl ?_
  refine r_iload_n (dGet dX12_block (j := 35) rfl) rfl ?_
  refine r_istore_n (lv' := [(2, .int v3), (1, .int s0), (0, .ref v0), (3, .int v3)]) (dGet dX12_block (j := 36) rfl) (by decide) rfl ?_
  refine r_goto (dGet dX12_block (j := 37) rfl) rfl ?_
  refine Run.weak [(0, .ref v0), (1, .int s0), (2, .int v3)] (by simp) (by simp [pNd]) ?_
  exact K19 v0 s0 v3 h q hf nv0
def fX12_block_51 (N : Nat) (rc : Nat → List Value → pH → Option (Option Value × pH)) (k19 : Nat → Int32 → Int32 → pH → Option (Int32 × pH)) (v0 : Nat) (v1 : Int32) (v3 : Int32) (h : pH) : Option (Int32 × pH) :=
  if 0 ≤ v1 then (
  fX12_block_60 N rc k19 v0 v3 v1 h) else (
  fX12_block_60 N rc k19 v0 v3 v3 h)
theorem lX12_block_51 (X : pX) (N d : Nat) (rc : Nat → List Value → pH → Option (Option Value × pH)) (hrc : ∀ mn as h q, rc mn as h = some q → Calls X (d + 605) mn as h (q.1, q.2, 0, 0))  (k19 : Nat → Int32 → Int32 → pH → Option (Int32 × pH)) (K19 : ∀ (w0 : Nat) (w1 : Int32) (w2 : Int32) (h : pH) (q : Int32 × pH), k19 w0 w1 w2 h = some q → ¬ w0 = 4 → Run X (d + 606) 12 false (pCd 8195) 4 (some .int) 19 [(0, .ref w0), (1, .int w1), (2, .int w2)] [] h 0 0 (some (.int q.1), q.2, 0, 0)) (v0 : Nat) (v1 : Int32) (v3 : Int32) (h : pH) (q : Int32 × pH) (hf : fX12_block_51 N rc k19 v0 v1 v3 h = some q) (nv0 : ¬ v0 = 4) : Run X (d + 606) 12 false (pCd 8195) 4 (some .int) 51 [(0, .ref v0), (1, .int v1), (3, .int v3)] [] h 0 0 (some (.int q.1), q.2, 0, 0) := by
  unfold fX12_block_51 at hf
  refine r_iload_n (dGet dX12_block (j := 29) rfl) rfl ?_
  by_cases c4 : 0 ≤ v1
  · rw [if_pos c4] at hf
    refine r_if_ge_t (dGet dX12_block (j := 30) rfl) rfl c4 ?_
    refine r_iload_n (dGet dX12_block (j := 33) rfl) rfl ?_
    refine Run.weak [(0, .ref v0), (3, .int v3)] (by simp) (by simp [pNd]) ?_
    exact lX12_block_60 X N d rc hrc k19 K19 v0 v3 v1 h q hf nv0
  · rw [if_neg c4] at hf
    refine r_if_ge_f (dGet dX12_block (j := 30) rfl) rfl c4 ?_
    refine r_iload_n (dGet dX12_block (j := 31) rfl) rfl ?_
    refine r_goto (dGet dX12_block (j := 32) rfl) rfl ?_
    refine Run.weak [(0, .ref v0), (3, .int v3)] (by simp) (by simp [pNd]) ?_
    exact lX12_block_60 X N d rc hrc k19 K19 v0 v3 v3 h q hf nv0
def fX12_block_19 (N : Nat) (rc : Nat → List Value → pH → Option (Option Value × pH)) : Nat → Nat → Int32 → Int32 → pH → Option (Int32 × pH)
  | 0, _, _, _, _ => none
  | n + 1, v0, v1, v2, h => (getI h v0 12 9).bind fun t5 =>
  if 0 ≤ t5 then (
  fX12_block_66 N rc v0 v1 h) else (
  (fX12_isSign N v0 (125 : Int32) h).bind fun q7 =>
  if q7.1 = 0 then (
  (if isO q7.2 v0 12 = true then some () else none).bind fun _ =>
  (rcI rc 254 [.ref v0] q7.2).bind fun q10 =>
  if v2 < 0 then (
  fX12_block_51 N rc (fX12_block_19 N rc n) v0 v1 q10.1 q10.2) else (
  (getR q10.2 v0 12 36).bind fun t12 =>
  (stI q10.2 t12 v2 q10.1).bind fun h13 =>
  fX12_block_51 N rc (fX12_block_19 N rc n) v0 v1 q10.1 h13)) else (
  fX12_block_66 N rc v0 v1 q7.2))
theorem lX12_block_19 (X : pX) (N d : Nat) (rc : Nat → List Value → pH → Option (Option Value × pH)) (hrc : ∀ mn as h q, rc mn as h = some q → Calls X (d + 605) mn as h (q.1, q.2, 0, 0))  : ∀ (n : Nat) (v0 : Nat) (v1 : Int32) (v2 : Int32) (h : pH) (q : Int32 × pH), fX12_block_19 N rc n v0 v1 v2 h = some q → ¬ v0 = 4 → Run X (d + 606) 12 false (pCd 8195) 4 (some .int) 19 [(0, .ref v0), (1, .int v1), (2, .int v2)] [] h 0 0 (some (.int q.1), q.2, 0, 0) := by
  intro n
  induction n with
  | zero => intro v0 v1 v2 h q hf; cases hf
  | succ n ih =>
    intro v0 v1 v2 h q hf nv0
    unfold fX12_block_19 at hf
    refine r_aload_n (dGet dX12_block (j := 12) rfl) nv0 rfl ?_
    obtain ⟨t5, et5, hf⟩ := Option.bind_eq_some_iff.mp hf
    refine r_getI (dGet dX12_block (j := 13) rfl) F12_283 et5 ?_
    by_cases c6 : 0 ≤ t5
    · rw [if_pos c6] at hf
      refine r_if_ge_t (dGet dX12_block (j := 14) rfl) rfl c6 ?_
      refine Run.weak [(0, .ref v0), (1, .int v1)] (by simp) (by simp [pNd]) ?_
      exact lX12_block_66 X N d rc hrc v0 v1 h q hf nv0
    · rw [if_neg c6] at hf
      refine r_if_ge_f (dGet dX12_block (j := 14) rfl) rfl c6 ?_
      refine r_aload_n (dGet dX12_block (j := 15) rfl) nv0 rfl ?_
      refine r_bipush (dGet dX12_block (j := 16) rfl) kB_125 ?_
      obtain ⟨q7, eq7, hf⟩ := Option.bind_eq_some_iff.mp hf
      refine r_virtual (dGet dX12_block (j := 17) rfl) L12_295 M247 rfl rfl (Nat.le_of_ble_eq_true rfl) (oX12_isSign eq7) (cX12_isSign X N (d + 605) v0 (125 : Int32) h q7 eq7) ?_
      by_cases c8 : q7.1 = 0
      · rw [if_pos c8] at hf
        refine r_if_ne_f (dGet dX12_block (j := 18) rfl) rfl c8 ?_
        refine r_aload_n (dGet dX12_block (j := 19) rfl) nv0 rfl ?_
        obtain ⟨_, ec9, hf⟩ := Option.bind_eq_some_iff.mp hf
        obtain ⟨q10, eq10, hf⟩ := Option.bind_eq_some_iff.mp hf
        refine r_virtual (dGet dX12_block (j := 20) rfl) L12_369 M254 rfl rfl (Nat.le_of_ble_eq_true rfl) (guard_of ec9) (rcI_calls hrc eq10) ?_
        refine r_istore_n (lv' := [(3, .int q10.1), (0, .ref v0), (1, .int v1), (2, .int v2)]) (dGet dX12_block (j := 21) rfl) (by decide) rfl ?_
        refine r_iload_n (dGet dX12_block (j := 22) rfl) rfl ?_
        by_cases c11 : v2 < 0
        · rw [if_pos c11] at hf
          refine r_if_lt_t (dGet dX12_block (j := 23) rfl) rfl c11 ?_
          refine Run.weak [(0, .ref v0), (1, .int v1), (3, .int q10.1)] (by simp) (by simp [pNd]) ?_
          exact lX12_block_51 X N d rc hrc (fX12_block_19 N rc n) ih v0 v1 q10.1 q10.2 q hf nv0
        · rw [if_neg c11] at hf
          refine r_if_lt_f (dGet dX12_block (j := 23) rfl) rfl c11 ?_
          refine r_aload_n (dGet dX12_block (j := 24) rfl) nv0 rfl ?_
          obtain ⟨t12, et12, hf⟩ := Option.bind_eq_some_iff.mp hf
          refine r_getR (dGet dX12_block (j := 25) rfl) F12_76 et12 ?_
          refine r_iload_n (dGet dX12_block (j := 26) rfl) rfl ?_
          refine r_iload_n (dGet dX12_block (j := 27) rfl) rfl ?_
          obtain ⟨h13, eh13, hf⟩ := Option.bind_eq_some_iff.mp hf
          refine r_iast (dGet dX12_block (j := 28) rfl) eh13 ?_
          refine Run.weak [(0, .ref v0), (1, .int v1), (3, .int q10.1)] (by simp) (by simp [pNd]) ?_
          exact lX12_block_51 X N d rc hrc (fX12_block_19 N rc n) ih v0 v1 q10.1 h13 q hf nv0
      · rw [if_neg c8] at hf
        refine r_if_ne_t (dGet dX12_block (j := 18) rfl) rfl c8 ?_
        refine Run.weak [(0, .ref v0), (1, .int v1)] (by simp) (by simp [pNd]) ?_
        exact lX12_block_66 X N d rc hrc v0 v1 q7.2 q hf nv0
def fX12_block (N : Nat) (rc : Nat → List Value → pH → Option (Option Value × pH)) (v0 : Nat) (h : pH) : Option (Int32 × pH) := if isO h v0 12 = true then (
  (fX12_isSign N v0 (123 : Int32) h).bind fun q14 =>
  (fX12_opens N v0 q14.1 q14.2).bind fun q15 =>
  if q15.1 = 0 then (
  some ((-1 : Int32), q15.2)) else (
  fX12_block_19 N rc N v0 (-1 : Int32) (-1 : Int32) q15.2)) else none
theorem oX12_block {N : Nat} {rc : Nat → List Value → pH → Option (Option Value × pH)} {v0 : Nat} {h : pH} {q : Int32 × pH} (hf : fX12_block N rc v0 h = some q) : isO h v0 12 = true := by
  unfold fX12_block at hf
  by_cases hc : isO h v0 12 = true
  · exact hc
  · rw [if_neg hc] at hf; cases hf
theorem cX12_block (X : pX) (N d : Nat) (rc : Nat → List Value → pH → Option (Option Value × pH)) (hrc : ∀ mn as h q, rc mn as h = some q → Calls X (d + 605) mn as h (q.1, q.2, 0, 0)) (v0 : Nat) (h : pH) (q : Int32 × pH) (hf : fX12_block N rc v0 h = some q) : Calls X (d + 606) 253 [.ref v0] h (some (.int q.1), q.2, 0, 0) := by
  refine Calls.of M253 (Nat.le_of_ble_eq_true rfl) ?_
  show Run X (d + 606) 12 false (pCd 8195) 4 (some .int) 0 [(0, .ref v0)] [] h 0 0 (some (.int q.1), q.2, 0, 0)
  unfold fX12_block at hf
  by_cases hc : isO h v0 12 = true
  · rw [if_pos hc] at hf
    have nv0 : ¬ v0 = 4 := isO_ne hc
    refine r_aload_n (dGet dX12_block (j := 0) rfl) nv0 rfl ?_
    refine r_aload_n (dGet dX12_block (j := 1) rfl) nv0 rfl ?_
    refine r_bipush (dGet dX12_block (j := 2) rfl) kB_123 ?_
    obtain ⟨q14, eq14, hf⟩ := Option.bind_eq_some_iff.mp hf
    refine r_virtual (dGet dX12_block (j := 3) rfl) L12_295 M247 rfl rfl (Nat.le_of_ble_eq_true rfl) (oX12_isSign eq14) (cX12_isSign X N (d + 605) v0 (123 : Int32) h q14 eq14) ?_
    obtain ⟨q15, eq15, hf⟩ := Option.bind_eq_some_iff.mp hf
    refine r_virtual (dGet dX12_block (j := 4) rfl) L12_339 M248 rfl rfl (Nat.le_of_ble_eq_true rfl) (oX12_opens eq15) (cX12_opens X N (d + 602) v0 q14.1 q14.2 q15 eq15) ?_
    by_cases c16 : q15.1 = 0
    · rw [if_pos c16] at hf
      refine r_if_ne_f (dGet dX12_block (j := 5) rfl) rfl c16 ?_
      refine r_iconst (dGet dX12_block (j := 6) rfl) kI_m1 ?_
      have hq := Option.some.inj hf
      subst hq
      exact r_iret (dGet dX12_block (j := 7) rfl) rfl rfl
    · rw [if_neg c16] at hf
      refine r_if_ne_t (dGet dX12_block (j := 5) rfl) rfl c16 ?_
      refine r_iconst (dGet dX12_block (j := 8) rfl) kI_m1 ?_
      refine r_istore_n (lv' := [(1, .int (-1 : Int32)), (0, .ref v0)]) (dGet dX12_block (j := 9) rfl) (by decide) rfl ?_
      refine r_iconst (dGet dX12_block (j := 10) rfl) kI_m1 ?_
      refine r_istore_n (lv' := [(2, .int (-1 : Int32)), (1, .int (-1 : Int32)), (0, .ref v0)]) (dGet dX12_block (j := 11) rfl) (by decide) rfl ?_
      refine Run.weak [(0, .ref v0), (1, .int (-1 : Int32)), (2, .int (-1 : Int32))] (by simp) (by simp [pNd]) ?_
      exact lX12_block_19 X N d rc hrc N v0 (-1 : Int32) (-1 : Int32) q15.2 q hf nv0
  · rw [if_neg hc] at hf; cases hf
def gX12_statement (N : Nat) : Nat → Nat → List Value → pH → Option (Option Value × pH)
  | 0 => fun _ _ _ => none
  | j + 1 => fun mn as h =>
    if mn = 254 then (match as with
      | [.ref a0] => (fX12_statement N (gX12_statement N j) a0 h).map (fun q => (some (.int q.1), q.2))
      | _ => none) else
    if mn = 253 then (match as with
      | [.ref a0] => (fX12_block N (gX12_statement N j) a0 h).map (fun q => (some (.int q.1), q.2))
      | _ => none) else
    none
theorem gX12_statement_calls (X : pX) (N d : Nat) : ∀ (j mn : Nat) (as : List Value) (h : pH) (q : Option Value × pH), gX12_statement N j mn as h = some q → Calls X (d + 605 + j) mn as h (q.1, q.2, 0, 0)
  | 0, _, _, _, _, hf => by cases hf
  | j + 1, mn, as, h, q, hf => by
    have ih := gX12_statement_calls X N d j
    unfold gX12_statement at hf
    by_cases c254 : mn = 254
    · rw [if_pos c254] at hf
      subst c254
      split at hf
      · rename_i a0
        obtain ⟨x, e1, rfl⟩ := Option.map_eq_some_iff.mp hf
        have := cX12_statement X N (d + j) (gX12_statement N j) (fun mn as h q e => by have := ih mn as h q e; rw [show d + j + 605 = d + 605 + j by omega]; exact this) a0 h x e1
        rw [show d + 605 + (j + 1) = d + j + 606 by omega]
        exact this
      · cases hf
    rw [if_neg c254] at hf
    by_cases c253 : mn = 253
    · rw [if_pos c253] at hf
      subst c253
      split at hf
      · rename_i a0
        obtain ⟨x, e1, rfl⟩ := Option.map_eq_some_iff.mp hf
        have := cX12_block X N (d + j) (gX12_statement N j) (fun mn as h q e => by have := ih mn as h q e; rw [show d + j + 605 = d + 605 + j by omega]; exact this) a0 h x e1
        rw [show d + 605 + (j + 1) = d + j + 606 by omega]
        exact this
      · cases hf
    rw [if_neg c253] at hf
    cases hf
def eX12_isUnder : List (Nat × Instr × Nat) := [(0, .iload_n 1, 1), (1, .istore_n 3, 1), (2, .iload_n 3, 1), (3, .ifCond .lt 18, 3), (6, .iload_n 3, 1), (7, .iload_n 2, 1), (8, .if_icmp .eq 13, 3), (11, .aload_n 0, 1), (12, .getfield 88, 3), (15, .iload_n 3, 1), (16, .iaload, 1), (17, .istore_n 3, 1), (18, .goto (-16), 3), (21, .iload_n 3, 1), (22, .iload_n 2, 1), (23, .if_icmp .ne 7, 3), (26, .iconst 1, 1), (27, .goto 4, 3), (30, .iconst 0, 1), (31, .ireturn, 1)]
theorem dX12_isUnder : dChk (pCd 9113) eX12_isUnder = true := by decide +kernel
def fX12_isUnder_21 (N : Nat) (v2 : Int32) (v3 : Int32) (h : pH) : Option (Int32 × pH) :=
  if v3 = v2 then (
  some ((1 : Int32), h)) else (
  some ((0 : Int32), h))
theorem lX12_isUnder_21 (X : pX) (N d : Nat)  (v2 : Int32) (v3 : Int32) (h : pH) (q : Int32 × pH) (hf : fX12_isUnder_21 N v2 v3 h = some q) : Run X (d + 0) 12 false (pCd 9113) 4 (some .boolean) 21 [(2, .int v2), (3, .int v3)] [] h 0 0 (some (.int q.1), q.2, 0, 0) := by
  unfold fX12_isUnder_21 at hf
  refine r_iload_n (dGet dX12_isUnder (j := 13) rfl) rfl ?_
  refine r_iload_n (dGet dX12_isUnder (j := 14) rfl) rfl ?_
  by_cases c1 : v3 = v2
  · rw [if_pos c1] at hf
    refine r_icmp_ne_f (dGet dX12_isUnder (j := 15) rfl) rfl c1 ?_
    refine r_iconst (dGet dX12_isUnder (j := 16) rfl) kI_1 ?_
    refine r_goto (dGet dX12_isUnder (j := 17) rfl) rfl ?_
    have hq := Option.some.inj hf
    subst hq
    exact r_iret (dGet dX12_isUnder (j := 19) rfl) rfl (by decide)
  · rw [if_neg c1] at hf
    refine r_icmp_ne_t (dGet dX12_isUnder (j := 15) rfl) rfl c1 ?_
    refine r_iconst (dGet dX12_isUnder (j := 18) rfl) kI_0 ?_
    have hq := Option.some.inj hf
    subst hq
    exact r_iret (dGet dX12_isUnder (j := 19) rfl) rfl (by decide)
def fX12_isUnder_2 (N : Nat) : Nat → Nat → Int32 → Int32 → pH → Option (Int32 × pH)
  | 0, _, _, _, _ => none
  | n + 1, v0, v2, v3, h => if v3 < 0 then (
  fX12_isUnder_21 N v2 v3 h) else (
  if v3 = v2 then (
  fX12_isUnder_21 N v2 v3 h) else (
  (getR h v0 12 41).bind fun t4 =>
  (ldI h t4 v3).bind fun t5 =>
  fX12_isUnder_2 N n v0 v2 t5 h))
theorem lX12_isUnder_2 (X : pX) (N d : Nat)  : ∀ (n : Nat) (v0 : Nat) (v2 : Int32) (v3 : Int32) (h : pH) (q : Int32 × pH), fX12_isUnder_2 N n v0 v2 v3 h = some q → ¬ v0 = 4 → Run X (d + 0) 12 false (pCd 9113) 4 (some .boolean) 2 [(0, .ref v0), (2, .int v2), (3, .int v3)] [] h 0 0 (some (.int q.1), q.2, 0, 0) := by
  intro n
  induction n with
  | zero => intro v0 v2 v3 h q hf; cases hf
  | succ n ih =>
    intro v0 v2 v3 h q hf nv0
    unfold fX12_isUnder_2 at hf
    refine r_iload_n (dGet dX12_isUnder (j := 2) rfl) rfl ?_
    by_cases c2 : v3 < 0
    · rw [if_pos c2] at hf
      refine r_if_lt_t (dGet dX12_isUnder (j := 3) rfl) rfl c2 ?_
      refine Run.weak [(2, .int v2), (3, .int v3)] (by simp) (by simp [pNd]) ?_
      exact lX12_isUnder_21 X N d v2 v3 h q hf 
    · rw [if_neg c2] at hf
      refine r_if_lt_f (dGet dX12_isUnder (j := 3) rfl) rfl c2 ?_
      refine r_iload_n (dGet dX12_isUnder (j := 4) rfl) rfl ?_
      refine r_iload_n (dGet dX12_isUnder (j := 5) rfl) rfl ?_
      by_cases c3 : v3 = v2
      · rw [if_pos c3] at hf
        refine r_icmp_eq_t (dGet dX12_isUnder (j := 6) rfl) rfl c3 ?_
        refine Run.weak [(2, .int v2), (3, .int v3)] (by simp) (by simp [pNd]) ?_
        exact lX12_isUnder_21 X N d v2 v3 h q hf 
      · rw [if_neg c3] at hf
        refine r_icmp_eq_f (dGet dX12_isUnder (j := 6) rfl) rfl c3 ?_
        refine r_aload_n (dGet dX12_isUnder (j := 7) rfl) nv0 rfl ?_
        obtain ⟨t4, et4, hf⟩ := Option.bind_eq_some_iff.mp hf
        refine r_getR (dGet dX12_isUnder (j := 8) rfl) F12_88 et4 ?_
        refine r_iload_n (dGet dX12_isUnder (j := 9) rfl) rfl ?_
        obtain ⟨t5, et5, hf⟩ := Option.bind_eq_some_iff.mp hf
        refine r_iald (dGet dX12_isUnder (j := 10) rfl) et5 ?_
        refine r_istore_n (lv' := [(3, .int t5), (0, .ref v0), (2, .int v2)]) (dGet dX12_isUnder (j := 11) rfl) (by decide) rfl ?_
        refine r_goto (dGet dX12_isUnder (j := 12) rfl) rfl ?_
        refine Run.weak [(0, .ref v0), (2, .int v2), (3, .int t5)] (by simp) (by simp [pNd]) ?_
        exact ih v0 v2 t5 h q hf nv0
def fX12_isUnder (N : Nat) (v0 : Nat) (v1 : Int32) (v2 : Int32) (h : pH) : Option (Int32 × pH) := if isO h v0 12 = true then (
  fX12_isUnder_2 N N v0 v2 v1 h) else none
theorem oX12_isUnder {N : Nat} {v0 : Nat} {v1 : Int32} {v2 : Int32} {h : pH} {q : Int32 × pH} (hf : fX12_isUnder N v0 v1 v2 h = some q) : isO h v0 12 = true := by
  unfold fX12_isUnder at hf
  by_cases hc : isO h v0 12 = true
  · exact hc
  · rw [if_neg hc] at hf; cases hf
theorem cX12_isUnder (X : pX) (N d : Nat) (v0 : Nat) (v1 : Int32) (v2 : Int32) (h : pH) (q : Int32 × pH) (hf : fX12_isUnder N v0 v1 v2 h = some q) : Calls X (d + 0) 292 [.ref v0, .int v1, .int v2] h (some (.int q.1), q.2, 0, 0) := by
  refine Calls.of M292 (Nat.le_of_ble_eq_true rfl) ?_
  show Run X (d + 0) 12 false (pCd 9113) 4 (some .boolean) 0 [(0, .ref v0), (1, .int v1), (2, .int v2)] [] h 0 0 (some (.int q.1), q.2, 0, 0)
  unfold fX12_isUnder at hf
  by_cases hc : isO h v0 12 = true
  · rw [if_pos hc] at hf
    have nv0 : ¬ v0 = 4 := isO_ne hc
    refine r_iload_n (dGet dX12_isUnder (j := 0) rfl) rfl ?_
    refine r_istore_n (lv' := [(3, .int v1), (0, .ref v0), (1, .int v1), (2, .int v2)]) (dGet dX12_isUnder (j := 1) rfl) (by decide) rfl ?_
    refine Run.weak [(0, .ref v0), (2, .int v2), (3, .int v1)] (by simp) (by simp [pNd]) ?_
    exact lX12_isUnder_2 X N d N v0 v2 v1 h q hf nv0
  · rw [if_neg hc] at hf; cases hf
def eX12_isSub : List (Nat × Instr × Nat) := [(0, .iload_n 1, 1), (1, .iconst 4, 1), (2, .if_icmp .ne 25, 3), (5, .iload_n 2, 1), (6, .bipush 10, 2), (8, .if_icmp .ge 13, 3), (11, .iload_n 2, 1), (12, .iconst 2, 1), (13, .if_icmp .eq 8, 3), (16, .iload_n 2, 1), (17, .iconst 4, 1), (18, .if_icmp .ne 7, 3), (21, .iconst 1, 1), (22, .goto 4, 3), (25, .iconst 0, 1), (26, .ireturn, 1), (27, .iload_n 1, 1), (28, .iload_n 2, 1), (29, .if_icmp .ne 8, 3), (32, .iload_n 1, 1), (33, .iconst 5, 1), (34, .if_icmp .ne 30, 3), (37, .iload_n 1, 1), (38, .bipush 10, 2), (40, .if_icmp .lt 28, 3), (43, .iload_n 2, 1), (44, .bipush 10, 2), (46, .if_icmp .lt 22, 3), (49, .aload_n 0, 1), (50, .iload_n 1, 1), (51, .bipush 10, 2), (53, .isub, 1), (54, .iload_n 2, 1), (55, .bipush 10, 2), (57, .isub, 1), (58, .invokevirtual 415, 3), (61, .ifCond .eq 7, 3), (64, .iconst 1, 1), (65, .goto 4, 3), (68, .iconst 0, 1), (69, .ireturn, 1)]
theorem dX12_isSub : dChk (pCd 9109) eX12_isSub = true := by decide +kernel
def fX12_isSub_37 (N : Nat) (v0 : Nat) (v1 : Int32) (v2 : Int32) (h : pH) : Option (Int32 × pH) :=
  if v1 < (10 : Int32) then (
  some ((0 : Int32), h)) else (
  if v2 < (10 : Int32) then (
  some ((0 : Int32), h)) else (
  (fX12_isUnder N v0 (v1 - (10 : Int32)) (v2 - (10 : Int32)) h).bind fun q3 =>
  if q3.1 = 0 then (
  some ((0 : Int32), q3.2)) else (
  some ((1 : Int32), q3.2))))
theorem lX12_isSub_37 (X : pX) (N d : Nat)  (v0 : Nat) (v1 : Int32) (v2 : Int32) (h : pH) (q : Int32 × pH) (hf : fX12_isSub_37 N v0 v1 v2 h = some q) (nv0 : ¬ v0 = 4) : Run X (d + 1) 12 false (pCd 9109) 3 (some .boolean) 37 [(0, .ref v0), (1, .int v1), (2, .int v2)] [] h 0 0 (some (.int q.1), q.2, 0, 0) := by
  unfold fX12_isSub_37 at hf
  refine r_iload_n (dGet dX12_isSub (j := 22) rfl) rfl ?_
  refine r_bipush (dGet dX12_isSub (j := 23) rfl) kB_10 ?_
  by_cases c1 : v1 < (10 : Int32)
  · rw [if_pos c1] at hf
    refine r_icmp_lt_t (dGet dX12_isSub (j := 24) rfl) rfl c1 ?_
    refine r_iconst (dGet dX12_isSub (j := 39) rfl) kI_0 ?_
    have hq := Option.some.inj hf
    subst hq
    exact r_iret (dGet dX12_isSub (j := 40) rfl) rfl (by decide)
  · rw [if_neg c1] at hf
    refine r_icmp_lt_f (dGet dX12_isSub (j := 24) rfl) rfl c1 ?_
    refine r_iload_n (dGet dX12_isSub (j := 25) rfl) rfl ?_
    refine r_bipush (dGet dX12_isSub (j := 26) rfl) kB_10 ?_
    by_cases c2 : v2 < (10 : Int32)
    · rw [if_pos c2] at hf
      refine r_icmp_lt_t (dGet dX12_isSub (j := 27) rfl) rfl c2 ?_
      refine r_iconst (dGet dX12_isSub (j := 39) rfl) kI_0 ?_
      have hq := Option.some.inj hf
      subst hq
      exact r_iret (dGet dX12_isSub (j := 40) rfl) rfl (by decide)
    · rw [if_neg c2] at hf
      refine r_icmp_lt_f (dGet dX12_isSub (j := 27) rfl) rfl c2 ?_
      refine r_aload_n (dGet dX12_isSub (j := 28) rfl) nv0 rfl ?_
      refine r_iload_n (dGet dX12_isSub (j := 29) rfl) rfl ?_
      refine r_bipush (dGet dX12_isSub (j := 30) rfl) kB_10 ?_
      refine r_isub (dGet dX12_isSub (j := 31) rfl) ?_
      refine r_iload_n (dGet dX12_isSub (j := 32) rfl) rfl ?_
      refine r_bipush (dGet dX12_isSub (j := 33) rfl) kB_10 ?_
      refine r_isub (dGet dX12_isSub (j := 34) rfl) ?_
      obtain ⟨q3, eq3, hf⟩ := Option.bind_eq_some_iff.mp hf
      refine r_virtual (dGet dX12_isSub (j := 35) rfl) L12_415 M292 rfl rfl (Nat.le_of_ble_eq_true rfl) (oX12_isUnder eq3) (cX12_isUnder X N (d + 0) v0 (v1 - (10 : Int32)) (v2 - (10 : Int32)) h q3 eq3) ?_
      by_cases c4 : q3.1 = 0
      · rw [if_pos c4] at hf
        refine r_if_eq_t (dGet dX12_isSub (j := 36) rfl) rfl c4 ?_
        refine r_iconst (dGet dX12_isSub (j := 39) rfl) kI_0 ?_
        have hq := Option.some.inj hf
        subst hq
        exact r_iret (dGet dX12_isSub (j := 40) rfl) rfl (by decide)
      · rw [if_neg c4] at hf
        refine r_if_eq_f (dGet dX12_isSub (j := 36) rfl) rfl c4 ?_
        refine r_iconst (dGet dX12_isSub (j := 37) rfl) kI_1 ?_
        refine r_goto (dGet dX12_isSub (j := 38) rfl) rfl ?_
        have hq := Option.some.inj hf
        subst hq
        exact r_iret (dGet dX12_isSub (j := 40) rfl) rfl (by decide)
def fX12_isSub (N : Nat) (v0 : Nat) (v1 : Int32) (v2 : Int32) (h : pH) : Option (Int32 × pH) := if isO h v0 12 = true then (
  if v1 = (4 : Int32) then (
  if (10 : Int32) ≤ v2 then (
  some ((1 : Int32), h)) else (
  if v2 = (2 : Int32) then (
  some ((1 : Int32), h)) else (
  if v2 = (4 : Int32) then (
  some ((1 : Int32), h)) else (
  some ((0 : Int32), h))))) else (
  if v1 = v2 then (
  if v1 = (5 : Int32) then (
  fX12_isSub_37 N v0 v1 v2 h) else (
  some ((1 : Int32), h))) else (
  fX12_isSub_37 N v0 v1 v2 h))) else none
theorem oX12_isSub {N : Nat} {v0 : Nat} {v1 : Int32} {v2 : Int32} {h : pH} {q : Int32 × pH} (hf : fX12_isSub N v0 v1 v2 h = some q) : isO h v0 12 = true := by
  unfold fX12_isSub at hf
  by_cases hc : isO h v0 12 = true
  · exact hc
  · rw [if_neg hc] at hf; cases hf
theorem cX12_isSub (X : pX) (N d : Nat) (v0 : Nat) (v1 : Int32) (v2 : Int32) (h : pH) (q : Int32 × pH) (hf : fX12_isSub N v0 v1 v2 h = some q) : Calls X (d + 1) 291 [.ref v0, .int v1, .int v2] h (some (.int q.1), q.2, 0, 0) := by
  refine Calls.of M291 (Nat.le_of_ble_eq_true rfl) ?_
  show Run X (d + 1) 12 false (pCd 9109) 3 (some .boolean) 0 [(0, .ref v0), (1, .int v1), (2, .int v2)] [] h 0 0 (some (.int q.1), q.2, 0, 0)
  unfold fX12_isSub at hf
  by_cases hc : isO h v0 12 = true
  · rw [if_pos hc] at hf
    have nv0 : ¬ v0 = 4 := isO_ne hc
    refine r_iload_n (dGet dX12_isSub (j := 0) rfl) rfl ?_
    refine r_iconst (dGet dX12_isSub (j := 1) rfl) kI_4 ?_
    by_cases c5 : v1 = (4 : Int32)
    · rw [if_pos c5] at hf
      refine r_icmp_ne_f (dGet dX12_isSub (j := 2) rfl) rfl c5 ?_
      refine r_iload_n (dGet dX12_isSub (j := 3) rfl) rfl ?_
      refine r_bipush (dGet dX12_isSub (j := 4) rfl) kB_10 ?_
      by_cases c8 : (10 : Int32) ≤ v2
      · rw [if_pos c8] at hf
        refine r_icmp_ge_t (dGet dX12_isSub (j := 5) rfl) rfl c8 ?_
        refine r_iconst (dGet dX12_isSub (j := 12) rfl) kI_1 ?_
        refine r_goto (dGet dX12_isSub (j := 13) rfl) rfl ?_
        have hq := Option.some.inj hf
        subst hq
        exact r_iret (dGet dX12_isSub (j := 15) rfl) rfl (by decide)
      · rw [if_neg c8] at hf
        refine r_icmp_ge_f (dGet dX12_isSub (j := 5) rfl) rfl c8 ?_
        refine r_iload_n (dGet dX12_isSub (j := 6) rfl) rfl ?_
        refine r_iconst (dGet dX12_isSub (j := 7) rfl) kI_2 ?_
        by_cases c9 : v2 = (2 : Int32)
        · rw [if_pos c9] at hf
          refine r_icmp_eq_t (dGet dX12_isSub (j := 8) rfl) rfl c9 ?_
          refine r_iconst (dGet dX12_isSub (j := 12) rfl) kI_1 ?_
          refine r_goto (dGet dX12_isSub (j := 13) rfl) rfl ?_
          have hq := Option.some.inj hf
          subst hq
          exact r_iret (dGet dX12_isSub (j := 15) rfl) rfl (by decide)
        · rw [if_neg c9] at hf
          refine r_icmp_eq_f (dGet dX12_isSub (j := 8) rfl) rfl c9 ?_
          refine r_iload_n (dGet dX12_isSub (j := 9) rfl) rfl ?_
          refine r_iconst (dGet dX12_isSub (j := 10) rfl) kI_4 ?_
          by_cases c10 : v2 = (4 : Int32)
          · rw [if_pos c10] at hf
            refine r_icmp_ne_f (dGet dX12_isSub (j := 11) rfl) rfl c10 ?_
            refine r_iconst (dGet dX12_isSub (j := 12) rfl) kI_1 ?_
            refine r_goto (dGet dX12_isSub (j := 13) rfl) rfl ?_
            have hq := Option.some.inj hf
            subst hq
            exact r_iret (dGet dX12_isSub (j := 15) rfl) rfl (by decide)
          · rw [if_neg c10] at hf
            refine r_icmp_ne_t (dGet dX12_isSub (j := 11) rfl) rfl c10 ?_
            refine r_iconst (dGet dX12_isSub (j := 14) rfl) kI_0 ?_
            have hq := Option.some.inj hf
            subst hq
            exact r_iret (dGet dX12_isSub (j := 15) rfl) rfl (by decide)
    · rw [if_neg c5] at hf
      refine r_icmp_ne_t (dGet dX12_isSub (j := 2) rfl) rfl c5 ?_
      refine r_iload_n (dGet dX12_isSub (j := 16) rfl) rfl ?_
      refine r_iload_n (dGet dX12_isSub (j := 17) rfl) rfl ?_
      by_cases c6 : v1 = v2
      · rw [if_pos c6] at hf
        refine r_icmp_ne_f (dGet dX12_isSub (j := 18) rfl) rfl c6 ?_
        refine r_iload_n (dGet dX12_isSub (j := 19) rfl) rfl ?_
        refine r_iconst (dGet dX12_isSub (j := 20) rfl) kI_5 ?_
        by_cases c7 : v1 = (5 : Int32)
        · rw [if_pos c7] at hf
          refine r_icmp_ne_f (dGet dX12_isSub (j := 21) rfl) rfl c7 ?_
          exact lX12_isSub_37 X N d v0 v1 v2 h q hf nv0
        · rw [if_neg c7] at hf
          refine r_icmp_ne_t (dGet dX12_isSub (j := 21) rfl) rfl c7 ?_
          refine r_iconst (dGet dX12_isSub (j := 37) rfl) kI_1 ?_
          refine r_goto (dGet dX12_isSub (j := 38) rfl) rfl ?_
          have hq := Option.some.inj hf
          subst hq
          exact r_iret (dGet dX12_isSub (j := 40) rfl) rfl (by decide)
      · rw [if_neg c6] at hf
        refine r_icmp_ne_t (dGet dX12_isSub (j := 18) rfl) rfl c6 ?_
        exact lX12_isSub_37 X N d v0 v1 v2 h q hf nv0
  · rw [if_neg hc] at hf; cases hf
def eX12_memberOf : List (Nat × Instr × Nat) := [(0, .iload_n 1, 1), (1, .istore 4, 2), (3, .iload 4, 2), (5, .ifCond .lt 69, 3), (8, .aload_n 0, 1), (9, .getfield 94, 3), (12, .iload 4, 2), (14, .iaload, 1), (15, .istore 5, 2), (17, .iload 5, 2), (19, .aload_n 0, 1), (20, .getfield 94, 3), (23, .iload 4, 2), (25, .iconst 1, 1), (26, .iadd, 1), (27, .iaload, 1), (28, .if_icmp .ge 34, 3), (31, .aload_n 0, 1), (32, .getfield 97, 3), (35, .iload 5, 2), (37, .iaload, 1), (38, .iload_n 2, 1), (39, .if_icmp .ne 17, 3), (42, .aload_n 0, 1), (43, .getfield 106, 3), (46, .iload 5, 2), (48, .baload, 1), (49, .iload_n 3, 1), (50, .if_icmp .ne 6, 3), (53, .iload 5, 2), (55, .ireturn, 1), (56, .iinc 5 1, 3), (59, .goto (-42), 3), (62, .aload_n 0, 1), (63, .getfield 88, 3), (66, .iload 4, 2), (68, .iaload, 1), (69, .istore 4, 2), (71, .goto (-68), 3), (74, .iconst (-1), 1), (75, .ireturn, 1)]
theorem dX12_memberOf : dChk (pCd 9053) eX12_memberOf = true := by decide +kernel
def fX12_memberOf_56 (N : Nat) (k3 : Nat → Int32 → Int32 → Int32 → pH → Option (Int32 × pH)) (k17 : Nat → Int32 → Int32 → Int32 → Int32 → pH → Option (Int32 × pH)) (v0 : Nat) (v2 : Int32) (v3 : Int32) (v4 : Int32) (v5 : Int32) (h : pH) : Option (Int32 × pH) :=
  k17 v0 v2 v3 v4 (v5 + (1 : Int32)) h
theorem lX12_memberOf_56 (X : pX) (N d : Nat)  (k3 : Nat → Int32 → Int32 → Int32 → pH → Option (Int32 × pH)) (K3 : ∀ (w0 : Nat) (w2 : Int32) (w3 : Int32) (w4 : Int32) (h : pH) (q : Int32 × pH), k3 w0 w2 w3 w4 h = some q → ¬ w0 = 4 → Run X (d + 0) 12 false (pCd 9053) 6 (some .int) 3 [(0, .ref w0), (2, .int w2), (3, .int w3), (4, .int w4)] [] h 0 0 (some (.int q.1), q.2, 0, 0)) (k17 : Nat → Int32 → Int32 → Int32 → Int32 → pH → Option (Int32 × pH)) (K17 : ∀ (w0 : Nat) (w2 : Int32) (w3 : Int32) (w4 : Int32) (w5 : Int32) (h : pH) (q : Int32 × pH), k17 w0 w2 w3 w4 w5 h = some q → ¬ w0 = 4 → Run X (d + 0) 12 false (pCd 9053) 6 (some .int) 17 [(0, .ref w0), (2, .int w2), (3, .int w3), (4, .int w4), (5, .int w5)] [] h 0 0 (some (.int q.1), q.2, 0, 0)) (v0 : Nat) (v2 : Int32) (v3 : Int32) (v4 : Int32) (v5 : Int32) (h : pH) (q : Int32 × pH) (hf : fX12_memberOf_56 N k3 k17 v0 v2 v3 v4 v5 h = some q) (nv0 : ¬ v0 = 4) : Run X (d + 0) 12 false (pCd 9053) 6 (some .int) 56 [(0, .ref v0), (2, .int v2), (3, .int v3), (4, .int v4), (5, .int v5)] [] h 0 0 (some (.int q.1), q.2, 0, 0) := by
  unfold fX12_memberOf_56 at hf
  refine r_iinc (lv' := [(5, .int (v5 + (1 : Int32))), (0, .ref v0), (2, .int v2), (3, .int v3), (4, .int v4)]) (dGet dX12_memberOf (j := 31) rfl) rfl (by decide) kI_1 rfl ?_
  refine r_goto (dGet dX12_memberOf (j := 32) rfl) rfl ?_
  refine Run.weak [(0, .ref v0), (2, .int v2), (3, .int v3), (4, .int v4), (5, .int (v5 + (1 : Int32)))] (by simp) (by simp [pNd]) ?_
  exact K17 v0 v2 v3 v4 (v5 + (1 : Int32)) h q hf nv0
def fX12_memberOf_17 (N : Nat) (k3 : Nat → Int32 → Int32 → Int32 → pH → Option (Int32 × pH)) : Nat → Nat → Int32 → Int32 → Int32 → Int32 → pH → Option (Int32 × pH)
  | 0, _, _, _, _, _, _ => none
  | n + 1, v0, v2, v3, v4, v5, h => (getR h v0 12 43).bind fun t1 =>
  (ldI h t1 (v4 + (1 : Int32))).bind fun t2 =>
  if t2 ≤ v5 then (
  (getR h v0 12 41).bind fun t4 =>
  (ldI h t4 v4).bind fun t5 =>
  k3 v0 v2 v3 t5 h) else (
  (getR h v0 12 45).bind fun t6 =>
  (ldI h t6 v5).bind fun t7 =>
  if t7 = v2 then (
  (getR h v0 12 48).bind fun t9 =>
  (ldZ h t9 v5).bind fun t10 =>
  if t10 = v3 then (
  some (v5, h)) else (
  fX12_memberOf_56 N k3 (fX12_memberOf_17 N k3 n) v0 v2 v3 v4 v5 h)) else (
  fX12_memberOf_56 N k3 (fX12_memberOf_17 N k3 n) v0 v2 v3 v4 v5 h))
theorem lX12_memberOf_17 (X : pX) (N d : Nat)  (k3 : Nat → Int32 → Int32 → Int32 → pH → Option (Int32 × pH)) (K3 : ∀ (w0 : Nat) (w2 : Int32) (w3 : Int32) (w4 : Int32) (h : pH) (q : Int32 × pH), k3 w0 w2 w3 w4 h = some q → ¬ w0 = 4 → Run X (d + 0) 12 false (pCd 9053) 6 (some .int) 3 [(0, .ref w0), (2, .int w2), (3, .int w3), (4, .int w4)] [] h 0 0 (some (.int q.1), q.2, 0, 0)) : ∀ (n : Nat) (v0 : Nat) (v2 : Int32) (v3 : Int32) (v4 : Int32) (v5 : Int32) (h : pH) (q : Int32 × pH), fX12_memberOf_17 N k3 n v0 v2 v3 v4 v5 h = some q → ¬ v0 = 4 → Run X (d + 0) 12 false (pCd 9053) 6 (some .int) 17 [(0, .ref v0), (2, .int v2), (3, .int v3), (4, .int v4), (5, .int v5)] [] h 0 0 (some (.int q.1), q.2, 0, 0) := by
  intro n
  induction n with
  | zero => intro v0 v2 v3 v4 v5 h q hf; cases hf
  | succ n ih =>
    intro v0 v2 v3 v4 v5 h q hf nv0
    unfold fX12_memberOf_17 at hf
    refine r_iload (dGet dX12_memberOf (j := 9) rfl) rfl ?_
    refine r_aload_n (dGet dX12_memberOf (j := 10) rfl) nv0 rfl ?_
    obtain ⟨t1, et1, hf⟩ := Option.bind_eq_some_iff.mp hf
    refine r_getR (dGet dX12_memberOf (j := 11) rfl) F12_94 et1 ?_
    refine r_iload (dGet dX12_memberOf (j := 12) rfl) rfl ?_
    refine r_iconst (dGet dX12_memberOf (j := 13) rfl) kI_1 ?_
    refine r_iadd (dGet dX12_memberOf (j := 14) rfl) ?_
    obtain ⟨t2, et2, hf⟩ := Option.bind_eq_some_iff.mp hf
    refine r_iald (dGet dX12_memberOf (j := 15) rfl) et2 ?_
    by_cases c3 : t2 ≤ v5
    · rw [if_pos c3] at hf
      refine r_icmp_ge_t (dGet dX12_memberOf (j := 16) rfl) rfl c3 ?_
      refine r_aload_n (dGet dX12_memberOf (j := 33) rfl) nv0 rfl ?_
      obtain ⟨t4, et4, hf⟩ := Option.bind_eq_some_iff.mp hf
      refine r_getR (dGet dX12_memberOf (j := 34) rfl) F12_88 et4 ?_
      refine r_iload (dGet dX12_memberOf (j := 35) rfl) rfl ?_
      obtain ⟨t5, et5, hf⟩ := Option.bind_eq_some_iff.mp hf
      refine r_iald (dGet dX12_memberOf (j := 36) rfl) et5 ?_
      refine r_istore (lv' := [(4, .int t5), (0, .ref v0), (2, .int v2), (3, .int v3), (5, .int v5)]) (dGet dX12_memberOf (j := 37) rfl) (by decide) rfl ?_
      refine r_goto (dGet dX12_memberOf (j := 38) rfl) rfl ?_
      refine Run.weak [(0, .ref v0), (2, .int v2), (3, .int v3), (4, .int t5)] (by simp) (by simp [pNd]) ?_
      exact K3 v0 v2 v3 t5 h q hf nv0
    · rw [if_neg c3] at hf
      refine r_icmp_ge_f (dGet dX12_memberOf (j := 16) rfl) rfl c3 ?_
      refine r_aload_n (dGet dX12_memberOf (j := 17) rfl) nv0 rfl ?_
      obtain ⟨t6, et6, hf⟩ := Option.bind_eq_some_iff.mp hf
      refine r_getR (dGet dX12_memberOf (j := 18) rfl) F12_97 et6 ?_
      refine r_iload (dGet dX12_memberOf (j := 19) rfl) rfl ?_
      obtain ⟨t7, et7, hf⟩ := Option.bind_eq_some_iff.mp hf
      refine r_iald (dGet dX12_memberOf (j := 20) rfl) et7 ?_
      refine r_iload_n (dGet dX12_memberOf (j := 21) rfl) rfl ?_
      by_cases c8 : t7 = v2
      · rw [if_pos c8] at hf
        refine r_icmp_ne_f (dGet dX12_memberOf (j := 22) rfl) rfl c8 ?_
        refine r_aload_n (dGet dX12_memberOf (j := 23) rfl) nv0 rfl ?_
        obtain ⟨t9, et9, hf⟩ := Option.bind_eq_some_iff.mp hf
        refine r_getR (dGet dX12_memberOf (j := 24) rfl) F12_106 et9 ?_
        refine r_iload (dGet dX12_memberOf (j := 25) rfl) rfl ?_
        obtain ⟨t10, et10, hf⟩ := Option.bind_eq_some_iff.mp hf
        refine r_zald (dGet dX12_memberOf (j := 26) rfl) et10 ?_
        refine r_iload_n (dGet dX12_memberOf (j := 27) rfl) rfl ?_
        by_cases c11 : t10 = v3
        · rw [if_pos c11] at hf
          refine r_icmp_ne_f (dGet dX12_memberOf (j := 28) rfl) rfl c11 ?_
          refine r_iload (dGet dX12_memberOf (j := 29) rfl) rfl ?_
          have hq := Option.some.inj hf
          subst hq
          exact r_iret (dGet dX12_memberOf (j := 30) rfl) rfl rfl
        · rw [if_neg c11] at hf
          refine r_icmp_ne_t (dGet dX12_memberOf (j := 28) rfl) rfl c11 ?_
          exact lX12_memberOf_56 X N d k3 K3 (fX12_memberOf_17 N k3 n) ih v0 v2 v3 v4 v5 h q hf nv0
      · rw [if_neg c8] at hf
        refine r_icmp_ne_t (dGet dX12_memberOf (j := 22) rfl) rfl c8 ?_
        exact lX12_memberOf_56 X N d k3 K3 (fX12_memberOf_17 N k3 n) ih v0 v2 v3 v4 v5 h q hf nv0
def fX12_memberOf_3 (N : Nat) : Nat → Nat → Int32 → Int32 → Int32 → pH → Option (Int32 × pH)
  | 0, _, _, _, _, _ => none
  | n + 1, v0, v2, v3, v4, h => if v4 < 0 then (
  some ((-1 : Int32), h)) else (
  (getR h v0 12 43).bind fun t13 =>
  (ldI h t13 v4).bind fun t14 =>
  fX12_memberOf_17 N (fX12_memberOf_3 N n) N v0 v2 v3 v4 t14 h)
theorem lX12_memberOf_3 (X : pX) (N d : Nat)  : ∀ (n : Nat) (v0 : Nat) (v2 : Int32) (v3 : Int32) (v4 : Int32) (h : pH) (q : Int32 × pH), fX12_memberOf_3 N n v0 v2 v3 v4 h = some q → ¬ v0 = 4 → Run X (d + 0) 12 false (pCd 9053) 6 (some .int) 3 [(0, .ref v0), (2, .int v2), (3, .int v3), (4, .int v4)] [] h 0 0 (some (.int q.1), q.2, 0, 0) := by
  intro n
  induction n with
  | zero => intro v0 v2 v3 v4 h q hf; cases hf
  | succ n ih =>
    intro v0 v2 v3 v4 h q hf nv0
    unfold fX12_memberOf_3 at hf
    refine r_iload (dGet dX12_memberOf (j := 2) rfl) rfl ?_
    by_cases c12 : v4 < 0
    · rw [if_pos c12] at hf
      refine r_if_lt_t (dGet dX12_memberOf (j := 3) rfl) rfl c12 ?_
      refine r_iconst (dGet dX12_memberOf (j := 39) rfl) kI_m1 ?_
      have hq := Option.some.inj hf
      subst hq
      exact r_iret (dGet dX12_memberOf (j := 40) rfl) rfl rfl
    · rw [if_neg c12] at hf
      refine r_if_lt_f (dGet dX12_memberOf (j := 3) rfl) rfl c12 ?_
      refine r_aload_n (dGet dX12_memberOf (j := 4) rfl) nv0 rfl ?_
      obtain ⟨t13, et13, hf⟩ := Option.bind_eq_some_iff.mp hf
      refine r_getR (dGet dX12_memberOf (j := 5) rfl) F12_94 et13 ?_
      refine r_iload (dGet dX12_memberOf (j := 6) rfl) rfl ?_
      obtain ⟨t14, et14, hf⟩ := Option.bind_eq_some_iff.mp hf
      refine r_iald (dGet dX12_memberOf (j := 7) rfl) et14 ?_
      refine r_istore (lv' := [(5, .int t14), (0, .ref v0), (2, .int v2), (3, .int v3), (4, .int v4)]) (dGet dX12_memberOf (j := 8) rfl) (by decide) rfl ?_
      refine Run.weak [(0, .ref v0), (2, .int v2), (3, .int v3), (4, .int v4), (5, .int t14)] (by simp) (by simp [pNd]) ?_
      exact lX12_memberOf_17 X N d (fX12_memberOf_3 N n) ih N v0 v2 v3 v4 t14 h q hf nv0
def fX12_memberOf (N : Nat) (v0 : Nat) (v1 : Int32) (v2 : Int32) (v3 : Int32) (h : pH) : Option (Int32 × pH) := if isO h v0 12 = true then (
  fX12_memberOf_3 N N v0 v2 v3 v1 h) else none
theorem oX12_memberOf {N : Nat} {v0 : Nat} {v1 : Int32} {v2 : Int32} {v3 : Int32} {h : pH} {q : Int32 × pH} (hf : fX12_memberOf N v0 v1 v2 v3 h = some q) : isO h v0 12 = true := by
  unfold fX12_memberOf at hf
  by_cases hc : isO h v0 12 = true
  · exact hc
  · rw [if_neg hc] at hf; cases hf
theorem cX12_memberOf (X : pX) (N d : Nat) (v0 : Nat) (v1 : Int32) (v2 : Int32) (v3 : Int32) (h : pH) (q : Int32 × pH) (hf : fX12_memberOf N v0 v1 v2 v3 h = some q) : Calls X (d + 0) 277 [.ref v0, .int v1, .int v2, .int v3] h (some (.int q.1), q.2, 0, 0) := by
  refine Calls.of M277 (Nat.le_of_ble_eq_true rfl) ?_
  show Run X (d + 0) 12 false (pCd 9053) 6 (some .int) 0 [(0, .ref v0), (1, .int v1), (2, .int v2), (3, .int v3)] [] h 0 0 (some (.int q.1), q.2, 0, 0)
  unfold fX12_memberOf at hf
  by_cases hc : isO h v0 12 = true
  · rw [if_pos hc] at hf
    have nv0 : ¬ v0 = 4 := isO_ne hc
    refine r_iload_n (dGet dX12_memberOf (j := 0) rfl) rfl ?_
    refine r_istore (lv' := [(4, .int v1), (0, .ref v0), (1, .int v1), (2, .int v2), (3, .int v3)]) (dGet dX12_memberOf (j := 1) rfl) (by decide) rfl ?_
    refine Run.weak [(0, .ref v0), (2, .int v2), (3, .int v3), (4, .int v1)] (by simp) (by simp [pNd]) ?_
    exact lX12_memberOf_3 X N d N v0 v2 v3 v1 h q hf nv0
  · rw [if_neg hc] at hf; cases hf
def eX12_call : List (Nat × Instr × Nat) := [(0, .aload_n 0, 1), (1, .getfield 25, 3), (4, .iload_n 1, 1), (5, .iaload, 1), (6, .bipush 9, 2), (8, .if_icmp .ne 13, 3), (11, .bipush 10, 2), (13, .aload_n 0, 1), (14, .getfield 470, 3), (17, .iadd, 1), (18, .goto 9, 3), (21, .aload_n 0, 1), (22, .getfield 37, 3), (25, .iload_n 2, 1), (26, .iaload, 1), (27, .istore_n 3, 1), (28, .iload_n 3, 1), (29, .bipush 10, 2), (31, .if_icmp .ge 7, 3), (34, .iconst (-1), 1), (35, .goto 18, 3), (38, .aload_n 0, 1), (39, .iload_n 3, 1), (40, .bipush 10, 2), (42, .isub, 1), (43, .aload_n 0, 1), (44, .getfield 34, 3), (47, .iload_n 1, 1), (48, .iaload, 1), (49, .iconst 1, 1), (50, .invokevirtual 422, 3), (53, .istore 4, 2), (55, .aload_n 0, 1), (56, .getfield 37, 3), (59, .iload_n 1, 1), (60, .iaload, 1), (61, .istore 5, 2), (63, .aload_n 0, 1), (64, .getfield 141, 3), (67, .iload_n 1, 1), (68, .iload 5, 2), (70, .iastore, 1), (71, .iload 4, 2), (73, .ifCond .lt 25, 3), (76, .aload_n 0, 1), (77, .getfield 110, 3), (80, .iload 4, 2), (82, .iconst 1, 1), (83, .iadd, 1), (84, .iaload, 1), (85, .aload_n 0, 1), (86, .getfield 110, 3), (89, .iload 4, 2), (91, .iaload, 1), (92, .isub, 1), (93, .iload 5, 2), (95, .if_icmp .eq 5, 3), (98, .iconst 5, 1), (99, .ireturn, 1), (100, .iconst 1, 1), (101, .istore 6, 2), (103, .iconst 0, 1), (104, .istore 7, 2), (106, .iload 7, 2), (108, .iload 5, 2), (110, .if_icmp .ge 62, 3), (113, .iload 6, 2), (115, .ifCond .eq 48, 3), (118, .aload_n 0, 1), (119, .aload_n 0, 1), (120, .getfield 37, 3), (123, .aload_n 0, 1), (124, .getfield 40, 3), (127, .aload_n 0, 1), (128, .getfield 31, 3), (131, .iload_n 1, 1), (132, .iaload, 1), (133, .iload 7, 2), (135, .iadd, 1), (136, .iaload, 1), (137, .iaload, 1), (138, .aload_n 0, 1), (139, .getfield 122, 3), (142, .aload_n 0, 1), (143, .getfield 110, 3), (146, .iload 4, 2), (148, .iaload, 1), (149, .iload 7, 2), (151, .iadd, 1), (152, .iaload, 1), (153, .invokevirtual 499, 3), (156, .ifCond .eq 7, 3), (159, .iconst 1, 1), (160, .goto 4, 3), (163, .iconst 0, 1), (164, .istore 6, 2), (166, .iinc 7 1, 3), (169, .goto (-63), 3), (172, .iload 6, 2), (174, .ifCond .eq 13, 3), (177, .aload_n 0, 1), (178, .getfield 103, 3), (181, .iload 4, 2), (183, .iaload, 1), (184, .goto 4, 3), (187, .iconst 5, 1), (188, .ireturn, 1)]
theorem dX12_call : dChk (pCd 9105) eX12_call = true := by decide +kernel
def fX12_call_164 (N : Nat) (k106 : Nat → Int32 → Int32 → Int32 → Int32 → Int32 → pH → Option (Int32 × pH)) (v0 : Nat) (v1 : Int32) (v4 : Int32) (v5 : Int32) (v7 : Int32) (s0 : Int32) (h : pH) : Option (Int32 × pH) :=
  k106 v0 v1 v4 v5 s0 (v7 + (1 : Int32)) h
theorem lX12_call_164 (X : pX) (N d : Nat)  (k106 : Nat → Int32 → Int32 → Int32 → Int32 → Int32 → pH → Option (Int32 × pH)) (K106 : ∀ (w0 : Nat) (w1 : Int32) (w4 : Int32) (w5 : Int32) (w6 : Int32) (w7 : Int32) (h : pH) (q : Int32 × pH), k106 w0 w1 w4 w5 w6 w7 h = some q → ¬ w0 = 4 → Run X (d + 2) 12 false (pCd 9105) 8 (some .int) 106 [(0, .ref w0), (1, .int w1), (4, .int w4), (5, .int w5), (6, .int w6), (7, .int w7)] [] h 0 0 (some (.int q.1), q.2, 0, 0)) (v0 : Nat) (v1 : Int32) (v4 : Int32) (v5 : Int32) (v7 : Int32) (s0 : Int32) (h : pH) (q : Int32 × pH) (hf : fX12_call_164 N k106 v0 v1 v4 v5 v7 s0 h = some q) (nv0 : ¬ v0 = 4) : Run X (d + 2) 12 false (pCd 9105) 8 (some .int) 164 [(0, .ref v0), (1, .int v1), (4, .int v4), (5, .int v5), (7, .int v7)] [.int s0] h 0 0 (some (.int q.1), q.2, 0, 0) := by
  unfold fX12_call_164 at hf
  refine r_istore (lv' := [(6, .int s0), (0, .ref v0), (1, .int v1), (4, .int v4), (5, .int v5), (7, .int v7)]) (dGet dX12_call (j := 95) rfl) (by decide) rfl ?_
  refine r_iinc (lv' := [(7, .int (v7 + (1 : Int32))), (6, .int s0), (0, .ref v0), (1, .int v1), (4, .int v4), (5, .int v5)]) (dGet dX12_call (j := 96) rfl) rfl (by decide) kI_1 rfl ?_
  refine r_goto (dGet dX12_call (j := 97) rfl) rfl ?_
  refine Run.weak [(0, .ref v0), (1, .int v1), (4, .int v4), (5, .int v5), (6, .int s0), (7, .int (v7 + (1 : Int32)))] (by simp) (by simp [pNd]) ?_
  exact K106 v0 v1 v4 v5 s0 (v7 + (1 : Int32)) h q hf nv0
def fX12_call_163 (N : Nat) (k106 : Nat → Int32 → Int32 → Int32 → Int32 → Int32 → pH → Option (Int32 × pH)) (v0 : Nat) (v1 : Int32) (v4 : Int32) (v5 : Int32) (v7 : Int32) (h : pH) : Option (Int32 × pH) :=
  fX12_call_164 N k106 v0 v1 v4 v5 v7 (0 : Int32) h
theorem lX12_call_163 (X : pX) (N d : Nat)  (k106 : Nat → Int32 → Int32 → Int32 → Int32 → Int32 → pH → Option (Int32 × pH)) (K106 : ∀ (w0 : Nat) (w1 : Int32) (w4 : Int32) (w5 : Int32) (w6 : Int32) (w7 : Int32) (h : pH) (q : Int32 × pH), k106 w0 w1 w4 w5 w6 w7 h = some q → ¬ w0 = 4 → Run X (d + 2) 12 false (pCd 9105) 8 (some .int) 106 [(0, .ref w0), (1, .int w1), (4, .int w4), (5, .int w5), (6, .int w6), (7, .int w7)] [] h 0 0 (some (.int q.1), q.2, 0, 0)) (v0 : Nat) (v1 : Int32) (v4 : Int32) (v5 : Int32) (v7 : Int32) (h : pH) (q : Int32 × pH) (hf : fX12_call_163 N k106 v0 v1 v4 v5 v7 h = some q) (nv0 : ¬ v0 = 4) : Run X (d + 2) 12 false (pCd 9105) 8 (some .int) 163 [(0, .ref v0), (1, .int v1), (4, .int v4), (5, .int v5), (7, .int v7)] [] h 0 0 (some (.int q.1), q.2, 0, 0) := by
  unfold fX12_call_163 at hf
  refine r_iconst (dGet dX12_call (j := 94) rfl) kI_0 ?_
  exact lX12_call_164 X N d k106 K106 v0 v1 v4 v5 v7 (0 : Int32) h q hf nv0
def fX12_call_106 (N : Nat) : Nat → Nat → Int32 → Int32 → Int32 → Int32 → Int32 → pH → Option (Int32 × pH)
  | 0, _, _, _, _, _, _, _ => none
  | n + 1, v0, v1, v4, v5, v6, v7, h => if v5 ≤ v7 then (
  if v6 = 0 then (
  some ((5 : Int32), h)) else (
  (getR h v0 12 47).bind fun t3 =>
  (ldI h t3 v4).bind fun t4 =>
  some (t4, h))) else (
  if v6 = 0 then (
  fX12_call_163 N (fX12_call_106 N n) v0 v1 v4 v5 v7 h) else (
  (getR h v0 12 20).bind fun t6 =>
  (getR h v0 12 22).bind fun t7 =>
  (getR h v0 12 18).bind fun t8 =>
  (ldI h t8 v1).bind fun t9 =>
  (ldI h t7 (t9 + v7)).bind fun t10 =>
  (ldI h t6 t10).bind fun t11 =>
  (getR h v0 12 54).bind fun t12 =>
  (getR h v0 12 49).bind fun t13 =>
  (ldI h t13 v4).bind fun t14 =>
  (ldI h t12 (t14 + v7)).bind fun t15 =>
  (fX12_isSub N v0 t11 t15 h).bind fun q16 =>
  if q16.1 = 0 then (
  fX12_call_163 N (fX12_call_106 N n) v0 v1 v4 v5 v7 q16.2) else (
  fX12_call_164 N (fX12_call_106 N n) v0 v1 v4 v5 v7 (1 : Int32) q16.2)))
theorem lX12_call_106 (X : pX) (N d : Nat)  : ∀ (n : Nat) (v0 : Nat) (v1 : Int32) (v4 : Int32) (v5 : Int32) (v6 : Int32) (v7 : Int32) (h : pH) (q : Int32 × pH), fX12_call_106 N n v0 v1 v4 v5 v6 v7 h = some q → ¬ v0 = 4 → Run X (d + 2) 12 false (pCd 9105) 8 (some .int) 106 [(0, .ref v0), (1, .int v1), (4, .int v4), (5, .int v5), (6, .int v6), (7, .int v7)] [] h 0 0 (some (.int q.1), q.2, 0, 0) := by
  intro n
  induction n with
  | zero => intro v0 v1 v4 v5 v6 v7 h q hf; cases hf
  | succ n ih =>
    intro v0 v1 v4 v5 v6 v7 h q hf nv0
    unfold fX12_call_106 at hf
    refine r_iload (dGet dX12_call (j := 63) rfl) rfl ?_
    refine r_iload (dGet dX12_call (j := 64) rfl) rfl ?_
    by_cases c1 : v5 ≤ v7
    · rw [if_pos c1] at hf
      refine r_icmp_ge_t (dGet dX12_call (j := 65) rfl) rfl c1 ?_
      refine r_iload (dGet dX12_call (j := 98) rfl) rfl ?_
      by_cases c2 : v6 = 0
      · rw [if_pos c2] at hf
        refine r_if_eq_t (dGet dX12_call (j := 99) rfl) rfl c2 ?_
        refine r_iconst (dGet dX12_call (j := 105) rfl) kI_5 ?_
        have hq := Option.some.inj hf
        subst hq
        exact r_iret (dGet dX12_call (j := 106) rfl) rfl rfl
      · rw [if_neg c2] at hf
        refine r_if_eq_f (dGet dX12_call (j := 99) rfl) rfl c2 ?_
        refine r_aload_n (dGet dX12_call (j := 100) rfl) nv0 rfl ?_
        obtain ⟨t3, et3, hf⟩ := Option.bind_eq_some_iff.mp hf
        refine r_getR (dGet dX12_call (j := 101) rfl) F12_103 et3 ?_
        refine r_iload (dGet dX12_call (j := 102) rfl) rfl ?_
        obtain ⟨t4, et4, hf⟩ := Option.bind_eq_some_iff.mp hf
        refine r_iald (dGet dX12_call (j := 103) rfl) et4 ?_
        refine r_goto (dGet dX12_call (j := 104) rfl) rfl ?_
        have hq := Option.some.inj hf
        subst hq
        exact r_iret (dGet dX12_call (j := 106) rfl) rfl rfl
    · rw [if_neg c1] at hf
      refine r_icmp_ge_f (dGet dX12_call (j := 65) rfl) rfl c1 ?_
      refine r_iload (dGet dX12_call (j := 66) rfl) rfl ?_
      by_cases c5 : v6 = 0
      · rw [if_pos c5] at hf
        refine r_if_eq_t (dGet dX12_call (j := 67) rfl) rfl c5 ?_
        refine Run.weak [(0, .ref v0), (1, .int v1), (4, .int v4), (5, .int v5), (7, .int v7)] (by simp) (by simp [pNd]) ?_
        exact lX12_call_163 X N d (fX12_call_106 N n) ih v0 v1 v4 v5 v7 h q hf nv0
      · rw [if_neg c5] at hf
        refine r_if_eq_f (dGet dX12_call (j := 67) rfl) rfl c5 ?_
        refine r_aload_n (dGet dX12_call (j := 68) rfl) nv0 rfl ?_
        refine r_aload_n (dGet dX12_call (j := 69) rfl) nv0 rfl ?_
        obtain ⟨t6, et6, hf⟩ := Option.bind_eq_some_iff.mp hf
        refine r_getR (dGet dX12_call (j := 70) rfl) F12_37 et6 ?_
        refine r_aload_n (dGet dX12_call (j := 71) rfl) nv0 rfl ?_
        obtain ⟨t7, et7, hf⟩ := Option.bind_eq_some_iff.mp hf
        refine r_getR (dGet dX12_call (j := 72) rfl) F12_40 et7 ?_
        refine r_aload_n (dGet dX12_call (j := 73) rfl) nv0 rfl ?_
        obtain ⟨t8, et8, hf⟩ := Option.bind_eq_some_iff.mp hf
        refine r_getR (dGet dX12_call (j := 74) rfl) F12_31 et8 ?_
        refine r_iload_n (dGet dX12_call (j := 75) rfl) rfl ?_
        obtain ⟨t9, et9, hf⟩ := Option.bind_eq_some_iff.mp hf
        refine r_iald (dGet dX12_call (j := 76) rfl) et9 ?_
        refine r_iload (dGet dX12_call (j := 77) rfl) rfl ?_
        refine r_iadd (dGet dX12_call (j := 78) rfl) ?_
        obtain ⟨t10, et10, hf⟩ := Option.bind_eq_some_iff.mp hf
        refine r_iald (dGet dX12_call (j := 79) rfl) et10 ?_
        obtain ⟨t11, et11, hf⟩ := Option.bind_eq_some_iff.mp hf
        refine r_iald (dGet dX12_call (j := 80) rfl) et11 ?_
        refine r_aload_n (dGet dX12_call (j := 81) rfl) nv0 rfl ?_
        obtain ⟨t12, et12, hf⟩ := Option.bind_eq_some_iff.mp hf
        refine r_getR (dGet dX12_call (j := 82) rfl) F12_122 et12 ?_
        refine r_aload_n (dGet dX12_call (j := 83) rfl) nv0 rfl ?_
        obtain ⟨t13, et13, hf⟩ := Option.bind_eq_some_iff.mp hf
        refine r_getR (dGet dX12_call (j := 84) rfl) F12_110 et13 ?_
        refine r_iload (dGet dX12_call (j := 85) rfl) rfl ?_
        obtain ⟨t14, et14, hf⟩ := Option.bind_eq_some_iff.mp hf
        refine r_iald (dGet dX12_call (j := 86) rfl) et14 ?_
        refine r_iload (dGet dX12_call (j := 87) rfl) rfl ?_
        refine r_iadd (dGet dX12_call (j := 88) rfl) ?_
        obtain ⟨t15, et15, hf⟩ := Option.bind_eq_some_iff.mp hf
        refine r_iald (dGet dX12_call (j := 89) rfl) et15 ?_
        obtain ⟨q16, eq16, hf⟩ := Option.bind_eq_some_iff.mp hf
        refine r_virtual (dGet dX12_call (j := 90) rfl) L12_499 M291 rfl rfl (Nat.le_of_ble_eq_true rfl) (oX12_isSub eq16) (cX12_isSub X N (d + 0) v0 t11 t15 h q16 eq16) ?_
        by_cases c17 : q16.1 = 0
        · rw [if_pos c17] at hf
          refine r_if_eq_t (dGet dX12_call (j := 91) rfl) rfl c17 ?_
          refine Run.weak [(0, .ref v0), (1, .int v1), (4, .int v4), (5, .int v5), (7, .int v7)] (by simp) (by simp [pNd]) ?_
          exact lX12_call_163 X N d (fX12_call_106 N n) ih v0 v1 v4 v5 v7 q16.2 q hf nv0
        · rw [if_neg c17] at hf
          refine r_if_eq_f (dGet dX12_call (j := 91) rfl) rfl c17 ?_
          refine r_iconst (dGet dX12_call (j := 92) rfl) kI_1 ?_
          refine r_goto (dGet dX12_call (j := 93) rfl) rfl ?_
          refine Run.weak [(0, .ref v0), (1, .int v1), (4, .int v4), (5, .int v5), (7, .int v7)] (by simp) (by simp [pNd]) ?_
          exact lX12_call_164 X N d (fX12_call_106 N n) ih v0 v1 v4 v5 v7 (1 : Int32) q16.2 q hf nv0
def fX12_call_53 (N : Nat) (v0 : Nat) (v1 : Int32) (s0 : Int32) (h : pH) : Option (Int32 × pH) :=
  (getR h v0 12 20).bind fun t18 =>
  (ldI h t18 v1).bind fun t19 =>
  (getR h v0 12 68).bind fun t20 =>
  (stI h t20 v1 t19).bind fun h21 =>
  if s0 < 0 then (
  some ((5 : Int32), h21)) else (
  (getR h21 v0 12 49).bind fun t23 =>
  (ldI h21 t23 (s0 + (1 : Int32))).bind fun t24 =>
  (getR h21 v0 12 49).bind fun t25 =>
  (ldI h21 t25 s0).bind fun t26 =>
  if (t24 - t26) = t19 then (
  fX12_call_106 N N v0 v1 s0 t19 (1 : Int32) (0 : Int32) h21) else (
  some ((5 : Int32), h21)))
theorem lX12_call_53 (X : pX) (N d : Nat)  (v0 : Nat) (v1 : Int32) (s0 : Int32) (h : pH) (q : Int32 × pH) (hf : fX12_call_53 N v0 v1 s0 h = some q) (nv0 : ¬ v0 = 4) : Run X (d + 2) 12 false (pCd 9105) 8 (some .int) 53 [(0, .ref v0), (1, .int v1)] [.int s0] h 0 0 (some (.int q.1), q.2, 0, 0) := by
  unfold fX12_call_53 at hf
  refine r_istore (lv' := [(4, .int s0), (0, .ref v0), (1, .int v1)]) (dGet dX12_call (j := 31) rfl) (by decide) rfl ?_
  refine r_aload_n (dGet dX12_call (j := 32) rfl) nv0 rfl ?_
  obtain ⟨t18, et18, hf⟩ := Option.bind_eq_some_iff.mp hf
  refine r_getR (dGet dX12_call (j := 33) rfl) F12_37 et18 ?_
  refine r_iload_n (dGet dX12_call (j := 34) rfl) rfl ?_
  obtain ⟨t19, et19, hf⟩ := Option.bind_eq_some_iff.mp hf
  refine r_iald (dGet dX12_call (j := 35) rfl) et19 ?_
  refine r_istore (lv' := [(5, .int t19), (4, .int s0), (0, .ref v0), (1, .int v1)]) (dGet dX12_call (j := 36) rfl) (by decide) rfl ?_
  refine r_aload_n (dGet dX12_call (j := 37) rfl) nv0 rfl ?_
  obtain ⟨t20, et20, hf⟩ := Option.bind_eq_some_iff.mp hf
  refine r_getR (dGet dX12_call (j := 38) rfl) F12_141 et20 ?_
  refine r_iload_n (dGet dX12_call (j := 39) rfl) rfl ?_
  refine r_iload (dGet dX12_call (j := 40) rfl) rfl ?_
  obtain ⟨h21, eh21, hf⟩ := Option.bind_eq_some_iff.mp hf
  refine r_iast (dGet dX12_call (j := 41) rfl) eh21 ?_
  refine r_iload (dGet dX12_call (j := 42) rfl) rfl ?_
  by_cases c22 : s0 < 0
  · rw [if_pos c22] at hf
    refine r_if_lt_t (dGet dX12_call (j := 43) rfl) rfl c22 ?_
    refine r_iconst (dGet dX12_call (j := 57) rfl) kI_5 ?_
    have hq := Option.some.inj hf
    subst hq
    exact r_iret (dGet dX12_call (j := 58) rfl) rfl rfl
  · rw [if_neg c22] at hf
    refine r_if_lt_f (dGet dX12_call (j := 43) rfl) rfl c22 ?_
    refine r_aload_n (dGet dX12_call (j := 44) rfl) nv0 rfl ?_
    obtain ⟨t23, et23, hf⟩ := Option.bind_eq_some_iff.mp hf
    refine r_getR (dGet dX12_call (j := 45) rfl) F12_110 et23 ?_
    refine r_iload (dGet dX12_call (j := 46) rfl) rfl ?_
    refine r_iconst (dGet dX12_call (j := 47) rfl) kI_1 ?_
    refine r_iadd (dGet dX12_call (j := 48) rfl) ?_
    obtain ⟨t24, et24, hf⟩ := Option.bind_eq_some_iff.mp hf
    refine r_iald (dGet dX12_call (j := 49) rfl) et24 ?_
    refine r_aload_n (dGet dX12_call (j := 50) rfl) nv0 rfl ?_
    obtain ⟨t25, et25, hf⟩ := Option.bind_eq_some_iff.mp hf
    refine r_getR (dGet dX12_call (j := 51) rfl) F12_110 et25 ?_
    refine r_iload (dGet dX12_call (j := 52) rfl) rfl ?_
    obtain ⟨t26, et26, hf⟩ := Option.bind_eq_some_iff.mp hf
    refine r_iald (dGet dX12_call (j := 53) rfl) et26 ?_
    refine r_isub (dGet dX12_call (j := 54) rfl) ?_
    refine r_iload (dGet dX12_call (j := 55) rfl) rfl ?_
    by_cases c27 : (t24 - t26) = t19
    · rw [if_pos c27] at hf
      refine r_icmp_eq_t (dGet dX12_call (j := 56) rfl) rfl c27 ?_
      refine r_iconst (dGet dX12_call (j := 59) rfl) kI_1 ?_
      refine r_istore (lv' := [(6, .int (1 : Int32)), (5, .int t19), (4, .int s0), (0, .ref v0), (1, .int v1)]) (dGet dX12_call (j := 60) rfl) (by decide) rfl ?_
      refine r_iconst (dGet dX12_call (j := 61) rfl) kI_0 ?_
      refine r_istore (lv' := [(7, .int (0 : Int32)), (6, .int (1 : Int32)), (5, .int t19), (4, .int s0), (0, .ref v0), (1, .int v1)]) (dGet dX12_call (j := 62) rfl) (by decide) rfl ?_
      refine Run.weak [(0, .ref v0), (1, .int v1), (4, .int s0), (5, .int t19), (6, .int (1 : Int32)), (7, .int (0 : Int32))] (by simp) (by simp [pNd]) ?_
      exact lX12_call_106 X N d N v0 v1 s0 t19 (1 : Int32) (0 : Int32) h21 q hf nv0
    · rw [if_neg c27] at hf
      refine r_icmp_eq_f (dGet dX12_call (j := 56) rfl) rfl c27 ?_
      refine r_iconst (dGet dX12_call (j := 57) rfl) kI_5 ?_
      have hq := Option.some.inj hf
      subst hq
      exact r_iret (dGet dX12_call (j := 58) rfl) rfl rfl
def fX12_call_27 (N : Nat) (v0 : Nat) (v1 : Int32) (s0 : Int32) (h : pH) : Option (Int32 × pH) :=
  if (10 : Int32) ≤ s0 then (
  (getR h v0 12 19).bind fun t29 =>
  (ldI h t29 v1).bind fun t30 =>
  (fX12_memberOf N v0 (s0 - (10 : Int32)) t30 (1 : Int32) h).bind fun q31 =>
  fX12_call_53 N v0 v1 q31.1 q31.2) else (
  fX12_call_53 N v0 v1 (-1 : Int32) h)
theorem lX12_call_27 (X : pX) (N d : Nat)  (v0 : Nat) (v1 : Int32) (s0 : Int32) (h : pH) (q : Int32 × pH) (hf : fX12_call_27 N v0 v1 s0 h = some q) (nv0 : ¬ v0 = 4) : Run X (d + 2) 12 false (pCd 9105) 8 (some .int) 27 [(0, .ref v0), (1, .int v1)] [.int s0] h 0 0 (some (.int q.1), q.2, 0, 0) := by
  unfold fX12_call_27 at hf
  refine r_istore_n (lv' := [(3, .int s0), (0, .ref v0), (1, .int v1)]) (dGet dX12_call (j := 15) rfl) (by decide) rfl ?_
  refine r_iload_n (dGet dX12_call (j := 16) rfl) rfl ?_
  refine r_bipush (dGet dX12_call (j := 17) rfl) kB_10 ?_
  by_cases c28 : (10 : Int32) ≤ s0
  · rw [if_pos c28] at hf
    refine r_icmp_ge_t (dGet dX12_call (j := 18) rfl) rfl c28 ?_
    refine r_aload_n (dGet dX12_call (j := 21) rfl) nv0 rfl ?_
    refine r_iload_n (dGet dX12_call (j := 22) rfl) rfl ?_
    refine r_bipush (dGet dX12_call (j := 23) rfl) kB_10 ?_
    refine r_isub (dGet dX12_call (j := 24) rfl) ?_
    refine r_aload_n (dGet dX12_call (j := 25) rfl) nv0 rfl ?_
    obtain ⟨t29, et29, hf⟩ := Option.bind_eq_some_iff.mp hf
    refine r_getR (dGet dX12_call (j := 26) rfl) F12_34 et29 ?_
    refine r_iload_n (dGet dX12_call (j := 27) rfl) rfl ?_
    obtain ⟨t30, et30, hf⟩ := Option.bind_eq_some_iff.mp hf
    refine r_iald (dGet dX12_call (j := 28) rfl) et30 ?_
    refine r_iconst (dGet dX12_call (j := 29) rfl) kI_1 ?_
    obtain ⟨q31, eq31, hf⟩ := Option.bind_eq_some_iff.mp hf
    refine r_virtual (dGet dX12_call (j := 30) rfl) L12_422 M277 rfl rfl (Nat.le_of_ble_eq_true rfl) (oX12_memberOf eq31) (cX12_memberOf X N (d + 1) v0 (s0 - (10 : Int32)) t30 (1 : Int32) h q31 eq31) ?_
    refine Run.weak [(0, .ref v0), (1, .int v1)] (by simp) (by simp [pNd]) ?_
    exact lX12_call_53 X N d v0 v1 q31.1 q31.2 q hf nv0
  · rw [if_neg c28] at hf
    refine r_icmp_ge_f (dGet dX12_call (j := 18) rfl) rfl c28 ?_
    refine r_iconst (dGet dX12_call (j := 19) rfl) kI_m1 ?_
    refine r_goto (dGet dX12_call (j := 20) rfl) rfl ?_
    refine Run.weak [(0, .ref v0), (1, .int v1)] (by simp) (by simp [pNd]) ?_
    exact lX12_call_53 X N d v0 v1 (-1 : Int32) h q hf nv0
def fX12_call (N : Nat) (v0 : Nat) (v1 : Int32) (v2 : Int32) (h : pH) : Option (Int32 × pH) := if isO h v0 12 = true then (
  (getR h v0 12 16).bind fun t32 =>
  (ldI h t32 v1).bind fun t33 =>
  if t33 = (9 : Int32) then (
  (getI h v0 12 60).bind fun t37 =>
  fX12_call_27 N v0 v1 ((10 : Int32) + t37) h) else (
  (getR h v0 12 20).bind fun t35 =>
  (ldI h t35 v2).bind fun t36 =>
  fX12_call_27 N v0 v1 t36 h)) else none
theorem oX12_call {N : Nat} {v0 : Nat} {v1 : Int32} {v2 : Int32} {h : pH} {q : Int32 × pH} (hf : fX12_call N v0 v1 v2 h = some q) : isO h v0 12 = true := by
  unfold fX12_call at hf
  by_cases hc : isO h v0 12 = true
  · exact hc
  · rw [if_neg hc] at hf; cases hf
theorem cX12_call (X : pX) (N d : Nat) (v0 : Nat) (v1 : Int32) (v2 : Int32) (h : pH) (q : Int32 × pH) (hf : fX12_call N v0 v1 v2 h = some q) : Calls X (d + 2) 290 [.ref v0, .int v1, .int v2] h (some (.int q.1), q.2, 0, 0) := by
  refine Calls.of M290 (Nat.le_of_ble_eq_true rfl) ?_
  show Run X (d + 2) 12 false (pCd 9105) 8 (some .int) 0 [(0, .ref v0), (1, .int v1), (2, .int v2)] [] h 0 0 (some (.int q.1), q.2, 0, 0)
  unfold fX12_call at hf
  by_cases hc : isO h v0 12 = true
  · rw [if_pos hc] at hf
    have nv0 : ¬ v0 = 4 := isO_ne hc
    refine r_aload_n (dGet dX12_call (j := 0) rfl) nv0 rfl ?_
    obtain ⟨t32, et32, hf⟩ := Option.bind_eq_some_iff.mp hf
    refine r_getR (dGet dX12_call (j := 1) rfl) F12_25 et32 ?_
    refine r_iload_n (dGet dX12_call (j := 2) rfl) rfl ?_
    obtain ⟨t33, et33, hf⟩ := Option.bind_eq_some_iff.mp hf
    refine r_iald (dGet dX12_call (j := 3) rfl) et33 ?_
    refine r_bipush (dGet dX12_call (j := 4) rfl) kB_9 ?_
    by_cases c34 : t33 = (9 : Int32)
    · rw [if_pos c34] at hf
      refine r_icmp_ne_f (dGet dX12_call (j := 5) rfl) rfl c34 ?_
      refine r_bipush (dGet dX12_call (j := 6) rfl) kB_10 ?_
      refine r_aload_n (dGet dX12_call (j := 7) rfl) nv0 rfl ?_
      obtain ⟨t37, et37, hf⟩ := Option.bind_eq_some_iff.mp hf
      refine r_getI (dGet dX12_call (j := 8) rfl) F12_470 et37 ?_
      refine r_iadd (dGet dX12_call (j := 9) rfl) ?_
      refine r_goto (dGet dX12_call (j := 10) rfl) rfl ?_
      refine Run.weak [(0, .ref v0), (1, .int v1)] (by simp) (by simp [pNd]) ?_
      exact lX12_call_27 X N d v0 v1 ((10 : Int32) + t37) h q hf nv0
    · rw [if_neg c34] at hf
      refine r_icmp_ne_t (dGet dX12_call (j := 5) rfl) rfl c34 ?_
      refine r_aload_n (dGet dX12_call (j := 11) rfl) nv0 rfl ?_
      obtain ⟨t35, et35, hf⟩ := Option.bind_eq_some_iff.mp hf
      refine r_getR (dGet dX12_call (j := 12) rfl) F12_37 et35 ?_
      refine r_iload_n (dGet dX12_call (j := 13) rfl) rfl ?_
      obtain ⟨t36, et36, hf⟩ := Option.bind_eq_some_iff.mp hf
      refine r_iald (dGet dX12_call (j := 14) rfl) et36 ?_
      refine Run.weak [(0, .ref v0), (1, .int v1)] (by simp) (by simp [pNd]) ?_
      exact lX12_call_27 X N d v0 v1 t36 h q hf nv0
  · rw [if_neg hc] at hf; cases hf
def eX12_ends : List (Nat × Instr × Nat) := [(0, .aload_n 0, 1), (1, .iload_n 1, 1), (2, .putfield 587, 3), (5, .aload_n 0, 1), (6, .iconst 0, 1), (7, .putfield 584, 3), (10, .aload_n 0, 1), (11, .iconst 0, 1), (12, .putfield 554, 3), (15, .aload_n 0, 1), (16, .iconst 0, 1), (17, .putfield 560, 3), (20, .return_, 1)]
theorem dX12_ends : dChk (pCd 10020) eX12_ends = true := by decide +kernel
def fX12_ends (N : Nat) (v0 : Nat) (v1 : Int32) (h : pH) : Option (pH) := if isO h v0 12 = true then (
  (putI h v0 12 70 v1).bind fun h1 =>
  (putI h1 v0 12 103 (0 : Int32)).bind fun h2 =>
  (putI h2 v0 12 93 (0 : Int32)).bind fun h3 =>
  (putI h3 v0 12 100 (0 : Int32)).bind fun h4 =>
  some h4) else none
theorem oX12_ends {N : Nat} {v0 : Nat} {v1 : Int32} {h : pH} {q : pH} (hf : fX12_ends N v0 v1 h = some q) : isO h v0 12 = true := by
  unfold fX12_ends at hf
  by_cases hc : isO h v0 12 = true
  · exact hc
  · rw [if_neg hc] at hf; cases hf
theorem cX12_ends (X : pX) (N d : Nat) (v0 : Nat) (v1 : Int32) (h : pH) (q : pH) (hf : fX12_ends N v0 v1 h = some q) : Calls X (d + 0) 328 [.ref v0, .int v1] h (none, q, 0, 0) := by
  refine Calls.of M328 (Nat.le_of_ble_eq_true rfl) ?_
  show Run X (d + 0) 12 false (pCd 10020) 2 none 0 [(0, .ref v0), (1, .int v1)] [] h 0 0 (none, q, 0, 0)
  unfold fX12_ends at hf
  by_cases hc : isO h v0 12 = true
  · rw [if_pos hc] at hf
    have nv0 : ¬ v0 = 4 := isO_ne hc
    refine r_aload_n (dGet dX12_ends (j := 0) rfl) nv0 rfl ?_
    refine r_iload_n (dGet dX12_ends (j := 1) rfl) rfl ?_
    obtain ⟨h1, eh1, hf⟩ := Option.bind_eq_some_iff.mp hf
    refine r_putI (dGet dX12_ends (j := 2) rfl) F12_587 rfl rfl eh1 ?_
    refine r_aload_n (dGet dX12_ends (j := 3) rfl) nv0 rfl ?_
    refine r_iconst (dGet dX12_ends (j := 4) rfl) kI_0 ?_
    obtain ⟨h2, eh2, hf⟩ := Option.bind_eq_some_iff.mp hf
    refine r_putI (dGet dX12_ends (j := 5) rfl) F12_584 rfl rfl eh2 ?_
    refine r_aload_n (dGet dX12_ends (j := 6) rfl) nv0 rfl ?_
    refine r_iconst (dGet dX12_ends (j := 7) rfl) kI_0 ?_
    obtain ⟨h3, eh3, hf⟩ := Option.bind_eq_some_iff.mp hf
    refine r_putI (dGet dX12_ends (j := 8) rfl) F12_554 rfl rfl eh3 ?_
    refine r_aload_n (dGet dX12_ends (j := 9) rfl) nv0 rfl ?_
    refine r_iconst (dGet dX12_ends (j := 10) rfl) kI_0 ?_
    obtain ⟨h4, eh4, hf⟩ := Option.bind_eq_some_iff.mp hf
    refine r_putI (dGet dX12_ends (j := 11) rfl) F12_560 rfl rfl eh4 ?_
    have hq := Option.some.inj hf
    subst hq
    exact r_vret (dGet dX12_ends (j := 12) rfl) rfl
  · rw [if_neg hc] at hf; cases hf
def eX12_throwsObject : List (Nat × Instr × Nat) := [(0, .aload_n 0, 1), (1, .dup, 1), (2, .getfield 590, 3), (5, .iconst 1, 1), (6, .iadd, 1), (7, .putfield 590, 3), (10, .aload_n 0, 1), (11, .getfield 154, 3), (14, .iload_n 1, 1), (15, .iaload, 1), (16, .istore_n 2, 1), (17, .aload_n 0, 1), (18, .getfield 584, 3), (21, .ifCond .le 181, 3), (24, .aload_n 0, 1), (25, .dup, 1), (26, .getfield 584, 3), (29, .iconst 1, 1), (30, .isub, 1), (31, .putfield 584, 3), (34, .aload_n 0, 1), (35, .getfield 208, 3), (38, .aload_n 0, 1), (39, .getfield 584, 3), (42, .iaload, 1), (43, .istore_n 3, 1), (44, .aload_n 0, 1), (45, .getfield 205, 3), (48, .aload_n 0, 1), (49, .getfield 584, 3), (52, .iaload, 1), (53, .bipush 8, 2), (55, .if_icmp .ne 13, 3), (58, .aload_n 0, 1), (59, .dup, 1), (60, .getfield 554, 3), (63, .iconst 1, 1), (64, .isub, 1), (65, .putfield 554, 3), (68, .aload_n 0, 1), (69, .getfield 205, 3), (72, .aload_n 0, 1), (73, .getfield 584, 3), (76, .iaload, 1), (77, .bipush 7, 2), (79, .if_icmp .eq 6, 3), (82, .goto (-65), 3), (85, .aload_n 0, 1), (86, .dup, 1), (87, .getfield 593, 3), (90, .iconst 1, 1), (91, .isub, 1), (92, .putfield 593, 3), (95, .aload_n 0, 1), (96, .getfield 554, 3), (99, .iconst 1, 1), (100, .isub, 1), (101, .istore 4, 2), (103, .aload_n 0, 1), (104, .iload_n 2, 1), (105, .aload_n 0, 1), (106, .getfield 61, 3), (109, .iload_n 3, 1), (110, .iaload, 1), (111, .bipush 10, 2), (113, .isub, 1), (114, .invokevirtual 415, 3), (117, .ifCond .ne 6, 3), (120, .goto (-103), 3), (123, .aload_n 0, 1), (124, .aload_n 0, 1), (125, .getfield 211, 3), (128, .aload_n 0, 1), (129, .getfield 593, 3), (132, .iaload, 1), (133, .putfield 560, 3), (136, .aload_n 0, 1), (137, .getfield 184, 3), (140, .iload 4, 2), (142, .aload_n 0, 1), (143, .getfield 214, 3), (146, .aload_n 0, 1), (147, .getfield 593, 3), (150, .iaload, 1), (151, .iastore, 1), (152, .aload_n 0, 1), (153, .iconst 5, 1), (154, .aload_n 0, 1), (155, .getfield 184, 3), (158, .iload 4, 2), (160, .iaload, 1), (161, .invokevirtual 596, 3), (164, .aload_n 0, 1), (165, .iload 4, 2), (167, .aload_n 0, 1), (168, .getfield 184, 3), (171, .iload 4, 2), (173, .iaload, 1), (174, .iload_n 1, 1), (175, .iconst 1, 1), (176, .invokevirtual 598, 3), (179, .aload_n 0, 1), (180, .getfield 184, 3), (183, .iload 4, 2), (185, .dup2, 1), (186, .iaload, 1), (187, .iconst 1, 1), (188, .iadd, 1), (189, .iastore, 1), (190, .aload_n 0, 1), (191, .iconst 3, 1), (192, .aload_n 0, 1), (193, .getfield 73, 3), (196, .iload_n 3, 1), (197, .iaload, 1), (198, .invokevirtual 596, 3), (201, .return_, 1), (202, .aload_n 0, 1), (203, .iload_n 2, 1), (204, .putfield 602, 3), (207, .aload_n 0, 1), (208, .iconst 2, 1), (209, .invokevirtual 605, 3), (212, .return_, 1)]
theorem dX12_throwsObject : dChk (pCd 10032) eX12_throwsObject = true := by decide +kernel
def fX12_throwsObject_68 (N : Nat) (k17 : Nat → Int32 → Int32 → pH → Option (pH)) (v0 : Nat) (v1 : Int32) (v2 : Int32) (v3 : Int32) (h : pH) : Option (pH) :=
  (getR h v0 12 104).bind fun t1 =>
  (getI h v0 12 103).bind fun t2 =>
  (ldI h t1 t2).bind fun t3 =>
  if t3 = (7 : Int32) then (
  (getI h v0 12 106).bind fun t5 =>
  (putI h v0 12 106 (t5 - (1 : Int32))).bind fun h6 =>
  (getI h6 v0 12 93).bind fun t7 =>
  (getR h6 v0 12 31).bind fun t8 =>
  (ldI h6 t8 v3).bind fun t9 =>
  (fX12_isUnder N v0 v2 (t9 - (10 : Int32)) h6).bind fun q10 =>
  if q10.1 = 0 then (
  k17 v0 v1 v2 q10.2) else (
  (getR q10.2 v0 12 107).bind fun t12 =>
  (getI q10.2 v0 12 106).bind fun t13 =>
  (ldI q10.2 t12 t13).bind fun t14 =>
  (putI q10.2 v0 12 100 t14).bind fun h15 =>
  (getR h15 v0 12 96).bind fun t16 =>
  (getR h15 v0 12 108).bind fun t17 =>
  (getI h15 v0 12 106).bind fun t18 =>
  (ldI h15 t17 t18).bind fun t19 =>
  (stI h15 t16 (t7 - (1 : Int32)) t19).bind fun h20 =>
  (getR h20 v0 12 96).bind fun t21 =>
  (ldI h20 t21 (t7 - (1 : Int32))).bind fun t22 =>
  (fX12_todo N v0 (5 : Int32) t22 h20).bind fun h23 =>
  (getR h23 v0 12 96).bind fun t24 =>
  (ldI h23 t24 (t7 - (1 : Int32))).bind fun t25 =>
  (fX12_setLocal N v0 (t7 - (1 : Int32)) t25 v1 (1 : Int32) h23).bind fun h26 =>
  (getR h26 v0 12 96).bind fun t27 =>
  (ldI h26 t27 (t7 - (1 : Int32))).bind fun t28 =>
  (stI h26 t27 (t7 - (1 : Int32)) (t28 + (1 : Int32))).bind fun h29 =>
  (getR h29 v0 12 35).bind fun t30 =>
  (ldI h29 t30 v3).bind fun t31 =>
  (fX12_todo N v0 (3 : Int32) t31 h29).bind fun h32 =>
  some h32)) else (
  k17 v0 v1 v2 h)
theorem lX12_throwsObject_68 (X : pX) (N d : Nat)  (k17 : Nat → Int32 → Int32 → pH → Option (pH)) (K17 : ∀ (w0 : Nat) (w1 : Int32) (w2 : Int32) (h : pH) (q : pH), k17 w0 w1 w2 h = some q → ¬ w0 = 4 → Run X (d + 1) 12 false (pCd 10032) 5 none 17 [(0, .ref w0), (1, .int w1), (2, .int w2)] [] h 0 0 (none, q, 0, 0)) (v0 : Nat) (v1 : Int32) (v2 : Int32) (v3 : Int32) (h : pH) (q : pH) (hf : fX12_throwsObject_68 N k17 v0 v1 v2 v3 h = some q) (nv0 : ¬ v0 = 4) : Run X (d + 1) 12 false (pCd 10032) 5 none 68 [(0, .ref v0), (1, .int v1), (2, .int v2), (3, .int v3)] [] h 0 0 (none, q, 0, 0) := by
  unfold fX12_throwsObject_68 at hf
  refine r_aload_n (dGet dX12_throwsObject (j := 39) rfl) nv0 rfl ?_
  obtain ⟨t1, et1, hf⟩ := Option.bind_eq_some_iff.mp hf
  refine r_getR (dGet dX12_throwsObject (j := 40) rfl) F12_205 et1 ?_
  refine r_aload_n (dGet dX12_throwsObject (j := 41) rfl) nv0 rfl ?_
  obtain ⟨t2, et2, hf⟩ := Option.bind_eq_some_iff.mp hf
  refine r_getI (dGet dX12_throwsObject (j := 42) rfl) F12_584 et2 ?_
  obtain ⟨t3, et3, hf⟩ := Option.bind_eq_some_iff.mp hf
  refine r_iald (dGet dX12_throwsObject (j := 43) rfl) et3 ?_
  refine r_bipush (dGet dX12_throwsObject (j := 44) rfl) kB_7 ?_
  by_cases c4 : t3 = (7 : Int32)
  · rw [if_pos c4] at hf
    refine r_icmp_eq_t (dGet dX12_throwsObject (j := 45) rfl) rfl c4 ?_
    refine r_aload_n (dGet dX12_throwsObject (j := 47) rfl) nv0 rfl ?_
    refine r_dup (dGet dX12_throwsObject (j := 48) rfl) rfl ?_
    obtain ⟨t5, et5, hf⟩ := Option.bind_eq_some_iff.mp hf
    refine r_getI (dGet dX12_throwsObject (j := 49) rfl) F12_593 et5 ?_
    refine r_iconst (dGet dX12_throwsObject (j := 50) rfl) kI_1 ?_
    refine r_isub (dGet dX12_throwsObject (j := 51) rfl) ?_
    obtain ⟨h6, eh6, hf⟩ := Option.bind_eq_some_iff.mp hf
    refine r_putI (dGet dX12_throwsObject (j := 52) rfl) F12_593 rfl rfl eh6 ?_
    refine r_aload_n (dGet dX12_throwsObject (j := 53) rfl) nv0 rfl ?_
    obtain ⟨t7, et7, hf⟩ := Option.bind_eq_some_iff.mp hf
    refine r_getI (dGet dX12_throwsObject (j := 54) rfl) F12_554 et7 ?_
    refine r_iconst (dGet dX12_throwsObject (j := 55) rfl) kI_1 ?_
    refine r_isub (dGet dX12_throwsObject (j := 56) rfl) ?_
    refine r_istore (lv' := [(4, .int (t7 - (1 : Int32))), (0, .ref v0), (1, .int v1), (2, .int v2), (3, .int v3)]) (dGet dX12_throwsObject (j := 57) rfl) (by decide) rfl ?_
    refine r_aload_n (dGet dX12_throwsObject (j := 58) rfl) nv0 rfl ?_
    refine r_iload_n (dGet dX12_throwsObject (j := 59) rfl) rfl ?_
    refine r_aload_n (dGet dX12_throwsObject (j := 60) rfl) nv0 rfl ?_
    obtain ⟨t8, et8, hf⟩ := Option.bind_eq_some_iff.mp hf
    refine r_getR (dGet dX12_throwsObject (j := 61) rfl) F12_61 et8 ?_
    refine r_iload_n (dGet dX12_throwsObject (j := 62) rfl) rfl ?_
    obtain ⟨t9, et9, hf⟩ := Option.bind_eq_some_iff.mp hf
    refine r_iald (dGet dX12_throwsObject (j := 63) rfl) et9 ?_
    refine r_bipush (dGet dX12_throwsObject (j := 64) rfl) kB_10 ?_
    refine r_isub (dGet dX12_throwsObject (j := 65) rfl) ?_
    obtain ⟨q10, eq10, hf⟩ := Option.bind_eq_some_iff.mp hf
    refine r_virtual (dGet dX12_throwsObject (j := 66) rfl) L12_415 M292 rfl rfl (Nat.le_of_ble_eq_true rfl) (oX12_isUnder eq10) (cX12_isUnder X N (d + 0) v0 v2 (t9 - (10 : Int32)) h6 q10 eq10) ?_
    by_cases c11 : q10.1 = 0
    · rw [if_pos c11] at hf
      refine r_if_ne_f (dGet dX12_throwsObject (j := 67) rfl) rfl c11 ?_
      refine r_goto (dGet dX12_throwsObject (j := 68) rfl) rfl ?_
      refine Run.weak [(0, .ref v0), (1, .int v1), (2, .int v2)] (by simp) (by simp [pNd]) ?_
      exact K17 v0 v1 v2 q10.2 q hf nv0
    · rw [if_neg c11] at hf
      refine r_if_ne_t (dGet dX12_throwsObject (j := 67) rfl) rfl c11 ?_
      refine r_aload_n (dGet dX12_throwsObject (j := 69) rfl) nv0 rfl ?_
      refine r_aload_n (dGet dX12_throwsObject (j := 70) rfl) nv0 rfl ?_
      obtain ⟨t12, et12, hf⟩ := Option.bind_eq_some_iff.mp hf
      refine r_getR (dGet dX12_throwsObject (j := 71) rfl) F12_211 et12 ?_
      refine r_aload_n (dGet dX12_throwsObject (j := 72) rfl) nv0 rfl ?_
      obtain ⟨t13, et13, hf⟩ := Option.bind_eq_some_iff.mp hf
      refine r_getI (dGet dX12_throwsObject (j := 73) rfl) F12_593 et13 ?_
      obtain ⟨t14, et14, hf⟩ := Option.bind_eq_some_iff.mp hf
      refine r_iald (dGet dX12_throwsObject (j := 74) rfl) et14 ?_
      obtain ⟨h15, eh15, hf⟩ := Option.bind_eq_some_iff.mp hf
      refine r_putI (dGet dX12_throwsObject (j := 75) rfl) F12_560 rfl rfl eh15 ?_
      refine r_aload_n (dGet dX12_throwsObject (j := 76) rfl) nv0 rfl ?_
      obtain ⟨t16, et16, hf⟩ := Option.bind_eq_some_iff.mp hf
      refine r_getR (dGet dX12_throwsObject (j := 77) rfl) F12_184 et16 ?_
      refine r_iload (dGet dX12_throwsObject (j := 78) rfl) rfl ?_
      refine r_aload_n (dGet dX12_throwsObject (j := 79) rfl) nv0 rfl ?_
      obtain ⟨t17, et17, hf⟩ := Option.bind_eq_some_iff.mp hf
      refine r_getR (dGet dX12_throwsObject (j := 80) rfl) F12_214 et17 ?_
      refine r_aload_n (dGet dX12_throwsObject (j := 81) rfl) nv0 rfl ?_
      obtain ⟨t18, et18, hf⟩ := Option.bind_eq_some_iff.mp hf
      refine r_getI (dGet dX12_throwsObject (j := 82) rfl) F12_593 et18 ?_
      obtain ⟨t19, et19, hf⟩ := Option.bind_eq_some_iff.mp hf
      refine r_iald (dGet dX12_throwsObject (j := 83) rfl) et19 ?_
      obtain ⟨h20, eh20, hf⟩ := Option.bind_eq_some_iff.mp hf
      refine r_iast (dGet dX12_throwsObject (j := 84) rfl) eh20 ?_
      refine r_aload_n (dGet dX12_throwsObject (j := 85) rfl) nv0 rfl ?_
      refine r_iconst (dGet dX12_throwsObject (j := 86) rfl) kI_5 ?_
      refine r_aload_n (dGet dX12_throwsObject (j := 87) rfl) nv0 rfl ?_
      obtain ⟨t21, et21, hf⟩ := Option.bind_eq_some_iff.mp hf
      refine r_getR (dGet dX12_throwsObject (j := 88) rfl) F12_184 et21 ?_
      refine r_iload (dGet dX12_throwsObject (j := 89) rfl) rfl ?_
      obtain ⟨t22, et22, hf⟩ := Option.bind_eq_some_iff.mp hf
      refine r_iald (dGet dX12_throwsObject (j := 90) rfl) et22 ?_
      obtain ⟨h23, eh23, hf⟩ := Option.bind_eq_some_iff.mp hf
      refine r_virtual (dGet dX12_throwsObject (j := 91) rfl) L12_596 M312 rfl rfl (Nat.le_of_ble_eq_true rfl) (oX12_todo eh23) (cX12_todo X N (d + 0) v0 (5 : Int32) t22 h20 h23 eh23) ?_
      refine r_aload_n (dGet dX12_throwsObject (j := 92) rfl) nv0 rfl ?_
      refine r_iload (dGet dX12_throwsObject (j := 93) rfl) rfl ?_
      refine r_aload_n (dGet dX12_throwsObject (j := 94) rfl) nv0 rfl ?_
      obtain ⟨t24, et24, hf⟩ := Option.bind_eq_some_iff.mp hf
      refine r_getR (dGet dX12_throwsObject (j := 95) rfl) F12_184 et24 ?_
      refine r_iload (dGet dX12_throwsObject (j := 96) rfl) rfl ?_
      obtain ⟨t25, et25, hf⟩ := Option.bind_eq_some_iff.mp hf
      refine r_iald (dGet dX12_throwsObject (j := 97) rfl) et25 ?_
      refine r_iload_n (dGet dX12_throwsObject (j := 98) rfl) rfl ?_
      refine r_iconst (dGet dX12_throwsObject (j := 99) rfl) kI_1 ?_
      obtain ⟨h26, eh26, hf⟩ := Option.bind_eq_some_iff.mp hf
      refine r_virtual (dGet dX12_throwsObject (j := 100) rfl) L12_598 M311 rfl rfl (Nat.le_of_ble_eq_true rfl) (oX12_setLocal eh26) (cX12_setLocal X N (d + 0) v0 (t7 - (1 : Int32)) t25 v1 (1 : Int32) h23 h26 eh26) ?_
      refine r_aload_n (dGet dX12_throwsObject (j := 101) rfl) nv0 rfl ?_
      obtain ⟨t27, et27, hf⟩ := Option.bind_eq_some_iff.mp hf
      refine r_getR (dGet dX12_throwsObject (j := 102) rfl) F12_184 et27 ?_
      refine r_iload (dGet dX12_throwsObject (j := 103) rfl) rfl ?_
      refine r_dup2 (dGet dX12_throwsObject (j := 104) rfl) rfl rfl ?_
      obtain ⟨t28, et28, hf⟩ := Option.bind_eq_some_iff.mp hf
      refine r_iald (dGet dX12_throwsObject (j := 105) rfl) et28 ?_
      refine r_iconst (dGet dX12_throwsObject (j := 106) rfl) kI_1 ?_
      refine r_iadd (dGet dX12_throwsObject (j := 107) rfl) ?_
      obtain ⟨h29, eh29, hf⟩ := Option.bind_eq_some_iff.mp hf
      refine r_iast (dGet dX12_throwsObject (j := 108) rfl) eh29 ?_
      refine r_aload_n (dGet dX12_throwsObject (j := 109) rfl) nv0 rfl ?_
      refine r_iconst (dGet dX12_throwsObject (j := 110) rfl) kI_3 ?_
      refine r_aload_n (dGet dX12_throwsObject (j := 111) rfl) nv0 rfl ?_
      obtain ⟨t30, et30, hf⟩ := Option.bind_eq_some_iff.mp hf
      refine r_getR (dGet dX12_throwsObject (j := 112) rfl) F12_73 et30 ?_
      refine r_iload_n (dGet dX12_throwsObject (j := 113) rfl) rfl ?_
      obtain ⟨t31, et31, hf⟩ := Option.bind_eq_some_iff.mp hf
      refine r_iald (dGet dX12_throwsObject (j := 114) rfl) et31 ?_
      obtain ⟨h32, eh32, hf⟩ := Option.bind_eq_some_iff.mp hf
      refine r_virtual (dGet dX12_throwsObject (j := 115) rfl) L12_596 M312 rfl rfl (Nat.le_of_ble_eq_true rfl) (oX12_todo eh32) (cX12_todo X N (d + 0) v0 (3 : Int32) t31 h29 h32 eh32) ?_
      have hq := Option.some.inj hf
      subst hq
      exact r_vret (dGet dX12_throwsObject (j := 116) rfl) rfl
  · rw [if_neg c4] at hf
    refine r_icmp_eq_f (dGet dX12_throwsObject (j := 45) rfl) rfl c4 ?_
    refine r_goto (dGet dX12_throwsObject (j := 46) rfl) rfl ?_
    refine Run.weak [(0, .ref v0), (1, .int v1), (2, .int v2)] (by simp) (by simp [pNd]) ?_
    exact K17 v0 v1 v2 h q hf nv0
def fX12_throwsObject_17 (N : Nat) : Nat → Nat → Int32 → Int32 → pH → Option (pH)
  | 0, _, _, _, _ => none
  | n + 1, v0, v1, v2, h => (getI h v0 12 103).bind fun t33 =>
  if t33 ≤ 0 then (
  (putI h v0 12 77 v2).bind fun h35 =>
  (fX12_ends N v0 (2 : Int32) h35).bind fun h36 =>
  some h36) else (
  (getI h v0 12 103).bind fun t37 =>
  (putI h v0 12 103 (t37 - (1 : Int32))).bind fun h38 =>
  (getR h38 v0 12 105).bind fun t39 =>
  (getI h38 v0 12 103).bind fun t40 =>
  (ldI h38 t39 t40).bind fun t41 =>
  (getR h38 v0 12 104).bind fun t42 =>
  (getI h38 v0 12 103).bind fun t43 =>
  (ldI h38 t42 t43).bind fun t44 =>
  if t44 = (8 : Int32) then (
  (getI h38 v0 12 93).bind fun t46 =>
  (putI h38 v0 12 93 (t46 - (1 : Int32))).bind fun h47 =>
  fX12_throwsObject_68 N (fX12_throwsObject_17 N n) v0 v1 v2 t41 h47) else (
  fX12_throwsObject_68 N (fX12_throwsObject_17 N n) v0 v1 v2 t41 h38))
theorem lX12_throwsObject_17 (X : pX) (N d : Nat)  : ∀ (n : Nat) (v0 : Nat) (v1 : Int32) (v2 : Int32) (h : pH) (q : pH), fX12_throwsObject_17 N n v0 v1 v2 h = some q → ¬ v0 = 4 → Run X (d + 1) 12 false (pCd 10032) 5 none 17 [(0, .ref v0), (1, .int v1), (2, .int v2)] [] h 0 0 (none, q, 0, 0) := by
  intro n
  induction n with
  | zero => intro v0 v1 v2 h q hf; cases hf
  | succ n ih =>
    intro v0 v1 v2 h q hf nv0
    unfold fX12_throwsObject_17 at hf
    refine r_aload_n (dGet dX12_throwsObject (j := 11) rfl) nv0 rfl ?_
    obtain ⟨t33, et33, hf⟩ := Option.bind_eq_some_iff.mp hf
    refine r_getI (dGet dX12_throwsObject (j := 12) rfl) F12_584 et33 ?_
    by_cases c34 : t33 ≤ 0
    · rw [if_pos c34] at hf
      refine r_if_le_t (dGet dX12_throwsObject (j := 13) rfl) rfl c34 ?_
      refine r_aload_n (dGet dX12_throwsObject (j := 117) rfl) nv0 rfl ?_
      refine r_iload_n (dGet dX12_throwsObject (j := 118) rfl) rfl ?_
      obtain ⟨h35, eh35, hf⟩ := Option.bind_eq_some_iff.mp hf
      refine r_putI (dGet dX12_throwsObject (j := 119) rfl) F12_602 rfl rfl eh35 ?_
      refine r_aload_n (dGet dX12_throwsObject (j := 120) rfl) nv0 rfl ?_
      refine r_iconst (dGet dX12_throwsObject (j := 121) rfl) kI_2 ?_
      obtain ⟨h36, eh36, hf⟩ := Option.bind_eq_some_iff.mp hf
      refine r_virtual (dGet dX12_throwsObject (j := 122) rfl) L12_605 M328 rfl rfl (Nat.le_of_ble_eq_true rfl) (oX12_ends eh36) (cX12_ends X N (d + 0) v0 (2 : Int32) h35 h36 eh36) ?_
      have hq := Option.some.inj hf
      subst hq
      exact r_vret (dGet dX12_throwsObject (j := 123) rfl) rfl
    · rw [if_neg c34] at hf
      refine r_if_le_f (dGet dX12_throwsObject (j := 13) rfl) rfl c34 ?_
      refine r_aload_n (dGet dX12_throwsObject (j := 14) rfl) nv0 rfl ?_
      refine r_dup (dGet dX12_throwsObject (j := 15) rfl) rfl ?_
      obtain ⟨t37, et37, hf⟩ := Option.bind_eq_some_iff.mp hf
      refine r_getI (dGet dX12_throwsObject (j := 16) rfl) F12_584 et37 ?_
      refine r_iconst (dGet dX12_throwsObject (j := 17) rfl) kI_1 ?_
      refine r_isub (dGet dX12_throwsObject (j := 18) rfl) ?_
      obtain ⟨h38, eh38, hf⟩ := Option.bind_eq_some_iff.mp hf
      refine r_putI (dGet dX12_throwsObject (j := 19) rfl) F12_584 rfl rfl eh38 ?_
      refine r_aload_n (dGet dX12_throwsObject (j := 20) rfl) nv0 rfl ?_
      obtain ⟨t39, et39, hf⟩ := Option.bind_eq_some_iff.mp hf
      refine r_getR (dGet dX12_throwsObject (j := 21) rfl) F12_208 et39 ?_
      refine r_aload_n (dGet dX12_throwsObject (j := 22) rfl) nv0 rfl ?_
      obtain ⟨t40, et40, hf⟩ := Option.bind_eq_some_iff.mp hf
      refine r_getI (dGet dX12_throwsObject (j := 23) rfl) F12_584 et40 ?_
      obtain ⟨t41, et41, hf⟩ := Option.bind_eq_some_iff.mp hf
      refine r_iald (dGet dX12_throwsObject (j := 24) rfl) et41 ?_
      refine r_istore_n (lv' := [(3, .int t41), (0, .ref v0), (1, .int v1), (2, .int v2)]) (dGet dX12_throwsObject (j := 25) rfl) (by decide) rfl ?_
      refine r_aload_n (dGet dX12_throwsObject (j := 26) rfl) nv0 rfl ?_
      obtain ⟨t42, et42, hf⟩ := Option.bind_eq_some_iff.mp hf
      refine r_getR (dGet dX12_throwsObject (j := 27) rfl) F12_205 et42 ?_
      refine r_aload_n (dGet dX12_throwsObject (j := 28) rfl) nv0 rfl ?_
      obtain ⟨t43, et43, hf⟩ := Option.bind_eq_some_iff.mp hf
      refine r_getI (dGet dX12_throwsObject (j := 29) rfl) F12_584 et43 ?_
      obtain ⟨t44, et44, hf⟩ := Option.bind_eq_some_iff.mp hf
      refine r_iald (dGet dX12_throwsObject (j := 30) rfl) et44 ?_
      refine r_bipush (dGet dX12_throwsObject (j := 31) rfl) kB_8 ?_
      by_cases c45 : t44 = (8 : Int32)
      · rw [if_pos c45] at hf
        refine r_icmp_ne_f (dGet dX12_throwsObject (j := 32) rfl) rfl c45 ?_
        refine r_aload_n (dGet dX12_throwsObject (j := 33) rfl) nv0 rfl ?_
        refine r_dup (dGet dX12_throwsObject (j := 34) rfl) rfl ?_
        obtain ⟨t46, et46, hf⟩ := Option.bind_eq_some_iff.mp hf
        refine r_getI (dGet dX12_throwsObject (j := 35) rfl) F12_554 et46 ?_
        refine r_iconst (dGet dX12_throwsObject (j := 36) rfl) kI_1 ?_
        refine r_isub (dGet dX12_throwsObject (j := 37) rfl) ?_
        obtain ⟨h47, eh47, hf⟩ := Option.bind_eq_some_iff.mp hf
        refine r_putI (dGet dX12_throwsObject (j := 38) rfl) F12_554 rfl rfl eh47 ?_
        refine Run.weak [(0, .ref v0), (1, .int v1), (2, .int v2), (3, .int t41)] (by simp) (by simp [pNd]) ?_
        exact lX12_throwsObject_68 X N d (fX12_throwsObject_17 N n) ih v0 v1 v2 t41 h47 q hf nv0
      · rw [if_neg c45] at hf
        refine r_icmp_ne_t (dGet dX12_throwsObject (j := 32) rfl) rfl c45 ?_
        refine Run.weak [(0, .ref v0), (1, .int v1), (2, .int v2), (3, .int t41)] (by simp) (by simp [pNd]) ?_
        exact lX12_throwsObject_68 X N d (fX12_throwsObject_17 N n) ih v0 v1 v2 t41 h38 q hf nv0
def fX12_throwsObject (N : Nat) (v0 : Nat) (v1 : Int32) (h : pH) : Option (pH) := if isO h v0 12 = true then (
  (getI h v0 12 76).bind fun t48 =>
  (putI h v0 12 76 (t48 + (1 : Int32))).bind fun h49 =>
  (getR h49 v0 12 83).bind fun t50 =>
  (ldI h49 t50 v1).bind fun t51 =>
  fX12_throwsObject_17 N N v0 v1 t51 h49) else none
theorem oX12_throwsObject {N : Nat} {v0 : Nat} {v1 : Int32} {h : pH} {q : pH} (hf : fX12_throwsObject N v0 v1 h = some q) : isO h v0 12 = true := by
  unfold fX12_throwsObject at hf
  by_cases hc : isO h v0 12 = true
  · exact hc
  · rw [if_neg hc] at hf; cases hf
theorem cX12_throwsObject (X : pX) (N d : Nat) (v0 : Nat) (v1 : Int32) (h : pH) (q : pH) (hf : fX12_throwsObject N v0 v1 h = some q) : Calls X (d + 1) 331 [.ref v0, .int v1] h (none, q, 0, 0) := by
  refine Calls.of M331 (Nat.le_of_ble_eq_true rfl) ?_
  show Run X (d + 1) 12 false (pCd 10032) 5 none 0 [(0, .ref v0), (1, .int v1)] [] h 0 0 (none, q, 0, 0)
  unfold fX12_throwsObject at hf
  by_cases hc : isO h v0 12 = true
  · rw [if_pos hc] at hf
    have nv0 : ¬ v0 = 4 := isO_ne hc
    refine r_aload_n (dGet dX12_throwsObject (j := 0) rfl) nv0 rfl ?_
    refine r_dup (dGet dX12_throwsObject (j := 1) rfl) rfl ?_
    obtain ⟨t48, et48, hf⟩ := Option.bind_eq_some_iff.mp hf
    refine r_getI (dGet dX12_throwsObject (j := 2) rfl) F12_590 et48 ?_
    refine r_iconst (dGet dX12_throwsObject (j := 3) rfl) kI_1 ?_
    refine r_iadd (dGet dX12_throwsObject (j := 4) rfl) ?_
    obtain ⟨h49, eh49, hf⟩ := Option.bind_eq_some_iff.mp hf
    refine r_putI (dGet dX12_throwsObject (j := 5) rfl) F12_590 rfl rfl eh49 ?_
    refine r_aload_n (dGet dX12_throwsObject (j := 6) rfl) nv0 rfl ?_
    obtain ⟨t50, et50, hf⟩ := Option.bind_eq_some_iff.mp hf
    refine r_getR (dGet dX12_throwsObject (j := 7) rfl) F12_154 et50 ?_
    refine r_iload_n (dGet dX12_throwsObject (j := 8) rfl) rfl ?_
    obtain ⟨t51, et51, hf⟩ := Option.bind_eq_some_iff.mp hf
    refine r_iald (dGet dX12_throwsObject (j := 9) rfl) et51 ?_
    refine r_istore_n (lv' := [(2, .int t51), (0, .ref v0), (1, .int v1)]) (dGet dX12_throwsObject (j := 10) rfl) (by decide) rfl ?_
    refine Run.weak [(0, .ref v0), (1, .int v1), (2, .int t51)] (by simp) (by simp [pNd]) ?_
    exact lX12_throwsObject_17 X N d N v0 v1 t51 h49 q hf nv0
  · rw [if_neg hc] at hf; cases hf
def eX12_faults : List (Nat × Instr × Nat) := [(0, .aload_n 0, 1), (1, .iload_n 1, 1), (2, .invokevirtual 608, 3), (5, .return_, 1)]
theorem dX12_faults : dChk (pCd 10028) eX12_faults = true := by decide +kernel
def fX12_faults (N : Nat) (v0 : Nat) (v1 : Int32) (h : pH) : Option (pH) := if isO h v0 12 = true then (
  (fX12_throwsObject N v0 v1 h).bind fun h1 =>
  some h1) else none
theorem oX12_faults {N : Nat} {v0 : Nat} {v1 : Int32} {h : pH} {q : pH} (hf : fX12_faults N v0 v1 h = some q) : isO h v0 12 = true := by
  unfold fX12_faults at hf
  by_cases hc : isO h v0 12 = true
  · exact hc
  · rw [if_neg hc] at hf; cases hf
theorem cX12_faults (X : pX) (N d : Nat) (v0 : Nat) (v1 : Int32) (h : pH) (q : pH) (hf : fX12_faults N v0 v1 h = some q) : Calls X (d + 2) 330 [.ref v0, .int v1] h (none, q, 0, 0) := by
  refine Calls.of M330 (Nat.le_of_ble_eq_true rfl) ?_
  show Run X (d + 2) 12 false (pCd 10028) 2 none 0 [(0, .ref v0), (1, .int v1)] [] h 0 0 (none, q, 0, 0)
  unfold fX12_faults at hf
  by_cases hc : isO h v0 12 = true
  · rw [if_pos hc] at hf
    have nv0 : ¬ v0 = 4 := isO_ne hc
    refine r_aload_n (dGet dX12_faults (j := 0) rfl) nv0 rfl ?_
    refine r_iload_n (dGet dX12_faults (j := 1) rfl) rfl ?_
    obtain ⟨h1, eh1, hf⟩ := Option.bind_eq_some_iff.mp hf
    refine r_virtual (dGet dX12_faults (j := 2) rfl) L12_608 M331 rfl rfl (Nat.le_of_ble_eq_true rfl) (oX12_throwsObject eh1) (cX12_throwsObject X N (d + 0) v0 v1 h h1 eh1) ?_
    have hq := Option.some.inj hf
    subst hq
    exact r_vret (dGet dX12_faults (j := 3) rfl) rfl
  · rw [if_neg hc] at hf; cases hf
def eX12_calls : List (Nat × Instr × Nat) := [(0, .aload_n 0, 1), (1, .getfield 141, 3), (4, .iload_n 1, 1), (5, .iaload, 1), (6, .istore_n 2, 1), (7, .aload_n 0, 1), (8, .getfield 560, 3), (11, .iload_n 2, 1), (12, .isub, 1), (13, .istore_n 3, 1), (14, .aload_n 0, 1), (15, .getfield 25, 3), (18, .iload_n 1, 1), (19, .iaload, 1), (20, .bipush 9, 2), (22, .if_icmp .ne 7, 3), (25, .iconst 1, 1), (26, .goto 4, 3), (29, .iconst 0, 1), (30, .istore 4, 2), (32, .iload 4, 2), (34, .ifCond .eq 17, 3), (37, .aload_n 0, 1), (38, .getfield 178, 3), (41, .aload_n 0, 1), (42, .getfield 554, 3), (45, .iconst 1, 1), (46, .isub, 1), (47, .iaload, 1), (48, .goto 11, 3), (51, .aload_n 0, 1), (52, .getfield 198, 3), (55, .iload_n 3, 1), (56, .iconst 1, 1), (57, .isub, 1), (58, .iaload, 1), (59, .istore 5, 2), (61, .iload 5, 2), (63, .ifCond .ge 9, 3), (66, .aload_n 0, 1), (67, .iconst 0, 1), (68, .invokevirtual 638, 3), (71, .return_, 1), (72, .aload_n 0, 1), (73, .getfield 554, 3), (76, .bipush 100, 2), (78, .if_icmp .ne 9, 3), (81, .aload_n 0, 1), (82, .iconst 4, 1), (83, .invokevirtual 605, 3), (86, .return_, 1), (87, .aload_n 0, 1), (88, .aload_n 0, 1), (89, .getfield 154, 3), (92, .iload 5, 2), (94, .iaload, 1), (95, .aload_n 0, 1), (96, .getfield 34, 3), (99, .iload_n 1, 1), (100, .iaload, 1), (101, .iconst 1, 1), (102, .invokevirtual 422, 3), (105, .istore 6, 2), (107, .aload_n 0, 1), (108, .iload 5, 2), (110, .iload 6, 2), (112, .iload_n 3, 1), (113, .iload_n 2, 1), (114, .invokevirtual 650, 3), (117, .aload_n 0, 1), (118, .iload 4, 2), (120, .ifCond .eq 7, 3), (123, .iload_n 3, 1), (124, .goto 6, 3), (127, .iload_n 3, 1), (128, .iconst 1, 1), (129, .isub, 1), (130, .putfield 560, 3), (133, .aload_n 0, 1), (134, .getfield 187, 3), (137, .aload_n 0, 1), (138, .getfield 554, 3), (141, .iconst 1, 1), (142, .isub, 1), (143, .aload_n 0, 1), (144, .getfield 560, 3), (147, .iastore, 1), (148, .return_, 1)]
theorem dX12_calls : dChk (pCd 10040) eX12_calls = true := by decide +kernel
def fX12_calls_130 (N : Nat) (v0 : Nat) (s0 : Nat) (s1 : Int32) (h : pH) : Option (pH) :=
  (putI h s0 12 100 s1).bind fun h1 =>
  (getR h1 v0 12 97).bind fun t2 =>
  (getI h1 v0 12 93).bind fun t3 =>
  (getI h1 v0 12 100).bind fun t4 =>
  (stI h1 t2 (t3 - (1 : Int32)) t4).bind fun h5 =>
  some h5
theorem lX12_calls_130 (X : pX) (N d : Nat)  (v0 : Nat) (s0 : Nat) (s1 : Int32) (h : pH) (q : pH) (hf : fX12_calls_130 N v0 s0 s1 h = some q) (nv0 : ¬ v0 = 4) (ns0 : ¬ s0 = 4) : Run X (d + 3) 12 false (pCd 10040) 7 none 130 [(0, .ref v0)] [.int s1, .ref s0] h 0 0 (none, q, 0, 0) := by
  unfold fX12_calls_130 at hf
  obtain ⟨h1, eh1, hf⟩ := Option.bind_eq_some_iff.mp hf
  refine r_putI (dGet dX12_calls (j := 77) rfl) F12_560 rfl rfl eh1 ?_
  refine r_aload_n (dGet dX12_calls (j := 78) rfl) nv0 rfl ?_
  obtain ⟨t2, et2, hf⟩ := Option.bind_eq_some_iff.mp hf
  refine r_getR (dGet dX12_calls (j := 79) rfl) F12_187 et2 ?_
  refine r_aload_n (dGet dX12_calls (j := 80) rfl) nv0 rfl ?_
  obtain ⟨t3, et3, hf⟩ := Option.bind_eq_some_iff.mp hf
  refine r_getI (dGet dX12_calls (j := 81) rfl) F12_554 et3 ?_
  refine r_iconst (dGet dX12_calls (j := 82) rfl) kI_1 ?_
  refine r_isub (dGet dX12_calls (j := 83) rfl) ?_
  refine r_aload_n (dGet dX12_calls (j := 84) rfl) nv0 rfl ?_
  obtain ⟨t4, et4, hf⟩ := Option.bind_eq_some_iff.mp hf
  refine r_getI (dGet dX12_calls (j := 85) rfl) F12_560 et4 ?_
  obtain ⟨h5, eh5, hf⟩ := Option.bind_eq_some_iff.mp hf
  refine r_iast (dGet dX12_calls (j := 86) rfl) eh5 ?_
  have hq := Option.some.inj hf
  subst hq
  exact r_vret (dGet dX12_calls (j := 87) rfl) rfl
def fX12_calls_59 (N : Nat) (v0 : Nat) (v1 : Int32) (v2 : Int32) (v3 : Int32) (v4 : Int32) (s0 : Int32) (h : pH) : Option (pH) :=
  if 0 ≤ s0 then (
  (getI h v0 12 93).bind fun t7 =>
  if t7 = (100 : Int32) then (
  (fX12_ends N v0 (4 : Int32) h).bind fun h16 =>
  some h16) else (
  (getR h v0 12 83).bind fun t9 =>
  (ldI h t9 s0).bind fun t10 =>
  (getR h v0 12 19).bind fun t11 =>
  (ldI h t11 v1).bind fun t12 =>
  (fX12_memberOf N v0 t10 t12 (1 : Int32) h).bind fun q13 =>
  (fX12_begin N v0 s0 q13.1 v3 v2 q13.2).bind fun h14 =>
  if v4 = 0 then (
  fX12_calls_130 N v0 v0 (v3 - (1 : Int32)) h14) else (
  fX12_calls_130 N v0 v0 v3 h14))) else (
  (fX12_faults N v0 (0 : Int32) h).bind fun h17 =>
  some h17)
theorem lX12_calls_59 (X : pX) (N d : Nat)  (v0 : Nat) (v1 : Int32) (v2 : Int32) (v3 : Int32) (v4 : Int32) (s0 : Int32) (h : pH) (q : pH) (hf : fX12_calls_59 N v0 v1 v2 v3 v4 s0 h = some q) (nv0 : ¬ v0 = 4) : Run X (d + 3) 12 false (pCd 10040) 7 none 59 [(0, .ref v0), (1, .int v1), (2, .int v2), (3, .int v3), (4, .int v4)] [.int s0] h 0 0 (none, q, 0, 0) := by
  unfold fX12_calls_59 at hf
  refine r_istore (lv' := [(5, .int s0), (0, .ref v0), (1, .int v1), (2, .int v2), (3, .int v3), (4, .int v4)]) (dGet dX12_calls (j := 36) rfl) (by decide) rfl ?_
  refine r_iload (dGet dX12_calls (j := 37) rfl) rfl ?_
  by_cases c6 : 0 ≤ s0
  · rw [if_pos c6] at hf
    refine r_if_ge_t (dGet dX12_calls (j := 38) rfl) rfl c6 ?_
    refine r_aload_n (dGet dX12_calls (j := 43) rfl) nv0 rfl ?_
    obtain ⟨t7, et7, hf⟩ := Option.bind_eq_some_iff.mp hf
    refine r_getI (dGet dX12_calls (j := 44) rfl) F12_554 et7 ?_
    refine r_bipush (dGet dX12_calls (j := 45) rfl) kB_100 ?_
    by_cases c8 : t7 = (100 : Int32)
    · rw [if_pos c8] at hf
      refine r_icmp_ne_f (dGet dX12_calls (j := 46) rfl) rfl c8 ?_
      refine r_aload_n (dGet dX12_calls (j := 47) rfl) nv0 rfl ?_
      refine r_iconst (dGet dX12_calls (j := 48) rfl) kI_4 ?_
      obtain ⟨h16, eh16, hf⟩ := Option.bind_eq_some_iff.mp hf
      refine r_virtual (dGet dX12_calls (j := 49) rfl) L12_605 M328 rfl rfl (Nat.le_of_ble_eq_true rfl) (oX12_ends eh16) (cX12_ends X N (d + 2) v0 (4 : Int32) h h16 eh16) ?_
      have hq := Option.some.inj hf
      subst hq
      exact r_vret (dGet dX12_calls (j := 50) rfl) rfl
    · rw [if_neg c8] at hf
      refine r_icmp_ne_t (dGet dX12_calls (j := 46) rfl) rfl c8 ?_
      refine r_aload_n (dGet dX12_calls (j := 51) rfl) nv0 rfl ?_
      refine r_aload_n (dGet dX12_calls (j := 52) rfl) nv0 rfl ?_
      obtain ⟨t9, et9, hf⟩ := Option.bind_eq_some_iff.mp hf
      refine r_getR (dGet dX12_calls (j := 53) rfl) F12_154 et9 ?_
      refine r_iload (dGet dX12_calls (j := 54) rfl) rfl ?_
      obtain ⟨t10, et10, hf⟩ := Option.bind_eq_some_iff.mp hf
      refine r_iald (dGet dX12_calls (j := 55) rfl) et10 ?_
      refine r_aload_n (dGet dX12_calls (j := 56) rfl) nv0 rfl ?_
      obtain ⟨t11, et11, hf⟩ := Option.bind_eq_some_iff.mp hf
      refine r_getR (dGet dX12_calls (j := 57) rfl) F12_34 et11 ?_
      refine r_iload_n (dGet dX12_calls (j := 58) rfl) rfl ?_
      obtain ⟨t12, et12, hf⟩ := Option.bind_eq_some_iff.mp hf
      refine r_iald (dGet dX12_calls (j := 59) rfl) et12 ?_
      refine r_iconst (dGet dX12_calls (j := 60) rfl) kI_1 ?_
      obtain ⟨q13, eq13, hf⟩ := Option.bind_eq_some_iff.mp hf
      refine r_virtual (dGet dX12_calls (j := 61) rfl) L12_422 M277 rfl rfl (Nat.le_of_ble_eq_true rfl) (oX12_memberOf eq13) (cX12_memberOf X N (d + 2) v0 t10 t12 (1 : Int32) h q13 eq13) ?_
      refine r_istore (lv' := [(6, .int q13.1), (5, .int s0), (0, .ref v0), (1, .int v1), (2, .int v2), (3, .int v3), (4, .int v4)]) (dGet dX12_calls (j := 62) rfl) (by decide) rfl ?_
      refine r_aload_n (dGet dX12_calls (j := 63) rfl) nv0 rfl ?_
      refine r_iload (dGet dX12_calls (j := 64) rfl) rfl ?_
      refine r_iload (dGet dX12_calls (j := 65) rfl) rfl ?_
      refine r_iload_n (dGet dX12_calls (j := 66) rfl) rfl ?_
      refine r_iload_n (dGet dX12_calls (j := 67) rfl) rfl ?_
      obtain ⟨h14, eh14, hf⟩ := Option.bind_eq_some_iff.mp hf
      refine r_virtual (dGet dX12_calls (j := 68) rfl) L12_650 M310 rfl rfl (Nat.le_of_ble_eq_true rfl) (oX12_begin eh14) (cX12_begin X N (d + 1) v0 s0 q13.1 v3 v2 q13.2 h14 eh14) ?_
      refine r_aload_n (dGet dX12_calls (j := 69) rfl) nv0 rfl ?_
      refine r_iload (dGet dX12_calls (j := 70) rfl) rfl ?_
      by_cases c15 : v4 = 0
      · rw [if_pos c15] at hf
        refine r_if_eq_t (dGet dX12_calls (j := 71) rfl) rfl c15 ?_
        refine r_iload_n (dGet dX12_calls (j := 74) rfl) rfl ?_
        refine r_iconst (dGet dX12_calls (j := 75) rfl) kI_1 ?_
        refine r_isub (dGet dX12_calls (j := 76) rfl) ?_
        refine Run.weak [(0, .ref v0)] (by simp) (by simp [pNd]) ?_
        exact lX12_calls_130 X N d v0 v0 (v3 - (1 : Int32)) h14 q hf nv0 nv0
      · rw [if_neg c15] at hf
        refine r_if_eq_f (dGet dX12_calls (j := 71) rfl) rfl c15 ?_
        refine r_iload_n (dGet dX12_calls (j := 72) rfl) rfl ?_
        refine r_goto (dGet dX12_calls (j := 73) rfl) rfl ?_
        refine Run.weak [(0, .ref v0)] (by simp) (by simp [pNd]) ?_
        exact lX12_calls_130 X N d v0 v0 v3 h14 q hf nv0 nv0
  · rw [if_neg c6] at hf
    refine r_if_ge_f (dGet dX12_calls (j := 38) rfl) rfl c6 ?_
    refine r_aload_n (dGet dX12_calls (j := 39) rfl) nv0 rfl ?_
    refine r_iconst (dGet dX12_calls (j := 40) rfl) kI_0 ?_
    obtain ⟨h17, eh17, hf⟩ := Option.bind_eq_some_iff.mp hf
    refine r_virtual (dGet dX12_calls (j := 41) rfl) L12_638 M330 rfl rfl (Nat.le_of_ble_eq_true rfl) (oX12_faults eh17) (cX12_faults X N (d + 0) v0 (0 : Int32) h h17 eh17) ?_
    have hq := Option.some.inj hf
    subst hq
    exact r_vret (dGet dX12_calls (j := 42) rfl) rfl
def fX12_calls_30 (N : Nat) (v0 : Nat) (v1 : Int32) (v2 : Int32) (v3 : Int32) (s0 : Int32) (h : pH) : Option (pH) :=
  if s0 = 0 then (
  (getR h v0 12 101).bind fun t19 =>
  (ldI h t19 (v3 - (1 : Int32))).bind fun t20 =>
  fX12_calls_59 N v0 v1 v2 v3 s0 t20 h) else (
  (getR h v0 12 94).bind fun t21 =>
  (getI h v0 12 93).bind fun t22 =>
  (ldI h t21 (t22 - (1 : Int32))).bind fun t23 =>
  fX12_calls_59 N v0 v1 v2 v3 s0 t23 h)
theorem lX12_calls_30 (X : pX) (N d : Nat)  (v0 : Nat) (v1 : Int32) (v2 : Int32) (v3 : Int32) (s0 : Int32) (h : pH) (q : pH) (hf : fX12_calls_30 N v0 v1 v2 v3 s0 h = some q) (nv0 : ¬ v0 = 4) : Run X (d + 3) 12 false (pCd 10040) 7 none 30 [(0, .ref v0), (1, .int v1), (2, .int v2), (3, .int v3)] [.int s0] h 0 0 (none, q, 0, 0) := by
  unfold fX12_calls_30 at hf
  refine r_istore (lv' := [(4, .int s0), (0, .ref v0), (1, .int v1), (2, .int v2), (3, .int v3)]) (dGet dX12_calls (j := 19) rfl) (by decide) rfl ?_
  refine r_iload (dGet dX12_calls (j := 20) rfl) rfl ?_
  by_cases c18 : s0 = 0
  · rw [if_pos c18] at hf
    refine r_if_eq_t (dGet dX12_calls (j := 21) rfl) rfl c18 ?_
    refine r_aload_n (dGet dX12_calls (j := 30) rfl) nv0 rfl ?_
    obtain ⟨t19, et19, hf⟩ := Option.bind_eq_some_iff.mp hf
    refine r_getR (dGet dX12_calls (j := 31) rfl) F12_198 et19 ?_
    refine r_iload_n (dGet dX12_calls (j := 32) rfl) rfl ?_
    refine r_iconst (dGet dX12_calls (j := 33) rfl) kI_1 ?_
    refine r_isub (dGet dX12_calls (j := 34) rfl) ?_
    obtain ⟨t20, et20, hf⟩ := Option.bind_eq_some_iff.mp hf
    refine r_iald (dGet dX12_calls (j := 35) rfl) et20 ?_
    refine Run.weak [(0, .ref v0), (1, .int v1), (2, .int v2), (3, .int v3), (4, .int s0)] (by simp) (by simp [pNd]) ?_
    exact lX12_calls_59 X N d v0 v1 v2 v3 s0 t20 h q hf nv0
  · rw [if_neg c18] at hf
    refine r_if_eq_f (dGet dX12_calls (j := 21) rfl) rfl c18 ?_
    refine r_aload_n (dGet dX12_calls (j := 22) rfl) nv0 rfl ?_
    obtain ⟨t21, et21, hf⟩ := Option.bind_eq_some_iff.mp hf
    refine r_getR (dGet dX12_calls (j := 23) rfl) F12_178 et21 ?_
    refine r_aload_n (dGet dX12_calls (j := 24) rfl) nv0 rfl ?_
    obtain ⟨t22, et22, hf⟩ := Option.bind_eq_some_iff.mp hf
    refine r_getI (dGet dX12_calls (j := 25) rfl) F12_554 et22 ?_
    refine r_iconst (dGet dX12_calls (j := 26) rfl) kI_1 ?_
    refine r_isub (dGet dX12_calls (j := 27) rfl) ?_
    obtain ⟨t23, et23, hf⟩ := Option.bind_eq_some_iff.mp hf
    refine r_iald (dGet dX12_calls (j := 28) rfl) et23 ?_
    refine r_goto (dGet dX12_calls (j := 29) rfl) rfl ?_
    refine Run.weak [(0, .ref v0), (1, .int v1), (2, .int v2), (3, .int v3), (4, .int s0)] (by simp) (by simp [pNd]) ?_
    exact lX12_calls_59 X N d v0 v1 v2 v3 s0 t23 h q hf nv0
def fX12_calls (N : Nat) (v0 : Nat) (v1 : Int32) (h : pH) : Option (pH) := if isO h v0 12 = true then (
  (getR h v0 12 68).bind fun t24 =>
  (ldI h t24 v1).bind fun t25 =>
  (getI h v0 12 100).bind fun t26 =>
  (getR h v0 12 16).bind fun t27 =>
  (ldI h t27 v1).bind fun t28 =>
  if t28 = (9 : Int32) then (
  fX12_calls_30 N v0 v1 t25 (t26 - t25) (1 : Int32) h) else (
  fX12_calls_30 N v0 v1 t25 (t26 - t25) (0 : Int32) h)) else none
theorem oX12_calls {N : Nat} {v0 : Nat} {v1 : Int32} {h : pH} {q : pH} (hf : fX12_calls N v0 v1 h = some q) : isO h v0 12 = true := by
  unfold fX12_calls at hf
  by_cases hc : isO h v0 12 = true
  · exact hc
  · rw [if_neg hc] at hf; cases hf
theorem cX12_calls (X : pX) (N d : Nat) (v0 : Nat) (v1 : Int32) (h : pH) (q : pH) (hf : fX12_calls N v0 v1 h = some q) : Calls X (d + 3) 333 [.ref v0, .int v1] h (none, q, 0, 0) := by
  refine Calls.of M333 (Nat.le_of_ble_eq_true rfl) ?_
  show Run X (d + 3) 12 false (pCd 10040) 7 none 0 [(0, .ref v0), (1, .int v1)] [] h 0 0 (none, q, 0, 0)
  unfold fX12_calls at hf
  by_cases hc : isO h v0 12 = true
  · rw [if_pos hc] at hf
    have nv0 : ¬ v0 = 4 := isO_ne hc
    refine r_aload_n (dGet dX12_calls (j := 0) rfl) nv0 rfl ?_
    obtain ⟨t24, et24, hf⟩ := Option.bind_eq_some_iff.mp hf
    refine r_getR (dGet dX12_calls (j := 1) rfl) F12_141 et24 ?_
    refine r_iload_n (dGet dX12_calls (j := 2) rfl) rfl ?_
    obtain ⟨t25, et25, hf⟩ := Option.bind_eq_some_iff.mp hf
    refine r_iald (dGet dX12_calls (j := 3) rfl) et25 ?_
    refine r_istore_n (lv' := [(2, .int t25), (0, .ref v0), (1, .int v1)]) (dGet dX12_calls (j := 4) rfl) (by decide) rfl ?_
    refine r_aload_n (dGet dX12_calls (j := 5) rfl) nv0 rfl ?_
    obtain ⟨t26, et26, hf⟩ := Option.bind_eq_some_iff.mp hf
    refine r_getI (dGet dX12_calls (j := 6) rfl) F12_560 et26 ?_
    refine r_iload_n (dGet dX12_calls (j := 7) rfl) rfl ?_
    refine r_isub (dGet dX12_calls (j := 8) rfl) ?_
    refine r_istore_n (lv' := [(3, .int (t26 - t25)), (2, .int t25), (0, .ref v0), (1, .int v1)]) (dGet dX12_calls (j := 9) rfl) (by decide) rfl ?_
    refine r_aload_n (dGet dX12_calls (j := 10) rfl) nv0 rfl ?_
    obtain ⟨t27, et27, hf⟩ := Option.bind_eq_some_iff.mp hf
    refine r_getR (dGet dX12_calls (j := 11) rfl) F12_25 et27 ?_
    refine r_iload_n (dGet dX12_calls (j := 12) rfl) rfl ?_
    obtain ⟨t28, et28, hf⟩ := Option.bind_eq_some_iff.mp hf
    refine r_iald (dGet dX12_calls (j := 13) rfl) et28 ?_
    refine r_bipush (dGet dX12_calls (j := 14) rfl) kB_9 ?_
    by_cases c29 : t28 = (9 : Int32)
    · rw [if_pos c29] at hf
      refine r_icmp_ne_f (dGet dX12_calls (j := 15) rfl) rfl c29 ?_
      refine r_iconst (dGet dX12_calls (j := 16) rfl) kI_1 ?_
      refine r_goto (dGet dX12_calls (j := 17) rfl) rfl ?_
      refine Run.weak [(0, .ref v0), (1, .int v1), (2, .int t25), (3, .int (t26 - t25))] (by simp) (by simp [pNd]) ?_
      exact lX12_calls_30 X N d v0 v1 t25 (t26 - t25) (1 : Int32) h q hf nv0
    · rw [if_neg c29] at hf
      refine r_icmp_ne_t (dGet dX12_calls (j := 15) rfl) rfl c29 ?_
      refine r_iconst (dGet dX12_calls (j := 18) rfl) kI_0 ?_
      refine Run.weak [(0, .ref v0), (1, .int v1), (2, .int t25), (3, .int (t26 - t25))] (by simp) (by simp [pNd]) ?_
      exact lX12_calls_30 X N d v0 v1 t25 (t26 - t25) (0 : Int32) h q hf nv0
  · rw [if_neg hc] at hf; cases hf
def eX12_joinSets : List (Nat × Instr × Nat) := [(0, .iconst 0, 1), (1, .istore_n 3, 1), (2, .iload_n 3, 1), (3, .aload_n 0, 1), (4, .getfield 467, 3), (7, .if_icmp .ge 55, 3), (10, .aload_n 0, 1), (11, .getfield 134, 3), (14, .iload_n 3, 1), (15, .aload_n 0, 1), (16, .getfield 476, 3), (19, .ifCond .ne 12, 3), (22, .aload_n 0, 1), (23, .getfield 134, 3), (26, .iload_n 3, 1), (27, .baload, 1), (28, .ifCond .eq 26, 3), (31, .iload_n 2, 1), (32, .ifCond .ne 18, 3), (35, .aload_n 0, 1), (36, .getfield 138, 3), (39, .sipush 1000, 3), (42, .iload_n 1, 1), (43, .imul, 1), (44, .iload_n 3, 1), (45, .iadd, 1), (46, .baload, 1), (47, .ifCond .eq 7, 3), (50, .iconst 1, 1), (51, .goto 4, 3), (54, .iconst 0, 1), (55, .bastore, 1), (56, .iinc 3 1, 3), (59, .goto (-57), 3), (62, .aload_n 0, 1), (63, .aload_n 0, 1), (64, .getfield 476, 3), (67, .ifCond .eq 11, 3), (70, .iload_n 2, 1), (71, .ifCond .eq 7, 3), (74, .iconst 1, 1), (75, .goto 4, 3), (78, .iconst 0, 1), (79, .putfield 476, 3), (82, .return_, 1)]
theorem dX12_joinSets : dChk (pCd 9148) eX12_joinSets = true := by decide +kernel
def fX12_joinSets_79 (N : Nat) (s0 : Nat) (s1 : Int32) (h : pH) : Option (pH) :=
  (putZ h s0 12 66 s1).bind fun h1 =>
  some h1
theorem lX12_joinSets_79 (X : pX) (N d : Nat)  (s0 : Nat) (s1 : Int32) (h : pH) (q : pH) (hf : fX12_joinSets_79 N s0 s1 h = some q) (ns0 : ¬ s0 = 4) : Run X (d + 0) 12 false (pCd 9148) 4 none 79 [] [.int s1, .ref s0] h 0 0 (none, q, 0, 0) := by
  unfold fX12_joinSets_79 at hf
  obtain ⟨h1, eh1, hf⟩ := Option.bind_eq_some_iff.mp hf
  refine r_putZ (dGet dX12_joinSets (j := 43) rfl) F12_476 rfl rfl eh1 ?_
  have hq := Option.some.inj hf
  subst hq
  exact r_vret (dGet dX12_joinSets (j := 44) rfl) rfl
def fX12_joinSets_78 (N : Nat) (s0 : Nat) (h : pH) : Option (pH) :=
  fX12_joinSets_79 N s0 (0 : Int32) h
theorem lX12_joinSets_78 (X : pX) (N d : Nat)  (s0 : Nat) (h : pH) (q : pH) (hf : fX12_joinSets_78 N s0 h = some q) (ns0 : ¬ s0 = 4) : Run X (d + 0) 12 false (pCd 9148) 4 none 78 [] [.ref s0] h 0 0 (none, q, 0, 0) := by
  unfold fX12_joinSets_78 at hf
  refine r_iconst (dGet dX12_joinSets (j := 42) rfl) kI_0 ?_
  exact lX12_joinSets_79 X N d s0 (0 : Int32) h q hf ns0
def fX12_joinSets_55 (N : Nat) (k2 : Nat → Int32 → Int32 → Int32 → pH → Option (pH)) (v0 : Nat) (v1 : Int32) (v2 : Int32) (v3 : Int32) (s0 : Nat) (s1 : Int32) (s2 : Int32) (h : pH) : Option (pH) :=
  (stZ h s0 s1 s2).bind fun h2 =>
  k2 v0 v1 v2 (v3 + (1 : Int32)) h2
theorem lX12_joinSets_55 (X : pX) (N d : Nat)  (k2 : Nat → Int32 → Int32 → Int32 → pH → Option (pH)) (K2 : ∀ (w0 : Nat) (w1 : Int32) (w2 : Int32) (w3 : Int32) (h : pH) (q : pH), k2 w0 w1 w2 w3 h = some q → ¬ w0 = 4 → Run X (d + 0) 12 false (pCd 9148) 4 none 2 [(0, .ref w0), (1, .int w1), (2, .int w2), (3, .int w3)] [] h 0 0 (none, q, 0, 0)) (v0 : Nat) (v1 : Int32) (v2 : Int32) (v3 : Int32) (s0 : Nat) (s1 : Int32) (s2 : Int32) (h : pH) (q : pH) (hf : fX12_joinSets_55 N k2 v0 v1 v2 v3 s0 s1 s2 h = some q) (nv0 : ¬ v0 = 4) (ns0 : ¬ s0 = 4) : Run X (d + 0) 12 false (pCd 9148) 4 none 55 [(0, .ref v0), (1, .int v1), (2, .int v2), (3, .int v3)] [.int s2, .int s1, .ref s0] h 0 0 (none, q, 0, 0) := by
  unfold fX12_joinSets_55 at hf
  obtain ⟨h2, eh2, hf⟩ := Option.bind_eq_some_iff.mp hf
  refine r_zast (dGet dX12_joinSets (j := 31) rfl) eh2 ?_
  refine r_iinc (lv' := [(3, .int (v3 + (1 : Int32))), (0, .ref v0), (1, .int v1), (2, .int v2)]) (dGet dX12_joinSets (j := 32) rfl) rfl (by decide) kI_1 rfl ?_
  refine r_goto (dGet dX12_joinSets (j := 33) rfl) rfl ?_
  refine Run.weak [(0, .ref v0), (1, .int v1), (2, .int v2), (3, .int (v3 + (1 : Int32)))] (by simp) (by simp [pNd]) ?_
  exact K2 v0 v1 v2 (v3 + (1 : Int32)) h2 q hf nv0
def fX12_joinSets_54 (N : Nat) (k2 : Nat → Int32 → Int32 → Int32 → pH → Option (pH)) (v0 : Nat) (v1 : Int32) (v2 : Int32) (v3 : Int32) (s0 : Nat) (s1 : Int32) (h : pH) : Option (pH) :=
  fX12_joinSets_55 N k2 v0 v1 v2 v3 s0 s1 (0 : Int32) h
theorem lX12_joinSets_54 (X : pX) (N d : Nat)  (k2 : Nat → Int32 → Int32 → Int32 → pH → Option (pH)) (K2 : ∀ (w0 : Nat) (w1 : Int32) (w2 : Int32) (w3 : Int32) (h : pH) (q : pH), k2 w0 w1 w2 w3 h = some q → ¬ w0 = 4 → Run X (d + 0) 12 false (pCd 9148) 4 none 2 [(0, .ref w0), (1, .int w1), (2, .int w2), (3, .int w3)] [] h 0 0 (none, q, 0, 0)) (v0 : Nat) (v1 : Int32) (v2 : Int32) (v3 : Int32) (s0 : Nat) (s1 : Int32) (h : pH) (q : pH) (hf : fX12_joinSets_54 N k2 v0 v1 v2 v3 s0 s1 h = some q) (nv0 : ¬ v0 = 4) (ns0 : ¬ s0 = 4) : Run X (d + 0) 12 false (pCd 9148) 4 none 54 [(0, .ref v0), (1, .int v1), (2, .int v2), (3, .int v3)] [.int s1, .ref s0] h 0 0 (none, q, 0, 0) := by
  unfold fX12_joinSets_54 at hf
  refine r_iconst (dGet dX12_joinSets (j := 30) rfl) kI_0 ?_
  exact lX12_joinSets_55 X N d k2 K2 v0 v1 v2 v3 s0 s1 (0 : Int32) h q hf nv0 ns0
def fX12_joinSets_50 (N : Nat) (k2 : Nat → Int32 → Int32 → Int32 → pH → Option (pH)) (v0 : Nat) (v1 : Int32) (v2 : Int32) (v3 : Int32) (s0 : Nat) (s1 : Int32) (h : pH) : Option (pH) :=
  fX12_joinSets_55 N k2 v0 v1 v2 v3 s0 s1 (1 : Int32) h
theorem lX12_joinSets_50 (X : pX) (N d : Nat)  (k2 : Nat → Int32 → Int32 → Int32 → pH → Option (pH)) (K2 : ∀ (w0 : Nat) (w1 : Int32) (w2 : Int32) (w3 : Int32) (h : pH) (q : pH), k2 w0 w1 w2 w3 h = some q → ¬ w0 = 4 → Run X (d + 0) 12 false (pCd 9148) 4 none 2 [(0, .ref w0), (1, .int w1), (2, .int w2), (3, .int w3)] [] h 0 0 (none, q, 0, 0)) (v0 : Nat) (v1 : Int32) (v2 : Int32) (v3 : Int32) (s0 : Nat) (s1 : Int32) (h : pH) (q : pH) (hf : fX12_joinSets_50 N k2 v0 v1 v2 v3 s0 s1 h = some q) (nv0 : ¬ v0 = 4) (ns0 : ¬ s0 = 4) : Run X (d + 0) 12 false (pCd 9148) 4 none 50 [(0, .ref v0), (1, .int v1), (2, .int v2), (3, .int v3)] [.int s1, .ref s0] h 0 0 (none, q, 0, 0) := by
  unfold fX12_joinSets_50 at hf
  refine r_iconst (dGet dX12_joinSets (j := 28) rfl) kI_1 ?_
  refine r_goto (dGet dX12_joinSets (j := 29) rfl) rfl ?_
  exact lX12_joinSets_55 X N d k2 K2 v0 v1 v2 v3 s0 s1 (1 : Int32) h q hf nv0 ns0
def fX12_joinSets_31 (N : Nat) (k2 : Nat → Int32 → Int32 → Int32 → pH → Option (pH)) (v0 : Nat) (v1 : Int32) (v2 : Int32) (v3 : Int32) (s0 : Nat) (s1 : Int32) (h : pH) : Option (pH) :=
  if v2 = 0 then (
  (getR h v0 12 67).bind fun t4 =>
  (ldZ h t4 (((1000 : Int32) * v1) + v3)).bind fun t5 =>
  if t5 = 0 then (
  fX12_joinSets_54 N k2 v0 v1 v2 v3 s0 s1 h) else (
  fX12_joinSets_50 N k2 v0 v1 v2 v3 s0 s1 h)) else (
  fX12_joinSets_50 N k2 v0 v1 v2 v3 s0 s1 h)
theorem lX12_joinSets_31 (X : pX) (N d : Nat)  (k2 : Nat → Int32 → Int32 → Int32 → pH → Option (pH)) (K2 : ∀ (w0 : Nat) (w1 : Int32) (w2 : Int32) (w3 : Int32) (h : pH) (q : pH), k2 w0 w1 w2 w3 h = some q → ¬ w0 = 4 → Run X (d + 0) 12 false (pCd 9148) 4 none 2 [(0, .ref w0), (1, .int w1), (2, .int w2), (3, .int w3)] [] h 0 0 (none, q, 0, 0)) (v0 : Nat) (v1 : Int32) (v2 : Int32) (v3 : Int32) (s0 : Nat) (s1 : Int32) (h : pH) (q : pH) (hf : fX12_joinSets_31 N k2 v0 v1 v2 v3 s0 s1 h = some q) (nv0 : ¬ v0 = 4) (ns0 : ¬ s0 = 4) : Run X (d + 0) 12 false (pCd 9148) 4 none 31 [(0, .ref v0), (1, .int v1), (2, .int v2), (3, .int v3)] [.int s1, .ref s0] h 0 0 (none, q, 0, 0) := by
  unfold fX12_joinSets_31 at hf
  refine r_iload_n (dGet dX12_joinSets (j := 17) rfl) rfl ?_
  by_cases c3 : v2 = 0
  · rw [if_pos c3] at hf
    refine r_if_ne_f (dGet dX12_joinSets (j := 18) rfl) rfl c3 ?_
    refine r_aload_n (dGet dX12_joinSets (j := 19) rfl) nv0 rfl ?_
    obtain ⟨t4, et4, hf⟩ := Option.bind_eq_some_iff.mp hf
    refine r_getR (dGet dX12_joinSets (j := 20) rfl) F12_138 et4 ?_
    refine r_sipush (dGet dX12_joinSets (j := 21) rfl) kS_1000 ?_
    refine r_iload_n (dGet dX12_joinSets (j := 22) rfl) rfl ?_
    refine r_imul (dGet dX12_joinSets (j := 23) rfl) ?_
    refine r_iload_n (dGet dX12_joinSets (j := 24) rfl) rfl ?_
    refine r_iadd (dGet dX12_joinSets (j := 25) rfl) ?_
    obtain ⟨t5, et5, hf⟩ := Option.bind_eq_some_iff.mp hf
    refine r_zald (dGet dX12_joinSets (j := 26) rfl) et5 ?_
    by_cases c6 : t5 = 0
    · rw [if_pos c6] at hf
      refine r_if_eq_t (dGet dX12_joinSets (j := 27) rfl) rfl c6 ?_
      exact lX12_joinSets_54 X N d k2 K2 v0 v1 v2 v3 s0 s1 h q hf nv0 ns0
    · rw [if_neg c6] at hf
      refine r_if_eq_f (dGet dX12_joinSets (j := 27) rfl) rfl c6 ?_
      exact lX12_joinSets_50 X N d k2 K2 v0 v1 v2 v3 s0 s1 h q hf nv0 ns0
  · rw [if_neg c3] at hf
    refine r_if_ne_t (dGet dX12_joinSets (j := 18) rfl) rfl c3 ?_
    exact lX12_joinSets_50 X N d k2 K2 v0 v1 v2 v3 s0 s1 h q hf nv0 ns0
def fX12_joinSets_2 (N : Nat) : Nat → Nat → Int32 → Int32 → Int32 → pH → Option (pH)
  | 0, _, _, _, _, _ => none
  | n + 1, v0, v1, v2, v3, h => (getI h v0 12 62).bind fun t7 =>
  if t7 ≤ v3 then (
  (getI h v0 12 66).bind fun t9 =>
  if t9 = 0 then (
  fX12_joinSets_78 N v0 h) else (
  if v2 = 0 then (
  fX12_joinSets_78 N v0 h) else (
  fX12_joinSets_79 N v0 (1 : Int32) h))) else (
  (getR h v0 12 65).bind fun t12 =>
  (getI h v0 12 66).bind fun t13 =>
  if t13 = 0 then (
  (getR h v0 12 65).bind fun t15 =>
  (ldZ h t15 v3).bind fun t16 =>
  if t16 = 0 then (
  if t12 = 4 then none else
  fX12_joinSets_54 N (fX12_joinSets_2 N n) v0 v1 v2 v3 t12 v3 h) else (
  if t12 = 4 then none else
  fX12_joinSets_31 N (fX12_joinSets_2 N n) v0 v1 v2 v3 t12 v3 h)) else (
  if t12 = 4 then none else
  fX12_joinSets_31 N (fX12_joinSets_2 N n) v0 v1 v2 v3 t12 v3 h))
theorem lX12_joinSets_2 (X : pX) (N d : Nat)  : ∀ (n : Nat) (v0 : Nat) (v1 : Int32) (v2 : Int32) (v3 : Int32) (h : pH) (q : pH), fX12_joinSets_2 N n v0 v1 v2 v3 h = some q → ¬ v0 = 4 → Run X (d + 0) 12 false (pCd 9148) 4 none 2 [(0, .ref v0), (1, .int v1), (2, .int v2), (3, .int v3)] [] h 0 0 (none, q, 0, 0) := by
  intro n
  induction n with
  | zero => intro v0 v1 v2 v3 h q hf; cases hf
  | succ n ih =>
    intro v0 v1 v2 v3 h q hf nv0
    unfold fX12_joinSets_2 at hf
    refine r_iload_n (dGet dX12_joinSets (j := 2) rfl) rfl ?_
    refine r_aload_n (dGet dX12_joinSets (j := 3) rfl) nv0 rfl ?_
    obtain ⟨t7, et7, hf⟩ := Option.bind_eq_some_iff.mp hf
    refine r_getI (dGet dX12_joinSets (j := 4) rfl) F12_467 et7 ?_
    by_cases c8 : t7 ≤ v3
    · rw [if_pos c8] at hf
      refine r_icmp_ge_t (dGet dX12_joinSets (j := 5) rfl) rfl c8 ?_
      refine r_aload_n (dGet dX12_joinSets (j := 34) rfl) nv0 rfl ?_
      refine r_aload_n (dGet dX12_joinSets (j := 35) rfl) nv0 rfl ?_
      obtain ⟨t9, et9, hf⟩ := Option.bind_eq_some_iff.mp hf
      refine r_getI (dGet dX12_joinSets (j := 36) rfl) F12_476 et9 ?_
      by_cases c10 : t9 = 0
      · rw [if_pos c10] at hf
        refine r_if_eq_t (dGet dX12_joinSets (j := 37) rfl) rfl c10 ?_
        refine Run.weak [] (by simp) (by simp [pNd]) ?_
        exact lX12_joinSets_78 X N d v0 h q hf nv0
      · rw [if_neg c10] at hf
        refine r_if_eq_f (dGet dX12_joinSets (j := 37) rfl) rfl c10 ?_
        refine r_iload_n (dGet dX12_joinSets (j := 38) rfl) rfl ?_
        by_cases c11 : v2 = 0
        · rw [if_pos c11] at hf
          refine r_if_eq_t (dGet dX12_joinSets (j := 39) rfl) rfl c11 ?_
          refine Run.weak [] (by simp) (by simp [pNd]) ?_
          exact lX12_joinSets_78 X N d v0 h q hf nv0
        · rw [if_neg c11] at hf
          refine r_if_eq_f (dGet dX12_joinSets (j := 39) rfl) rfl c11 ?_
          refine r_iconst (dGet dX12_joinSets (j := 40) rfl) kI_1 ?_
          refine r_goto (dGet dX12_joinSets (j := 41) rfl) rfl ?_
          refine Run.weak [] (by simp) (by simp [pNd]) ?_
          exact lX12_joinSets_79 X N d v0 (1 : Int32) h q hf nv0
    · rw [if_neg c8] at hf
      refine r_icmp_ge_f (dGet dX12_joinSets (j := 5) rfl) rfl c8 ?_
      refine r_aload_n (dGet dX12_joinSets (j := 6) rfl) nv0 rfl ?_
      obtain ⟨t12, et12, hf⟩ := Option.bind_eq_some_iff.mp hf
      refine r_getR (dGet dX12_joinSets (j := 7) rfl) F12_134 et12 ?_
      refine r_iload_n (dGet dX12_joinSets (j := 8) rfl) rfl ?_
      refine r_aload_n (dGet dX12_joinSets (j := 9) rfl) nv0 rfl ?_
      obtain ⟨t13, et13, hf⟩ := Option.bind_eq_some_iff.mp hf
      refine r_getI (dGet dX12_joinSets (j := 10) rfl) F12_476 et13 ?_
      by_cases c14 : t13 = 0
      · rw [if_pos c14] at hf
        refine r_if_ne_f (dGet dX12_joinSets (j := 11) rfl) rfl c14 ?_
        refine r_aload_n (dGet dX12_joinSets (j := 12) rfl) nv0 rfl ?_
        obtain ⟨t15, et15, hf⟩ := Option.bind_eq_some_iff.mp hf
        refine r_getR (dGet dX12_joinSets (j := 13) rfl) F12_134 et15 ?_
        refine r_iload_n (dGet dX12_joinSets (j := 14) rfl) rfl ?_
        obtain ⟨t16, et16, hf⟩ := Option.bind_eq_some_iff.mp hf
        refine r_zald (dGet dX12_joinSets (j := 15) rfl) et16 ?_
        by_cases c17 : t16 = 0
        · rw [if_pos c17] at hf
          refine r_if_eq_t (dGet dX12_joinSets (j := 16) rfl) rfl c17 ?_
          by_cases nt12 : t12 = 4
          · rw [if_pos nt12] at hf; cases hf
          rw [if_neg nt12] at hf
          exact lX12_joinSets_54 X N d (fX12_joinSets_2 N n) ih v0 v1 v2 v3 t12 v3 h q hf nv0 nt12
        · rw [if_neg c17] at hf
          refine r_if_eq_f (dGet dX12_joinSets (j := 16) rfl) rfl c17 ?_
          by_cases nt12 : t12 = 4
          · rw [if_pos nt12] at hf; cases hf
          rw [if_neg nt12] at hf
          exact lX12_joinSets_31 X N d (fX12_joinSets_2 N n) ih v0 v1 v2 v3 t12 v3 h q hf nv0 nt12
      · rw [if_neg c14] at hf
        refine r_if_ne_t (dGet dX12_joinSets (j := 11) rfl) rfl c14 ?_
        by_cases nt12 : t12 = 4
        · rw [if_pos nt12] at hf; cases hf
        rw [if_neg nt12] at hf
        exact lX12_joinSets_31 X N d (fX12_joinSets_2 N n) ih v0 v1 v2 v3 t12 v3 h q hf nv0 nt12
def fX12_joinSets (N : Nat) (v0 : Nat) (v1 : Int32) (v2 : Int32) (h : pH) : Option (pH) := if isO h v0 12 = true then (
  fX12_joinSets_2 N N v0 v1 v2 (0 : Int32) h) else none
theorem oX12_joinSets {N : Nat} {v0 : Nat} {v1 : Int32} {v2 : Int32} {h : pH} {q : pH} (hf : fX12_joinSets N v0 v1 v2 h = some q) : isO h v0 12 = true := by
  unfold fX12_joinSets at hf
  by_cases hc : isO h v0 12 = true
  · exact hc
  · rw [if_neg hc] at hf; cases hf
theorem cX12_joinSets (X : pX) (N d : Nat) (v0 : Nat) (v1 : Int32) (v2 : Int32) (h : pH) (q : pH) (hf : fX12_joinSets N v0 v1 v2 h = some q) : Calls X (d + 0) 301 [.ref v0, .int v1, .int v2] h (none, q, 0, 0) := by
  refine Calls.of M301 (Nat.le_of_ble_eq_true rfl) ?_
  show Run X (d + 0) 12 false (pCd 9148) 4 none 0 [(0, .ref v0), (1, .int v1), (2, .int v2)] [] h 0 0 (none, q, 0, 0)
  unfold fX12_joinSets at hf
  by_cases hc : isO h v0 12 = true
  · rw [if_pos hc] at hf
    have nv0 : ¬ v0 = 4 := isO_ne hc
    refine r_iconst (dGet dX12_joinSets (j := 0) rfl) kI_0 ?_
    refine r_istore_n (lv' := [(3, .int (0 : Int32)), (0, .ref v0), (1, .int v1), (2, .int v2)]) (dGet dX12_joinSets (j := 1) rfl) (by decide) rfl ?_
    refine Run.weak [(0, .ref v0), (1, .int v1), (2, .int v2), (3, .int (0 : Int32))] (by simp) (by simp [pNd]) ?_
    exact lX12_joinSets_2 X N d N v0 v1 v2 (0 : Int32) h q hf nv0
  · rw [if_neg hc] at hf; cases hf
def eX12_keepSets : List (Nat × Instr × Nat) := [(0, .iconst 0, 1), (1, .istore_n 2, 1), (2, .iload_n 2, 1), (3, .aload_n 0, 1), (4, .getfield 467, 3), (7, .if_icmp .ge 42, 3), (10, .aload_n 0, 1), (11, .getfield 138, 3), (14, .sipush 1000, 3), (17, .iload_n 1, 1), (18, .imul, 1), (19, .iload_n 2, 1), (20, .iadd, 1), (21, .aload_n 0, 1), (22, .getfield 476, 3), (25, .ifCond .ne 12, 3), (28, .aload_n 0, 1), (29, .getfield 134, 3), (32, .iload_n 2, 1), (33, .baload, 1), (34, .ifCond .eq 7, 3), (37, .iconst 1, 1), (38, .goto 4, 3), (41, .iconst 0, 1), (42, .bastore, 1), (43, .iinc 2 1, 3), (46, .goto (-44), 3), (49, .return_, 1)]
theorem dX12_keepSets : dChk (pCd 9140) eX12_keepSets = true := by decide +kernel
def fX12_keepSets_42 (N : Nat) (k2 : Nat → Int32 → Int32 → pH → Option (pH)) (v0 : Nat) (v1 : Int32) (v2 : Int32) (s0 : Nat) (s1 : Int32) (s2 : Int32) (h : pH) : Option (pH) :=
  (stZ h s0 s1 s2).bind fun h1 =>
  k2 v0 v1 (v2 + (1 : Int32)) h1
theorem lX12_keepSets_42 (X : pX) (N d : Nat)  (k2 : Nat → Int32 → Int32 → pH → Option (pH)) (K2 : ∀ (w0 : Nat) (w1 : Int32) (w2 : Int32) (h : pH) (q : pH), k2 w0 w1 w2 h = some q → ¬ w0 = 4 → Run X (d + 0) 12 false (pCd 9140) 3 none 2 [(0, .ref w0), (1, .int w1), (2, .int w2)] [] h 0 0 (none, q, 0, 0)) (v0 : Nat) (v1 : Int32) (v2 : Int32) (s0 : Nat) (s1 : Int32) (s2 : Int32) (h : pH) (q : pH) (hf : fX12_keepSets_42 N k2 v0 v1 v2 s0 s1 s2 h = some q) (nv0 : ¬ v0 = 4) (ns0 : ¬ s0 = 4) : Run X (d + 0) 12 false (pCd 9140) 3 none 42 [(0, .ref v0), (1, .int v1), (2, .int v2)] [.int s2, .int s1, .ref s0] h 0 0 (none, q, 0, 0) := by
  unfold fX12_keepSets_42 at hf
  obtain ⟨h1, eh1, hf⟩ := Option.bind_eq_some_iff.mp hf
  refine r_zast (dGet dX12_keepSets (j := 24) rfl) eh1 ?_
  refine r_iinc (lv' := [(2, .int (v2 + (1 : Int32))), (0, .ref v0), (1, .int v1)]) (dGet dX12_keepSets (j := 25) rfl) rfl (by decide) kI_1 rfl ?_
  refine r_goto (dGet dX12_keepSets (j := 26) rfl) rfl ?_
  refine Run.weak [(0, .ref v0), (1, .int v1), (2, .int (v2 + (1 : Int32)))] (by simp) (by simp [pNd]) ?_
  exact K2 v0 v1 (v2 + (1 : Int32)) h1 q hf nv0
def fX12_keepSets_37 (N : Nat) (k2 : Nat → Int32 → Int32 → pH → Option (pH)) (v0 : Nat) (v1 : Int32) (v2 : Int32) (s0 : Nat) (s1 : Int32) (h : pH) : Option (pH) :=
  fX12_keepSets_42 N k2 v0 v1 v2 s0 s1 (1 : Int32) h
theorem lX12_keepSets_37 (X : pX) (N d : Nat)  (k2 : Nat → Int32 → Int32 → pH → Option (pH)) (K2 : ∀ (w0 : Nat) (w1 : Int32) (w2 : Int32) (h : pH) (q : pH), k2 w0 w1 w2 h = some q → ¬ w0 = 4 → Run X (d + 0) 12 false (pCd 9140) 3 none 2 [(0, .ref w0), (1, .int w1), (2, .int w2)] [] h 0 0 (none, q, 0, 0)) (v0 : Nat) (v1 : Int32) (v2 : Int32) (s0 : Nat) (s1 : Int32) (h : pH) (q : pH) (hf : fX12_keepSets_37 N k2 v0 v1 v2 s0 s1 h = some q) (nv0 : ¬ v0 = 4) (ns0 : ¬ s0 = 4) : Run X (d + 0) 12 false (pCd 9140) 3 none 37 [(0, .ref v0), (1, .int v1), (2, .int v2)] [.int s1, .ref s0] h 0 0 (none, q, 0, 0) := by
  unfold fX12_keepSets_37 at hf
  refine r_iconst (dGet dX12_keepSets (j := 21) rfl) kI_1 ?_
  refine r_goto (dGet dX12_keepSets (j := 22) rfl) rfl ?_
  exact lX12_keepSets_42 X N d k2 K2 v0 v1 v2 s0 s1 (1 : Int32) h q hf nv0 ns0
def fX12_keepSets_2 (N : Nat) : Nat → Nat → Int32 → Int32 → pH → Option (pH)
  | 0, _, _, _, _ => none
  | n + 1, v0, v1, v2, h => (getI h v0 12 62).bind fun t2 =>
  if t2 ≤ v2 then (
  some h) else (
  (getR h v0 12 67).bind fun t4 =>
  (getI h v0 12 66).bind fun t5 =>
  if t5 = 0 then (
  (getR h v0 12 65).bind fun t7 =>
  (ldZ h t7 v2).bind fun t8 =>
  if t8 = 0 then (
  if t4 = 4 then none else
  fX12_keepSets_42 N (fX12_keepSets_2 N n) v0 v1 v2 t4 (((1000 : Int32) * v1) + v2) (0 : Int32) h) else (
  if t4 = 4 then none else
  fX12_keepSets_37 N (fX12_keepSets_2 N n) v0 v1 v2 t4 (((1000 : Int32) * v1) + v2) h)) else (
  if t4 = 4 then none else
  fX12_keepSets_37 N (fX12_keepSets_2 N n) v0 v1 v2 t4 (((1000 : Int32) * v1) + v2) h))
theorem lX12_keepSets_2 (X : pX) (N d : Nat)  : ∀ (n : Nat) (v0 : Nat) (v1 : Int32) (v2 : Int32) (h : pH) (q : pH), fX12_keepSets_2 N n v0 v1 v2 h = some q → ¬ v0 = 4 → Run X (d + 0) 12 false (pCd 9140) 3 none 2 [(0, .ref v0), (1, .int v1), (2, .int v2)] [] h 0 0 (none, q, 0, 0) := by
  intro n
  induction n with
  | zero => intro v0 v1 v2 h q hf; cases hf
  | succ n ih =>
    intro v0 v1 v2 h q hf nv0
    unfold fX12_keepSets_2 at hf
    refine r_iload_n (dGet dX12_keepSets (j := 2) rfl) rfl ?_
    refine r_aload_n (dGet dX12_keepSets (j := 3) rfl) nv0 rfl ?_
    obtain ⟨t2, et2, hf⟩ := Option.bind_eq_some_iff.mp hf
    refine r_getI (dGet dX12_keepSets (j := 4) rfl) F12_467 et2 ?_
    by_cases c3 : t2 ≤ v2
    · rw [if_pos c3] at hf
      refine r_icmp_ge_t (dGet dX12_keepSets (j := 5) rfl) rfl c3 ?_
      have hq := Option.some.inj hf
      subst hq
      exact r_vret (dGet dX12_keepSets (j := 27) rfl) rfl
    · rw [if_neg c3] at hf
      refine r_icmp_ge_f (dGet dX12_keepSets (j := 5) rfl) rfl c3 ?_
      refine r_aload_n (dGet dX12_keepSets (j := 6) rfl) nv0 rfl ?_
      obtain ⟨t4, et4, hf⟩ := Option.bind_eq_some_iff.mp hf
      refine r_getR (dGet dX12_keepSets (j := 7) rfl) F12_138 et4 ?_
      refine r_sipush (dGet dX12_keepSets (j := 8) rfl) kS_1000 ?_
      refine r_iload_n (dGet dX12_keepSets (j := 9) rfl) rfl ?_
      refine r_imul (dGet dX12_keepSets (j := 10) rfl) ?_
      refine r_iload_n (dGet dX12_keepSets (j := 11) rfl) rfl ?_
      refine r_iadd (dGet dX12_keepSets (j := 12) rfl) ?_
      refine r_aload_n (dGet dX12_keepSets (j := 13) rfl) nv0 rfl ?_
      obtain ⟨t5, et5, hf⟩ := Option.bind_eq_some_iff.mp hf
      refine r_getI (dGet dX12_keepSets (j := 14) rfl) F12_476 et5 ?_
      by_cases c6 : t5 = 0
      · rw [if_pos c6] at hf
        refine r_if_ne_f (dGet dX12_keepSets (j := 15) rfl) rfl c6 ?_
        refine r_aload_n (dGet dX12_keepSets (j := 16) rfl) nv0 rfl ?_
        obtain ⟨t7, et7, hf⟩ := Option.bind_eq_some_iff.mp hf
        refine r_getR (dGet dX12_keepSets (j := 17) rfl) F12_134 et7 ?_
        refine r_iload_n (dGet dX12_keepSets (j := 18) rfl) rfl ?_
        obtain ⟨t8, et8, hf⟩ := Option.bind_eq_some_iff.mp hf
        refine r_zald (dGet dX12_keepSets (j := 19) rfl) et8 ?_
        by_cases c9 : t8 = 0
        · rw [if_pos c9] at hf
          refine r_if_eq_t (dGet dX12_keepSets (j := 20) rfl) rfl c9 ?_
          refine r_iconst (dGet dX12_keepSets (j := 23) rfl) kI_0 ?_
          by_cases nt4 : t4 = 4
          · rw [if_pos nt4] at hf; cases hf
          rw [if_neg nt4] at hf
          exact lX12_keepSets_42 X N d (fX12_keepSets_2 N n) ih v0 v1 v2 t4 (((1000 : Int32) * v1) + v2) (0 : Int32) h q hf nv0 nt4
        · rw [if_neg c9] at hf
          refine r_if_eq_f (dGet dX12_keepSets (j := 20) rfl) rfl c9 ?_
          by_cases nt4 : t4 = 4
          · rw [if_pos nt4] at hf; cases hf
          rw [if_neg nt4] at hf
          exact lX12_keepSets_37 X N d (fX12_keepSets_2 N n) ih v0 v1 v2 t4 (((1000 : Int32) * v1) + v2) h q hf nv0 nt4
      · rw [if_neg c6] at hf
        refine r_if_ne_t (dGet dX12_keepSets (j := 15) rfl) rfl c6 ?_
        by_cases nt4 : t4 = 4
        · rw [if_pos nt4] at hf; cases hf
        rw [if_neg nt4] at hf
        exact lX12_keepSets_37 X N d (fX12_keepSets_2 N n) ih v0 v1 v2 t4 (((1000 : Int32) * v1) + v2) h q hf nv0 nt4
def fX12_keepSets (N : Nat) (v0 : Nat) (v1 : Int32) (h : pH) : Option (pH) := if isO h v0 12 = true then (
  fX12_keepSets_2 N N v0 v1 (0 : Int32) h) else none
theorem oX12_keepSets {N : Nat} {v0 : Nat} {v1 : Int32} {h : pH} {q : pH} (hf : fX12_keepSets N v0 v1 h = some q) : isO h v0 12 = true := by
  unfold fX12_keepSets at hf
  by_cases hc : isO h v0 12 = true
  · exact hc
  · rw [if_neg hc] at hf; cases hf
theorem cX12_keepSets (X : pX) (N d : Nat) (v0 : Nat) (v1 : Int32) (h : pH) (q : pH) (hf : fX12_keepSets N v0 v1 h = some q) : Calls X (d + 0) 299 [.ref v0, .int v1] h (none, q, 0, 0) := by
  refine Calls.of M299 (Nat.le_of_ble_eq_true rfl) ?_
  show Run X (d + 0) 12 false (pCd 9140) 3 none 0 [(0, .ref v0), (1, .int v1)] [] h 0 0 (none, q, 0, 0)
  unfold fX12_keepSets at hf
  by_cases hc : isO h v0 12 = true
  · rw [if_pos hc] at hf
    have nv0 : ¬ v0 = 4 := isO_ne hc
    refine r_iconst (dGet dX12_keepSets (j := 0) rfl) kI_0 ?_
    refine r_istore_n (lv' := [(2, .int (0 : Int32)), (0, .ref v0), (1, .int v1)]) (dGet dX12_keepSets (j := 1) rfl) (by decide) rfl ?_
    refine Run.weak [(0, .ref v0), (1, .int v1), (2, .int (0 : Int32))] (by simp) (by simp [pNd]) ?_
    exact lX12_keepSets_2 X N d N v0 v1 (0 : Int32) h q hf nv0
  · rw [if_neg hc] at hf; cases hf
def eX12_isObject : List (Nat × Instr × Nat) := [(0, .iload_n 0, 1), (1, .bipush 10, 2), (3, .if_icmp .ge 13, 3), (6, .iload_n 0, 1), (7, .iconst 2, 1), (8, .if_icmp .eq 8, 3), (11, .iload_n 0, 1), (12, .iconst 4, 1), (13, .if_icmp .ne 7, 3), (16, .iconst 1, 1), (17, .goto 4, 3), (20, .iconst 0, 1), (21, .ireturn, 1)]
theorem dX12_isObject : dChk (pCd 9120) eX12_isObject = true := by decide +kernel
def fX12_isObject (N : Nat) (v0 : Int32) (h : pH) : Option (Int32 × pH) :=
  if (10 : Int32) ≤ v0 then (
  some ((1 : Int32), h)) else (
  if v0 = (2 : Int32) then (
  some ((1 : Int32), h)) else (
  if v0 = (4 : Int32) then (
  some ((1 : Int32), h)) else (
  some ((0 : Int32), h))))
theorem cX12_isObject (X : pX) (N d : Nat) (v0 : Int32) (h : pH) (q : Int32 × pH) (hf : fX12_isObject N v0 h = some q) : Calls X (d + 0) 294 [.int v0] h (some (.int q.1), q.2, 0, 0) := by
  refine Calls.of M294 (Nat.le_of_ble_eq_true rfl) ?_
  show Run X (d + 0) 12 false (pCd 9120) 1 (some .boolean) 0 [(0, .int v0)] [] h 0 0 (some (.int q.1), q.2, 0, 0)
  unfold fX12_isObject at hf
  refine r_iload_n (dGet dX12_isObject (j := 0) rfl) rfl ?_
  refine r_bipush (dGet dX12_isObject (j := 1) rfl) kB_10 ?_
  by_cases c1 : (10 : Int32) ≤ v0
  · rw [if_pos c1] at hf
    refine r_icmp_ge_t (dGet dX12_isObject (j := 2) rfl) rfl c1 ?_
    refine r_iconst (dGet dX12_isObject (j := 9) rfl) kI_1 ?_
    refine r_goto (dGet dX12_isObject (j := 10) rfl) rfl ?_
    have hq := Option.some.inj hf
    subst hq
    exact r_iret (dGet dX12_isObject (j := 12) rfl) rfl (by decide)
  · rw [if_neg c1] at hf
    refine r_icmp_ge_f (dGet dX12_isObject (j := 2) rfl) rfl c1 ?_
    refine r_iload_n (dGet dX12_isObject (j := 3) rfl) rfl ?_
    refine r_iconst (dGet dX12_isObject (j := 4) rfl) kI_2 ?_
    by_cases c2 : v0 = (2 : Int32)
    · rw [if_pos c2] at hf
      refine r_icmp_eq_t (dGet dX12_isObject (j := 5) rfl) rfl c2 ?_
      refine r_iconst (dGet dX12_isObject (j := 9) rfl) kI_1 ?_
      refine r_goto (dGet dX12_isObject (j := 10) rfl) rfl ?_
      have hq := Option.some.inj hf
      subst hq
      exact r_iret (dGet dX12_isObject (j := 12) rfl) rfl (by decide)
    · rw [if_neg c2] at hf
      refine r_icmp_eq_f (dGet dX12_isObject (j := 5) rfl) rfl c2 ?_
      refine r_iload_n (dGet dX12_isObject (j := 6) rfl) rfl ?_
      refine r_iconst (dGet dX12_isObject (j := 7) rfl) kI_4 ?_
      by_cases c3 : v0 = (4 : Int32)
      · rw [if_pos c3] at hf
        refine r_icmp_ne_f (dGet dX12_isObject (j := 8) rfl) rfl c3 ?_
        refine r_iconst (dGet dX12_isObject (j := 9) rfl) kI_1 ?_
        refine r_goto (dGet dX12_isObject (j := 10) rfl) rfl ?_
        have hq := Option.some.inj hf
        subst hq
        exact r_iret (dGet dX12_isObject (j := 12) rfl) rfl (by decide)
      · rw [if_neg c3] at hf
        refine r_icmp_ne_t (dGet dX12_isObject (j := 8) rfl) rfl c3 ?_
        refine r_iconst (dGet dX12_isObject (j := 11) rfl) kI_0 ?_
        have hq := Option.some.inj hf
        subst hq
        exact r_iret (dGet dX12_isObject (j := 12) rfl) rfl (by decide)
