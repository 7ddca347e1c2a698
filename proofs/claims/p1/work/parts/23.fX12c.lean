def eX12_compared : List (Nat × Instr × Nat) := [(0, .iload_n 1, 1), (1, .sipush 317, 3), (4, .if_icmp .eq 10, 3), (7, .iload_n 1, 1), (8, .sipush 289, 3), (11, .if_icmp .ne 67, 3), (14, .iload_n 2, 1), (15, .iload_n 3, 1), (16, .if_icmp .ne 12, 3), (19, .iload_n 2, 1), (20, .ifCond .eq 40, 3), (23, .iload_n 2, 1), (24, .iconst 1, 1), (25, .if_icmp .eq 35, 3), (28, .iload_n 2, 1), (29, .invokestatic 546, 3), (32, .ifCond .eq 32, 3), (35, .iload_n 3, 1), (36, .invokestatic 546, 3), (39, .ifCond .eq 25, 3), (42, .aload_n 0, 1), (43, .iload_n 2, 1), (44, .iload_n 3, 1), (45, .invokevirtual 499, 3), (48, .ifCond .ne 12, 3), (51, .aload_n 0, 1), (52, .iload_n 3, 1), (53, .iload_n 2, 1), (54, .invokevirtual 499, 3), (57, .ifCond .eq 7, 3), (60, .iconst 1, 1), (61, .goto 4, 3), (64, .iconst 0, 1), (65, .istore 4, 2), (67, .iload 4, 2), (69, .ifCond .eq 7, 3), (72, .iconst 1, 1), (73, .goto 4, 3), (76, .iconst 5, 1), (77, .ireturn, 1), (78, .iload_n 2, 1), (79, .ifCond .ne 7, 3), (82, .iload_n 3, 1), (83, .ifCond .eq 5, 3), (86, .iconst 5, 1), (87, .ireturn, 1), (88, .iload_n 1, 1), (89, .bipush 60, 2), (91, .if_icmp .eq 10, 3), (94, .iload_n 1, 1), (95, .sipush 316, 3), (98, .if_icmp .ne 7, 3), (101, .iconst 1, 1), (102, .goto 4, 3), (105, .iconst 0, 1), (106, .ireturn, 1)]
theorem dX12_compared : dChk (pCd 9117) eX12_compared = true := by decide +kernel
def fX12_compared_65 (N : Nat) (s0 : Int32) (h : pH) : Option (Int32 × pH) :=
  if s0 = 0 then (
  some ((5 : Int32), h)) else (
  some ((1 : Int32), h))
theorem lX12_compared_65 (X : pX) (N d : Nat)  (s0 : Int32) (h : pH) (q : Int32 × pH) (hf : fX12_compared_65 N s0 h = some q) : Run X (d + 2) 12 false (pCd 9117) 5 (some .int) 65 [] [.int s0] h 0 0 (some (.int q.1), q.2, 0, 0) := by
  unfold fX12_compared_65 at hf
  refine r_istore (lv' := [(4, .int s0)]) (dGet dX12_compared (j := 33) rfl) (by decide) rfl ?_
  refine r_iload (dGet dX12_compared (j := 34) rfl) rfl ?_
  by_cases c1 : s0 = 0
  · rw [if_pos c1] at hf
    refine r_if_eq_t (dGet dX12_compared (j := 35) rfl) rfl c1 ?_
    refine r_iconst (dGet dX12_compared (j := 38) rfl) kI_5 ?_
    have hq := Option.some.inj hf
    subst hq
    exact r_iret (dGet dX12_compared (j := 39) rfl) rfl rfl
  · rw [if_neg c1] at hf
    refine r_if_eq_f (dGet dX12_compared (j := 35) rfl) rfl c1 ?_
    refine r_iconst (dGet dX12_compared (j := 36) rfl) kI_1 ?_
    refine r_goto (dGet dX12_compared (j := 37) rfl) rfl ?_
    have hq := Option.some.inj hf
    subst hq
    exact r_iret (dGet dX12_compared (j := 39) rfl) rfl rfl
def fX12_compared_64 (N : Nat)  (h : pH) : Option (Int32 × pH) :=
  fX12_compared_65 N (0 : Int32) h
theorem lX12_compared_64 (X : pX) (N d : Nat)   (h : pH) (q : Int32 × pH) (hf : fX12_compared_64 N  h = some q) : Run X (d + 2) 12 false (pCd 9117) 5 (some .int) 64 [] [] h 0 0 (some (.int q.1), q.2, 0, 0) := by
  unfold fX12_compared_64 at hf
  refine r_iconst (dGet dX12_compared (j := 32) rfl) kI_0 ?_
  exact lX12_compared_65 X N d (0 : Int32) h q hf 
def fX12_compared_60 (N : Nat)  (h : pH) : Option (Int32 × pH) :=
  fX12_compared_65 N (1 : Int32) h
theorem lX12_compared_60 (X : pX) (N d : Nat)   (h : pH) (q : Int32 × pH) (hf : fX12_compared_60 N  h = some q) : Run X (d + 2) 12 false (pCd 9117) 5 (some .int) 60 [] [] h 0 0 (some (.int q.1), q.2, 0, 0) := by
  unfold fX12_compared_60 at hf
  refine r_iconst (dGet dX12_compared (j := 30) rfl) kI_1 ?_
  refine r_goto (dGet dX12_compared (j := 31) rfl) rfl ?_
  exact lX12_compared_65 X N d (1 : Int32) h q hf 
def fX12_compared_28 (N : Nat) (v0 : Nat) (v2 : Int32) (v3 : Int32) (h : pH) : Option (Int32 × pH) :=
  (fX12_isObject N v2 h).bind fun q2 =>
  if q2.1 = 0 then (
  fX12_compared_64 N  q2.2) else (
  (fX12_isObject N v3 q2.2).bind fun q4 =>
  if q4.1 = 0 then (
  fX12_compared_64 N  q4.2) else (
  (fX12_isSub N v0 v2 v3 q4.2).bind fun q6 =>
  if q6.1 = 0 then (
  (fX12_isSub N v0 v3 v2 q6.2).bind fun q8 =>
  if q8.1 = 0 then (
  fX12_compared_64 N  q8.2) else (
  fX12_compared_60 N  q8.2)) else (
  fX12_compared_60 N  q6.2)))
theorem lX12_compared_28 (X : pX) (N d : Nat)  (v0 : Nat) (v2 : Int32) (v3 : Int32) (h : pH) (q : Int32 × pH) (hf : fX12_compared_28 N v0 v2 v3 h = some q) (nv0 : ¬ v0 = 4) : Run X (d + 2) 12 false (pCd 9117) 5 (some .int) 28 [(0, .ref v0), (2, .int v2), (3, .int v3)] [] h 0 0 (some (.int q.1), q.2, 0, 0) := by
  unfold fX12_compared_28 at hf
  refine r_iload_n (dGet dX12_compared (j := 14) rfl) rfl ?_
  obtain ⟨q2, eq2, hf⟩ := Option.bind_eq_some_iff.mp hf
  refine r_static (dGet dX12_compared (j := 15) rfl) (by decide +kernel) (by decide +kernel) L12_546 M294 rfl rfl (Nat.le_of_ble_eq_true rfl) (cX12_isObject X N (d + 1) v2 h q2 eq2) ?_
  by_cases c3 : q2.1 = 0
  · rw [if_pos c3] at hf
    refine r_if_eq_t (dGet dX12_compared (j := 16) rfl) rfl c3 ?_
    refine Run.weak [] (by simp) (by simp [pNd]) ?_
    exact lX12_compared_64 X N d  q2.2 q hf 
  · rw [if_neg c3] at hf
    refine r_if_eq_f (dGet dX12_compared (j := 16) rfl) rfl c3 ?_
    refine r_iload_n (dGet dX12_compared (j := 17) rfl) rfl ?_
    obtain ⟨q4, eq4, hf⟩ := Option.bind_eq_some_iff.mp hf
    refine r_static (dGet dX12_compared (j := 18) rfl) (by decide +kernel) (by decide +kernel) L12_546 M294 rfl rfl (Nat.le_of_ble_eq_true rfl) (cX12_isObject X N (d + 1) v3 q2.2 q4 eq4) ?_
    by_cases c5 : q4.1 = 0
    · rw [if_pos c5] at hf
      refine r_if_eq_t (dGet dX12_compared (j := 19) rfl) rfl c5 ?_
      refine Run.weak [] (by simp) (by simp [pNd]) ?_
      exact lX12_compared_64 X N d  q4.2 q hf 
    · rw [if_neg c5] at hf
      refine r_if_eq_f (dGet dX12_compared (j := 19) rfl) rfl c5 ?_
      refine r_aload_n (dGet dX12_compared (j := 20) rfl) nv0 rfl ?_
      refine r_iload_n (dGet dX12_compared (j := 21) rfl) rfl ?_
      refine r_iload_n (dGet dX12_compared (j := 22) rfl) rfl ?_
      obtain ⟨q6, eq6, hf⟩ := Option.bind_eq_some_iff.mp hf
      refine r_virtual (dGet dX12_compared (j := 23) rfl) L12_499 M291 rfl rfl (Nat.le_of_ble_eq_true rfl) (oX12_isSub eq6) (cX12_isSub X N (d + 0) v0 v2 v3 q4.2 q6 eq6) ?_
      by_cases c7 : q6.1 = 0
      · rw [if_pos c7] at hf
        refine r_if_ne_f (dGet dX12_compared (j := 24) rfl) rfl c7 ?_
        refine r_aload_n (dGet dX12_compared (j := 25) rfl) nv0 rfl ?_
        refine r_iload_n (dGet dX12_compared (j := 26) rfl) rfl ?_
        refine r_iload_n (dGet dX12_compared (j := 27) rfl) rfl ?_
        obtain ⟨q8, eq8, hf⟩ := Option.bind_eq_some_iff.mp hf
        refine r_virtual (dGet dX12_compared (j := 28) rfl) L12_499 M291 rfl rfl (Nat.le_of_ble_eq_true rfl) (oX12_isSub eq8) (cX12_isSub X N (d + 0) v0 v3 v2 q6.2 q8 eq8) ?_
        by_cases c9 : q8.1 = 0
        · rw [if_pos c9] at hf
          refine r_if_eq_t (dGet dX12_compared (j := 29) rfl) rfl c9 ?_
          refine Run.weak [] (by simp) (by simp [pNd]) ?_
          exact lX12_compared_64 X N d  q8.2 q hf 
        · rw [if_neg c9] at hf
          refine r_if_eq_f (dGet dX12_compared (j := 29) rfl) rfl c9 ?_
          refine Run.weak [] (by simp) (by simp [pNd]) ?_
          exact lX12_compared_60 X N d  q8.2 q hf 
      · rw [if_neg c7] at hf
        refine r_if_ne_t (dGet dX12_compared (j := 24) rfl) rfl c7 ?_
        refine Run.weak [] (by simp) (by simp [pNd]) ?_
        exact lX12_compared_60 X N d  q6.2 q hf 
def fX12_compared_14 (N : Nat) (v0 : Nat) (v2 : Int32) (v3 : Int32) (h : pH) : Option (Int32 × pH) :=
  if v2 = v3 then (
  if v2 = 0 then (
  fX12_compared_60 N  h) else (
  if v2 = (1 : Int32) then (
  fX12_compared_60 N  h) else (
  fX12_compared_28 N v0 v2 v3 h))) else (
  fX12_compared_28 N v0 v2 v3 h)
theorem lX12_compared_14 (X : pX) (N d : Nat)  (v0 : Nat) (v2 : Int32) (v3 : Int32) (h : pH) (q : Int32 × pH) (hf : fX12_compared_14 N v0 v2 v3 h = some q) (nv0 : ¬ v0 = 4) : Run X (d + 2) 12 false (pCd 9117) 5 (some .int) 14 [(0, .ref v0), (2, .int v2), (3, .int v3)] [] h 0 0 (some (.int q.1), q.2, 0, 0) := by
  unfold fX12_compared_14 at hf
  refine r_iload_n (dGet dX12_compared (j := 6) rfl) rfl ?_
  refine r_iload_n (dGet dX12_compared (j := 7) rfl) rfl ?_
  by_cases c10 : v2 = v3
  · rw [if_pos c10] at hf
    refine r_icmp_ne_f (dGet dX12_compared (j := 8) rfl) rfl c10 ?_
    refine r_iload_n (dGet dX12_compared (j := 9) rfl) rfl ?_
    by_cases c11 : v2 = 0
    · rw [if_pos c11] at hf
      refine r_if_eq_t (dGet dX12_compared (j := 10) rfl) rfl c11 ?_
      refine Run.weak [] (by simp) (by simp [pNd]) ?_
      exact lX12_compared_60 X N d  h q hf 
    · rw [if_neg c11] at hf
      refine r_if_eq_f (dGet dX12_compared (j := 10) rfl) rfl c11 ?_
      refine r_iload_n (dGet dX12_compared (j := 11) rfl) rfl ?_
      refine r_iconst (dGet dX12_compared (j := 12) rfl) kI_1 ?_
      by_cases c12 : v2 = (1 : Int32)
      · rw [if_pos c12] at hf
        refine r_icmp_eq_t (dGet dX12_compared (j := 13) rfl) rfl c12 ?_
        refine Run.weak [] (by simp) (by simp [pNd]) ?_
        exact lX12_compared_60 X N d  h q hf 
      · rw [if_neg c12] at hf
        refine r_icmp_eq_f (dGet dX12_compared (j := 13) rfl) rfl c12 ?_
        exact lX12_compared_28 X N d v0 v2 v3 h q hf nv0
  · rw [if_neg c10] at hf
    refine r_icmp_ne_t (dGet dX12_compared (j := 8) rfl) rfl c10 ?_
    exact lX12_compared_28 X N d v0 v2 v3 h q hf nv0
def fX12_compared (N : Nat) (v0 : Nat) (v1 : Int32) (v2 : Int32) (v3 : Int32) (h : pH) : Option (Int32 × pH) := if isO h v0 12 = true then (
  if v1 = (317 : Int32) then (
  fX12_compared_14 N v0 v2 v3 h) else (
  if v1 = (289 : Int32) then (
  fX12_compared_14 N v0 v2 v3 h) else (
  if v2 = 0 then (
  if v3 = 0 then (
  if v1 = (60 : Int32) then (
  some ((1 : Int32), h)) else (
  if v1 = (316 : Int32) then (
  some ((1 : Int32), h)) else (
  some ((0 : Int32), h)))) else (
  some ((5 : Int32), h))) else (
  some ((5 : Int32), h))))) else none
theorem oX12_compared {N : Nat} {v0 : Nat} {v1 : Int32} {v2 : Int32} {v3 : Int32} {h : pH} {q : Int32 × pH} (hf : fX12_compared N v0 v1 v2 v3 h = some q) : isO h v0 12 = true := by
  unfold fX12_compared at hf
  by_cases hc : isO h v0 12 = true
  · exact hc
  · rw [if_neg hc] at hf; cases hf
theorem cX12_compared (X : pX) (N d : Nat) (v0 : Nat) (v1 : Int32) (v2 : Int32) (v3 : Int32) (h : pH) (q : Int32 × pH) (hf : fX12_compared N v0 v1 v2 v3 h = some q) : Calls X (d + 2) 293 [.ref v0, .int v1, .int v2, .int v3] h (some (.int q.1), q.2, 0, 0) := by
  refine Calls.of M293 (Nat.le_of_ble_eq_true rfl) ?_
  show Run X (d + 2) 12 false (pCd 9117) 5 (some .int) 0 [(0, .ref v0), (1, .int v1), (2, .int v2), (3, .int v3)] [] h 0 0 (some (.int q.1), q.2, 0, 0)
  unfold fX12_compared at hf
  by_cases hc : isO h v0 12 = true
  · rw [if_pos hc] at hf
    have nv0 : ¬ v0 = 4 := isO_ne hc
    refine r_iload_n (dGet dX12_compared (j := 0) rfl) rfl ?_
    refine r_sipush (dGet dX12_compared (j := 1) rfl) kS_317 ?_
    by_cases c13 : v1 = (317 : Int32)
    · rw [if_pos c13] at hf
      refine r_icmp_eq_t (dGet dX12_compared (j := 2) rfl) rfl c13 ?_
      refine Run.weak [(0, .ref v0), (2, .int v2), (3, .int v3)] (by simp) (by simp [pNd]) ?_
      exact lX12_compared_14 X N d v0 v2 v3 h q hf nv0
    · rw [if_neg c13] at hf
      refine r_icmp_eq_f (dGet dX12_compared (j := 2) rfl) rfl c13 ?_
      refine r_iload_n (dGet dX12_compared (j := 3) rfl) rfl ?_
      refine r_sipush (dGet dX12_compared (j := 4) rfl) kS_289 ?_
      by_cases c14 : v1 = (289 : Int32)
      · rw [if_pos c14] at hf
        refine r_icmp_ne_f (dGet dX12_compared (j := 5) rfl) rfl c14 ?_
        refine Run.weak [(0, .ref v0), (2, .int v2), (3, .int v3)] (by simp) (by simp [pNd]) ?_
        exact lX12_compared_14 X N d v0 v2 v3 h q hf nv0
      · rw [if_neg c14] at hf
        refine r_icmp_ne_t (dGet dX12_compared (j := 5) rfl) rfl c14 ?_
        refine r_iload_n (dGet dX12_compared (j := 40) rfl) rfl ?_
        by_cases c15 : v2 = 0
        · rw [if_pos c15] at hf
          refine r_if_ne_f (dGet dX12_compared (j := 41) rfl) rfl c15 ?_
          refine r_iload_n (dGet dX12_compared (j := 42) rfl) rfl ?_
          by_cases c16 : v3 = 0
          · rw [if_pos c16] at hf
            refine r_if_eq_t (dGet dX12_compared (j := 43) rfl) rfl c16 ?_
            refine r_iload_n (dGet dX12_compared (j := 46) rfl) rfl ?_
            refine r_bipush (dGet dX12_compared (j := 47) rfl) kB_60 ?_
            by_cases c17 : v1 = (60 : Int32)
            · rw [if_pos c17] at hf
              refine r_icmp_eq_t (dGet dX12_compared (j := 48) rfl) rfl c17 ?_
              refine r_iconst (dGet dX12_compared (j := 52) rfl) kI_1 ?_
              refine r_goto (dGet dX12_compared (j := 53) rfl) rfl ?_
              have hq := Option.some.inj hf
              subst hq
              exact r_iret (dGet dX12_compared (j := 55) rfl) rfl rfl
            · rw [if_neg c17] at hf
              refine r_icmp_eq_f (dGet dX12_compared (j := 48) rfl) rfl c17 ?_
              refine r_iload_n (dGet dX12_compared (j := 49) rfl) rfl ?_
              refine r_sipush (dGet dX12_compared (j := 50) rfl) kS_316 ?_
              by_cases c18 : v1 = (316 : Int32)
              · rw [if_pos c18] at hf
                refine r_icmp_ne_f (dGet dX12_compared (j := 51) rfl) rfl c18 ?_
                refine r_iconst (dGet dX12_compared (j := 52) rfl) kI_1 ?_
                refine r_goto (dGet dX12_compared (j := 53) rfl) rfl ?_
                have hq := Option.some.inj hf
                subst hq
                exact r_iret (dGet dX12_compared (j := 55) rfl) rfl rfl
              · rw [if_neg c18] at hf
                refine r_icmp_ne_t (dGet dX12_compared (j := 51) rfl) rfl c18 ?_
                refine r_iconst (dGet dX12_compared (j := 54) rfl) kI_0 ?_
                have hq := Option.some.inj hf
                subst hq
                exact r_iret (dGet dX12_compared (j := 55) rfl) rfl rfl
          · rw [if_neg c16] at hf
            refine r_if_eq_f (dGet dX12_compared (j := 43) rfl) rfl c16 ?_
            refine r_iconst (dGet dX12_compared (j := 44) rfl) kI_5 ?_
            have hq := Option.some.inj hf
            subst hq
            exact r_iret (dGet dX12_compared (j := 45) rfl) rfl rfl
        · rw [if_neg c15] at hf
          refine r_if_ne_t (dGet dX12_compared (j := 41) rfl) rfl c15 ?_
          refine r_iconst (dGet dX12_compared (j := 44) rfl) kI_5 ?_
          have hq := Option.some.inj hf
          subst hq
          exact r_iret (dGet dX12_compared (j := 45) rfl) rfl rfl
  · rw [if_neg hc] at hf; cases hf
def eX12_field : List (Nat × Instr × Nat) := [(0, .aload_n 0, 1), (1, .getfield 37, 3), (4, .iload_n 2, 1), (5, .iaload, 1), (6, .istore_n 3, 1), (7, .iload_n 3, 1), (8, .iconst 2, 1), (9, .if_icmp .ne 24, 3), (12, .aload_n 0, 1), (13, .getfield 34, 3), (16, .iload_n 1, 1), (17, .iaload, 1), (18, .bipush 7, 2), (20, .if_icmp .ne 13, 3), (23, .aload_n 0, 1), (24, .getfield 25, 3), (27, .iload_n 1, 1), (28, .bipush 18, 2), (30, .iastore, 1), (31, .iconst 0, 1), (32, .ireturn, 1), (33, .iload_n 3, 1), (34, .bipush 10, 2), (36, .if_icmp .ge 7, 3), (39, .iconst (-1), 1), (40, .goto 18, 3), (43, .aload_n 0, 1), (44, .iload_n 3, 1), (45, .bipush 10, 2), (47, .isub, 1), (48, .aload_n 0, 1), (49, .getfield 34, 3), (52, .iload_n 1, 1), (53, .iaload, 1), (54, .iconst 0, 1), (55, .invokevirtual 422, 3), (58, .istore 4, 2), (60, .iload 4, 2), (62, .ifCond .ge 5, 3), (65, .iconst 5, 1), (66, .ireturn, 1), (67, .aload_n 0, 1), (68, .getfield 34, 3), (71, .iload_n 1, 1), (72, .aload_n 0, 1), (73, .getfield 119, 3), (76, .iload 4, 2), (78, .iaload, 1), (79, .iastore, 1), (80, .aload_n 0, 1), (81, .getfield 103, 3), (84, .iload 4, 2), (86, .iaload, 1), (87, .ireturn, 1)]
theorem dX12_field : dChk (pCd 9101) eX12_field = true := by decide +kernel
def fX12_field_58 (N : Nat) (v0 : Nat) (v1 : Int32) (s0 : Int32) (h : pH) : Option (Int32 × pH) :=
  if 0 ≤ s0 then (
  (getR h v0 12 19).bind fun t2 =>
  (getR h v0 12 52).bind fun t3 =>
  (ldI h t3 s0).bind fun t4 =>
  (stI h t2 v1 t4).bind fun h5 =>
  (getR h5 v0 12 47).bind fun t6 =>
  (ldI h5 t6 s0).bind fun t7 =>
  some (t7, h5)) else (
  some ((5 : Int32), h))
theorem lX12_field_58 (X : pX) (N d : Nat)  (v0 : Nat) (v1 : Int32) (s0 : Int32) (h : pH) (q : Int32 × pH) (hf : fX12_field_58 N v0 v1 s0 h = some q) (nv0 : ¬ v0 = 4) : Run X (d + 1) 12 false (pCd 9101) 5 (some .int) 58 [(0, .ref v0), (1, .int v1)] [.int s0] h 0 0 (some (.int q.1), q.2, 0, 0) := by
  unfold fX12_field_58 at hf
  refine r_istore (lv' := [(4, .int s0), (0, .ref v0), (1, .int v1)]) (dGet dX12_field (j := 36) rfl) (by decide) rfl ?_
  refine r_iload (dGet dX12_field (j := 37) rfl) rfl ?_
  by_cases c1 : 0 ≤ s0
  · rw [if_pos c1] at hf
    refine r_if_ge_t (dGet dX12_field (j := 38) rfl) rfl c1 ?_
    refine r_aload_n (dGet dX12_field (j := 41) rfl) nv0 rfl ?_
    obtain ⟨t2, et2, hf⟩ := Option.bind_eq_some_iff.mp hf
    refine r_getR (dGet dX12_field (j := 42) rfl) F12_34 et2 ?_
    refine r_iload_n (dGet dX12_field (j := 43) rfl) rfl ?_
    refine r_aload_n (dGet dX12_field (j := 44) rfl) nv0 rfl ?_
    obtain ⟨t3, et3, hf⟩ := Option.bind_eq_some_iff.mp hf
    refine r_getR (dGet dX12_field (j := 45) rfl) F12_119 et3 ?_
    refine r_iload (dGet dX12_field (j := 46) rfl) rfl ?_
    obtain ⟨t4, et4, hf⟩ := Option.bind_eq_some_iff.mp hf
    refine r_iald (dGet dX12_field (j := 47) rfl) et4 ?_
    obtain ⟨h5, eh5, hf⟩ := Option.bind_eq_some_iff.mp hf
    refine r_iast (dGet dX12_field (j := 48) rfl) eh5 ?_
    refine r_aload_n (dGet dX12_field (j := 49) rfl) nv0 rfl ?_
    obtain ⟨t6, et6, hf⟩ := Option.bind_eq_some_iff.mp hf
    refine r_getR (dGet dX12_field (j := 50) rfl) F12_103 et6 ?_
    refine r_iload (dGet dX12_field (j := 51) rfl) rfl ?_
    obtain ⟨t7, et7, hf⟩ := Option.bind_eq_some_iff.mp hf
    refine r_iald (dGet dX12_field (j := 52) rfl) et7 ?_
    have hq := Option.some.inj hf
    subst hq
    exact r_iret (dGet dX12_field (j := 53) rfl) rfl rfl
  · rw [if_neg c1] at hf
    refine r_if_ge_f (dGet dX12_field (j := 38) rfl) rfl c1 ?_
    refine r_iconst (dGet dX12_field (j := 39) rfl) kI_5 ?_
    have hq := Option.some.inj hf
    subst hq
    exact r_iret (dGet dX12_field (j := 40) rfl) rfl rfl
def fX12_field_33 (N : Nat) (v0 : Nat) (v1 : Int32) (v3 : Int32) (h : pH) : Option (Int32 × pH) :=
  if (10 : Int32) ≤ v3 then (
  (getR h v0 12 19).bind fun t9 =>
  (ldI h t9 v1).bind fun t10 =>
  (fX12_memberOf N v0 (v3 - (10 : Int32)) t10 (0 : Int32) h).bind fun q11 =>
  fX12_field_58 N v0 v1 q11.1 q11.2) else (
  fX12_field_58 N v0 v1 (-1 : Int32) h)
theorem lX12_field_33 (X : pX) (N d : Nat)  (v0 : Nat) (v1 : Int32) (v3 : Int32) (h : pH) (q : Int32 × pH) (hf : fX12_field_33 N v0 v1 v3 h = some q) (nv0 : ¬ v0 = 4) : Run X (d + 1) 12 false (pCd 9101) 5 (some .int) 33 [(0, .ref v0), (1, .int v1), (3, .int v3)] [] h 0 0 (some (.int q.1), q.2, 0, 0) := by
  unfold fX12_field_33 at hf
  refine r_iload_n (dGet dX12_field (j := 21) rfl) rfl ?_
  refine r_bipush (dGet dX12_field (j := 22) rfl) kB_10 ?_
  by_cases c8 : (10 : Int32) ≤ v3
  · rw [if_pos c8] at hf
    refine r_icmp_ge_t (dGet dX12_field (j := 23) rfl) rfl c8 ?_
    refine r_aload_n (dGet dX12_field (j := 26) rfl) nv0 rfl ?_
    refine r_iload_n (dGet dX12_field (j := 27) rfl) rfl ?_
    refine r_bipush (dGet dX12_field (j := 28) rfl) kB_10 ?_
    refine r_isub (dGet dX12_field (j := 29) rfl) ?_
    refine r_aload_n (dGet dX12_field (j := 30) rfl) nv0 rfl ?_
    obtain ⟨t9, et9, hf⟩ := Option.bind_eq_some_iff.mp hf
    refine r_getR (dGet dX12_field (j := 31) rfl) F12_34 et9 ?_
    refine r_iload_n (dGet dX12_field (j := 32) rfl) rfl ?_
    obtain ⟨t10, et10, hf⟩ := Option.bind_eq_some_iff.mp hf
    refine r_iald (dGet dX12_field (j := 33) rfl) et10 ?_
    refine r_iconst (dGet dX12_field (j := 34) rfl) kI_0 ?_
    obtain ⟨q11, eq11, hf⟩ := Option.bind_eq_some_iff.mp hf
    refine r_virtual (dGet dX12_field (j := 35) rfl) L12_422 M277 rfl rfl (Nat.le_of_ble_eq_true rfl) (oX12_memberOf eq11) (cX12_memberOf X N (d + 0) v0 (v3 - (10 : Int32)) t10 (0 : Int32) h q11 eq11) ?_
    refine Run.weak [(0, .ref v0), (1, .int v1)] (by simp) (by simp [pNd]) ?_
    exact lX12_field_58 X N d v0 v1 q11.1 q11.2 q hf nv0
  · rw [if_neg c8] at hf
    refine r_icmp_ge_f (dGet dX12_field (j := 23) rfl) rfl c8 ?_
    refine r_iconst (dGet dX12_field (j := 24) rfl) kI_m1 ?_
    refine r_goto (dGet dX12_field (j := 25) rfl) rfl ?_
    refine Run.weak [(0, .ref v0), (1, .int v1)] (by simp) (by simp [pNd]) ?_
    exact lX12_field_58 X N d v0 v1 (-1 : Int32) h q hf nv0
def fX12_field (N : Nat) (v0 : Nat) (v1 : Int32) (v2 : Int32) (h : pH) : Option (Int32 × pH) := if isO h v0 12 = true then (
  (getR h v0 12 20).bind fun t12 =>
  (ldI h t12 v2).bind fun t13 =>
  if t13 = (2 : Int32) then (
  (getR h v0 12 19).bind fun t15 =>
  (ldI h t15 v1).bind fun t16 =>
  if t16 = (7 : Int32) then (
  (getR h v0 12 16).bind fun t18 =>
  (stI h t18 v1 (18 : Int32)).bind fun h19 =>
  some ((0 : Int32), h19)) else (
  fX12_field_33 N v0 v1 t13 h)) else (
  fX12_field_33 N v0 v1 t13 h)) else none
theorem oX12_field {N : Nat} {v0 : Nat} {v1 : Int32} {v2 : Int32} {h : pH} {q : Int32 × pH} (hf : fX12_field N v0 v1 v2 h = some q) : isO h v0 12 = true := by
  unfold fX12_field at hf
  by_cases hc : isO h v0 12 = true
  · exact hc
  · rw [if_neg hc] at hf; cases hf
theorem cX12_field (X : pX) (N d : Nat) (v0 : Nat) (v1 : Int32) (v2 : Int32) (h : pH) (q : Int32 × pH) (hf : fX12_field N v0 v1 v2 h = some q) : Calls X (d + 1) 289 [.ref v0, .int v1, .int v2] h (some (.int q.1), q.2, 0, 0) := by
  refine Calls.of M289 (Nat.le_of_ble_eq_true rfl) ?_
  show Run X (d + 1) 12 false (pCd 9101) 5 (some .int) 0 [(0, .ref v0), (1, .int v1), (2, .int v2)] [] h 0 0 (some (.int q.1), q.2, 0, 0)
  unfold fX12_field at hf
  by_cases hc : isO h v0 12 = true
  · rw [if_pos hc] at hf
    have nv0 : ¬ v0 = 4 := isO_ne hc
    refine r_aload_n (dGet dX12_field (j := 0) rfl) nv0 rfl ?_
    obtain ⟨t12, et12, hf⟩ := Option.bind_eq_some_iff.mp hf
    refine r_getR (dGet dX12_field (j := 1) rfl) F12_37 et12 ?_
    refine r_iload_n (dGet dX12_field (j := 2) rfl) rfl ?_
    obtain ⟨t13, et13, hf⟩ := Option.bind_eq_some_iff.mp hf
    refine r_iald (dGet dX12_field (j := 3) rfl) et13 ?_
    refine r_istore_n (lv' := [(3, .int t13), (0, .ref v0), (1, .int v1), (2, .int v2)]) (dGet dX12_field (j := 4) rfl) (by decide) rfl ?_
    refine r_iload_n (dGet dX12_field (j := 5) rfl) rfl ?_
    refine r_iconst (dGet dX12_field (j := 6) rfl) kI_2 ?_
    by_cases c14 : t13 = (2 : Int32)
    · rw [if_pos c14] at hf
      refine r_icmp_ne_f (dGet dX12_field (j := 7) rfl) rfl c14 ?_
      refine r_aload_n (dGet dX12_field (j := 8) rfl) nv0 rfl ?_
      obtain ⟨t15, et15, hf⟩ := Option.bind_eq_some_iff.mp hf
      refine r_getR (dGet dX12_field (j := 9) rfl) F12_34 et15 ?_
      refine r_iload_n (dGet dX12_field (j := 10) rfl) rfl ?_
      obtain ⟨t16, et16, hf⟩ := Option.bind_eq_some_iff.mp hf
      refine r_iald (dGet dX12_field (j := 11) rfl) et16 ?_
      refine r_bipush (dGet dX12_field (j := 12) rfl) kB_7 ?_
      by_cases c17 : t16 = (7 : Int32)
      · rw [if_pos c17] at hf
        refine r_icmp_ne_f (dGet dX12_field (j := 13) rfl) rfl c17 ?_
        refine r_aload_n (dGet dX12_field (j := 14) rfl) nv0 rfl ?_
        obtain ⟨t18, et18, hf⟩ := Option.bind_eq_some_iff.mp hf
        refine r_getR (dGet dX12_field (j := 15) rfl) F12_25 et18 ?_
        refine r_iload_n (dGet dX12_field (j := 16) rfl) rfl ?_
        refine r_bipush (dGet dX12_field (j := 17) rfl) kB_18 ?_
        obtain ⟨h19, eh19, hf⟩ := Option.bind_eq_some_iff.mp hf
        refine r_iast (dGet dX12_field (j := 18) rfl) eh19 ?_
        refine r_iconst (dGet dX12_field (j := 19) rfl) kI_0 ?_
        have hq := Option.some.inj hf
        subst hq
        exact r_iret (dGet dX12_field (j := 20) rfl) rfl rfl
      · rw [if_neg c17] at hf
        refine r_icmp_ne_t (dGet dX12_field (j := 13) rfl) rfl c17 ?_
        refine Run.weak [(0, .ref v0), (1, .int v1), (3, .int t13)] (by simp) (by simp [pNd]) ?_
        exact lX12_field_33 X N d v0 v1 t13 h q hf nv0
    · rw [if_neg c14] at hf
      refine r_icmp_ne_t (dGet dX12_field (j := 7) rfl) rfl c14 ?_
      refine Run.weak [(0, .ref v0), (1, .int v1), (3, .int t13)] (by simp) (by simp [pNd]) ?_
      exact lX12_field_33 X N d v0 v1 t13 h q hf nv0
  · rw [if_neg hc] at hf; cases hf
def eX12_classOf : List (Nat × Instr × Nat) := [(0, .iconst 0, 1), (1, .istore_n 2, 1), (2, .iload_n 2, 1), (3, .aload_n 0, 1), (4, .getfield 397, 3), (7, .if_icmp .ge 21, 3), (10, .aload_n 0, 1), (11, .getfield 79, 3), (14, .iload_n 2, 1), (15, .iaload, 1), (16, .iload_n 1, 1), (17, .if_icmp .ne 5, 3), (20, .iload_n 2, 1), (21, .ireturn, 1), (22, .iinc 2 1, 3), (25, .goto (-23), 3), (28, .iconst (-1), 1), (29, .ireturn, 1)]
theorem dX12_classOf : dChk (pCd 9033) eX12_classOf = true := by decide +kernel
def fX12_classOf_2 (N : Nat) : Nat → Nat → Int32 → Int32 → pH → Option (Int32 × pH)
  | 0, _, _, _, _ => none
  | n + 1, v0, v1, v2, h => (getI h v0 12 37).bind fun t1 =>
  if t1 ≤ v2 then (
  some ((-1 : Int32), h)) else (
  (getR h v0 12 38).bind fun t3 =>
  (ldI h t3 v2).bind fun t4 =>
  if t4 = v1 then (
  some (v2, h)) else (
  fX12_classOf_2 N n v0 v1 (v2 + (1 : Int32)) h))
theorem lX12_classOf_2 (X : pX) (N d : Nat)  : ∀ (n : Nat) (v0 : Nat) (v1 : Int32) (v2 : Int32) (h : pH) (q : Int32 × pH), fX12_classOf_2 N n v0 v1 v2 h = some q → ¬ v0 = 4 → Run X (d + 0) 12 false (pCd 9033) 3 (some .int) 2 [(0, .ref v0), (1, .int v1), (2, .int v2)] [] h 0 0 (some (.int q.1), q.2, 0, 0) := by
  intro n
  induction n with
  | zero => intro v0 v1 v2 h q hf; cases hf
  | succ n ih =>
    intro v0 v1 v2 h q hf nv0
    unfold fX12_classOf_2 at hf
    refine r_iload_n (dGet dX12_classOf (j := 2) rfl) rfl ?_
    refine r_aload_n (dGet dX12_classOf (j := 3) rfl) nv0 rfl ?_
    obtain ⟨t1, et1, hf⟩ := Option.bind_eq_some_iff.mp hf
    refine r_getI (dGet dX12_classOf (j := 4) rfl) F12_397 et1 ?_
    by_cases c2 : t1 ≤ v2
    · rw [if_pos c2] at hf
      refine r_icmp_ge_t (dGet dX12_classOf (j := 5) rfl) rfl c2 ?_
      refine r_iconst (dGet dX12_classOf (j := 16) rfl) kI_m1 ?_
      have hq := Option.some.inj hf
      subst hq
      exact r_iret (dGet dX12_classOf (j := 17) rfl) rfl rfl
    · rw [if_neg c2] at hf
      refine r_icmp_ge_f (dGet dX12_classOf (j := 5) rfl) rfl c2 ?_
      refine r_aload_n (dGet dX12_classOf (j := 6) rfl) nv0 rfl ?_
      obtain ⟨t3, et3, hf⟩ := Option.bind_eq_some_iff.mp hf
      refine r_getR (dGet dX12_classOf (j := 7) rfl) F12_79 et3 ?_
      refine r_iload_n (dGet dX12_classOf (j := 8) rfl) rfl ?_
      obtain ⟨t4, et4, hf⟩ := Option.bind_eq_some_iff.mp hf
      refine r_iald (dGet dX12_classOf (j := 9) rfl) et4 ?_
      refine r_iload_n (dGet dX12_classOf (j := 10) rfl) rfl ?_
      by_cases c5 : t4 = v1
      · rw [if_pos c5] at hf
        refine r_icmp_ne_f (dGet dX12_classOf (j := 11) rfl) rfl c5 ?_
        refine r_iload_n (dGet dX12_classOf (j := 12) rfl) rfl ?_
        have hq := Option.some.inj hf
        subst hq
        exact r_iret (dGet dX12_classOf (j := 13) rfl) rfl rfl
      · rw [if_neg c5] at hf
        refine r_icmp_ne_t (dGet dX12_classOf (j := 11) rfl) rfl c5 ?_
        refine r_iinc (lv' := [(2, .int (v2 + (1 : Int32))), (0, .ref v0), (1, .int v1)]) (dGet dX12_classOf (j := 14) rfl) rfl (by decide) kI_1 rfl ?_
        refine r_goto (dGet dX12_classOf (j := 15) rfl) rfl ?_
        refine Run.weak [(0, .ref v0), (1, .int v1), (2, .int (v2 + (1 : Int32)))] (by simp) (by simp [pNd]) ?_
        exact ih v0 v1 (v2 + (1 : Int32)) h q hf nv0
def fX12_classOf (N : Nat) (v0 : Nat) (v1 : Int32) (h : pH) : Option (Int32 × pH) := if isO h v0 12 = true then (
  fX12_classOf_2 N N v0 v1 (0 : Int32) h) else none
theorem oX12_classOf {N : Nat} {v0 : Nat} {v1 : Int32} {h : pH} {q : Int32 × pH} (hf : fX12_classOf N v0 v1 h = some q) : isO h v0 12 = true := by
  unfold fX12_classOf at hf
  by_cases hc : isO h v0 12 = true
  · exact hc
  · rw [if_neg hc] at hf; cases hf
theorem cX12_classOf (X : pX) (N d : Nat) (v0 : Nat) (v1 : Int32) (h : pH) (q : Int32 × pH) (hf : fX12_classOf N v0 v1 h = some q) : Calls X (d + 0) 272 [.ref v0, .int v1] h (some (.int q.1), q.2, 0, 0) := by
  refine Calls.of M272 (Nat.le_of_ble_eq_true rfl) ?_
  show Run X (d + 0) 12 false (pCd 9033) 3 (some .int) 0 [(0, .ref v0), (1, .int v1)] [] h 0 0 (some (.int q.1), q.2, 0, 0)
  unfold fX12_classOf at hf
  by_cases hc : isO h v0 12 = true
  · rw [if_pos hc] at hf
    have nv0 : ¬ v0 = 4 := isO_ne hc
    refine r_iconst (dGet dX12_classOf (j := 0) rfl) kI_0 ?_
    refine r_istore_n (lv' := [(2, .int (0 : Int32)), (0, .ref v0), (1, .int v1)]) (dGet dX12_classOf (j := 1) rfl) (by decide) rfl ?_
    refine Run.weak [(0, .ref v0), (1, .int v1), (2, .int (0 : Int32))] (by simp) (by simp [pNd]) ?_
    exact lX12_classOf_2 X N d N v0 v1 (0 : Int32) h q hf nv0
  · rw [if_neg hc] at hf; cases hf
def eX12_meantClass : List (Nat × Instr × Nat) := [(0, .aload_n 0, 1), (1, .aload_n 0, 1), (2, .getfield 34, 3), (5, .iload_n 1, 1), (6, .iaload, 1), (7, .invokevirtual 412, 3), (10, .istore_n 2, 1), (11, .aload_n 0, 1), (12, .getfield 34, 3), (15, .iload_n 1, 1), (16, .iload_n 2, 1), (17, .iastore, 1), (18, .iload_n 2, 1), (19, .ifCond .ge 7, 3), (22, .iconst 5, 1), (23, .goto 7, 3), (26, .bipush 10, 2), (28, .iload_n 2, 1), (29, .iadd, 1), (30, .ireturn, 1)]
theorem dX12_meantClass : dChk (pCd 9097) eX12_meantClass = true := by decide +kernel
def fX12_meantClass (N : Nat) (v0 : Nat) (v1 : Int32) (h : pH) : Option (Int32 × pH) := if isO h v0 12 = true then (
  (getR h v0 12 19).bind fun t1 =>
  (ldI h t1 v1).bind fun t2 =>
  (fX12_classOf N v0 t2 h).bind fun q3 =>
  (getR q3.2 v0 12 19).bind fun t4 =>
  (stI q3.2 t4 v1 q3.1).bind fun h5 =>
  if 0 ≤ q3.1 then (
  some (((10 : Int32) + q3.1), h5)) else (
  some ((5 : Int32), h5))) else none
theorem oX12_meantClass {N : Nat} {v0 : Nat} {v1 : Int32} {h : pH} {q : Int32 × pH} (hf : fX12_meantClass N v0 v1 h = some q) : isO h v0 12 = true := by
  unfold fX12_meantClass at hf
  by_cases hc : isO h v0 12 = true
  · exact hc
  · rw [if_neg hc] at hf; cases hf
theorem cX12_meantClass (X : pX) (N d : Nat) (v0 : Nat) (v1 : Int32) (h : pH) (q : Int32 × pH) (hf : fX12_meantClass N v0 v1 h = some q) : Calls X (d + 1) 288 [.ref v0, .int v1] h (some (.int q.1), q.2, 0, 0) := by
  refine Calls.of M288 (Nat.le_of_ble_eq_true rfl) ?_
  show Run X (d + 1) 12 false (pCd 9097) 3 (some .int) 0 [(0, .ref v0), (1, .int v1)] [] h 0 0 (some (.int q.1), q.2, 0, 0)
  unfold fX12_meantClass at hf
  by_cases hc : isO h v0 12 = true
  · rw [if_pos hc] at hf
    have nv0 : ¬ v0 = 4 := isO_ne hc
    refine r_aload_n (dGet dX12_meantClass (j := 0) rfl) nv0 rfl ?_
    refine r_aload_n (dGet dX12_meantClass (j := 1) rfl) nv0 rfl ?_
    obtain ⟨t1, et1, hf⟩ := Option.bind_eq_some_iff.mp hf
    refine r_getR (dGet dX12_meantClass (j := 2) rfl) F12_34 et1 ?_
    refine r_iload_n (dGet dX12_meantClass (j := 3) rfl) rfl ?_
    obtain ⟨t2, et2, hf⟩ := Option.bind_eq_some_iff.mp hf
    refine r_iald (dGet dX12_meantClass (j := 4) rfl) et2 ?_
    obtain ⟨q3, eq3, hf⟩ := Option.bind_eq_some_iff.mp hf
    refine r_virtual (dGet dX12_meantClass (j := 5) rfl) L12_412 M272 rfl rfl (Nat.le_of_ble_eq_true rfl) (oX12_classOf eq3) (cX12_classOf X N (d + 0) v0 t2 h q3 eq3) ?_
    refine r_istore_n (lv' := [(2, .int q3.1), (0, .ref v0), (1, .int v1)]) (dGet dX12_meantClass (j := 6) rfl) (by decide) rfl ?_
    refine r_aload_n (dGet dX12_meantClass (j := 7) rfl) nv0 rfl ?_
    obtain ⟨t4, et4, hf⟩ := Option.bind_eq_some_iff.mp hf
    refine r_getR (dGet dX12_meantClass (j := 8) rfl) F12_34 et4 ?_
    refine r_iload_n (dGet dX12_meantClass (j := 9) rfl) rfl ?_
    refine r_iload_n (dGet dX12_meantClass (j := 10) rfl) rfl ?_
    obtain ⟨h5, eh5, hf⟩ := Option.bind_eq_some_iff.mp hf
    refine r_iast (dGet dX12_meantClass (j := 11) rfl) eh5 ?_
    refine r_iload_n (dGet dX12_meantClass (j := 12) rfl) rfl ?_
    by_cases c6 : 0 ≤ q3.1
    · rw [if_pos c6] at hf
      refine r_if_ge_t (dGet dX12_meantClass (j := 13) rfl) rfl c6 ?_
      refine r_bipush (dGet dX12_meantClass (j := 16) rfl) kB_10 ?_
      refine r_iload_n (dGet dX12_meantClass (j := 17) rfl) rfl ?_
      refine r_iadd (dGet dX12_meantClass (j := 18) rfl) ?_
      have hq := Option.some.inj hf
      subst hq
      exact r_iret (dGet dX12_meantClass (j := 19) rfl) rfl rfl
    · rw [if_neg c6] at hf
      refine r_if_ge_f (dGet dX12_meantClass (j := 13) rfl) rfl c6 ?_
      refine r_iconst (dGet dX12_meantClass (j := 14) rfl) kI_5 ?_
      refine r_goto (dGet dX12_meantClass (j := 15) rfl) rfl ?_
      have hq := Option.some.inj hf
      subst hq
      exact r_iret (dGet dX12_meantClass (j := 19) rfl) rfl rfl
  · rw [if_neg hc] at hf; cases hf
def eX12_variableOf : List (Nat × Instr × Nat) := [(0, .aload_n 0, 1), (1, .getfield 467, 3), (4, .iconst 1, 1), (5, .isub, 1), (6, .istore_n 2, 1), (7, .iload_n 2, 1), (8, .ifCond .lt 19, 3), (11, .aload_n 0, 1), (12, .getfield 128, 3), (15, .iload_n 2, 1), (16, .iaload, 1), (17, .iload_n 1, 1), (18, .if_icmp .eq 9, 3), (21, .iinc 2 (-1), 3), (24, .goto (-17), 3), (27, .iload_n 2, 1), (28, .ireturn, 1)]
theorem dX12_variableOf : dChk (pCd 9093) eX12_variableOf = true := by decide +kernel
def fX12_variableOf_7 (N : Nat) : Nat → Nat → Int32 → Int32 → pH → Option (Int32 × pH)
  | 0, _, _, _, _ => none
  | n + 1, v0, v1, v2, h => if v2 < 0 then (
  some (v2, h)) else (
  (getR h v0 12 63).bind fun t2 =>
  (ldI h t2 v2).bind fun t3 =>
  if t3 = v1 then (
  some (v2, h)) else (
  fX12_variableOf_7 N n v0 v1 (v2 + (-1 : Int32)) h))
theorem lX12_variableOf_7 (X : pX) (N d : Nat)  : ∀ (n : Nat) (v0 : Nat) (v1 : Int32) (v2 : Int32) (h : pH) (q : Int32 × pH), fX12_variableOf_7 N n v0 v1 v2 h = some q → ¬ v0 = 4 → Run X (d + 0) 12 false (pCd 9093) 3 (some .int) 7 [(0, .ref v0), (1, .int v1), (2, .int v2)] [] h 0 0 (some (.int q.1), q.2, 0, 0) := by
  intro n
  induction n with
  | zero => intro v0 v1 v2 h q hf; cases hf
  | succ n ih =>
    intro v0 v1 v2 h q hf nv0
    unfold fX12_variableOf_7 at hf
    refine r_iload_n (dGet dX12_variableOf (j := 5) rfl) rfl ?_
    by_cases c1 : v2 < 0
    · rw [if_pos c1] at hf
      refine r_if_lt_t (dGet dX12_variableOf (j := 6) rfl) rfl c1 ?_
      refine r_iload_n (dGet dX12_variableOf (j := 15) rfl) rfl ?_
      have hq := Option.some.inj hf
      subst hq
      exact r_iret (dGet dX12_variableOf (j := 16) rfl) rfl rfl
    · rw [if_neg c1] at hf
      refine r_if_lt_f (dGet dX12_variableOf (j := 6) rfl) rfl c1 ?_
      refine r_aload_n (dGet dX12_variableOf (j := 7) rfl) nv0 rfl ?_
      obtain ⟨t2, et2, hf⟩ := Option.bind_eq_some_iff.mp hf
      refine r_getR (dGet dX12_variableOf (j := 8) rfl) F12_128 et2 ?_
      refine r_iload_n (dGet dX12_variableOf (j := 9) rfl) rfl ?_
      obtain ⟨t3, et3, hf⟩ := Option.bind_eq_some_iff.mp hf
      refine r_iald (dGet dX12_variableOf (j := 10) rfl) et3 ?_
      refine r_iload_n (dGet dX12_variableOf (j := 11) rfl) rfl ?_
      by_cases c4 : t3 = v1
      · rw [if_pos c4] at hf
        refine r_icmp_eq_t (dGet dX12_variableOf (j := 12) rfl) rfl c4 ?_
        refine r_iload_n (dGet dX12_variableOf (j := 15) rfl) rfl ?_
        have hq := Option.some.inj hf
        subst hq
        exact r_iret (dGet dX12_variableOf (j := 16) rfl) rfl rfl
      · rw [if_neg c4] at hf
        refine r_icmp_eq_f (dGet dX12_variableOf (j := 12) rfl) rfl c4 ?_
        refine r_iinc (lv' := [(2, .int (v2 + (-1 : Int32))), (0, .ref v0), (1, .int v1)]) (dGet dX12_variableOf (j := 13) rfl) rfl (by decide) kI_m1 rfl ?_
        refine r_goto (dGet dX12_variableOf (j := 14) rfl) rfl ?_
        refine Run.weak [(0, .ref v0), (1, .int v1), (2, .int (v2 + (-1 : Int32)))] (by simp) (by simp [pNd]) ?_
        exact ih v0 v1 (v2 + (-1 : Int32)) h q hf nv0
def fX12_variableOf (N : Nat) (v0 : Nat) (v1 : Int32) (h : pH) : Option (Int32 × pH) := if isO h v0 12 = true then (
  (getI h v0 12 62).bind fun t5 =>
  fX12_variableOf_7 N N v0 v1 (t5 - (1 : Int32)) h) else none
theorem oX12_variableOf {N : Nat} {v0 : Nat} {v1 : Int32} {h : pH} {q : Int32 × pH} (hf : fX12_variableOf N v0 v1 h = some q) : isO h v0 12 = true := by
  unfold fX12_variableOf at hf
  by_cases hc : isO h v0 12 = true
  · exact hc
  · rw [if_neg hc] at hf; cases hf
theorem cX12_variableOf (X : pX) (N d : Nat) (v0 : Nat) (v1 : Int32) (h : pH) (q : Int32 × pH) (hf : fX12_variableOf N v0 v1 h = some q) : Calls X (d + 0) 287 [.ref v0, .int v1] h (some (.int q.1), q.2, 0, 0) := by
  refine Calls.of M287 (Nat.le_of_ble_eq_true rfl) ?_
  show Run X (d + 0) 12 false (pCd 9093) 3 (some .int) 0 [(0, .ref v0), (1, .int v1)] [] h 0 0 (some (.int q.1), q.2, 0, 0)
  unfold fX12_variableOf at hf
  by_cases hc : isO h v0 12 = true
  · rw [if_pos hc] at hf
    have nv0 : ¬ v0 = 4 := isO_ne hc
    refine r_aload_n (dGet dX12_variableOf (j := 0) rfl) nv0 rfl ?_
    obtain ⟨t5, et5, hf⟩ := Option.bind_eq_some_iff.mp hf
    refine r_getI (dGet dX12_variableOf (j := 1) rfl) F12_467 et5 ?_
    refine r_iconst (dGet dX12_variableOf (j := 2) rfl) kI_1 ?_
    refine r_isub (dGet dX12_variableOf (j := 3) rfl) ?_
    refine r_istore_n (lv' := [(2, .int (t5 - (1 : Int32))), (0, .ref v0), (1, .int v1)]) (dGet dX12_variableOf (j := 4) rfl) (by decide) rfl ?_
    refine Run.weak [(0, .ref v0), (1, .int v1), (2, .int (t5 - (1 : Int32)))] (by simp) (by simp [pNd]) ?_
    exact lX12_variableOf_7 X N d N v0 v1 (t5 - (1 : Int32)) h q hf nv0
  · rw [if_neg hc] at hf; cases hf
def eX12_named : List (Nat × Instr × Nat) := [(0, .aload_n 0, 1), (1, .aload_n 0, 1), (2, .getfield 34, 3), (5, .iload_n 2, 1), (6, .iaload, 1), (7, .invokevirtual 496, 3), (10, .istore_n 3, 1), (11, .iload_n 3, 1), (12, .ifCond .lt 78, 3), (15, .aload_n 0, 1), (16, .getfield 46, 3), (19, .iload_n 1, 1), (20, .iaload, 1), (21, .bipush 8, 2), (23, .if_icmp .ne 17, 3), (26, .iload_n 2, 1), (27, .aload_n 0, 1), (28, .getfield 58, 3), (31, .iload_n 1, 1), (32, .iaload, 1), (33, .if_icmp .ne 7, 3), (36, .iconst 1, 1), (37, .goto 4, 3), (40, .iconst 0, 1), (41, .istore 4, 2), (43, .aload_n 0, 1), (44, .getfield 25, 3), (47, .iload_n 2, 1), (48, .bipush 19, 2), (50, .iastore, 1), (51, .aload_n 0, 1), (52, .getfield 34, 3), (55, .iload_n 2, 1), (56, .iload_n 3, 1), (57, .iastore, 1), (58, .aload_n 0, 1), (59, .getfield 476, 3), (62, .ifCond .ne 17, 3), (65, .aload_n 0, 1), (66, .getfield 134, 3), (69, .iload_n 3, 1), (70, .baload, 1), (71, .ifCond .ne 8, 3), (74, .iload 4, 2), (76, .ifCond .eq 12, 3), (79, .aload_n 0, 1), (80, .getfield 131, 3), (83, .iload_n 3, 1), (84, .iaload, 1), (85, .goto 4, 3), (88, .iconst 5, 1), (89, .ireturn, 1), (90, .aload_n 0, 1), (91, .aload_n 0, 1), (92, .getfield 470, 3), (95, .aload_n 0, 1), (96, .getfield 34, 3), (99, .iload_n 2, 1), (100, .iaload, 1), (101, .iconst 0, 1), (102, .invokevirtual 422, 3), (105, .istore 4, 2), (107, .iload 4, 2), (109, .ifCond .ge 5, 3), (112, .iconst 5, 1), (113, .ireturn, 1), (114, .aload_n 0, 1), (115, .getfield 25, 3), (118, .iload_n 2, 1), (119, .bipush 20, 2), (121, .iastore, 1), (122, .aload_n 0, 1), (123, .getfield 34, 3), (126, .iload_n 2, 1), (127, .aload_n 0, 1), (128, .getfield 119, 3), (131, .iload 4, 2), (133, .iaload, 1), (134, .iastore, 1), (135, .aload_n 0, 1), (136, .getfield 103, 3), (139, .iload 4, 2), (141, .iaload, 1), (142, .ireturn, 1)]
theorem dX12_named : dChk (pCd 9089) eX12_named = true := by decide +kernel
def fX12_named_41 (N : Nat) (v0 : Nat) (v2 : Int32) (v3 : Int32) (s0 : Int32) (h : pH) : Option (Int32 × pH) :=
  (getR h v0 12 16).bind fun t1 =>
  (stI h t1 v2 (19 : Int32)).bind fun h2 =>
  (getR h2 v0 12 19).bind fun t3 =>
  (stI h2 t3 v2 v3).bind fun h4 =>
  (getI h4 v0 12 66).bind fun t5 =>
  if t5 = 0 then (
  (getR h4 v0 12 65).bind fun t9 =>
  (ldZ h4 t9 v3).bind fun t10 =>
  if t10 = 0 then (
  if s0 = 0 then (
  some ((5 : Int32), h4)) else (
  (getR h4 v0 12 64).bind fun t15 =>
  (ldI h4 t15 v3).bind fun t16 =>
  some (t16, h4))) else (
  (getR h4 v0 12 64).bind fun t12 =>
  (ldI h4 t12 v3).bind fun t13 =>
  some (t13, h4))) else (
  (getR h4 v0 12 64).bind fun t7 =>
  (ldI h4 t7 v3).bind fun t8 =>
  some (t8, h4))
theorem lX12_named_41 (X : pX) (N d : Nat)  (v0 : Nat) (v2 : Int32) (v3 : Int32) (s0 : Int32) (h : pH) (q : Int32 × pH) (hf : fX12_named_41 N v0 v2 v3 s0 h = some q) (nv0 : ¬ v0 = 4) : Run X (d + 1) 12 false (pCd 9089) 5 (some .int) 41 [(0, .ref v0), (2, .int v2), (3, .int v3)] [.int s0] h 0 0 (some (.int q.1), q.2, 0, 0) := by
  unfold fX12_named_41 at hf
  refine r_istore (lv' := [(4, .int s0), (0, .ref v0), (2, .int v2), (3, .int v3)]) (dGet dX12_named (j := 24) rfl) (by decide) rfl ?_
  refine r_aload_n (dGet dX12_named (j := 25) rfl) nv0 rfl ?_
  obtain ⟨t1, et1, hf⟩ := Option.bind_eq_some_iff.mp hf
  refine r_getR (dGet dX12_named (j := 26) rfl) F12_25 et1 ?_
  refine r_iload_n (dGet dX12_named (j := 27) rfl) rfl ?_
  refine r_bipush (dGet dX12_named (j := 28) rfl) kB_19 ?_
  obtain ⟨h2, eh2, hf⟩ := Option.bind_eq_some_iff.mp hf
  refine r_iast (dGet dX12_named (j := 29) rfl) eh2 ?_
  refine r_aload_n (dGet dX12_named (j := 30) rfl) nv0 rfl ?_
  obtain ⟨t3, et3, hf⟩ := Option.bind_eq_some_iff.mp hf
  refine r_getR (dGet dX12_named (j := 31) rfl) F12_34 et3 ?_
  refine r_iload_n (dGet dX12_named (j := 32) rfl) rfl ?_
  refine r_iload_n (dGet dX12_named (j := 33) rfl) rfl ?_
  obtain ⟨h4, eh4, hf⟩ := Option.bind_eq_some_iff.mp hf
  refine r_iast (dGet dX12_named (j := 34) rfl) eh4 ?_
  refine r_aload_n (dGet dX12_named (j := 35) rfl) nv0 rfl ?_
  obtain ⟨t5, et5, hf⟩ := Option.bind_eq_some_iff.mp hf
  refine r_getI (dGet dX12_named (j := 36) rfl) F12_476 et5 ?_
  by_cases c6 : t5 = 0
  · rw [if_pos c6] at hf
    refine r_if_ne_f (dGet dX12_named (j := 37) rfl) rfl c6 ?_
    refine r_aload_n (dGet dX12_named (j := 38) rfl) nv0 rfl ?_
    obtain ⟨t9, et9, hf⟩ := Option.bind_eq_some_iff.mp hf
    refine r_getR (dGet dX12_named (j := 39) rfl) F12_134 et9 ?_
    refine r_iload_n (dGet dX12_named (j := 40) rfl) rfl ?_
    obtain ⟨t10, et10, hf⟩ := Option.bind_eq_some_iff.mp hf
    refine r_zald (dGet dX12_named (j := 41) rfl) et10 ?_
    by_cases c11 : t10 = 0
    · rw [if_pos c11] at hf
      refine r_if_ne_f (dGet dX12_named (j := 42) rfl) rfl c11 ?_
      refine r_iload (dGet dX12_named (j := 43) rfl) rfl ?_
      by_cases c14 : s0 = 0
      · rw [if_pos c14] at hf
        refine r_if_eq_t (dGet dX12_named (j := 44) rfl) rfl c14 ?_
        refine r_iconst (dGet dX12_named (j := 50) rfl) kI_5 ?_
        have hq := Option.some.inj hf
        subst hq
        exact r_iret (dGet dX12_named (j := 51) rfl) rfl rfl
      · rw [if_neg c14] at hf
        refine r_if_eq_f (dGet dX12_named (j := 44) rfl) rfl c14 ?_
        refine r_aload_n (dGet dX12_named (j := 45) rfl) nv0 rfl ?_
        obtain ⟨t15, et15, hf⟩ := Option.bind_eq_some_iff.mp hf
        refine r_getR (dGet dX12_named (j := 46) rfl) F12_131 et15 ?_
        refine r_iload_n (dGet dX12_named (j := 47) rfl) rfl ?_
        obtain ⟨t16, et16, hf⟩ := Option.bind_eq_some_iff.mp hf
        refine r_iald (dGet dX12_named (j := 48) rfl) et16 ?_
        refine r_goto (dGet dX12_named (j := 49) rfl) rfl ?_
        have hq := Option.some.inj hf
        subst hq
        exact r_iret (dGet dX12_named (j := 51) rfl) rfl rfl
    · rw [if_neg c11] at hf
      refine r_if_ne_t (dGet dX12_named (j := 42) rfl) rfl c11 ?_
      refine r_aload_n (dGet dX12_named (j := 45) rfl) nv0 rfl ?_
      obtain ⟨t12, et12, hf⟩ := Option.bind_eq_some_iff.mp hf
      refine r_getR (dGet dX12_named (j := 46) rfl) F12_131 et12 ?_
      refine r_iload_n (dGet dX12_named (j := 47) rfl) rfl ?_
      obtain ⟨t13, et13, hf⟩ := Option.bind_eq_some_iff.mp hf
      refine r_iald (dGet dX12_named (j := 48) rfl) et13 ?_
      refine r_goto (dGet dX12_named (j := 49) rfl) rfl ?_
      have hq := Option.some.inj hf
      subst hq
      exact r_iret (dGet dX12_named (j := 51) rfl) rfl rfl
  · rw [if_neg c6] at hf
    refine r_if_ne_t (dGet dX12_named (j := 37) rfl) rfl c6 ?_
    refine r_aload_n (dGet dX12_named (j := 45) rfl) nv0 rfl ?_
    obtain ⟨t7, et7, hf⟩ := Option.bind_eq_some_iff.mp hf
    refine r_getR (dGet dX12_named (j := 46) rfl) F12_131 et7 ?_
    refine r_iload_n (dGet dX12_named (j := 47) rfl) rfl ?_
    obtain ⟨t8, et8, hf⟩ := Option.bind_eq_some_iff.mp hf
    refine r_iald (dGet dX12_named (j := 48) rfl) et8 ?_
    refine r_goto (dGet dX12_named (j := 49) rfl) rfl ?_
    have hq := Option.some.inj hf
    subst hq
    exact r_iret (dGet dX12_named (j := 51) rfl) rfl rfl
def fX12_named_40 (N : Nat) (v0 : Nat) (v2 : Int32) (v3 : Int32) (h : pH) : Option (Int32 × pH) :=
  fX12_named_41 N v0 v2 v3 (0 : Int32) h
theorem lX12_named_40 (X : pX) (N d : Nat)  (v0 : Nat) (v2 : Int32) (v3 : Int32) (h : pH) (q : Int32 × pH) (hf : fX12_named_40 N v0 v2 v3 h = some q) (nv0 : ¬ v0 = 4) : Run X (d + 1) 12 false (pCd 9089) 5 (some .int) 40 [(0, .ref v0), (2, .int v2), (3, .int v3)] [] h 0 0 (some (.int q.1), q.2, 0, 0) := by
  unfold fX12_named_40 at hf
  refine r_iconst (dGet dX12_named (j := 23) rfl) kI_0 ?_
  exact lX12_named_41 X N d v0 v2 v3 (0 : Int32) h q hf nv0
def fX12_named (N : Nat) (v0 : Nat) (v1 : Int32) (v2 : Int32) (h : pH) : Option (Int32 × pH) := if isO h v0 12 = true then (
  (getR h v0 12 19).bind fun t17 =>
  (ldI h t17 v2).bind fun t18 =>
  (fX12_variableOf N v0 t18 h).bind fun q19 =>
  if q19.1 < 0 then (
  (getI q19.2 v0 12 60).bind fun t21 =>
  (getR q19.2 v0 12 19).bind fun t22 =>
  (ldI q19.2 t22 v2).bind fun t23 =>
  (fX12_memberOf N v0 t21 t23 (0 : Int32) q19.2).bind fun q24 =>
  if 0 ≤ q24.1 then (
  (getR q24.2 v0 12 16).bind fun t26 =>
  (stI q24.2 t26 v2 (20 : Int32)).bind fun h27 =>
  (getR h27 v0 12 19).bind fun t28 =>
  (getR h27 v0 12 52).bind fun t29 =>
  (ldI h27 t29 q24.1).bind fun t30 =>
  (stI h27 t28 v2 t30).bind fun h31 =>
  (getR h31 v0 12 47).bind fun t32 =>
  (ldI h31 t32 q24.1).bind fun t33 =>
  some (t33, h31)) else (
  some ((5 : Int32), q24.2))) else (
  (getR q19.2 v0 12 26).bind fun t34 =>
  (ldI q19.2 t34 v1).bind fun t35 =>
  if t35 = (8 : Int32) then (
  (getR q19.2 v0 12 30).bind fun t37 =>
  (ldI q19.2 t37 v1).bind fun t38 =>
  if v2 = t38 then (
  fX12_named_41 N v0 v2 q19.1 (1 : Int32) q19.2) else (
  fX12_named_40 N v0 v2 q19.1 q19.2)) else (
  fX12_named_40 N v0 v2 q19.1 q19.2))) else none
theorem oX12_named {N : Nat} {v0 : Nat} {v1 : Int32} {v2 : Int32} {h : pH} {q : Int32 × pH} (hf : fX12_named N v0 v1 v2 h = some q) : isO h v0 12 = true := by
  unfold fX12_named at hf
  by_cases hc : isO h v0 12 = true
  · exact hc
  · rw [if_neg hc] at hf; cases hf
theorem cX12_named (X : pX) (N d : Nat) (v0 : Nat) (v1 : Int32) (v2 : Int32) (h : pH) (q : Int32 × pH) (hf : fX12_named N v0 v1 v2 h = some q) : Calls X (d + 1) 286 [.ref v0, .int v1, .int v2] h (some (.int q.1), q.2, 0, 0) := by
  refine Calls.of M286 (Nat.le_of_ble_eq_true rfl) ?_
  show Run X (d + 1) 12 false (pCd 9089) 5 (some .int) 0 [(0, .ref v0), (1, .int v1), (2, .int v2)] [] h 0 0 (some (.int q.1), q.2, 0, 0)
  unfold fX12_named at hf
  by_cases hc : isO h v0 12 = true
  · rw [if_pos hc] at hf
    have nv0 : ¬ v0 = 4 := isO_ne hc
    refine r_aload_n (dGet dX12_named (j := 0) rfl) nv0 rfl ?_
    refine r_aload_n (dGet dX12_named (j := 1) rfl) nv0 rfl ?_
    obtain ⟨t17, et17, hf⟩ := Option.bind_eq_some_iff.mp hf
    refine r_getR (dGet dX12_named (j := 2) rfl) F12_34 et17 ?_
    refine r_iload_n (dGet dX12_named (j := 3) rfl) rfl ?_
    obtain ⟨t18, et18, hf⟩ := Option.bind_eq_some_iff.mp hf
    refine r_iald (dGet dX12_named (j := 4) rfl) et18 ?_
    obtain ⟨q19, eq19, hf⟩ := Option.bind_eq_some_iff.mp hf
    refine r_virtual (dGet dX12_named (j := 5) rfl) L12_496 M287 rfl rfl (Nat.le_of_ble_eq_true rfl) (oX12_variableOf eq19) (cX12_variableOf X N (d + 0) v0 t18 h q19 eq19) ?_
    refine r_istore_n (lv' := [(3, .int q19.1), (0, .ref v0), (1, .int v1), (2, .int v2)]) (dGet dX12_named (j := 6) rfl) (by decide) rfl ?_
    refine r_iload_n (dGet dX12_named (j := 7) rfl) rfl ?_
    by_cases c20 : q19.1 < 0
    · rw [if_pos c20] at hf
      refine r_if_lt_t (dGet dX12_named (j := 8) rfl) rfl c20 ?_
      refine r_aload_n (dGet dX12_named (j := 52) rfl) nv0 rfl ?_
      refine r_aload_n (dGet dX12_named (j := 53) rfl) nv0 rfl ?_
      obtain ⟨t21, et21, hf⟩ := Option.bind_eq_some_iff.mp hf
      refine r_getI (dGet dX12_named (j := 54) rfl) F12_470 et21 ?_
      refine r_aload_n (dGet dX12_named (j := 55) rfl) nv0 rfl ?_
      obtain ⟨t22, et22, hf⟩ := Option.bind_eq_some_iff.mp hf
      refine r_getR (dGet dX12_named (j := 56) rfl) F12_34 et22 ?_
      refine r_iload_n (dGet dX12_named (j := 57) rfl) rfl ?_
      obtain ⟨t23, et23, hf⟩ := Option.bind_eq_some_iff.mp hf
      refine r_iald (dGet dX12_named (j := 58) rfl) et23 ?_
      refine r_iconst (dGet dX12_named (j := 59) rfl) kI_0 ?_
      obtain ⟨q24, eq24, hf⟩ := Option.bind_eq_some_iff.mp hf
      refine r_virtual (dGet dX12_named (j := 60) rfl) L12_422 M277 rfl rfl (Nat.le_of_ble_eq_true rfl) (oX12_memberOf eq24) (cX12_memberOf X N (d + 0) v0 t21 t23 (0 : Int32) q19.2 q24 eq24) ?_
      refine r_istore (lv' := [(4, .int q24.1), (3, .int q19.1), (0, .ref v0), (1, .int v1), (2, .int v2)]) (dGet dX12_named (j := 61) rfl) (by decide) rfl ?_
      refine r_iload (dGet dX12_named (j := 62) rfl) rfl ?_
      by_cases c25 : 0 ≤ q24.1
      · rw [if_pos c25] at hf
        refine r_if_ge_t (dGet dX12_named (j := 63) rfl) rfl c25 ?_
        refine r_aload_n (dGet dX12_named (j := 66) rfl) nv0 rfl ?_
        obtain ⟨t26, et26, hf⟩ := Option.bind_eq_some_iff.mp hf
        refine r_getR (dGet dX12_named (j := 67) rfl) F12_25 et26 ?_
        refine r_iload_n (dGet dX12_named (j := 68) rfl) rfl ?_
        refine r_bipush (dGet dX12_named (j := 69) rfl) kB_20 ?_
        obtain ⟨h27, eh27, hf⟩ := Option.bind_eq_some_iff.mp hf
        refine r_iast (dGet dX12_named (j := 70) rfl) eh27 ?_
        refine r_aload_n (dGet dX12_named (j := 71) rfl) nv0 rfl ?_
        obtain ⟨t28, et28, hf⟩ := Option.bind_eq_some_iff.mp hf
        refine r_getR (dGet dX12_named (j := 72) rfl) F12_34 et28 ?_
        refine r_iload_n (dGet dX12_named (j := 73) rfl) rfl ?_
        refine r_aload_n (dGet dX12_named (j := 74) rfl) nv0 rfl ?_
        obtain ⟨t29, et29, hf⟩ := Option.bind_eq_some_iff.mp hf
        refine r_getR (dGet dX12_named (j := 75) rfl) F12_119 et29 ?_
        refine r_iload (dGet dX12_named (j := 76) rfl) rfl ?_
        obtain ⟨t30, et30, hf⟩ := Option.bind_eq_some_iff.mp hf
        refine r_iald (dGet dX12_named (j := 77) rfl) et30 ?_
        obtain ⟨h31, eh31, hf⟩ := Option.bind_eq_some_iff.mp hf
        refine r_iast (dGet dX12_named (j := 78) rfl) eh31 ?_
        refine r_aload_n (dGet dX12_named (j := 79) rfl) nv0 rfl ?_
        obtain ⟨t32, et32, hf⟩ := Option.bind_eq_some_iff.mp hf
        refine r_getR (dGet dX12_named (j := 80) rfl) F12_103 et32 ?_
        refine r_iload (dGet dX12_named (j := 81) rfl) rfl ?_
        obtain ⟨t33, et33, hf⟩ := Option.bind_eq_some_iff.mp hf
        refine r_iald (dGet dX12_named (j := 82) rfl) et33 ?_
        have hq := Option.some.inj hf
        subst hq
        exact r_iret (dGet dX12_named (j := 83) rfl) rfl rfl
      · rw [if_neg c25] at hf
        refine r_if_ge_f (dGet dX12_named (j := 63) rfl) rfl c25 ?_
        refine r_iconst (dGet dX12_named (j := 64) rfl) kI_5 ?_
        have hq := Option.some.inj hf
        subst hq
        exact r_iret (dGet dX12_named (j := 65) rfl) rfl rfl
    · rw [if_neg c20] at hf
      refine r_if_lt_f (dGet dX12_named (j := 8) rfl) rfl c20 ?_
      refine r_aload_n (dGet dX12_named (j := 9) rfl) nv0 rfl ?_
      obtain ⟨t34, et34, hf⟩ := Option.bind_eq_some_iff.mp hf
      refine r_getR (dGet dX12_named (j := 10) rfl) F12_46 et34 ?_
      refine r_iload_n (dGet dX12_named (j := 11) rfl) rfl ?_
      obtain ⟨t35, et35, hf⟩ := Option.bind_eq_some_iff.mp hf
      refine r_iald (dGet dX12_named (j := 12) rfl) et35 ?_
      refine r_bipush (dGet dX12_named (j := 13) rfl) kB_8 ?_
      by_cases c36 : t35 = (8 : Int32)
      · rw [if_pos c36] at hf
        refine r_icmp_ne_f (dGet dX12_named (j := 14) rfl) rfl c36 ?_
        refine r_iload_n (dGet dX12_named (j := 15) rfl) rfl ?_
        refine r_aload_n (dGet dX12_named (j := 16) rfl) nv0 rfl ?_
        obtain ⟨t37, et37, hf⟩ := Option.bind_eq_some_iff.mp hf
        refine r_getR (dGet dX12_named (j := 17) rfl) F12_58 et37 ?_
        refine r_iload_n (dGet dX12_named (j := 18) rfl) rfl ?_
        obtain ⟨t38, et38, hf⟩ := Option.bind_eq_some_iff.mp hf
        refine r_iald (dGet dX12_named (j := 19) rfl) et38 ?_
        by_cases c39 : v2 = t38
        · rw [if_pos c39] at hf
          refine r_icmp_ne_f (dGet dX12_named (j := 20) rfl) rfl c39 ?_
          refine r_iconst (dGet dX12_named (j := 21) rfl) kI_1 ?_
          refine r_goto (dGet dX12_named (j := 22) rfl) rfl ?_
          refine Run.weak [(0, .ref v0), (2, .int v2), (3, .int q19.1)] (by simp) (by simp [pNd]) ?_
          exact lX12_named_41 X N d v0 v2 q19.1 (1 : Int32) q19.2 q hf nv0
        · rw [if_neg c39] at hf
          refine r_icmp_ne_t (dGet dX12_named (j := 20) rfl) rfl c39 ?_
          refine Run.weak [(0, .ref v0), (2, .int v2), (3, .int q19.1)] (by simp) (by simp [pNd]) ?_
          exact lX12_named_40 X N d v0 v2 q19.1 q19.2 q hf nv0
      · rw [if_neg c36] at hf
        refine r_icmp_ne_t (dGet dX12_named (j := 14) rfl) rfl c36 ?_
        refine Run.weak [(0, .ref v0), (2, .int v2), (3, .int q19.1)] (by simp) (by simp [pNd]) ?_
        exact lX12_named_40 X N d v0 v2 q19.1 q19.2 q hf nv0
  · rw [if_neg hc] at hf; cases hf
def eX12_checkNode : List (Nat × Instr × Nat) := [(0, .aload_n 0, 1), (1, .getfield 28, 3), (4, .iload_n 2, 1), (5, .iaload, 1), (6, .istore_n 3, 1), (7, .aload_n 0, 1), (8, .getfield 31, 3), (11, .iload_n 2, 1), (12, .iaload, 1), (13, .istore 4, 2), (15, .iconst 5, 1), (16, .istore 5, 2), (18, .aload_n 0, 1), (19, .getfield 25, 3), (22, .iload_n 2, 1), (23, .iaload, 1), (24, .tableswitch 368 0 21 #[104, 116, 122, 104, 134, 145, 155, 166, 196, 196, 207, 207, 279, 298, 317, 368, 337, 337, 368, 368, 368, 110], 104), (128, .iconst 0, 1), (129, .istore 5, 2), (131, .goto 286, 3), (134, .iconst 1, 1), (135, .istore 5, 2), (137, .goto 280, 3), (140, .iconst 4, 1), (141, .istore 5, 2), (143, .goto 274, 3), (146, .bipush 10, 2), (148, .aload_n 0, 1), (149, .getfield 470, 3), (152, .iadd, 1), (153, .istore 5, 2), (155, .goto 262, 3), (158, .aload_n 0, 1), (159, .iload_n 1, 1), (160, .iload_n 2, 1), (161, .invokevirtual 530, 3), (164, .istore 5, 2), (166, .goto 251, 3), (169, .aload_n 0, 1), (170, .iload_n 2, 1), (171, .invokevirtual 534, 3), (174, .istore 5, 2), (176, .goto 241, 3), (179, .aload_n 0, 1), (180, .iload_n 2, 1), (181, .iload_n 3, 1), (182, .invokevirtual 537, 3), (185, .istore 5, 2), (187, .goto 230, 3), (190, .aload_n 0, 1), (191, .getfield 37, 3), (194, .iload_n 3, 1), (195, .iaload, 1), (196, .iconst 2, 1), (197, .if_icmp .ne 17, 3), (200, .aload_n 0, 1), (201, .getfield 37, 3), (204, .iload 4, 2), (206, .iaload, 1), (207, .ifCond .ne 7, 3), (210, .iconst 0, 1), (211, .goto 4, 3), (214, .iconst 5, 1), (215, .istore 5, 2), (217, .goto 200, 3), (220, .aload_n 0, 1), (221, .iload_n 2, 1), (222, .iload_n 3, 1), (223, .invokevirtual 540, 3), (226, .istore 5, 2), (228, .goto 189, 3), (231, .aload_n 0, 1), (232, .iload_n 2, 1), (233, .invokevirtual 534, 3), (236, .istore 6, 2), (238, .aload_n 0, 1), (239, .getfield 37, 3), (242, .iload_n 3, 1), (243, .iaload, 1), (244, .bipush 10, 2), (246, .if_icmp .ge 13, 3), (249, .aload_n 0, 1), (250, .getfield 37, 3), (253, .iload_n 3, 1), (254, .iaload, 1), (255, .iconst 4, 1), (256, .if_icmp .ne 7, 3), (259, .iconst 1, 1), (260, .goto 4, 3), (263, .iconst 0, 1), (264, .istore 7, 2), (266, .iload 7, 2), (268, .ifCond .eq 9, 3), (271, .iload 6, 2), (273, .iconst 5, 1), (274, .if_icmp .ne 7, 3), (277, .iconst 5, 1), (278, .goto 20, 3), (281, .aload_n 0, 1), (282, .getfield 25, 3), (285, .iload_n 2, 1), (286, .iaload, 1), (287, .bipush 11, 2), (289, .if_icmp .ne 7, 3), (292, .iconst 1, 1), (293, .goto 5, 3), (296, .iload 6, 2), (298, .istore 5, 2), (300, .goto 117, 3), (303, .aload_n 0, 1), (304, .getfield 37, 3), (307, .iload_n 3, 1), (308, .iaload, 1), (309, .ifCond .ne 7, 3), (312, .iconst 2, 1), (313, .goto 4, 3), (316, .iconst 5, 1), (317, .istore 5, 2), (319, .goto 98, 3), (322, .aload_n 0, 1), (323, .getfield 37, 3), (326, .iload_n 3, 1), (327, .iaload, 1), (328, .ifCond .ne 7, 3), (331, .iconst 0, 1), (332, .goto 4, 3), (335, .iconst 5, 1), (336, .istore 5, 2), (338, .goto 79, 3), (341, .aload_n 0, 1), (342, .getfield 37, 3), (345, .iload_n 3, 1), (346, .iaload, 1), (347, .iconst 1, 1), (348, .if_icmp .ne 7, 3), (351, .iconst 1, 1), (352, .goto 4, 3), (355, .iconst 5, 1), (356, .istore 5, 2), (358, .goto 59, 3), (361, .aload_n 0, 1), (362, .getfield 37, 3), (365, .iload_n 3, 1), (366, .iaload, 1), (367, .iconst 1, 1), (368, .if_icmp .ne 18, 3), (371, .aload_n 0, 1), (372, .getfield 37, 3), (375, .iload 4, 2), (377, .iaload, 1), (378, .iconst 1, 1), (379, .if_icmp .ne 7, 3), (382, .iconst 1, 1), (383, .goto 4, 3), (386, .iconst 5, 1), (387, .istore 5, 2), (389, .goto 28, 3), (392, .aload_n 0, 1), (393, .aload_n 0, 1), (394, .getfield 34, 3), (397, .iload_n 2, 1), (398, .iaload, 1), (399, .aload_n 0, 1), (400, .getfield 37, 3), (403, .iload_n 3, 1), (404, .iaload, 1), (405, .aload_n 0, 1), (406, .getfield 37, 3), (409, .iload 4, 2), (411, .iaload, 1), (412, .invokevirtual 543, 3), (415, .istore 5, 2), (417, .aload_n 0, 1), (418, .getfield 37, 3), (421, .iload_n 2, 1), (422, .iload 5, 2), (424, .iastore, 1), (425, .iload 5, 2), (427, .iconst 5, 1), (428, .if_icmp .eq 7, 3), (431, .iconst 1, 1), (432, .goto 4, 3), (435, .iconst 0, 1), (436, .ireturn, 1)]
theorem dX12_checkNode : dChk (pCd 9085) eX12_checkNode = true := by decide +kernel
def fX12_checkNode_417 (N : Nat) (v0 : Nat) (v2 : Int32) (v5 : Int32) (h : pH) : Option (Int32 × pH) :=
  (getR h v0 12 20).bind fun t1 =>
  (stI h t1 v2 v5).bind fun h2 =>
  if v5 = (5 : Int32) then (
  some ((0 : Int32), h2)) else (
  some ((1 : Int32), h2))
theorem lX12_checkNode_417 (X : pX) (N d : Nat)  (v0 : Nat) (v2 : Int32) (v5 : Int32) (h : pH) (q : Int32 × pH) (hf : fX12_checkNode_417 N v0 v2 v5 h = some q) (nv0 : ¬ v0 = 4) : Run X (d + 3) 12 false (pCd 9085) 8 (some .boolean) 417 [(0, .ref v0), (2, .int v2), (5, .int v5)] [] h 0 0 (some (.int q.1), q.2, 0, 0) := by
  unfold fX12_checkNode_417 at hf
  refine r_aload_n (dGet dX12_checkNode (j := 172) rfl) nv0 rfl ?_
  obtain ⟨t1, et1, hf⟩ := Option.bind_eq_some_iff.mp hf
  refine r_getR (dGet dX12_checkNode (j := 173) rfl) F12_37 et1 ?_
  refine r_iload_n (dGet dX12_checkNode (j := 174) rfl) rfl ?_
  refine r_iload (dGet dX12_checkNode (j := 175) rfl) rfl ?_
  obtain ⟨h2, eh2, hf⟩ := Option.bind_eq_some_iff.mp hf
  refine r_iast (dGet dX12_checkNode (j := 176) rfl) eh2 ?_
  refine r_iload (dGet dX12_checkNode (j := 177) rfl) rfl ?_
  refine r_iconst (dGet dX12_checkNode (j := 178) rfl) kI_5 ?_
  by_cases c3 : v5 = (5 : Int32)
  · rw [if_pos c3] at hf
    refine r_icmp_eq_t (dGet dX12_checkNode (j := 179) rfl) rfl c3 ?_
    refine r_iconst (dGet dX12_checkNode (j := 182) rfl) kI_0 ?_
    have hq := Option.some.inj hf
    subst hq
    exact r_iret (dGet dX12_checkNode (j := 183) rfl) rfl (by decide)
  · rw [if_neg c3] at hf
    refine r_icmp_eq_f (dGet dX12_checkNode (j := 179) rfl) rfl c3 ?_
    refine r_iconst (dGet dX12_checkNode (j := 180) rfl) kI_1 ?_
    refine r_goto (dGet dX12_checkNode (j := 181) rfl) rfl ?_
    have hq := Option.some.inj hf
    subst hq
    exact r_iret (dGet dX12_checkNode (j := 183) rfl) rfl (by decide)
def fX12_checkNode_392 (N : Nat) (v0 : Nat) (v2 : Int32) (v3 : Int32) (v4 : Int32) (h : pH) : Option (Int32 × pH) :=
  (getR h v0 12 19).bind fun t4 =>
  (ldI h t4 v2).bind fun t5 =>
  (getR h v0 12 20).bind fun t6 =>
  (ldI h t6 v3).bind fun t7 =>
  (getR h v0 12 20).bind fun t8 =>
  (ldI h t8 v4).bind fun t9 =>
  (fX12_compared N v0 t5 t7 t9 h).bind fun q10 =>
  fX12_checkNode_417 N v0 v2 q10.1 q10.2
theorem lX12_checkNode_392 (X : pX) (N d : Nat)  (v0 : Nat) (v2 : Int32) (v3 : Int32) (v4 : Int32) (h : pH) (q : Int32 × pH) (hf : fX12_checkNode_392 N v0 v2 v3 v4 h = some q) (nv0 : ¬ v0 = 4) : Run X (d + 3) 12 false (pCd 9085) 8 (some .boolean) 392 [(0, .ref v0), (2, .int v2), (3, .int v3), (4, .int v4)] [] h 0 0 (some (.int q.1), q.2, 0, 0) := by
  unfold fX12_checkNode_392 at hf
  refine r_aload_n (dGet dX12_checkNode (j := 157) rfl) nv0 rfl ?_
  refine r_aload_n (dGet dX12_checkNode (j := 158) rfl) nv0 rfl ?_
  obtain ⟨t4, et4, hf⟩ := Option.bind_eq_some_iff.mp hf
  refine r_getR (dGet dX12_checkNode (j := 159) rfl) F12_34 et4 ?_
  refine r_iload_n (dGet dX12_checkNode (j := 160) rfl) rfl ?_
  obtain ⟨t5, et5, hf⟩ := Option.bind_eq_some_iff.mp hf
  refine r_iald (dGet dX12_checkNode (j := 161) rfl) et5 ?_
  refine r_aload_n (dGet dX12_checkNode (j := 162) rfl) nv0 rfl ?_
  obtain ⟨t6, et6, hf⟩ := Option.bind_eq_some_iff.mp hf
  refine r_getR (dGet dX12_checkNode (j := 163) rfl) F12_37 et6 ?_
  refine r_iload_n (dGet dX12_checkNode (j := 164) rfl) rfl ?_
  obtain ⟨t7, et7, hf⟩ := Option.bind_eq_some_iff.mp hf
  refine r_iald (dGet dX12_checkNode (j := 165) rfl) et7 ?_
  refine r_aload_n (dGet dX12_checkNode (j := 166) rfl) nv0 rfl ?_
  obtain ⟨t8, et8, hf⟩ := Option.bind_eq_some_iff.mp hf
  refine r_getR (dGet dX12_checkNode (j := 167) rfl) F12_37 et8 ?_
  refine r_iload (dGet dX12_checkNode (j := 168) rfl) rfl ?_
  obtain ⟨t9, et9, hf⟩ := Option.bind_eq_some_iff.mp hf
  refine r_iald (dGet dX12_checkNode (j := 169) rfl) et9 ?_
  obtain ⟨q10, eq10, hf⟩ := Option.bind_eq_some_iff.mp hf
  refine r_virtual (dGet dX12_checkNode (j := 170) rfl) L12_543 M293 rfl rfl (Nat.le_of_ble_eq_true rfl) (oX12_compared eq10) (cX12_compared X N (d + 0) v0 t5 t7 t9 h q10 eq10) ?_
  refine r_istore (lv' := [(5, .int q10.1), (0, .ref v0), (2, .int v2), (3, .int v3), (4, .int v4)]) (dGet dX12_checkNode (j := 171) rfl) (by decide) rfl ?_
  refine Run.weak [(0, .ref v0), (2, .int v2), (5, .int q10.1)] (by simp) (by simp [pNd]) ?_
  exact lX12_checkNode_417 X N d v0 v2 q10.1 q10.2 q hf nv0
def fX12_checkNode_387 (N : Nat) (v0 : Nat) (v2 : Int32) (s0 : Int32) (h : pH) : Option (Int32 × pH) :=
  fX12_checkNode_417 N v0 v2 s0 h
theorem lX12_checkNode_387 (X : pX) (N d : Nat)  (v0 : Nat) (v2 : Int32) (s0 : Int32) (h : pH) (q : Int32 × pH) (hf : fX12_checkNode_387 N v0 v2 s0 h = some q) (nv0 : ¬ v0 = 4) : Run X (d + 3) 12 false (pCd 9085) 8 (some .boolean) 387 [(0, .ref v0), (2, .int v2)] [.int s0] h 0 0 (some (.int q.1), q.2, 0, 0) := by
  unfold fX12_checkNode_387 at hf
  refine r_istore (lv' := [(5, .int s0), (0, .ref v0), (2, .int v2)]) (dGet dX12_checkNode (j := 155) rfl) (by decide) rfl ?_
  refine r_goto (dGet dX12_checkNode (j := 156) rfl) rfl ?_
  refine Run.weak [(0, .ref v0), (2, .int v2), (5, .int s0)] (by simp) (by simp [pNd]) ?_
  exact lX12_checkNode_417 X N d v0 v2 s0 h q hf nv0
def fX12_checkNode_386 (N : Nat) (v0 : Nat) (v2 : Int32) (h : pH) : Option (Int32 × pH) :=
  fX12_checkNode_387 N v0 v2 (5 : Int32) h
theorem lX12_checkNode_386 (X : pX) (N d : Nat)  (v0 : Nat) (v2 : Int32) (h : pH) (q : Int32 × pH) (hf : fX12_checkNode_386 N v0 v2 h = some q) (nv0 : ¬ v0 = 4) : Run X (d + 3) 12 false (pCd 9085) 8 (some .boolean) 386 [(0, .ref v0), (2, .int v2)] [] h 0 0 (some (.int q.1), q.2, 0, 0) := by
  unfold fX12_checkNode_386 at hf
  refine r_iconst (dGet dX12_checkNode (j := 154) rfl) kI_5 ?_
  exact lX12_checkNode_387 X N d v0 v2 (5 : Int32) h q hf nv0
def fX12_checkNode_361 (N : Nat) (v0 : Nat) (v2 : Int32) (v3 : Int32) (v4 : Int32) (h : pH) : Option (Int32 × pH) :=
  (getR h v0 12 20).bind fun t11 =>
  (ldI h t11 v3).bind fun t12 =>
  if t12 = (1 : Int32) then (
  (getR h v0 12 20).bind fun t14 =>
  (ldI h t14 v4).bind fun t15 =>
  if t15 = (1 : Int32) then (
  fX12_checkNode_387 N v0 v2 (1 : Int32) h) else (
  fX12_checkNode_386 N v0 v2 h)) else (
  fX12_checkNode_386 N v0 v2 h)
theorem lX12_checkNode_361 (X : pX) (N d : Nat)  (v0 : Nat) (v2 : Int32) (v3 : Int32) (v4 : Int32) (h : pH) (q : Int32 × pH) (hf : fX12_checkNode_361 N v0 v2 v3 v4 h = some q) (nv0 : ¬ v0 = 4) : Run X (d + 3) 12 false (pCd 9085) 8 (some .boolean) 361 [(0, .ref v0), (2, .int v2), (3, .int v3), (4, .int v4)] [] h 0 0 (some (.int q.1), q.2, 0, 0) := by
  unfold fX12_checkNode_361 at hf
  refine r_aload_n (dGet dX12_checkNode (j := 140) rfl) nv0 rfl ?_
  obtain ⟨t11, et11, hf⟩ := Option.bind_eq_some_iff.mp hf
  refine r_getR (dGet dX12_checkNode (j := 141) rfl) F12_37 et11 ?_
  refine r_iload_n (dGet dX12_checkNode (j := 142) rfl) rfl ?_
  obtain ⟨t12, et12, hf⟩ := Option.bind_eq_some_iff.mp hf
  refine r_iald (dGet dX12_checkNode (j := 143) rfl) et12 ?_
  refine r_iconst (dGet dX12_checkNode (j := 144) rfl) kI_1 ?_
  by_cases c13 : t12 = (1 : Int32)
  · rw [if_pos c13] at hf
    refine r_icmp_ne_f (dGet dX12_checkNode (j := 145) rfl) rfl c13 ?_
    refine r_aload_n (dGet dX12_checkNode (j := 146) rfl) nv0 rfl ?_
    obtain ⟨t14, et14, hf⟩ := Option.bind_eq_some_iff.mp hf
    refine r_getR (dGet dX12_checkNode (j := 147) rfl) F12_37 et14 ?_
    refine r_iload (dGet dX12_checkNode (j := 148) rfl) rfl ?_
    obtain ⟨t15, et15, hf⟩ := Option.bind_eq_some_iff.mp hf
    refine r_iald (dGet dX12_checkNode (j := 149) rfl) et15 ?_
    refine r_iconst (dGet dX12_checkNode (j := 150) rfl) kI_1 ?_
    by_cases c16 : t15 = (1 : Int32)
    · rw [if_pos c16] at hf
      refine r_icmp_ne_f (dGet dX12_checkNode (j := 151) rfl) rfl c16 ?_
      refine r_iconst (dGet dX12_checkNode (j := 152) rfl) kI_1 ?_
      refine r_goto (dGet dX12_checkNode (j := 153) rfl) rfl ?_
      refine Run.weak [(0, .ref v0), (2, .int v2)] (by simp) (by simp [pNd]) ?_
      exact lX12_checkNode_387 X N d v0 v2 (1 : Int32) h q hf nv0
    · rw [if_neg c16] at hf
      refine r_icmp_ne_t (dGet dX12_checkNode (j := 151) rfl) rfl c16 ?_
      refine Run.weak [(0, .ref v0), (2, .int v2)] (by simp) (by simp [pNd]) ?_
      exact lX12_checkNode_386 X N d v0 v2 h q hf nv0
  · rw [if_neg c13] at hf
    refine r_icmp_ne_t (dGet dX12_checkNode (j := 145) rfl) rfl c13 ?_
    refine Run.weak [(0, .ref v0), (2, .int v2)] (by simp) (by simp [pNd]) ?_
    exact lX12_checkNode_386 X N d v0 v2 h q hf nv0
def fX12_checkNode_356 (N : Nat) (v0 : Nat) (v2 : Int32) (s0 : Int32) (h : pH) : Option (Int32 × pH) :=
  fX12_checkNode_417 N v0 v2 s0 h
theorem lX12_checkNode_356 (X : pX) (N d : Nat)  (v0 : Nat) (v2 : Int32) (s0 : Int32) (h : pH) (q : Int32 × pH) (hf : fX12_checkNode_356 N v0 v2 s0 h = some q) (nv0 : ¬ v0 = 4) : Run X (d + 3) 12 false (pCd 9085) 8 (some .boolean) 356 [(0, .ref v0), (2, .int v2)] [.int s0] h 0 0 (some (.int q.1), q.2, 0, 0) := by
  unfold fX12_checkNode_356 at hf
  refine r_istore (lv' := [(5, .int s0), (0, .ref v0), (2, .int v2)]) (dGet dX12_checkNode (j := 138) rfl) (by decide) rfl ?_
  refine r_goto (dGet dX12_checkNode (j := 139) rfl) rfl ?_
  refine Run.weak [(0, .ref v0), (2, .int v2), (5, .int s0)] (by simp) (by simp [pNd]) ?_
  exact lX12_checkNode_417 X N d v0 v2 s0 h q hf nv0
def fX12_checkNode_336 (N : Nat) (v0 : Nat) (v2 : Int32) (s0 : Int32) (h : pH) : Option (Int32 × pH) :=
  fX12_checkNode_417 N v0 v2 s0 h
theorem lX12_checkNode_336 (X : pX) (N d : Nat)  (v0 : Nat) (v2 : Int32) (s0 : Int32) (h : pH) (q : Int32 × pH) (hf : fX12_checkNode_336 N v0 v2 s0 h = some q) (nv0 : ¬ v0 = 4) : Run X (d + 3) 12 false (pCd 9085) 8 (some .boolean) 336 [(0, .ref v0), (2, .int v2)] [.int s0] h 0 0 (some (.int q.1), q.2, 0, 0) := by
  unfold fX12_checkNode_336 at hf
  refine r_istore (lv' := [(5, .int s0), (0, .ref v0), (2, .int v2)]) (dGet dX12_checkNode (j := 127) rfl) (by decide) rfl ?_
  refine r_goto (dGet dX12_checkNode (j := 128) rfl) rfl ?_
  refine Run.weak [(0, .ref v0), (2, .int v2), (5, .int s0)] (by simp) (by simp [pNd]) ?_
  exact lX12_checkNode_417 X N d v0 v2 s0 h q hf nv0
def fX12_checkNode_317 (N : Nat) (v0 : Nat) (v2 : Int32) (s0 : Int32) (h : pH) : Option (Int32 × pH) :=
  fX12_checkNode_417 N v0 v2 s0 h
theorem lX12_checkNode_317 (X : pX) (N d : Nat)  (v0 : Nat) (v2 : Int32) (s0 : Int32) (h : pH) (q : Int32 × pH) (hf : fX12_checkNode_317 N v0 v2 s0 h = some q) (nv0 : ¬ v0 = 4) : Run X (d + 3) 12 false (pCd 9085) 8 (some .boolean) 317 [(0, .ref v0), (2, .int v2)] [.int s0] h 0 0 (some (.int q.1), q.2, 0, 0) := by
  unfold fX12_checkNode_317 at hf
  refine r_istore (lv' := [(5, .int s0), (0, .ref v0), (2, .int v2)]) (dGet dX12_checkNode (j := 117) rfl) (by decide) rfl ?_
  refine r_goto (dGet dX12_checkNode (j := 118) rfl) rfl ?_
  refine Run.weak [(0, .ref v0), (2, .int v2), (5, .int s0)] (by simp) (by simp [pNd]) ?_
  exact lX12_checkNode_417 X N d v0 v2 s0 h q hf nv0
def fX12_checkNode_298 (N : Nat) (v0 : Nat) (v2 : Int32) (s0 : Int32) (h : pH) : Option (Int32 × pH) :=
  fX12_checkNode_417 N v0 v2 s0 h
theorem lX12_checkNode_298 (X : pX) (N d : Nat)  (v0 : Nat) (v2 : Int32) (s0 : Int32) (h : pH) (q : Int32 × pH) (hf : fX12_checkNode_298 N v0 v2 s0 h = some q) (nv0 : ¬ v0 = 4) : Run X (d + 3) 12 false (pCd 9085) 8 (some .boolean) 298 [(0, .ref v0), (2, .int v2)] [.int s0] h 0 0 (some (.int q.1), q.2, 0, 0) := by
  unfold fX12_checkNode_298 at hf
  refine r_istore (lv' := [(5, .int s0), (0, .ref v0), (2, .int v2)]) (dGet dX12_checkNode (j := 107) rfl) (by decide) rfl ?_
  refine r_goto (dGet dX12_checkNode (j := 108) rfl) rfl ?_
  refine Run.weak [(0, .ref v0), (2, .int v2), (5, .int s0)] (by simp) (by simp [pNd]) ?_
  exact lX12_checkNode_417 X N d v0 v2 s0 h q hf nv0
def fX12_checkNode_277 (N : Nat) (v0 : Nat) (v2 : Int32) (h : pH) : Option (Int32 × pH) :=
  fX12_checkNode_298 N v0 v2 (5 : Int32) h
theorem lX12_checkNode_277 (X : pX) (N d : Nat)  (v0 : Nat) (v2 : Int32) (h : pH) (q : Int32 × pH) (hf : fX12_checkNode_277 N v0 v2 h = some q) (nv0 : ¬ v0 = 4) : Run X (d + 3) 12 false (pCd 9085) 8 (some .boolean) 277 [(0, .ref v0), (2, .int v2)] [] h 0 0 (some (.int q.1), q.2, 0, 0) := by
  unfold fX12_checkNode_277 at hf
  refine r_iconst (dGet dX12_checkNode (j := 96) rfl) kI_5 ?_
  refine r_goto (dGet dX12_checkNode (j := 97) rfl) rfl ?_
  exact lX12_checkNode_298 X N d v0 v2 (5 : Int32) h q hf nv0
def fX12_checkNode_264 (N : Nat) (v0 : Nat) (v2 : Int32) (v6 : Int32) (s0 : Int32) (h : pH) : Option (Int32 × pH) :=
  if s0 = 0 then (
  fX12_checkNode_277 N v0 v2 h) else (
  if v6 = (5 : Int32) then (
  fX12_checkNode_277 N v0 v2 h) else (
  (getR h v0 12 16).bind fun t19 =>
  (ldI h t19 v2).bind fun t20 =>
  if t20 = (11 : Int32) then (
  fX12_checkNode_298 N v0 v2 (1 : Int32) h) else (
  fX12_checkNode_298 N v0 v2 v6 h)))
theorem lX12_checkNode_264 (X : pX) (N d : Nat)  (v0 : Nat) (v2 : Int32) (v6 : Int32) (s0 : Int32) (h : pH) (q : Int32 × pH) (hf : fX12_checkNode_264 N v0 v2 v6 s0 h = some q) (nv0 : ¬ v0 = 4) : Run X (d + 3) 12 false (pCd 9085) 8 (some .boolean) 264 [(0, .ref v0), (2, .int v2), (6, .int v6)] [.int s0] h 0 0 (some (.int q.1), q.2, 0, 0) := by
  unfold fX12_checkNode_264 at hf
  refine r_istore (lv' := [(7, .int s0), (0, .ref v0), (2, .int v2), (6, .int v6)]) (dGet dX12_checkNode (j := 90) rfl) (by decide) rfl ?_
  refine r_iload (dGet dX12_checkNode (j := 91) rfl) rfl ?_
  by_cases c17 : s0 = 0
  · rw [if_pos c17] at hf
    refine r_if_eq_t (dGet dX12_checkNode (j := 92) rfl) rfl c17 ?_
    refine Run.weak [(0, .ref v0), (2, .int v2)] (by simp) (by simp [pNd]) ?_
    exact lX12_checkNode_277 X N d v0 v2 h q hf nv0
  · rw [if_neg c17] at hf
    refine r_if_eq_f (dGet dX12_checkNode (j := 92) rfl) rfl c17 ?_
    refine r_iload (dGet dX12_checkNode (j := 93) rfl) rfl ?_
    refine r_iconst (dGet dX12_checkNode (j := 94) rfl) kI_5 ?_
    by_cases c18 : v6 = (5 : Int32)
    · rw [if_pos c18] at hf
      refine r_icmp_ne_f (dGet dX12_checkNode (j := 95) rfl) rfl c18 ?_
      refine Run.weak [(0, .ref v0), (2, .int v2)] (by simp) (by simp [pNd]) ?_
      exact lX12_checkNode_277 X N d v0 v2 h q hf nv0
    · rw [if_neg c18] at hf
      refine r_icmp_ne_t (dGet dX12_checkNode (j := 95) rfl) rfl c18 ?_
      refine r_aload_n (dGet dX12_checkNode (j := 98) rfl) nv0 rfl ?_
      obtain ⟨t19, et19, hf⟩ := Option.bind_eq_some_iff.mp hf
      refine r_getR (dGet dX12_checkNode (j := 99) rfl) F12_25 et19 ?_
      refine r_iload_n (dGet dX12_checkNode (j := 100) rfl) rfl ?_
      obtain ⟨t20, et20, hf⟩ := Option.bind_eq_some_iff.mp hf
      refine r_iald (dGet dX12_checkNode (j := 101) rfl) et20 ?_
      refine r_bipush (dGet dX12_checkNode (j := 102) rfl) kB_11 ?_
      by_cases c21 : t20 = (11 : Int32)
      · rw [if_pos c21] at hf
        refine r_icmp_ne_f (dGet dX12_checkNode (j := 103) rfl) rfl c21 ?_
        refine r_iconst (dGet dX12_checkNode (j := 104) rfl) kI_1 ?_
        refine r_goto (dGet dX12_checkNode (j := 105) rfl) rfl ?_
        refine Run.weak [(0, .ref v0), (2, .int v2)] (by simp) (by simp [pNd]) ?_
        exact lX12_checkNode_298 X N d v0 v2 (1 : Int32) h q hf nv0
      · rw [if_neg c21] at hf
        refine r_icmp_ne_t (dGet dX12_checkNode (j := 103) rfl) rfl c21 ?_
        refine r_iload (dGet dX12_checkNode (j := 106) rfl) rfl ?_
        refine Run.weak [(0, .ref v0), (2, .int v2)] (by simp) (by simp [pNd]) ?_
        exact lX12_checkNode_298 X N d v0 v2 v6 h q hf nv0
def fX12_checkNode_259 (N : Nat) (v0 : Nat) (v2 : Int32) (v6 : Int32) (h : pH) : Option (Int32 × pH) :=
  fX12_checkNode_264 N v0 v2 v6 (1 : Int32) h
theorem lX12_checkNode_259 (X : pX) (N d : Nat)  (v0 : Nat) (v2 : Int32) (v6 : Int32) (h : pH) (q : Int32 × pH) (hf : fX12_checkNode_259 N v0 v2 v6 h = some q) (nv0 : ¬ v0 = 4) : Run X (d + 3) 12 false (pCd 9085) 8 (some .boolean) 259 [(0, .ref v0), (2, .int v2), (6, .int v6)] [] h 0 0 (some (.int q.1), q.2, 0, 0) := by
  unfold fX12_checkNode_259 at hf
  refine r_iconst (dGet dX12_checkNode (j := 87) rfl) kI_1 ?_
  refine r_goto (dGet dX12_checkNode (j := 88) rfl) rfl ?_
  exact lX12_checkNode_264 X N d v0 v2 v6 (1 : Int32) h q hf nv0
def fX12_checkNode_231 (N : Nat) (v0 : Nat) (v2 : Int32) (v3 : Int32) (h : pH) : Option (Int32 × pH) :=
  (fX12_meantClass N v0 v2 h).bind fun q22 =>
  (getR q22.2 v0 12 20).bind fun t23 =>
  (ldI q22.2 t23 v3).bind fun t24 =>
  if (10 : Int32) ≤ t24 then (
  fX12_checkNode_259 N v0 v2 q22.1 q22.2) else (
  (getR q22.2 v0 12 20).bind fun t26 =>
  (ldI q22.2 t26 v3).bind fun t27 =>
  if t27 = (4 : Int32) then (
  fX12_checkNode_259 N v0 v2 q22.1 q22.2) else (
  fX12_checkNode_264 N v0 v2 q22.1 (0 : Int32) q22.2))
theorem lX12_checkNode_231 (X : pX) (N d : Nat)  (v0 : Nat) (v2 : Int32) (v3 : Int32) (h : pH) (q : Int32 × pH) (hf : fX12_checkNode_231 N v0 v2 v3 h = some q) (nv0 : ¬ v0 = 4) : Run X (d + 3) 12 false (pCd 9085) 8 (some .boolean) 231 [(0, .ref v0), (2, .int v2), (3, .int v3)] [] h 0 0 (some (.int q.1), q.2, 0, 0) := by
  unfold fX12_checkNode_231 at hf
  refine r_aload_n (dGet dX12_checkNode (j := 71) rfl) nv0 rfl ?_
  refine r_iload_n (dGet dX12_checkNode (j := 72) rfl) rfl ?_
  obtain ⟨q22, eq22, hf⟩ := Option.bind_eq_some_iff.mp hf
  refine r_virtual (dGet dX12_checkNode (j := 73) rfl) L12_534 M288 rfl rfl (Nat.le_of_ble_eq_true rfl) (oX12_meantClass eq22) (cX12_meantClass X N (d + 1) v0 v2 h q22 eq22) ?_
  refine r_istore (lv' := [(6, .int q22.1), (0, .ref v0), (2, .int v2), (3, .int v3)]) (dGet dX12_checkNode (j := 74) rfl) (by decide) rfl ?_
  refine r_aload_n (dGet dX12_checkNode (j := 75) rfl) nv0 rfl ?_
  obtain ⟨t23, et23, hf⟩ := Option.bind_eq_some_iff.mp hf
  refine r_getR (dGet dX12_checkNode (j := 76) rfl) F12_37 et23 ?_
  refine r_iload_n (dGet dX12_checkNode (j := 77) rfl) rfl ?_
  obtain ⟨t24, et24, hf⟩ := Option.bind_eq_some_iff.mp hf
  refine r_iald (dGet dX12_checkNode (j := 78) rfl) et24 ?_
  refine r_bipush (dGet dX12_checkNode (j := 79) rfl) kB_10 ?_
  by_cases c25 : (10 : Int32) ≤ t24
  · rw [if_pos c25] at hf
    refine r_icmp_ge_t (dGet dX12_checkNode (j := 80) rfl) rfl c25 ?_
    refine Run.weak [(0, .ref v0), (2, .int v2), (6, .int q22.1)] (by simp) (by simp [pNd]) ?_
    exact lX12_checkNode_259 X N d v0 v2 q22.1 q22.2 q hf nv0
  · rw [if_neg c25] at hf
    refine r_icmp_ge_f (dGet dX12_checkNode (j := 80) rfl) rfl c25 ?_
    refine r_aload_n (dGet dX12_checkNode (j := 81) rfl) nv0 rfl ?_
    obtain ⟨t26, et26, hf⟩ := Option.bind_eq_some_iff.mp hf
    refine r_getR (dGet dX12_checkNode (j := 82) rfl) F12_37 et26 ?_
    refine r_iload_n (dGet dX12_checkNode (j := 83) rfl) rfl ?_
    obtain ⟨t27, et27, hf⟩ := Option.bind_eq_some_iff.mp hf
    refine r_iald (dGet dX12_checkNode (j := 84) rfl) et27 ?_
    refine r_iconst (dGet dX12_checkNode (j := 85) rfl) kI_4 ?_
    by_cases c28 : t27 = (4 : Int32)
    · rw [if_pos c28] at hf
      refine r_icmp_ne_f (dGet dX12_checkNode (j := 86) rfl) rfl c28 ?_
      refine Run.weak [(0, .ref v0), (2, .int v2), (6, .int q22.1)] (by simp) (by simp [pNd]) ?_
      exact lX12_checkNode_259 X N d v0 v2 q22.1 q22.2 q hf nv0
    · rw [if_neg c28] at hf
      refine r_icmp_ne_t (dGet dX12_checkNode (j := 86) rfl) rfl c28 ?_
      refine r_iconst (dGet dX12_checkNode (j := 89) rfl) kI_0 ?_
      refine Run.weak [(0, .ref v0), (2, .int v2), (6, .int q22.1)] (by simp) (by simp [pNd]) ?_
      exact lX12_checkNode_264 X N d v0 v2 q22.1 (0 : Int32) q22.2 q hf nv0
def fX12_checkNode_220 (N : Nat) (v0 : Nat) (v2 : Int32) (v3 : Int32) (h : pH) : Option (Int32 × pH) :=
  (fX12_call N v0 v2 v3 h).bind fun q29 =>
  fX12_checkNode_417 N v0 v2 q29.1 q29.2
theorem lX12_checkNode_220 (X : pX) (N d : Nat)  (v0 : Nat) (v2 : Int32) (v3 : Int32) (h : pH) (q : Int32 × pH) (hf : fX12_checkNode_220 N v0 v2 v3 h = some q) (nv0 : ¬ v0 = 4) : Run X (d + 3) 12 false (pCd 9085) 8 (some .boolean) 220 [(0, .ref v0), (2, .int v2), (3, .int v3)] [] h 0 0 (some (.int q.1), q.2, 0, 0) := by
  unfold fX12_checkNode_220 at hf
  refine r_aload_n (dGet dX12_checkNode (j := 65) rfl) nv0 rfl ?_
  refine r_iload_n (dGet dX12_checkNode (j := 66) rfl) rfl ?_
  refine r_iload_n (dGet dX12_checkNode (j := 67) rfl) rfl ?_
  obtain ⟨q29, eq29, hf⟩ := Option.bind_eq_some_iff.mp hf
  refine r_virtual (dGet dX12_checkNode (j := 68) rfl) L12_540 M290 rfl rfl (Nat.le_of_ble_eq_true rfl) (oX12_call eq29) (cX12_call X N (d + 0) v0 v2 v3 h q29 eq29) ?_
  refine r_istore (lv' := [(5, .int q29.1), (0, .ref v0), (2, .int v2), (3, .int v3)]) (dGet dX12_checkNode (j := 69) rfl) (by decide) rfl ?_
  refine r_goto (dGet dX12_checkNode (j := 70) rfl) rfl ?_
  refine Run.weak [(0, .ref v0), (2, .int v2), (5, .int q29.1)] (by simp) (by simp [pNd]) ?_
  exact lX12_checkNode_417 X N d v0 v2 q29.1 q29.2 q hf nv0
def fX12_checkNode_215 (N : Nat) (v0 : Nat) (v2 : Int32) (s0 : Int32) (h : pH) : Option (Int32 × pH) :=
  fX12_checkNode_417 N v0 v2 s0 h
theorem lX12_checkNode_215 (X : pX) (N d : Nat)  (v0 : Nat) (v2 : Int32) (s0 : Int32) (h : pH) (q : Int32 × pH) (hf : fX12_checkNode_215 N v0 v2 s0 h = some q) (nv0 : ¬ v0 = 4) : Run X (d + 3) 12 false (pCd 9085) 8 (some .boolean) 215 [(0, .ref v0), (2, .int v2)] [.int s0] h 0 0 (some (.int q.1), q.2, 0, 0) := by
  unfold fX12_checkNode_215 at hf
  refine r_istore (lv' := [(5, .int s0), (0, .ref v0), (2, .int v2)]) (dGet dX12_checkNode (j := 63) rfl) (by decide) rfl ?_
  refine r_goto (dGet dX12_checkNode (j := 64) rfl) rfl ?_
  refine Run.weak [(0, .ref v0), (2, .int v2), (5, .int s0)] (by simp) (by simp [pNd]) ?_
  exact lX12_checkNode_417 X N d v0 v2 s0 h q hf nv0
def fX12_checkNode_214 (N : Nat) (v0 : Nat) (v2 : Int32) (h : pH) : Option (Int32 × pH) :=
  fX12_checkNode_215 N v0 v2 (5 : Int32) h
theorem lX12_checkNode_214 (X : pX) (N d : Nat)  (v0 : Nat) (v2 : Int32) (h : pH) (q : Int32 × pH) (hf : fX12_checkNode_214 N v0 v2 h = some q) (nv0 : ¬ v0 = 4) : Run X (d + 3) 12 false (pCd 9085) 8 (some .boolean) 214 [(0, .ref v0), (2, .int v2)] [] h 0 0 (some (.int q.1), q.2, 0, 0) := by
  unfold fX12_checkNode_214 at hf
  refine r_iconst (dGet dX12_checkNode (j := 62) rfl) kI_5 ?_
  exact lX12_checkNode_215 X N d v0 v2 (5 : Int32) h q hf nv0
def fX12_checkNode_128 (N : Nat) (v0 : Nat) (v2 : Int32) (h : pH) : Option (Int32 × pH) :=
  fX12_checkNode_417 N v0 v2 (0 : Int32) h
theorem lX12_checkNode_128 (X : pX) (N d : Nat)  (v0 : Nat) (v2 : Int32) (h : pH) (q : Int32 × pH) (hf : fX12_checkNode_128 N v0 v2 h = some q) (nv0 : ¬ v0 = 4) : Run X (d + 3) 12 false (pCd 9085) 8 (some .boolean) 128 [(0, .ref v0), (2, .int v2)] [] h 0 0 (some (.int q.1), q.2, 0, 0) := by
  unfold fX12_checkNode_128 at hf
  refine r_iconst (dGet dX12_checkNode (j := 17) rfl) kI_0 ?_
  refine r_istore (lv' := [(5, .int (0 : Int32)), (0, .ref v0), (2, .int v2)]) (dGet dX12_checkNode (j := 18) rfl) (by decide) rfl ?_
  refine r_goto (dGet dX12_checkNode (j := 19) rfl) rfl ?_
  refine Run.weak [(0, .ref v0), (2, .int v2), (5, .int (0 : Int32))] (by simp) (by simp [pNd]) ?_
  exact lX12_checkNode_417 X N d v0 v2 (0 : Int32) h q hf nv0
def fX12_checkNode (N : Nat) (v0 : Nat) (v1 : Int32) (v2 : Int32) (h : pH) : Option (Int32 × pH) := if isO h v0 12 = true then (
  (getR h v0 12 17).bind fun t30 =>
  (ldI h t30 v2).bind fun t31 =>
  (getR h v0 12 18).bind fun t32 =>
  (ldI h t32 v2).bind fun t33 =>
  (getR h v0 12 16).bind fun t34 =>
  (ldI h t34 v2).bind fun t35 =>
  if t35 = 0 then (
  fX12_checkNode_128 N v0 v2 h) else
  if t35 = 1 then (
  fX12_checkNode_417 N v0 v2 (4 : Int32) h) else
  if t35 = 2 then (
  (getI h v0 12 60).bind fun t58 =>
  fX12_checkNode_417 N v0 v2 ((10 : Int32) + t58) h) else
  if t35 = 3 then (
  fX12_checkNode_128 N v0 v2 h) else
  if t35 = 4 then (
  (fX12_named N v0 v1 v2 h).bind fun q59 =>
  fX12_checkNode_417 N v0 v2 q59.1 q59.2) else
  if t35 = 5 then (
  (fX12_meantClass N v0 v2 h).bind fun q60 =>
  fX12_checkNode_417 N v0 v2 q60.1 q60.2) else
  if t35 = 6 then (
  (fX12_field N v0 v2 t31 h).bind fun q61 =>
  fX12_checkNode_417 N v0 v2 q61.1 q61.2) else
  if t35 = 7 then (
  (getR h v0 12 20).bind fun t62 =>
  (ldI h t62 t31).bind fun t63 =>
  if t63 = (2 : Int32) then (
  (getR h v0 12 20).bind fun t65 =>
  (ldI h t65 t33).bind fun t66 =>
  if t66 = 0 then (
  fX12_checkNode_215 N v0 v2 (0 : Int32) h) else (
  fX12_checkNode_214 N v0 v2 h)) else (
  fX12_checkNode_214 N v0 v2 h)) else
  if t35 = 8 then (
  fX12_checkNode_220 N v0 v2 t31 h) else
  if t35 = 9 then (
  fX12_checkNode_220 N v0 v2 t31 h) else
  if t35 = 10 then (
  fX12_checkNode_231 N v0 v2 t31 h) else
  if t35 = 11 then (
  fX12_checkNode_231 N v0 v2 t31 h) else
  if t35 = 12 then (
  (getR h v0 12 20).bind fun t68 =>
  (ldI h t68 t31).bind fun t69 =>
  if t69 = 0 then (
  fX12_checkNode_317 N v0 v2 (2 : Int32) h) else (
  fX12_checkNode_317 N v0 v2 (5 : Int32) h)) else
  if t35 = 13 then (
  (getR h v0 12 20).bind fun t71 =>
  (ldI h t71 t31).bind fun t72 =>
  if t72 = 0 then (
  fX12_checkNode_336 N v0 v2 (0 : Int32) h) else (
  fX12_checkNode_336 N v0 v2 (5 : Int32) h)) else
  if t35 = 14 then (
  (getR h v0 12 20).bind fun t74 =>
  (ldI h t74 t31).bind fun t75 =>
  if t75 = (1 : Int32) then (
  fX12_checkNode_356 N v0 v2 (1 : Int32) h) else (
  fX12_checkNode_356 N v0 v2 (5 : Int32) h)) else
  if t35 = 15 then (
  fX12_checkNode_392 N v0 v2 t31 t33 h) else
  if t35 = 16 then (
  fX12_checkNode_361 N v0 v2 t31 t33 h) else
  if t35 = 17 then (
  fX12_checkNode_361 N v0 v2 t31 t33 h) else
  if t35 = 18 then (
  fX12_checkNode_392 N v0 v2 t31 t33 h) else
  if t35 = 19 then (
  fX12_checkNode_392 N v0 v2 t31 t33 h) else
  if t35 = 20 then (
  fX12_checkNode_392 N v0 v2 t31 t33 h) else
  if t35 = 21 then (
  fX12_checkNode_417 N v0 v2 (1 : Int32) h) else
  fX12_checkNode_392 N v0 v2 t31 t33 h) else none
theorem oX12_checkNode {N : Nat} {v0 : Nat} {v1 : Int32} {v2 : Int32} {h : pH} {q : Int32 × pH} (hf : fX12_checkNode N v0 v1 v2 h = some q) : isO h v0 12 = true := by
  unfold fX12_checkNode at hf
  by_cases hc : isO h v0 12 = true
  · exact hc
  · rw [if_neg hc] at hf; cases hf
theorem cX12_checkNode (X : pX) (N d : Nat) (v0 : Nat) (v1 : Int32) (v2 : Int32) (h : pH) (q : Int32 × pH) (hf : fX12_checkNode N v0 v1 v2 h = some q) : Calls X (d + 3) 285 [.ref v0, .int v1, .int v2] h (some (.int q.1), q.2, 0, 0) := by
  refine Calls.of M285 (Nat.le_of_ble_eq_true rfl) ?_
  show Run X (d + 3) 12 false (pCd 9085) 8 (some .boolean) 0 [(0, .ref v0), (1, .int v1), (2, .int v2)] [] h 0 0 (some (.int q.1), q.2, 0, 0)
  unfold fX12_checkNode at hf
  by_cases hc : isO h v0 12 = true
  · rw [if_pos hc] at hf
    have nv0 : ¬ v0 = 4 := isO_ne hc
    refine r_aload_n (dGet dX12_checkNode (j := 0) rfl) nv0 rfl ?_
    obtain ⟨t30, et30, hf⟩ := Option.bind_eq_some_iff.mp hf
    refine r_getR (dGet dX12_checkNode (j := 1) rfl) F12_28 et30 ?_
    refine r_iload_n (dGet dX12_checkNode (j := 2) rfl) rfl ?_
    obtain ⟨t31, et31, hf⟩ := Option.bind_eq_some_iff.mp hf
    refine r_iald (dGet dX12_checkNode (j := 3) rfl) et31 ?_
    refine r_istore_n (lv' := [(3, .int t31), (0, .ref v0), (1, .int v1), (2, .int v2)]) (dGet dX12_checkNode (j := 4) rfl) (by decide) rfl ?_
    refine r_aload_n (dGet dX12_checkNode (j := 5) rfl) nv0 rfl ?_
    obtain ⟨t32, et32, hf⟩ := Option.bind_eq_some_iff.mp hf
    refine r_getR (dGet dX12_checkNode (j := 6) rfl) F12_31 et32 ?_
    refine r_iload_n (dGet dX12_checkNode (j := 7) rfl) rfl ?_
    obtain ⟨t33, et33, hf⟩ := Option.bind_eq_some_iff.mp hf
    refine r_iald (dGet dX12_checkNode (j := 8) rfl) et33 ?_
    refine r_istore (lv' := [(4, .int t33), (3, .int t31), (0, .ref v0), (1, .int v1), (2, .int v2)]) (dGet dX12_checkNode (j := 9) rfl) (by decide) rfl ?_
    refine r_iconst (dGet dX12_checkNode (j := 10) rfl) kI_5 ?_
    refine r_istore (lv' := [(5, .int (5 : Int32)), (4, .int t33), (3, .int t31), (0, .ref v0), (1, .int v1), (2, .int v2)]) (dGet dX12_checkNode (j := 11) rfl) (by decide) rfl ?_
    refine r_aload_n (dGet dX12_checkNode (j := 12) rfl) nv0 rfl ?_
    obtain ⟨t34, et34, hf⟩ := Option.bind_eq_some_iff.mp hf
    refine r_getR (dGet dX12_checkNode (j := 13) rfl) F12_25 et34 ?_
    refine r_iload_n (dGet dX12_checkNode (j := 14) rfl) rfl ?_
    obtain ⟨t35, et35, hf⟩ := Option.bind_eq_some_iff.mp hf
    refine r_iald (dGet dX12_checkNode (j := 15) rfl) et35 ?_
    by_cases c36 : t35 = 0
    · rw [if_pos c36] at hf
      refine r_table (off := 104) (dGet dX12_checkNode (j := 16) rfl) (by rw [c36]; decide) rfl ?_
      refine Run.weak [(0, .ref v0), (2, .int v2)] (by simp) (by simp [pNd]) ?_
      exact lX12_checkNode_128 X N d v0 v2 h q hf nv0
    rw [if_neg c36] at hf
    by_cases c37 : t35 = 1
    · rw [if_pos c37] at hf
      refine r_table (off := 116) (dGet dX12_checkNode (j := 16) rfl) (by rw [c37]; decide) rfl ?_
      refine r_iconst (dGet dX12_checkNode (j := 23) rfl) kI_4 ?_
      refine r_istore (lv' := [(5, .int (4 : Int32)), (4, .int t33), (3, .int t31), (0, .ref v0), (1, .int v1), (2, .int v2)]) (dGet dX12_checkNode (j := 24) rfl) (by decide) rfl ?_
      refine r_goto (dGet dX12_checkNode (j := 25) rfl) rfl ?_
      refine Run.weak [(0, .ref v0), (2, .int v2), (5, .int (4 : Int32))] (by simp) (by simp [pNd]) ?_
      exact lX12_checkNode_417 X N d v0 v2 (4 : Int32) h q hf nv0
    rw [if_neg c37] at hf
    by_cases c38 : t35 = 2
    · rw [if_pos c38] at hf
      refine r_table (off := 122) (dGet dX12_checkNode (j := 16) rfl) (by rw [c38]; decide) rfl ?_
      refine r_bipush (dGet dX12_checkNode (j := 26) rfl) kB_10 ?_
      refine r_aload_n (dGet dX12_checkNode (j := 27) rfl) nv0 rfl ?_
      obtain ⟨t58, et58, hf⟩ := Option.bind_eq_some_iff.mp hf
      refine r_getI (dGet dX12_checkNode (j := 28) rfl) F12_470 et58 ?_
      refine r_iadd (dGet dX12_checkNode (j := 29) rfl) ?_
      refine r_istore (lv' := [(5, .int ((10 : Int32) + t58)), (4, .int t33), (3, .int t31), (0, .ref v0), (1, .int v1), (2, .int v2)]) (dGet dX12_checkNode (j := 30) rfl) (by decide) rfl ?_
      refine r_goto (dGet dX12_checkNode (j := 31) rfl) rfl ?_
      refine Run.weak [(0, .ref v0), (2, .int v2), (5, .int ((10 : Int32) + t58))] (by simp) (by simp [pNd]) ?_
      exact lX12_checkNode_417 X N d v0 v2 ((10 : Int32) + t58) h q hf nv0
    rw [if_neg c38] at hf
    by_cases c39 : t35 = 3
    · rw [if_pos c39] at hf
      refine r_table (off := 104) (dGet dX12_checkNode (j := 16) rfl) (by rw [c39]; decide) rfl ?_
      refine Run.weak [(0, .ref v0), (2, .int v2)] (by simp) (by simp [pNd]) ?_
      exact lX12_checkNode_128 X N d v0 v2 h q hf nv0
    rw [if_neg c39] at hf
    by_cases c40 : t35 = 4
    · rw [if_pos c40] at hf
      refine r_table (off := 134) (dGet dX12_checkNode (j := 16) rfl) (by rw [c40]; decide) rfl ?_
      refine r_aload_n (dGet dX12_checkNode (j := 32) rfl) nv0 rfl ?_
      refine r_iload_n (dGet dX12_checkNode (j := 33) rfl) rfl ?_
      refine r_iload_n (dGet dX12_checkNode (j := 34) rfl) rfl ?_
      obtain ⟨q59, eq59, hf⟩ := Option.bind_eq_some_iff.mp hf
      refine r_virtual (dGet dX12_checkNode (j := 35) rfl) L12_530 M286 rfl rfl (Nat.le_of_ble_eq_true rfl) (oX12_named eq59) (cX12_named X N (d + 1) v0 v1 v2 h q59 eq59) ?_
      refine r_istore (lv' := [(5, .int q59.1), (4, .int t33), (3, .int t31), (0, .ref v0), (1, .int v1), (2, .int v2)]) (dGet dX12_checkNode (j := 36) rfl) (by decide) rfl ?_
      refine r_goto (dGet dX12_checkNode (j := 37) rfl) rfl ?_
      refine Run.weak [(0, .ref v0), (2, .int v2), (5, .int q59.1)] (by simp) (by simp [pNd]) ?_
      exact lX12_checkNode_417 X N d v0 v2 q59.1 q59.2 q hf nv0
    rw [if_neg c40] at hf
    by_cases c41 : t35 = 5
    · rw [if_pos c41] at hf
      refine r_table (off := 145) (dGet dX12_checkNode (j := 16) rfl) (by rw [c41]; decide) rfl ?_
      refine r_aload_n (dGet dX12_checkNode (j := 38) rfl) nv0 rfl ?_
      refine r_iload_n (dGet dX12_checkNode (j := 39) rfl) rfl ?_
      obtain ⟨q60, eq60, hf⟩ := Option.bind_eq_some_iff.mp hf
      refine r_virtual (dGet dX12_checkNode (j := 40) rfl) L12_534 M288 rfl rfl (Nat.le_of_ble_eq_true rfl) (oX12_meantClass eq60) (cX12_meantClass X N (d + 1) v0 v2 h q60 eq60) ?_
      refine r_istore (lv' := [(5, .int q60.1), (4, .int t33), (3, .int t31), (0, .ref v0), (1, .int v1), (2, .int v2)]) (dGet dX12_checkNode (j := 41) rfl) (by decide) rfl ?_
      refine r_goto (dGet dX12_checkNode (j := 42) rfl) rfl ?_
      refine Run.weak [(0, .ref v0), (2, .int v2), (5, .int q60.1)] (by simp) (by simp [pNd]) ?_
      exact lX12_checkNode_417 X N d v0 v2 q60.1 q60.2 q hf nv0
    rw [if_neg c41] at hf
    by_cases c42 : t35 = 6
    · rw [if_pos c42] at hf
      refine r_table (off := 155) (dGet dX12_checkNode (j := 16) rfl) (by rw [c42]; decide) rfl ?_
      refine r_aload_n (dGet dX12_checkNode (j := 43) rfl) nv0 rfl ?_
      refine r_iload_n (dGet dX12_checkNode (j := 44) rfl) rfl ?_
      refine r_iload_n (dGet dX12_checkNode (j := 45) rfl) rfl ?_
      obtain ⟨q61, eq61, hf⟩ := Option.bind_eq_some_iff.mp hf
      refine r_virtual (dGet dX12_checkNode (j := 46) rfl) L12_537 M289 rfl rfl (Nat.le_of_ble_eq_true rfl) (oX12_field eq61) (cX12_field X N (d + 1) v0 v2 t31 h q61 eq61) ?_
      refine r_istore (lv' := [(5, .int q61.1), (4, .int t33), (3, .int t31), (0, .ref v0), (1, .int v1), (2, .int v2)]) (dGet dX12_checkNode (j := 47) rfl) (by decide) rfl ?_
      refine r_goto (dGet dX12_checkNode (j := 48) rfl) rfl ?_
      refine Run.weak [(0, .ref v0), (2, .int v2), (5, .int q61.1)] (by simp) (by simp [pNd]) ?_
      exact lX12_checkNode_417 X N d v0 v2 q61.1 q61.2 q hf nv0
    rw [if_neg c42] at hf
    by_cases c43 : t35 = 7
    · rw [if_pos c43] at hf
      refine r_table (off := 166) (dGet dX12_checkNode (j := 16) rfl) (by rw [c43]; decide) rfl ?_
      refine r_aload_n (dGet dX12_checkNode (j := 49) rfl) nv0 rfl ?_
      obtain ⟨t62, et62, hf⟩ := Option.bind_eq_some_iff.mp hf
      refine r_getR (dGet dX12_checkNode (j := 50) rfl) F12_37 et62 ?_
      refine r_iload_n (dGet dX12_checkNode (j := 51) rfl) rfl ?_
      obtain ⟨t63, et63, hf⟩ := Option.bind_eq_some_iff.mp hf
      refine r_iald (dGet dX12_checkNode (j := 52) rfl) et63 ?_
      refine r_iconst (dGet dX12_checkNode (j := 53) rfl) kI_2 ?_
      by_cases c64 : t63 = (2 : Int32)
      · rw [if_pos c64] at hf
        refine r_icmp_ne_f (dGet dX12_checkNode (j := 54) rfl) rfl c64 ?_
        refine r_aload_n (dGet dX12_checkNode (j := 55) rfl) nv0 rfl ?_
        obtain ⟨t65, et65, hf⟩ := Option.bind_eq_some_iff.mp hf
        refine r_getR (dGet dX12_checkNode (j := 56) rfl) F12_37 et65 ?_
        refine r_iload (dGet dX12_checkNode (j := 57) rfl) rfl ?_
        obtain ⟨t66, et66, hf⟩ := Option.bind_eq_some_iff.mp hf
        refine r_iald (dGet dX12_checkNode (j := 58) rfl) et66 ?_
        by_cases c67 : t66 = 0
        · rw [if_pos c67] at hf
          refine r_if_ne_f (dGet dX12_checkNode (j := 59) rfl) rfl c67 ?_
          refine r_iconst (dGet dX12_checkNode (j := 60) rfl) kI_0 ?_
          refine r_goto (dGet dX12_checkNode (j := 61) rfl) rfl ?_
          refine Run.weak [(0, .ref v0), (2, .int v2)] (by simp) (by simp [pNd]) ?_
          exact lX12_checkNode_215 X N d v0 v2 (0 : Int32) h q hf nv0
        · rw [if_neg c67] at hf
          refine r_if_ne_t (dGet dX12_checkNode (j := 59) rfl) rfl c67 ?_
          refine Run.weak [(0, .ref v0), (2, .int v2)] (by simp) (by simp [pNd]) ?_
          exact lX12_checkNode_214 X N d v0 v2 h q hf nv0
      · rw [if_neg c64] at hf
        refine r_icmp_ne_t (dGet dX12_checkNode (j := 54) rfl) rfl c64 ?_
        refine Run.weak [(0, .ref v0), (2, .int v2)] (by simp) (by simp [pNd]) ?_
        exact lX12_checkNode_214 X N d v0 v2 h q hf nv0
    rw [if_neg c43] at hf
    by_cases c44 : t35 = 8
    · rw [if_pos c44] at hf
      refine r_table (off := 196) (dGet dX12_checkNode (j := 16) rfl) (by rw [c44]; decide) rfl ?_
      refine Run.weak [(0, .ref v0), (2, .int v2), (3, .int t31)] (by simp) (by simp [pNd]) ?_
      exact lX12_checkNode_220 X N d v0 v2 t31 h q hf nv0
    rw [if_neg c44] at hf
    by_cases c45 : t35 = 9
    · rw [if_pos c45] at hf
      refine r_table (off := 196) (dGet dX12_checkNode (j := 16) rfl) (by rw [c45]; decide) rfl ?_
      refine Run.weak [(0, .ref v0), (2, .int v2), (3, .int t31)] (by simp) (by simp [pNd]) ?_
      exact lX12_checkNode_220 X N d v0 v2 t31 h q hf nv0
    rw [if_neg c45] at hf
    by_cases c46 : t35 = 10
    · rw [if_pos c46] at hf
      refine r_table (off := 207) (dGet dX12_checkNode (j := 16) rfl) (by rw [c46]; decide) rfl ?_
      refine Run.weak [(0, .ref v0), (2, .int v2), (3, .int t31)] (by simp) (by simp [pNd]) ?_
      exact lX12_checkNode_231 X N d v0 v2 t31 h q hf nv0
    rw [if_neg c46] at hf
    by_cases c47 : t35 = 11
    · rw [if_pos c47] at hf
      refine r_table (off := 207) (dGet dX12_checkNode (j := 16) rfl) (by rw [c47]; decide) rfl ?_
      refine Run.weak [(0, .ref v0), (2, .int v2), (3, .int t31)] (by simp) (by simp [pNd]) ?_
      exact lX12_checkNode_231 X N d v0 v2 t31 h q hf nv0
    rw [if_neg c47] at hf
    by_cases c48 : t35 = 12
    · rw [if_pos c48] at hf
      refine r_table (off := 279) (dGet dX12_checkNode (j := 16) rfl) (by rw [c48]; decide) rfl ?_
      refine r_aload_n (dGet dX12_checkNode (j := 109) rfl) nv0 rfl ?_
      obtain ⟨t68, et68, hf⟩ := Option.bind_eq_some_iff.mp hf
      refine r_getR (dGet dX12_checkNode (j := 110) rfl) F12_37 et68 ?_
      refine r_iload_n (dGet dX12_checkNode (j := 111) rfl) rfl ?_
      obtain ⟨t69, et69, hf⟩ := Option.bind_eq_some_iff.mp hf
      refine r_iald (dGet dX12_checkNode (j := 112) rfl) et69 ?_
      by_cases c70 : t69 = 0
      · rw [if_pos c70] at hf
        refine r_if_ne_f (dGet dX12_checkNode (j := 113) rfl) rfl c70 ?_
        refine r_iconst (dGet dX12_checkNode (j := 114) rfl) kI_2 ?_
        refine r_goto (dGet dX12_checkNode (j := 115) rfl) rfl ?_
        refine Run.weak [(0, .ref v0), (2, .int v2)] (by simp) (by simp [pNd]) ?_
        exact lX12_checkNode_317 X N d v0 v2 (2 : Int32) h q hf nv0
      · rw [if_neg c70] at hf
        refine r_if_ne_t (dGet dX12_checkNode (j := 113) rfl) rfl c70 ?_
        refine r_iconst (dGet dX12_checkNode (j := 116) rfl) kI_5 ?_
        refine Run.weak [(0, .ref v0), (2, .int v2)] (by simp) (by simp [pNd]) ?_
        exact lX12_checkNode_317 X N d v0 v2 (5 : Int32) h q hf nv0
    rw [if_neg c48] at hf
    by_cases c49 : t35 = 13
    · rw [if_pos c49] at hf
      refine r_table (off := 298) (dGet dX12_checkNode (j := 16) rfl) (by rw [c49]; decide) rfl ?_
      refine r_aload_n (dGet dX12_checkNode (j := 119) rfl) nv0 rfl ?_
      obtain ⟨t71, et71, hf⟩ := Option.bind_eq_some_iff.mp hf
      refine r_getR (dGet dX12_checkNode (j := 120) rfl) F12_37 et71 ?_
      refine r_iload_n (dGet dX12_checkNode (j := 121) rfl) rfl ?_
      obtain ⟨t72, et72, hf⟩ := Option.bind_eq_some_iff.mp hf
      refine r_iald (dGet dX12_checkNode (j := 122) rfl) et72 ?_
      by_cases c73 : t72 = 0
      · rw [if_pos c73] at hf
        refine r_if_ne_f (dGet dX12_checkNode (j := 123) rfl) rfl c73 ?_
        refine r_iconst (dGet dX12_checkNode (j := 124) rfl) kI_0 ?_
        refine r_goto (dGet dX12_checkNode (j := 125) rfl) rfl ?_
        refine Run.weak [(0, .ref v0), (2, .int v2)] (by simp) (by simp [pNd]) ?_
        exact lX12_checkNode_336 X N d v0 v2 (0 : Int32) h q hf nv0
      · rw [if_neg c73] at hf
        refine r_if_ne_t (dGet dX12_checkNode (j := 123) rfl) rfl c73 ?_
        refine r_iconst (dGet dX12_checkNode (j := 126) rfl) kI_5 ?_
        refine Run.weak [(0, .ref v0), (2, .int v2)] (by simp) (by simp [pNd]) ?_
        exact lX12_checkNode_336 X N d v0 v2 (5 : Int32) h q hf nv0
    rw [if_neg c49] at hf
    by_cases c50 : t35 = 14
    · rw [if_pos c50] at hf
      refine r_table (off := 317) (dGet dX12_checkNode (j := 16) rfl) (by rw [c50]; decide) rfl ?_
      refine r_aload_n (dGet dX12_checkNode (j := 129) rfl) nv0 rfl ?_
      obtain ⟨t74, et74, hf⟩ := Option.bind_eq_some_iff.mp hf
      refine r_getR (dGet dX12_checkNode (j := 130) rfl) F12_37 et74 ?_
      refine r_iload_n (dGet dX12_checkNode (j := 131) rfl) rfl ?_
      obtain ⟨t75, et75, hf⟩ := Option.bind_eq_some_iff.mp hf
      refine r_iald (dGet dX12_checkNode (j := 132) rfl) et75 ?_
      refine r_iconst (dGet dX12_checkNode (j := 133) rfl) kI_1 ?_
      by_cases c76 : t75 = (1 : Int32)
      · rw [if_pos c76] at hf
        refine r_icmp_ne_f (dGet dX12_checkNode (j := 134) rfl) rfl c76 ?_
        refine r_iconst (dGet dX12_checkNode (j := 135) rfl) kI_1 ?_
        refine r_goto (dGet dX12_checkNode (j := 136) rfl) rfl ?_
        refine Run.weak [(0, .ref v0), (2, .int v2)] (by simp) (by simp [pNd]) ?_
        exact lX12_checkNode_356 X N d v0 v2 (1 : Int32) h q hf nv0
      · rw [if_neg c76] at hf
        refine r_icmp_ne_t (dGet dX12_checkNode (j := 134) rfl) rfl c76 ?_
        refine r_iconst (dGet dX12_checkNode (j := 137) rfl) kI_5 ?_
        refine Run.weak [(0, .ref v0), (2, .int v2)] (by simp) (by simp [pNd]) ?_
        exact lX12_checkNode_356 X N d v0 v2 (5 : Int32) h q hf nv0
    rw [if_neg c50] at hf
    by_cases c51 : t35 = 15
    · rw [if_pos c51] at hf
      refine r_table (off := 368) (dGet dX12_checkNode (j := 16) rfl) (by rw [c51]; decide) rfl ?_
      refine Run.weak [(0, .ref v0), (2, .int v2), (3, .int t31), (4, .int t33)] (by simp) (by simp [pNd]) ?_
      exact lX12_checkNode_392 X N d v0 v2 t31 t33 h q hf nv0
    rw [if_neg c51] at hf
    by_cases c52 : t35 = 16
    · rw [if_pos c52] at hf
      refine r_table (off := 337) (dGet dX12_checkNode (j := 16) rfl) (by rw [c52]; decide) rfl ?_
      refine Run.weak [(0, .ref v0), (2, .int v2), (3, .int t31), (4, .int t33)] (by simp) (by simp [pNd]) ?_
      exact lX12_checkNode_361 X N d v0 v2 t31 t33 h q hf nv0
    rw [if_neg c52] at hf
    by_cases c53 : t35 = 17
    · rw [if_pos c53] at hf
      refine r_table (off := 337) (dGet dX12_checkNode (j := 16) rfl) (by rw [c53]; decide) rfl ?_
      refine Run.weak [(0, .ref v0), (2, .int v2), (3, .int t31), (4, .int t33)] (by simp) (by simp [pNd]) ?_
      exact lX12_checkNode_361 X N d v0 v2 t31 t33 h q hf nv0
    rw [if_neg c53] at hf
    by_cases c54 : t35 = 18
    · rw [if_pos c54] at hf
      refine r_table (off := 368) (dGet dX12_checkNode (j := 16) rfl) (by rw [c54]; decide) rfl ?_
      refine Run.weak [(0, .ref v0), (2, .int v2), (3, .int t31), (4, .int t33)] (by simp) (by simp [pNd]) ?_
      exact lX12_checkNode_392 X N d v0 v2 t31 t33 h q hf nv0
    rw [if_neg c54] at hf
    by_cases c55 : t35 = 19
    · rw [if_pos c55] at hf
      refine r_table (off := 368) (dGet dX12_checkNode (j := 16) rfl) (by rw [c55]; decide) rfl ?_
      refine Run.weak [(0, .ref v0), (2, .int v2), (3, .int t31), (4, .int t33)] (by simp) (by simp [pNd]) ?_
      exact lX12_checkNode_392 X N d v0 v2 t31 t33 h q hf nv0
    rw [if_neg c55] at hf
    by_cases c56 : t35 = 20
    · rw [if_pos c56] at hf
      refine r_table (off := 368) (dGet dX12_checkNode (j := 16) rfl) (by rw [c56]; decide) rfl ?_
      refine Run.weak [(0, .ref v0), (2, .int v2), (3, .int t31), (4, .int t33)] (by simp) (by simp [pNd]) ?_
      exact lX12_checkNode_392 X N d v0 v2 t31 t33 h q hf nv0
    rw [if_neg c56] at hf
    by_cases c57 : t35 = 21
    · rw [if_pos c57] at hf
      refine r_table (off := 110) (dGet dX12_checkNode (j := 16) rfl) (by rw [c57]; decide) rfl ?_
      refine r_iconst (dGet dX12_checkNode (j := 20) rfl) kI_1 ?_
      refine r_istore (lv' := [(5, .int (1 : Int32)), (4, .int t33), (3, .int t31), (0, .ref v0), (1, .int v1), (2, .int v2)]) (dGet dX12_checkNode (j := 21) rfl) (by decide) rfl ?_
      refine r_goto (dGet dX12_checkNode (j := 22) rfl) rfl ?_
      refine Run.weak [(0, .ref v0), (2, .int v2), (5, .int (1 : Int32))] (by simp) (by simp [pNd]) ?_
      exact lX12_checkNode_417 X N d v0 v2 (1 : Int32) h q hf nv0
    rw [if_neg c57] at hf
    refine r_table (dGet dX12_checkNode (j := 16) rfl) (pTable_out (cs := [0, 1, 2, 3, 4, 5, 6, 7, 8, 9, 10, 11, 12, 13, 14, 15, 16, 17, 18, 19, 20, 21]) (by decide) (by decide) (by decide) (List.forall_mem_cons.mpr ⟨c36, List.forall_mem_cons.mpr ⟨c37, List.forall_mem_cons.mpr ⟨c38, List.forall_mem_cons.mpr ⟨c39, List.forall_mem_cons.mpr ⟨c40, List.forall_mem_cons.mpr ⟨c41, List.forall_mem_cons.mpr ⟨c42, List.forall_mem_cons.mpr ⟨c43, List.forall_mem_cons.mpr ⟨c44, List.forall_mem_cons.mpr ⟨c45, List.forall_mem_cons.mpr ⟨c46, List.forall_mem_cons.mpr ⟨c47, List.forall_mem_cons.mpr ⟨c48, List.forall_mem_cons.mpr ⟨c49, List.forall_mem_cons.mpr ⟨c50, List.forall_mem_cons.mpr ⟨c51, List.forall_mem_cons.mpr ⟨c52, List.forall_mem_cons.mpr ⟨c53, List.forall_mem_cons.mpr ⟨c54, List.forall_mem_cons.mpr ⟨c55, List.forall_mem_cons.mpr ⟨c56, List.forall_mem_cons.mpr ⟨c57, fun _ h => absurd h List.not_mem_nil⟩⟩⟩⟩⟩⟩⟩⟩⟩⟩⟩⟩⟩⟩⟩⟩⟩⟩⟩⟩⟩⟩)) rfl ?_
    refine Run.weak [(0, .ref v0), (2, .int v2), (3, .int t31), (4, .int t33)] (by simp) (by simp [pNd]) ?_
    exact lX12_checkNode_392 X N d v0 v2 t31 t33 h q hf nv0
  · rw [if_neg hc] at hf; cases hf
def eX12_checkNodes : List (Nat × Instr × Nat) := [(0, .iconst 1, 1), (1, .istore 4, 2), (3, .iload_n 2, 1), (4, .istore 5, 2), (6, .iload 5, 2), (8, .iload_n 3, 1), (9, .if_icmp .gt 23, 3), (12, .iload 4, 2), (14, .ifCond .eq 18, 3), (17, .aload_n 0, 1), (18, .iload_n 1, 1), (19, .iload 5, 2), (21, .invokevirtual 527, 3), (24, .istore 4, 2), (26, .iinc 5 1, 3), (29, .goto (-23), 3), (32, .iload_n 2, 1), (33, .istore 5, 2), (35, .iload 5, 2), (37, .iload_n 3, 1), (38, .if_icmp .gt 54, 3), (41, .iload 4, 2), (43, .ifCond .eq 49, 3), (46, .aload_n 0, 1), (47, .getfield 37, 3), (50, .iload 5, 2), (52, .iaload, 1), (53, .iconst 3, 1), (54, .if_icmp .ne 25, 3), (57, .aload_n 0, 1), (58, .getfield 46, 3), (61, .iload_n 1, 1), (62, .iaload, 1), (63, .bipush 7, 2), (65, .if_icmp .ne 18, 3), (68, .iload 5, 2), (70, .aload_n 0, 1), (71, .getfield 55, 3), (74, .iload_n 1, 1), (75, .iaload, 1), (76, .if_icmp .ne 7, 3), (79, .iconst 1, 1), (80, .goto 4, 3), (83, .iconst 0, 1), (84, .istore 4, 2), (86, .iinc 5 1, 3), (89, .goto (-54), 3), (92, .iload 4, 2), (94, .ireturn, 1)]
theorem dX12_checkNodes : dChk (pCd 9081) eX12_checkNodes = true := by decide +kernel
def fX12_checkNodes_84 (N : Nat) (k35 : Nat → Int32 → Int32 → Int32 → Int32 → pH → Option (Int32 × pH)) (v0 : Nat) (v1 : Int32) (v3 : Int32) (v5 : Int32) (s0 : Int32) (h : pH) : Option (Int32 × pH) :=
  k35 v0 v1 v3 s0 (v5 + (1 : Int32)) h
theorem lX12_checkNodes_84 (X : pX) (N d : Nat)  (k35 : Nat → Int32 → Int32 → Int32 → Int32 → pH → Option (Int32 × pH)) (K35 : ∀ (w0 : Nat) (w1 : Int32) (w3 : Int32) (w4 : Int32) (w5 : Int32) (h : pH) (q : Int32 × pH), k35 w0 w1 w3 w4 w5 h = some q → ¬ w0 = 4 → Run X (d + 4) 12 false (pCd 9081) 6 (some .boolean) 35 [(0, .ref w0), (1, .int w1), (3, .int w3), (4, .int w4), (5, .int w5)] [] h 0 0 (some (.int q.1), q.2, 0, 0)) (v0 : Nat) (v1 : Int32) (v3 : Int32) (v5 : Int32) (s0 : Int32) (h : pH) (q : Int32 × pH) (hf : fX12_checkNodes_84 N k35 v0 v1 v3 v5 s0 h = some q) (nv0 : ¬ v0 = 4) : Run X (d + 4) 12 false (pCd 9081) 6 (some .boolean) 84 [(0, .ref v0), (1, .int v1), (3, .int v3), (5, .int v5)] [.int s0] h 0 0 (some (.int q.1), q.2, 0, 0) := by
  unfold fX12_checkNodes_84 at hf
  refine r_istore (lv' := [(4, .int s0), (0, .ref v0), (1, .int v1), (3, .int v3), (5, .int v5)]) (dGet dX12_checkNodes (j := 44) rfl) (by decide) rfl ?_
  refine r_iinc (lv' := [(5, .int (v5 + (1 : Int32))), (4, .int s0), (0, .ref v0), (1, .int v1), (3, .int v3)]) (dGet dX12_checkNodes (j := 45) rfl) rfl (by decide) kI_1 rfl ?_
  refine r_goto (dGet dX12_checkNodes (j := 46) rfl) rfl ?_
  refine Run.weak [(0, .ref v0), (1, .int v1), (3, .int v3), (4, .int s0), (5, .int (v5 + (1 : Int32)))] (by simp) (by simp [pNd]) ?_
  exact K35 v0 v1 v3 s0 (v5 + (1 : Int32)) h q hf nv0
def fX12_checkNodes_83 (N : Nat) (k35 : Nat → Int32 → Int32 → Int32 → Int32 → pH → Option (Int32 × pH)) (v0 : Nat) (v1 : Int32) (v3 : Int32) (v5 : Int32) (h : pH) : Option (Int32 × pH) :=
  fX12_checkNodes_84 N k35 v0 v1 v3 v5 (0 : Int32) h
theorem lX12_checkNodes_83 (X : pX) (N d : Nat)  (k35 : Nat → Int32 → Int32 → Int32 → Int32 → pH → Option (Int32 × pH)) (K35 : ∀ (w0 : Nat) (w1 : Int32) (w3 : Int32) (w4 : Int32) (w5 : Int32) (h : pH) (q : Int32 × pH), k35 w0 w1 w3 w4 w5 h = some q → ¬ w0 = 4 → Run X (d + 4) 12 false (pCd 9081) 6 (some .boolean) 35 [(0, .ref w0), (1, .int w1), (3, .int w3), (4, .int w4), (5, .int w5)] [] h 0 0 (some (.int q.1), q.2, 0, 0)) (v0 : Nat) (v1 : Int32) (v3 : Int32) (v5 : Int32) (h : pH) (q : Int32 × pH) (hf : fX12_checkNodes_83 N k35 v0 v1 v3 v5 h = some q) (nv0 : ¬ v0 = 4) : Run X (d + 4) 12 false (pCd 9081) 6 (some .boolean) 83 [(0, .ref v0), (1, .int v1), (3, .int v3), (5, .int v5)] [] h 0 0 (some (.int q.1), q.2, 0, 0) := by
  unfold fX12_checkNodes_83 at hf
  refine r_iconst (dGet dX12_checkNodes (j := 43) rfl) kI_0 ?_
  exact lX12_checkNodes_84 X N d k35 K35 v0 v1 v3 v5 (0 : Int32) h q hf nv0
def fX12_checkNodes_79 (N : Nat) (k35 : Nat → Int32 → Int32 → Int32 → Int32 → pH → Option (Int32 × pH)) (v0 : Nat) (v1 : Int32) (v3 : Int32) (v5 : Int32) (h : pH) : Option (Int32 × pH) :=
  fX12_checkNodes_84 N k35 v0 v1 v3 v5 (1 : Int32) h
theorem lX12_checkNodes_79 (X : pX) (N d : Nat)  (k35 : Nat → Int32 → Int32 → Int32 → Int32 → pH → Option (Int32 × pH)) (K35 : ∀ (w0 : Nat) (w1 : Int32) (w3 : Int32) (w4 : Int32) (w5 : Int32) (h : pH) (q : Int32 × pH), k35 w0 w1 w3 w4 w5 h = some q → ¬ w0 = 4 → Run X (d + 4) 12 false (pCd 9081) 6 (some .boolean) 35 [(0, .ref w0), (1, .int w1), (3, .int w3), (4, .int w4), (5, .int w5)] [] h 0 0 (some (.int q.1), q.2, 0, 0)) (v0 : Nat) (v1 : Int32) (v3 : Int32) (v5 : Int32) (h : pH) (q : Int32 × pH) (hf : fX12_checkNodes_79 N k35 v0 v1 v3 v5 h = some q) (nv0 : ¬ v0 = 4) : Run X (d + 4) 12 false (pCd 9081) 6 (some .boolean) 79 [(0, .ref v0), (1, .int v1), (3, .int v3), (5, .int v5)] [] h 0 0 (some (.int q.1), q.2, 0, 0) := by
  unfold fX12_checkNodes_79 at hf
  refine r_iconst (dGet dX12_checkNodes (j := 41) rfl) kI_1 ?_
  refine r_goto (dGet dX12_checkNodes (j := 42) rfl) rfl ?_
  exact lX12_checkNodes_84 X N d k35 K35 v0 v1 v3 v5 (1 : Int32) h q hf nv0
def fX12_checkNodes_35 (N : Nat) : Nat → Nat → Int32 → Int32 → Int32 → Int32 → pH → Option (Int32 × pH)
  | 0, _, _, _, _, _, _ => none
  | n + 1, v0, v1, v3, v4, v5, h => if v3 < v5 then (
  if pRet .boolean v4 = true then some (v4, h) else none) else (
  if v4 = 0 then (
  if pRet .boolean v4 = true then some (v4, h) else none) else (
  (getR h v0 12 20).bind fun t5 =>
  (ldI h t5 v5).bind fun t6 =>
  if t6 = (3 : Int32) then (
  (getR h v0 12 26).bind fun t8 =>
  (ldI h t8 v1).bind fun t9 =>
  if t9 = (7 : Int32) then (
  (getR h v0 12 29).bind fun t11 =>
  (ldI h t11 v1).bind fun t12 =>
  if v5 = t12 then (
  fX12_checkNodes_79 N (fX12_checkNodes_35 N n) v0 v1 v3 v5 h) else (
  fX12_checkNodes_83 N (fX12_checkNodes_35 N n) v0 v1 v3 v5 h)) else (
  fX12_checkNodes_83 N (fX12_checkNodes_35 N n) v0 v1 v3 v5 h)) else (
  fX12_checkNodes_79 N (fX12_checkNodes_35 N n) v0 v1 v3 v5 h)))
theorem lX12_checkNodes_35 (X : pX) (N d : Nat)  : ∀ (n : Nat) (v0 : Nat) (v1 : Int32) (v3 : Int32) (v4 : Int32) (v5 : Int32) (h : pH) (q : Int32 × pH), fX12_checkNodes_35 N n v0 v1 v3 v4 v5 h = some q → ¬ v0 = 4 → Run X (d + 4) 12 false (pCd 9081) 6 (some .boolean) 35 [(0, .ref v0), (1, .int v1), (3, .int v3), (4, .int v4), (5, .int v5)] [] h 0 0 (some (.int q.1), q.2, 0, 0) := by
  intro n
  induction n with
  | zero => intro v0 v1 v3 v4 v5 h q hf; cases hf
  | succ n ih =>
    intro v0 v1 v3 v4 v5 h q hf nv0
    unfold fX12_checkNodes_35 at hf
    refine r_iload (dGet dX12_checkNodes (j := 18) rfl) rfl ?_
    refine r_iload_n (dGet dX12_checkNodes (j := 19) rfl) rfl ?_
    by_cases c1 : v3 < v5
    · rw [if_pos c1] at hf
      refine r_icmp_gt_t (dGet dX12_checkNodes (j := 20) rfl) rfl c1 ?_
      refine r_iload (dGet dX12_checkNodes (j := 47) rfl) rfl ?_
      by_cases c2 : pRet .boolean v4 = true
      · rw [if_pos c2] at hf
        have hq := Option.some.inj hf
        subst hq
        exact r_iret (dGet dX12_checkNodes (j := 48) rfl) rfl c2
      · rw [if_neg c2] at hf; cases hf
    · rw [if_neg c1] at hf
      refine r_icmp_gt_f (dGet dX12_checkNodes (j := 20) rfl) rfl c1 ?_
      refine r_iload (dGet dX12_checkNodes (j := 21) rfl) rfl ?_
      by_cases c3 : v4 = 0
      · rw [if_pos c3] at hf
        refine r_if_eq_t (dGet dX12_checkNodes (j := 22) rfl) rfl c3 ?_
        refine r_iload (dGet dX12_checkNodes (j := 47) rfl) rfl ?_
        by_cases c4 : pRet .boolean v4 = true
        · rw [if_pos c4] at hf
          have hq := Option.some.inj hf
          subst hq
          exact r_iret (dGet dX12_checkNodes (j := 48) rfl) rfl c4
        · rw [if_neg c4] at hf; cases hf
      · rw [if_neg c3] at hf
        refine r_if_eq_f (dGet dX12_checkNodes (j := 22) rfl) rfl c3 ?_
        refine r_aload_n (dGet dX12_checkNodes (j := 23) rfl) nv0 rfl ?_
        obtain ⟨t5, et5, hf⟩ := Option.bind_eq_some_iff.mp hf
        refine r_getR (dGet dX12_checkNodes (j := 24) rfl) F12_37 et5 ?_
        refine r_iload (dGet dX12_checkNodes (j := 25) rfl) rfl ?_
        obtain ⟨t6, et6, hf⟩ := Option.bind_eq_some_iff.mp hf
        refine r_iald (dGet dX12_checkNodes (j := 26) rfl) et6 ?_
        refine r_iconst (dGet dX12_checkNodes (j := 27) rfl) kI_3 ?_
        by_cases c7 : t6 = (3 : Int32)
        · rw [if_pos c7] at hf
          refine r_icmp_ne_f (dGet dX12_checkNodes (j := 28) rfl) rfl c7 ?_
          refine r_aload_n (dGet dX12_checkNodes (j := 29) rfl) nv0 rfl ?_
          obtain ⟨t8, et8, hf⟩ := Option.bind_eq_some_iff.mp hf
          refine r_getR (dGet dX12_checkNodes (j := 30) rfl) F12_46 et8 ?_
          refine r_iload_n (dGet dX12_checkNodes (j := 31) rfl) rfl ?_
          obtain ⟨t9, et9, hf⟩ := Option.bind_eq_some_iff.mp hf
          refine r_iald (dGet dX12_checkNodes (j := 32) rfl) et9 ?_
          refine r_bipush (dGet dX12_checkNodes (j := 33) rfl) kB_7 ?_
          by_cases c10 : t9 = (7 : Int32)
          · rw [if_pos c10] at hf
            refine r_icmp_ne_f (dGet dX12_checkNodes (j := 34) rfl) rfl c10 ?_
            refine r_iload (dGet dX12_checkNodes (j := 35) rfl) rfl ?_
            refine r_aload_n (dGet dX12_checkNodes (j := 36) rfl) nv0 rfl ?_
            obtain ⟨t11, et11, hf⟩ := Option.bind_eq_some_iff.mp hf
            refine r_getR (dGet dX12_checkNodes (j := 37) rfl) F12_55 et11 ?_
            refine r_iload_n (dGet dX12_checkNodes (j := 38) rfl) rfl ?_
            obtain ⟨t12, et12, hf⟩ := Option.bind_eq_some_iff.mp hf
            refine r_iald (dGet dX12_checkNodes (j := 39) rfl) et12 ?_
            by_cases c13 : v5 = t12
            · rw [if_pos c13] at hf
              refine r_icmp_ne_f (dGet dX12_checkNodes (j := 40) rfl) rfl c13 ?_
              refine Run.weak [(0, .ref v0), (1, .int v1), (3, .int v3), (5, .int v5)] (by simp) (by simp [pNd]) ?_
              exact lX12_checkNodes_79 X N d (fX12_checkNodes_35 N n) ih v0 v1 v3 v5 h q hf nv0
            · rw [if_neg c13] at hf
              refine r_icmp_ne_t (dGet dX12_checkNodes (j := 40) rfl) rfl c13 ?_
              refine Run.weak [(0, .ref v0), (1, .int v1), (3, .int v3), (5, .int v5)] (by simp) (by simp [pNd]) ?_
              exact lX12_checkNodes_83 X N d (fX12_checkNodes_35 N n) ih v0 v1 v3 v5 h q hf nv0
          · rw [if_neg c10] at hf
            refine r_icmp_ne_t (dGet dX12_checkNodes (j := 34) rfl) rfl c10 ?_
            refine Run.weak [(0, .ref v0), (1, .int v1), (3, .int v3), (5, .int v5)] (by simp) (by simp [pNd]) ?_
            exact lX12_checkNodes_83 X N d (fX12_checkNodes_35 N n) ih v0 v1 v3 v5 h q hf nv0
        · rw [if_neg c7] at hf
          refine r_icmp_ne_t (dGet dX12_checkNodes (j := 28) rfl) rfl c7 ?_
          refine Run.weak [(0, .ref v0), (1, .int v1), (3, .int v3), (5, .int v5)] (by simp) (by simp [pNd]) ?_
          exact lX12_checkNodes_79 X N d (fX12_checkNodes_35 N n) ih v0 v1 v3 v5 h q hf nv0
def fX12_checkNodes_32 (N : Nat) (v0 : Nat) (v1 : Int32) (v2 : Int32) (v3 : Int32) (v4 : Int32) (h : pH) : Option (Int32 × pH) :=
  fX12_checkNodes_35 N N v0 v1 v3 v4 v2 h
theorem lX12_checkNodes_32 (X : pX) (N d : Nat)  (v0 : Nat) (v1 : Int32) (v2 : Int32) (v3 : Int32) (v4 : Int32) (h : pH) (q : Int32 × pH) (hf : fX12_checkNodes_32 N v0 v1 v2 v3 v4 h = some q) (nv0 : ¬ v0 = 4) : Run X (d + 4) 12 false (pCd 9081) 6 (some .boolean) 32 [(0, .ref v0), (1, .int v1), (2, .int v2), (3, .int v3), (4, .int v4)] [] h 0 0 (some (.int q.1), q.2, 0, 0) := by
  unfold fX12_checkNodes_32 at hf
  refine r_iload_n (dGet dX12_checkNodes (j := 16) rfl) rfl ?_
  refine r_istore (lv' := [(5, .int v2), (0, .ref v0), (1, .int v1), (2, .int v2), (3, .int v3), (4, .int v4)]) (dGet dX12_checkNodes (j := 17) rfl) (by decide) rfl ?_
  refine Run.weak [(0, .ref v0), (1, .int v1), (3, .int v3), (4, .int v4), (5, .int v2)] (by simp) (by simp [pNd]) ?_
  exact lX12_checkNodes_35 X N d N v0 v1 v3 v4 v2 h q hf nv0
def fX12_checkNodes_6 (N : Nat) : Nat → Nat → Int32 → Int32 → Int32 → Int32 → Int32 → pH → Option (Int32 × pH)
  | 0, _, _, _, _, _, _, _ => none
  | n + 1, v0, v1, v2, v3, v4, v5, h => if v3 < v5 then (
  fX12_checkNodes_32 N v0 v1 v2 v3 v4 h) else (
  if v4 = 0 then (
  fX12_checkNodes_32 N v0 v1 v2 v3 v4 h) else (
  (fX12_checkNode N v0 v1 v5 h).bind fun q16 =>
  fX12_checkNodes_6 N n v0 v1 v2 v3 q16.1 (v5 + (1 : Int32)) q16.2))
theorem lX12_checkNodes_6 (X : pX) (N d : Nat)  : ∀ (n : Nat) (v0 : Nat) (v1 : Int32) (v2 : Int32) (v3 : Int32) (v4 : Int32) (v5 : Int32) (h : pH) (q : Int32 × pH), fX12_checkNodes_6 N n v0 v1 v2 v3 v4 v5 h = some q → ¬ v0 = 4 → Run X (d + 4) 12 false (pCd 9081) 6 (some .boolean) 6 [(0, .ref v0), (1, .int v1), (2, .int v2), (3, .int v3), (4, .int v4), (5, .int v5)] [] h 0 0 (some (.int q.1), q.2, 0, 0) := by
  intro n
  induction n with
  | zero => intro v0 v1 v2 v3 v4 v5 h q hf; cases hf
  | succ n ih =>
    intro v0 v1 v2 v3 v4 v5 h q hf nv0
    unfold fX12_checkNodes_6 at hf
    refine r_iload (dGet dX12_checkNodes (j := 4) rfl) rfl ?_
    refine r_iload_n (dGet dX12_checkNodes (j := 5) rfl) rfl ?_
    by_cases c14 : v3 < v5
    · rw [if_pos c14] at hf
      refine r_icmp_gt_t (dGet dX12_checkNodes (j := 6) rfl) rfl c14 ?_
      refine Run.weak [(0, .ref v0), (1, .int v1), (2, .int v2), (3, .int v3), (4, .int v4)] (by simp) (by simp [pNd]) ?_
      exact lX12_checkNodes_32 X N d v0 v1 v2 v3 v4 h q hf nv0
    · rw [if_neg c14] at hf
      refine r_icmp_gt_f (dGet dX12_checkNodes (j := 6) rfl) rfl c14 ?_
      refine r_iload (dGet dX12_checkNodes (j := 7) rfl) rfl ?_
      by_cases c15 : v4 = 0
      · rw [if_pos c15] at hf
        refine r_if_eq_t (dGet dX12_checkNodes (j := 8) rfl) rfl c15 ?_
        refine Run.weak [(0, .ref v0), (1, .int v1), (2, .int v2), (3, .int v3), (4, .int v4)] (by simp) (by simp [pNd]) ?_
        exact lX12_checkNodes_32 X N d v0 v1 v2 v3 v4 h q hf nv0
      · rw [if_neg c15] at hf
        refine r_if_eq_f (dGet dX12_checkNodes (j := 8) rfl) rfl c15 ?_
        refine r_aload_n (dGet dX12_checkNodes (j := 9) rfl) nv0 rfl ?_
        refine r_iload_n (dGet dX12_checkNodes (j := 10) rfl) rfl ?_
        refine r_iload (dGet dX12_checkNodes (j := 11) rfl) rfl ?_
        obtain ⟨q16, eq16, hf⟩ := Option.bind_eq_some_iff.mp hf
        refine r_virtual (dGet dX12_checkNodes (j := 12) rfl) L12_527 M285 rfl rfl (Nat.le_of_ble_eq_true rfl) (oX12_checkNode eq16) (cX12_checkNode X N (d + 0) v0 v1 v5 h q16 eq16) ?_
        refine r_istore (lv' := [(4, .int q16.1), (0, .ref v0), (1, .int v1), (2, .int v2), (3, .int v3), (5, .int v5)]) (dGet dX12_checkNodes (j := 13) rfl) (by decide) rfl ?_
        refine r_iinc (lv' := [(5, .int (v5 + (1 : Int32))), (4, .int q16.1), (0, .ref v0), (1, .int v1), (2, .int v2), (3, .int v3)]) (dGet dX12_checkNodes (j := 14) rfl) rfl (by decide) kI_1 rfl ?_
        refine r_goto (dGet dX12_checkNodes (j := 15) rfl) rfl ?_
        refine Run.weak [(0, .ref v0), (1, .int v1), (2, .int v2), (3, .int v3), (4, .int q16.1), (5, .int (v5 + (1 : Int32)))] (by simp) (by simp [pNd]) ?_
        exact ih v0 v1 v2 v3 q16.1 (v5 + (1 : Int32)) q16.2 q hf nv0
def fX12_checkNodes (N : Nat) (v0 : Nat) (v1 : Int32) (v2 : Int32) (v3 : Int32) (h : pH) : Option (Int32 × pH) := if isO h v0 12 = true then (
  fX12_checkNodes_6 N N v0 v1 v2 v3 (1 : Int32) v2 h) else none
theorem oX12_checkNodes {N : Nat} {v0 : Nat} {v1 : Int32} {v2 : Int32} {v3 : Int32} {h : pH} {q : Int32 × pH} (hf : fX12_checkNodes N v0 v1 v2 v3 h = some q) : isO h v0 12 = true := by
  unfold fX12_checkNodes at hf
  by_cases hc : isO h v0 12 = true
  · exact hc
  · rw [if_neg hc] at hf; cases hf
theorem cX12_checkNodes (X : pX) (N d : Nat) (v0 : Nat) (v1 : Int32) (v2 : Int32) (v3 : Int32) (h : pH) (q : Int32 × pH) (hf : fX12_checkNodes N v0 v1 v2 v3 h = some q) : Calls X (d + 4) 284 [.ref v0, .int v1, .int v2, .int v3] h (some (.int q.1), q.2, 0, 0) := by
  refine Calls.of M284 (Nat.le_of_ble_eq_true rfl) ?_
  show Run X (d + 4) 12 false (pCd 9081) 6 (some .boolean) 0 [(0, .ref v0), (1, .int v1), (2, .int v2), (3, .int v3)] [] h 0 0 (some (.int q.1), q.2, 0, 0)
  unfold fX12_checkNodes at hf
  by_cases hc : isO h v0 12 = true
  · rw [if_pos hc] at hf
    have nv0 : ¬ v0 = 4 := isO_ne hc
    refine r_iconst (dGet dX12_checkNodes (j := 0) rfl) kI_1 ?_
    refine r_istore (lv' := [(4, .int (1 : Int32)), (0, .ref v0), (1, .int v1), (2, .int v2), (3, .int v3)]) (dGet dX12_checkNodes (j := 1) rfl) (by decide) rfl ?_
    refine r_iload_n (dGet dX12_checkNodes (j := 2) rfl) rfl ?_
    refine r_istore (lv' := [(5, .int v2), (4, .int (1 : Int32)), (0, .ref v0), (1, .int v1), (2, .int v2), (3, .int v3)]) (dGet dX12_checkNodes (j := 3) rfl) (by decide) rfl ?_
    refine Run.weak [(0, .ref v0), (1, .int v1), (2, .int v2), (3, .int v3), (4, .int (1 : Int32)), (5, .int v2)] (by simp) (by simp [pNd]) ?_
    exact lX12_checkNodes_6 X N d N v0 v1 v2 v3 (1 : Int32) v2 h q hf nv0
  · rw [if_neg hc] at hf; cases hf
def eX12_checkPlace : List (Nat × Instr × Nat) := [(0, .aload_n 0, 1), (1, .getfield 58, 3), (4, .iload_n 1, 1), (5, .iaload, 1), (6, .istore_n 3, 1), (7, .aload_n 0, 1), (8, .getfield 25, 3), (11, .iload_n 3, 1), (12, .iaload, 1), (13, .bipush 18, 2), (15, .if_icmp .eq 17, 3), (18, .aload_n 0, 1), (19, .iload_n 2, 1), (20, .aload_n 0, 1), (21, .getfield 37, 3), (24, .iload_n 3, 1), (25, .iaload, 1), (26, .invokevirtual 499, 3), (29, .ifCond .ne 5, 3), (32, .iconst 0, 1), (33, .ireturn, 1), (34, .aload_n 0, 1), (35, .getfield 25, 3), (38, .iload_n 3, 1), (39, .iaload, 1), (40, .bipush 19, 2), (42, .if_icmp .ne 15, 3), (45, .aload_n 0, 1), (46, .getfield 134, 3), (49, .aload_n 0, 1), (50, .getfield 34, 3), (53, .iload_n 3, 1), (54, .iaload, 1), (55, .iconst 1, 1), (56, .bastore, 1), (57, .iconst 1, 1), (58, .ireturn, 1)]
theorem dX12_checkPlace : dChk (pCd 9132) eX12_checkPlace = true := by decide +kernel
def fX12_checkPlace (N : Nat) (v0 : Nat) (v1 : Int32) (v2 : Int32) (h : pH) : Option (Int32 × pH) := if isO h v0 12 = true then (
  (getR h v0 12 30).bind fun t1 =>
  (ldI h t1 v1).bind fun t2 =>
  (getR h v0 12 16).bind fun t3 =>
  (ldI h t3 t2).bind fun t4 =>
  if t4 = (18 : Int32) then (
  some ((0 : Int32), h)) else (
  (getR h v0 12 20).bind fun t6 =>
  (ldI h t6 t2).bind fun t7 =>
  (fX12_isSub N v0 v2 t7 h).bind fun q8 =>
  if q8.1 = 0 then (
  some ((0 : Int32), q8.2)) else (
  (getR q8.2 v0 12 16).bind fun t10 =>
  (ldI q8.2 t10 t2).bind fun t11 =>
  if t11 = (19 : Int32) then (
  (getR q8.2 v0 12 65).bind fun t13 =>
  (getR q8.2 v0 12 19).bind fun t14 =>
  (ldI q8.2 t14 t2).bind fun t15 =>
  (stZ q8.2 t13 t15 (1 : Int32)).bind fun h16 =>
  some ((1 : Int32), h16)) else (
  some ((1 : Int32), q8.2))))) else none
theorem oX12_checkPlace {N : Nat} {v0 : Nat} {v1 : Int32} {v2 : Int32} {h : pH} {q : Int32 × pH} (hf : fX12_checkPlace N v0 v1 v2 h = some q) : isO h v0 12 = true := by
  unfold fX12_checkPlace at hf
  by_cases hc : isO h v0 12 = true
  · exact hc
  · rw [if_neg hc] at hf; cases hf
theorem cX12_checkPlace (X : pX) (N d : Nat) (v0 : Nat) (v1 : Int32) (v2 : Int32) (h : pH) (q : Int32 × pH) (hf : fX12_checkPlace N v0 v1 v2 h = some q) : Calls X (d + 2) 297 [.ref v0, .int v1, .int v2] h (some (.int q.1), q.2, 0, 0) := by
  refine Calls.of M297 (Nat.le_of_ble_eq_true rfl) ?_
  show Run X (d + 2) 12 false (pCd 9132) 4 (some .boolean) 0 [(0, .ref v0), (1, .int v1), (2, .int v2)] [] h 0 0 (some (.int q.1), q.2, 0, 0)
  unfold fX12_checkPlace at hf
  by_cases hc : isO h v0 12 = true
  · rw [if_pos hc] at hf
    have nv0 : ¬ v0 = 4 := isO_ne hc
    refine r_aload_n (dGet dX12_checkPlace (j := 0) rfl) nv0 rfl ?_
    obtain ⟨t1, et1, hf⟩ := Option.bind_eq_some_iff.mp hf
    refine r_getR (dGet dX12_checkPlace (j := 1) rfl) F12_58 et1 ?_
    refine r_iload_n (dGet dX12_checkPlace (j := 2) rfl) rfl ?_
    obtain ⟨t2, et2, hf⟩ := Option.bind_eq_some_iff.mp hf
    refine r_iald (dGet dX12_checkPlace (j := 3) rfl) et2 ?_
    refine r_istore_n (lv' := [(3, .int t2), (0, .ref v0), (1, .int v1), (2, .int v2)]) (dGet dX12_checkPlace (j := 4) rfl) (by decide) rfl ?_
    refine r_aload_n (dGet dX12_checkPlace (j := 5) rfl) nv0 rfl ?_
    obtain ⟨t3, et3, hf⟩ := Option.bind_eq_some_iff.mp hf
    refine r_getR (dGet dX12_checkPlace (j := 6) rfl) F12_25 et3 ?_
    refine r_iload_n (dGet dX12_checkPlace (j := 7) rfl) rfl ?_
    obtain ⟨t4, et4, hf⟩ := Option.bind_eq_some_iff.mp hf
    refine r_iald (dGet dX12_checkPlace (j := 8) rfl) et4 ?_
    refine r_bipush (dGet dX12_checkPlace (j := 9) rfl) kB_18 ?_
    by_cases c5 : t4 = (18 : Int32)
    · rw [if_pos c5] at hf
      refine r_icmp_eq_t (dGet dX12_checkPlace (j := 10) rfl) rfl c5 ?_
      refine r_iconst (dGet dX12_checkPlace (j := 19) rfl) kI_0 ?_
      have hq := Option.some.inj hf
      subst hq
      exact r_iret (dGet dX12_checkPlace (j := 20) rfl) rfl (by decide)
    · rw [if_neg c5] at hf
      refine r_icmp_eq_f (dGet dX12_checkPlace (j := 10) rfl) rfl c5 ?_
      refine r_aload_n (dGet dX12_checkPlace (j := 11) rfl) nv0 rfl ?_
      refine r_iload_n (dGet dX12_checkPlace (j := 12) rfl) rfl ?_
      refine r_aload_n (dGet dX12_checkPlace (j := 13) rfl) nv0 rfl ?_
      obtain ⟨t6, et6, hf⟩ := Option.bind_eq_some_iff.mp hf
      refine r_getR (dGet dX12_checkPlace (j := 14) rfl) F12_37 et6 ?_
      refine r_iload_n (dGet dX12_checkPlace (j := 15) rfl) rfl ?_
      obtain ⟨t7, et7, hf⟩ := Option.bind_eq_some_iff.mp hf
      refine r_iald (dGet dX12_checkPlace (j := 16) rfl) et7 ?_
      obtain ⟨q8, eq8, hf⟩ := Option.bind_eq_some_iff.mp hf
      refine r_virtual (dGet dX12_checkPlace (j := 17) rfl) L12_499 M291 rfl rfl (Nat.le_of_ble_eq_true rfl) (oX12_isSub eq8) (cX12_isSub X N (d + 0) v0 v2 t7 h q8 eq8) ?_
      by_cases c9 : q8.1 = 0
      · rw [if_pos c9] at hf
        refine r_if_ne_f (dGet dX12_checkPlace (j := 18) rfl) rfl c9 ?_
        refine r_iconst (dGet dX12_checkPlace (j := 19) rfl) kI_0 ?_
        have hq := Option.some.inj hf
        subst hq
        exact r_iret (dGet dX12_checkPlace (j := 20) rfl) rfl (by decide)
      · rw [if_neg c9] at hf
        refine r_if_ne_t (dGet dX12_checkPlace (j := 18) rfl) rfl c9 ?_
        refine r_aload_n (dGet dX12_checkPlace (j := 21) rfl) nv0 rfl ?_
        obtain ⟨t10, et10, hf⟩ := Option.bind_eq_some_iff.mp hf
        refine r_getR (dGet dX12_checkPlace (j := 22) rfl) F12_25 et10 ?_
        refine r_iload_n (dGet dX12_checkPlace (j := 23) rfl) rfl ?_
        obtain ⟨t11, et11, hf⟩ := Option.bind_eq_some_iff.mp hf
        refine r_iald (dGet dX12_checkPlace (j := 24) rfl) et11 ?_
        refine r_bipush (dGet dX12_checkPlace (j := 25) rfl) kB_19 ?_
        by_cases c12 : t11 = (19 : Int32)
        · rw [if_pos c12] at hf
          refine r_icmp_ne_f (dGet dX12_checkPlace (j := 26) rfl) rfl c12 ?_
          refine r_aload_n (dGet dX12_checkPlace (j := 27) rfl) nv0 rfl ?_
          obtain ⟨t13, et13, hf⟩ := Option.bind_eq_some_iff.mp hf
          refine r_getR (dGet dX12_checkPlace (j := 28) rfl) F12_134 et13 ?_
          refine r_aload_n (dGet dX12_checkPlace (j := 29) rfl) nv0 rfl ?_
          obtain ⟨t14, et14, hf⟩ := Option.bind_eq_some_iff.mp hf
          refine r_getR (dGet dX12_checkPlace (j := 30) rfl) F12_34 et14 ?_
          refine r_iload_n (dGet dX12_checkPlace (j := 31) rfl) rfl ?_
          obtain ⟨t15, et15, hf⟩ := Option.bind_eq_some_iff.mp hf
          refine r_iald (dGet dX12_checkPlace (j := 32) rfl) et15 ?_
          refine r_iconst (dGet dX12_checkPlace (j := 33) rfl) kI_1 ?_
          obtain ⟨h16, eh16, hf⟩ := Option.bind_eq_some_iff.mp hf
          refine r_zast (dGet dX12_checkPlace (j := 34) rfl) eh16 ?_
          refine r_iconst (dGet dX12_checkPlace (j := 35) rfl) kI_1 ?_
          have hq := Option.some.inj hf
          subst hq
          exact r_iret (dGet dX12_checkPlace (j := 36) rfl) rfl (by decide)
        · rw [if_neg c12] at hf
          refine r_icmp_ne_t (dGet dX12_checkPlace (j := 26) rfl) rfl c12 ?_
          refine r_iconst (dGet dX12_checkPlace (j := 35) rfl) kI_1 ?_
          have hq := Option.some.inj hf
          subst hq
          exact r_iret (dGet dX12_checkPlace (j := 36) rfl) rfl (by decide)
  · rw [if_neg hc] at hf; cases hf
def eX12_isBad : List (Nat × Instr × Nat) := [(0, .aload_n 0, 1), (1, .getfield 409, 3), (4, .ifCond .ge 8, 3), (7, .aload_n 0, 1), (8, .iload_n 1, 1), (9, .putfield 409, 3), (12, .return_, 1)]
theorem dX12_isBad : dChk (pCd 9037) eX12_isBad = true := by decide +kernel
def fX12_isBad (N : Nat) (v0 : Nat) (v1 : Int32) (h : pH) : Option (pH) := if isO h v0 12 = true then (
  (getI h v0 12 58).bind fun t1 =>
  if 0 ≤ t1 then (
  some h) else (
  (putI h v0 12 58 v1).bind fun h3 =>
  some h3)) else none
theorem oX12_isBad {N : Nat} {v0 : Nat} {v1 : Int32} {h : pH} {q : pH} (hf : fX12_isBad N v0 v1 h = some q) : isO h v0 12 = true := by
  unfold fX12_isBad at hf
  by_cases hc : isO h v0 12 = true
  · exact hc
  · rw [if_neg hc] at hf; cases hf
theorem cX12_isBad (X : pX) (N d : Nat) (v0 : Nat) (v1 : Int32) (h : pH) (q : pH) (hf : fX12_isBad N v0 v1 h = some q) : Calls X (d + 0) 273 [.ref v0, .int v1] h (none, q, 0, 0) := by
  refine Calls.of M273 (Nat.le_of_ble_eq_true rfl) ?_
  show Run X (d + 0) 12 false (pCd 9037) 2 none 0 [(0, .ref v0), (1, .int v1)] [] h 0 0 (none, q, 0, 0)
  unfold fX12_isBad at hf
  by_cases hc : isO h v0 12 = true
  · rw [if_pos hc] at hf
    have nv0 : ¬ v0 = 4 := isO_ne hc
    refine r_aload_n (dGet dX12_isBad (j := 0) rfl) nv0 rfl ?_
    obtain ⟨t1, et1, hf⟩ := Option.bind_eq_some_iff.mp hf
    refine r_getI (dGet dX12_isBad (j := 1) rfl) F12_409 et1 ?_
    by_cases c2 : 0 ≤ t1
    · rw [if_pos c2] at hf
      refine r_if_ge_t (dGet dX12_isBad (j := 2) rfl) rfl c2 ?_
      have hq := Option.some.inj hf
      subst hq
      exact r_vret (dGet dX12_isBad (j := 6) rfl) rfl
    · rw [if_neg c2] at hf
      refine r_if_ge_f (dGet dX12_isBad (j := 2) rfl) rfl c2 ?_
      refine r_aload_n (dGet dX12_isBad (j := 3) rfl) nv0 rfl ?_
      refine r_iload_n (dGet dX12_isBad (j := 4) rfl) rfl ?_
      obtain ⟨h3, eh3, hf⟩ := Option.bind_eq_some_iff.mp hf
      refine r_putI (dGet dX12_isBad (j := 5) rfl) F12_409 rfl rfl eh3 ?_
      have hq := Option.some.inj hf
      subst hq
      exact r_vret (dGet dX12_isBad (j := 6) rfl) rfl
  · rw [if_neg hc] at hf; cases hf
def eX12_meant : List (Nat × Instr × Nat) := [(0, .iload_n 1, 1), (1, .bipush 10, 2), (3, .if_icmp .ge 5, 3), (6, .iload_n 1, 1), (7, .ireturn, 1), (8, .aload_n 0, 1), (9, .iload_n 1, 1), (10, .bipush 10, 2), (12, .isub, 1), (13, .invokevirtual 412, 3), (16, .istore_n 2, 1), (17, .iload_n 2, 1), (18, .ifCond .ge 7, 3), (21, .iconst 5, 1), (22, .goto 7, 3), (25, .bipush 10, 2), (27, .iload_n 2, 1), (28, .iadd, 1), (29, .ireturn, 1)]
theorem dX12_meant : dChk (pCd 9045) eX12_meant = true := by decide +kernel
def fX12_meant (N : Nat) (v0 : Nat) (v1 : Int32) (h : pH) : Option (Int32 × pH) := if isO h v0 12 = true then (
  if (10 : Int32) ≤ v1 then (
  (fX12_classOf N v0 (v1 - (10 : Int32)) h).bind fun q2 =>
  if 0 ≤ q2.1 then (
  some (((10 : Int32) + q2.1), q2.2)) else (
  some ((5 : Int32), q2.2))) else (
  some (v1, h))) else none
theorem oX12_meant {N : Nat} {v0 : Nat} {v1 : Int32} {h : pH} {q : Int32 × pH} (hf : fX12_meant N v0 v1 h = some q) : isO h v0 12 = true := by
  unfold fX12_meant at hf
  by_cases hc : isO h v0 12 = true
  · exact hc
  · rw [if_neg hc] at hf; cases hf
theorem cX12_meant (X : pX) (N d : Nat) (v0 : Nat) (v1 : Int32) (h : pH) (q : Int32 × pH) (hf : fX12_meant N v0 v1 h = some q) : Calls X (d + 1) 275 [.ref v0, .int v1] h (some (.int q.1), q.2, 0, 0) := by
  refine Calls.of M275 (Nat.le_of_ble_eq_true rfl) ?_
  show Run X (d + 1) 12 false (pCd 9045) 3 (some .int) 0 [(0, .ref v0), (1, .int v1)] [] h 0 0 (some (.int q.1), q.2, 0, 0)
  unfold fX12_meant at hf
  by_cases hc : isO h v0 12 = true
  · rw [if_pos hc] at hf
    have nv0 : ¬ v0 = 4 := isO_ne hc
    refine r_iload_n (dGet dX12_meant (j := 0) rfl) rfl ?_
    refine r_bipush (dGet dX12_meant (j := 1) rfl) kB_10 ?_
    by_cases c1 : (10 : Int32) ≤ v1
    · rw [if_pos c1] at hf
      refine r_icmp_ge_t (dGet dX12_meant (j := 2) rfl) rfl c1 ?_
      refine r_aload_n (dGet dX12_meant (j := 5) rfl) nv0 rfl ?_
      refine r_iload_n (dGet dX12_meant (j := 6) rfl) rfl ?_
      refine r_bipush (dGet dX12_meant (j := 7) rfl) kB_10 ?_
      refine r_isub (dGet dX12_meant (j := 8) rfl) ?_
      obtain ⟨q2, eq2, hf⟩ := Option.bind_eq_some_iff.mp hf
      refine r_virtual (dGet dX12_meant (j := 9) rfl) L12_412 M272 rfl rfl (Nat.le_of_ble_eq_true rfl) (oX12_classOf eq2) (cX12_classOf X N (d + 0) v0 (v1 - (10 : Int32)) h q2 eq2) ?_
      refine r_istore_n (lv' := [(2, .int q2.1), (0, .ref v0), (1, .int v1)]) (dGet dX12_meant (j := 10) rfl) (by decide) rfl ?_
      refine r_iload_n (dGet dX12_meant (j := 11) rfl) rfl ?_
      by_cases c3 : 0 ≤ q2.1
      · rw [if_pos c3] at hf
        refine r_if_ge_t (dGet dX12_meant (j := 12) rfl) rfl c3 ?_
        refine r_bipush (dGet dX12_meant (j := 15) rfl) kB_10 ?_
        refine r_iload_n (dGet dX12_meant (j := 16) rfl) rfl ?_
        refine r_iadd (dGet dX12_meant (j := 17) rfl) ?_
        have hq := Option.some.inj hf
        subst hq
        exact r_iret (dGet dX12_meant (j := 18) rfl) rfl rfl
      · rw [if_neg c3] at hf
        refine r_if_ge_f (dGet dX12_meant (j := 12) rfl) rfl c3 ?_
        refine r_iconst (dGet dX12_meant (j := 13) rfl) kI_5 ?_
        refine r_goto (dGet dX12_meant (j := 14) rfl) rfl ?_
        have hq := Option.some.inj hf
        subst hq
        exact r_iret (dGet dX12_meant (j := 18) rfl) rfl rfl
    · rw [if_neg c1] at hf
      refine r_icmp_ge_f (dGet dX12_meant (j := 2) rfl) rfl c1 ?_
      refine r_iload_n (dGet dX12_meant (j := 3) rfl) rfl ?_
      have hq := Option.some.inj hf
      subst hq
      exact r_iret (dGet dX12_meant (j := 4) rfl) rfl rfl
  · rw [if_neg hc] at hf; cases hf
def eX12_isPlain : List (Nat × Instr × Nat) := [(0, .iload_n 1, 1), (1, .ifCond .eq 8, 3), (4, .iload_n 1, 1), (5, .iconst 1, 1), (6, .if_icmp .ne 7, 3), (9, .iconst 1, 1), (10, .goto 4, 3), (13, .iconst 0, 1), (14, .ireturn, 1)]
theorem dX12_isPlain : dChk (pCd 9128) eX12_isPlain = true := by decide +kernel
def fX12_isPlain (N : Nat) (v0 : Nat) (v1 : Int32) (h : pH) : Option (Int32 × pH) := if isO h v0 12 = true then (
  if v1 = 0 then (
  some ((1 : Int32), h)) else (
  if v1 = (1 : Int32) then (
  some ((1 : Int32), h)) else (
  some ((0 : Int32), h)))) else none
theorem oX12_isPlain {N : Nat} {v0 : Nat} {v1 : Int32} {h : pH} {q : Int32 × pH} (hf : fX12_isPlain N v0 v1 h = some q) : isO h v0 12 = true := by
  unfold fX12_isPlain at hf
  by_cases hc : isO h v0 12 = true
  · exact hc
  · rw [if_neg hc] at hf; cases hf
theorem cX12_isPlain (X : pX) (N d : Nat) (v0 : Nat) (v1 : Int32) (h : pH) (q : Int32 × pH) (hf : fX12_isPlain N v0 v1 h = some q) : Calls X (d + 0) 296 [.ref v0, .int v1] h (some (.int q.1), q.2, 0, 0) := by
  refine Calls.of M296 (Nat.le_of_ble_eq_true rfl) ?_
  show Run X (d + 0) 12 false (pCd 9128) 2 (some .boolean) 0 [(0, .ref v0), (1, .int v1)] [] h 0 0 (some (.int q.1), q.2, 0, 0)
  unfold fX12_isPlain at hf
  by_cases hc : isO h v0 12 = true
  · rw [if_pos hc] at hf
    have nv0 : ¬ v0 = 4 := isO_ne hc
    refine r_iload_n (dGet dX12_isPlain (j := 0) rfl) rfl ?_
    by_cases c1 : v1 = 0
    · rw [if_pos c1] at hf
      refine r_if_eq_t (dGet dX12_isPlain (j := 1) rfl) rfl c1 ?_
      refine r_iconst (dGet dX12_isPlain (j := 5) rfl) kI_1 ?_
      refine r_goto (dGet dX12_isPlain (j := 6) rfl) rfl ?_
      have hq := Option.some.inj hf
      subst hq
      exact r_iret (dGet dX12_isPlain (j := 8) rfl) rfl (by decide)
    · rw [if_neg c1] at hf
      refine r_if_eq_f (dGet dX12_isPlain (j := 1) rfl) rfl c1 ?_
      refine r_iload_n (dGet dX12_isPlain (j := 2) rfl) rfl ?_
      refine r_iconst (dGet dX12_isPlain (j := 3) rfl) kI_1 ?_
      by_cases c2 : v1 = (1 : Int32)
      · rw [if_pos c2] at hf
        refine r_icmp_ne_f (dGet dX12_isPlain (j := 4) rfl) rfl c2 ?_
        refine r_iconst (dGet dX12_isPlain (j := 5) rfl) kI_1 ?_
        refine r_goto (dGet dX12_isPlain (j := 6) rfl) rfl ?_
        have hq := Option.some.inj hf
        subst hq
        exact r_iret (dGet dX12_isPlain (j := 8) rfl) rfl (by decide)
      · rw [if_neg c2] at hf
        refine r_icmp_ne_t (dGet dX12_isPlain (j := 4) rfl) rfl c2 ?_
        refine r_iconst (dGet dX12_isPlain (j := 7) rfl) kI_0 ?_
        have hq := Option.some.inj hf
        subst hq
        exact r_iret (dGet dX12_isPlain (j := 8) rfl) rfl (by decide)
  · rw [if_neg hc] at hf; cases hf
def eX12_typeOfValue : List (Nat × Instr × Nat) := [(0, .aload_n 0, 1), (1, .getfield 55, 3), (4, .iload_n 1, 1), (5, .iaload, 1), (6, .ifCond .ge 7, 3), (9, .iconst 3, 1), (10, .goto 14, 3), (13, .aload_n 0, 1), (14, .getfield 37, 3), (17, .aload_n 0, 1), (18, .getfield 55, 3), (21, .iload_n 1, 1), (22, .iaload, 1), (23, .iaload, 1), (24, .ireturn, 1)]
theorem dX12_typeOfValue : dChk (pCd 9124) eX12_typeOfValue = true := by decide +kernel
def fX12_typeOfValue (N : Nat) (v0 : Nat) (v1 : Int32) (h : pH) : Option (Int32 × pH) := if isO h v0 12 = true then (
  (getR h v0 12 29).bind fun t1 =>
  (ldI h t1 v1).bind fun t2 =>
  if 0 ≤ t2 then (
  (getR h v0 12 20).bind fun t4 =>
  (getR h v0 12 29).bind fun t5 =>
  (ldI h t5 v1).bind fun t6 =>
  (ldI h t4 t6).bind fun t7 =>
  some (t7, h)) else (
  some ((3 : Int32), h))) else none
theorem oX12_typeOfValue {N : Nat} {v0 : Nat} {v1 : Int32} {h : pH} {q : Int32 × pH} (hf : fX12_typeOfValue N v0 v1 h = some q) : isO h v0 12 = true := by
  unfold fX12_typeOfValue at hf
  by_cases hc : isO h v0 12 = true
  · exact hc
  · rw [if_neg hc] at hf; cases hf
theorem cX12_typeOfValue (X : pX) (N d : Nat) (v0 : Nat) (v1 : Int32) (h : pH) (q : Int32 × pH) (hf : fX12_typeOfValue N v0 v1 h = some q) : Calls X (d + 0) 295 [.ref v0, .int v1] h (some (.int q.1), q.2, 0, 0) := by
  refine Calls.of M295 (Nat.le_of_ble_eq_true rfl) ?_
  show Run X (d + 0) 12 false (pCd 9124) 2 (some .int) 0 [(0, .ref v0), (1, .int v1)] [] h 0 0 (some (.int q.1), q.2, 0, 0)
  unfold fX12_typeOfValue at hf
  by_cases hc : isO h v0 12 = true
  · rw [if_pos hc] at hf
    have nv0 : ¬ v0 = 4 := isO_ne hc
    refine r_aload_n (dGet dX12_typeOfValue (j := 0) rfl) nv0 rfl ?_
    obtain ⟨t1, et1, hf⟩ := Option.bind_eq_some_iff.mp hf
    refine r_getR (dGet dX12_typeOfValue (j := 1) rfl) F12_55 et1 ?_
    refine r_iload_n (dGet dX12_typeOfValue (j := 2) rfl) rfl ?_
    obtain ⟨t2, et2, hf⟩ := Option.bind_eq_some_iff.mp hf
    refine r_iald (dGet dX12_typeOfValue (j := 3) rfl) et2 ?_
    by_cases c3 : 0 ≤ t2
    · rw [if_pos c3] at hf
      refine r_if_ge_t (dGet dX12_typeOfValue (j := 4) rfl) rfl c3 ?_
      refine r_aload_n (dGet dX12_typeOfValue (j := 7) rfl) nv0 rfl ?_
      obtain ⟨t4, et4, hf⟩ := Option.bind_eq_some_iff.mp hf
      refine r_getR (dGet dX12_typeOfValue (j := 8) rfl) F12_37 et4 ?_
      refine r_aload_n (dGet dX12_typeOfValue (j := 9) rfl) nv0 rfl ?_
      obtain ⟨t5, et5, hf⟩ := Option.bind_eq_some_iff.mp hf
      refine r_getR (dGet dX12_typeOfValue (j := 10) rfl) F12_55 et5 ?_
      refine r_iload_n (dGet dX12_typeOfValue (j := 11) rfl) rfl ?_
      obtain ⟨t6, et6, hf⟩ := Option.bind_eq_some_iff.mp hf
      refine r_iald (dGet dX12_typeOfValue (j := 12) rfl) et6 ?_
      obtain ⟨t7, et7, hf⟩ := Option.bind_eq_some_iff.mp hf
      refine r_iald (dGet dX12_typeOfValue (j := 13) rfl) et7 ?_
      have hq := Option.some.inj hf
      subst hq
      exact r_iret (dGet dX12_typeOfValue (j := 14) rfl) rfl rfl
    · rw [if_neg c3] at hf
      refine r_if_ge_f (dGet dX12_typeOfValue (j := 4) rfl) rfl c3 ?_
      refine r_iconst (dGet dX12_typeOfValue (j := 5) rfl) kI_3 ?_
      refine r_goto (dGet dX12_typeOfValue (j := 6) rfl) rfl ?_
      have hq := Option.some.inj hf
      subst hq
      exact r_iret (dGet dX12_typeOfValue (j := 14) rfl) rfl rfl
  · rw [if_neg hc] at hf; cases hf
def eX12_checkWhile : List (Nat × Instr × Nat) := [(0, .aload_n 0, 1), (1, .getfield 476, 3), (4, .istore_n 3, 1), (5, .aload_n 0, 1), (6, .iconst 3, 1), (7, .iload_n 2, 1), (8, .imul, 1), (9, .invokevirtual 517, 3), (12, .aload_n 0, 1), (13, .aload_n 0, 1), (14, .getfield 70, 3), (17, .iload_n 1, 1), (18, .iaload, 1), (19, .iload_n 2, 1), (20, .iconst 1, 1), (21, .iadd, 1), (22, .invokevirtual 483, 3), (25, .aload_n 0, 1), (26, .iload_n 3, 1), (27, .putfield 476, 3), (30, .aload_n 0, 1), (31, .iconst 3, 1), (32, .iload_n 2, 1), (33, .imul, 1), (34, .invokevirtual 520, 3), (37, .return_, 1)]
theorem dX12_checkWhile : dChk (pCd 9152) eX12_checkWhile = true := by decide +kernel
def fX12_checkWhile (N : Nat) (rc : Nat → List Value → pH → Option (Option Value × pH)) (v0 : Nat) (v1 : Int32) (v2 : Int32) (h : pH) : Option (pH) := if isO h v0 12 = true then (
  (getI h v0 12 66).bind fun t1 =>
  (fX12_keepSets N v0 ((3 : Int32) * v2) h).bind fun h2 =>
  (getR h2 v0 12 34).bind fun t3 =>
  (ldI h2 t3 v1).bind fun t4 =>
  (if isO h2 v0 12 = true then some () else none).bind fun _ =>
  (rcV rc 282 [.ref v0, .int t4, .int (v2 + (1 : Int32))] h2).bind fun h6 =>
  (putZ h6 v0 12 66 t1).bind fun h7 =>
  (fX12_backSets N v0 ((3 : Int32) * v2) h7).bind fun h8 =>
  some h8) else none
theorem oX12_checkWhile {N : Nat} {rc : Nat → List Value → pH → Option (Option Value × pH)} {v0 : Nat} {v1 : Int32} {v2 : Int32} {h : pH} {q : pH} (hf : fX12_checkWhile N rc v0 v1 v2 h = some q) : isO h v0 12 = true := by
  unfold fX12_checkWhile at hf
  by_cases hc : isO h v0 12 = true
  · exact hc
  · rw [if_neg hc] at hf; cases hf
theorem cX12_checkWhile (X : pX) (N d : Nat) (rc : Nat → List Value → pH → Option (Option Value × pH)) (hrc : ∀ mn as h q, rc mn as h = some q → Calls X (d + 4) mn as h (q.1, q.2, 0, 0)) (v0 : Nat) (v1 : Int32) (v2 : Int32) (h : pH) (q : pH) (hf : fX12_checkWhile N rc v0 v1 v2 h = some q) : Calls X (d + 5) 302 [.ref v0, .int v1, .int v2] h (none, q, 0, 0) := by
  refine Calls.of M302 (Nat.le_of_ble_eq_true rfl) ?_
  show Run X (d + 5) 12 false (pCd 9152) 4 none 0 [(0, .ref v0), (1, .int v1), (2, .int v2)] [] h 0 0 (none, q, 0, 0)
  unfold fX12_checkWhile at hf
  by_cases hc : isO h v0 12 = true
  · rw [if_pos hc] at hf
    have nv0 : ¬ v0 = 4 := isO_ne hc
    refine r_aload_n (dGet dX12_checkWhile (j := 0) rfl) nv0 rfl ?_
    obtain ⟨t1, et1, hf⟩ := Option.bind_eq_some_iff.mp hf
    refine r_getI (dGet dX12_checkWhile (j := 1) rfl) F12_476 et1 ?_
    refine r_istore_n (lv' := [(3, .int t1), (0, .ref v0), (1, .int v1), (2, .int v2)]) (dGet dX12_checkWhile (j := 2) rfl) (by decide) rfl ?_
    refine r_aload_n (dGet dX12_checkWhile (j := 3) rfl) nv0 rfl ?_
    refine r_iconst (dGet dX12_checkWhile (j := 4) rfl) kI_3 ?_
    refine r_iload_n (dGet dX12_checkWhile (j := 5) rfl) rfl ?_
    refine r_imul (dGet dX12_checkWhile (j := 6) rfl) ?_
    obtain ⟨h2, eh2, hf⟩ := Option.bind_eq_some_iff.mp hf
    refine r_virtual (dGet dX12_checkWhile (j := 7) rfl) L12_517 M299 rfl rfl (Nat.le_of_ble_eq_true rfl) (oX12_keepSets eh2) (cX12_keepSets X N (d + 4) v0 ((3 : Int32) * v2) h h2 eh2) ?_
    refine r_aload_n (dGet dX12_checkWhile (j := 8) rfl) nv0 rfl ?_
    refine r_aload_n (dGet dX12_checkWhile (j := 9) rfl) nv0 rfl ?_
    obtain ⟨t3, et3, hf⟩ := Option.bind_eq_some_iff.mp hf
    refine r_getR (dGet dX12_checkWhile (j := 10) rfl) F12_70 et3 ?_
    refine r_iload_n (dGet dX12_checkWhile (j := 11) rfl) rfl ?_
    obtain ⟨t4, et4, hf⟩ := Option.bind_eq_some_iff.mp hf
    refine r_iald (dGet dX12_checkWhile (j := 12) rfl) et4 ?_
    refine r_iload_n (dGet dX12_checkWhile (j := 13) rfl) rfl ?_
    refine r_iconst (dGet dX12_checkWhile (j := 14) rfl) kI_1 ?_
    refine r_iadd (dGet dX12_checkWhile (j := 15) rfl) ?_
    obtain ⟨_, ec5, hf⟩ := Option.bind_eq_some_iff.mp hf
    obtain ⟨h6, eh6, hf⟩ := Option.bind_eq_some_iff.mp hf
    refine r_virtual (dGet dX12_checkWhile (j := 16) rfl) L12_483 M282 rfl rfl (Nat.le_of_ble_eq_true rfl) (guard_of ec5) (rcV_calls hrc eh6) ?_
    refine r_aload_n (dGet dX12_checkWhile (j := 17) rfl) nv0 rfl ?_
    refine r_iload_n (dGet dX12_checkWhile (j := 18) rfl) rfl ?_
    obtain ⟨h7, eh7, hf⟩ := Option.bind_eq_some_iff.mp hf
    refine r_putZ (dGet dX12_checkWhile (j := 19) rfl) F12_476 rfl rfl eh7 ?_
    refine r_aload_n (dGet dX12_checkWhile (j := 20) rfl) nv0 rfl ?_
    refine r_iconst (dGet dX12_checkWhile (j := 21) rfl) kI_3 ?_
    refine r_iload_n (dGet dX12_checkWhile (j := 22) rfl) rfl ?_
    refine r_imul (dGet dX12_checkWhile (j := 23) rfl) ?_
    obtain ⟨h8, eh8, hf⟩ := Option.bind_eq_some_iff.mp hf
    refine r_virtual (dGet dX12_checkWhile (j := 24) rfl) L12_520 M300 rfl rfl (Nat.le_of_ble_eq_true rfl) (oX12_backSets eh8) (cX12_backSets X N (d + 4) v0 ((3 : Int32) * v2) h7 h8 eh8) ?_
    have hq := Option.some.inj hf
    subst hq
    exact r_vret (dGet dX12_checkWhile (j := 25) rfl) rfl
  · rw [if_neg hc] at hf; cases hf
def eX12_checkTry : List (Nat × Instr × Nat) := [(0, .aload_n 0, 1), (1, .getfield 476, 3), (4, .istore_n 3, 1), (5, .aload_n 0, 1), (6, .iconst 3, 1), (7, .iload_n 2, 1), (8, .imul, 1), (9, .invokevirtual 517, 3), (12, .aload_n 0, 1), (13, .aload_n 0, 1), (14, .getfield 70, 3), (17, .iload_n 1, 1), (18, .iaload, 1), (19, .iload_n 2, 1), (20, .iconst 1, 1), (21, .iadd, 1), (22, .invokevirtual 483, 3), (25, .aload_n 0, 1), (26, .getfield 409, 3), (29, .ifCond .lt 4, 3), (32, .return_, 1), (33, .aload_n 0, 1), (34, .getfield 476, 3), (37, .istore 4, 2), (39, .aload_n 0, 1), (40, .iconst 3, 1), (41, .iload_n 2, 1), (42, .imul, 1), (43, .iconst 1, 1), (44, .iadd, 1), (45, .invokevirtual 517, 3), (48, .aload_n 0, 1), (49, .iload_n 3, 1), (50, .putfield 476, 3), (53, .aload_n 0, 1), (54, .iconst 3, 1), (55, .iload_n 2, 1), (56, .imul, 1), (57, .invokevirtual 520, 3), (60, .aload_n 0, 1), (61, .aload_n 0, 1), (62, .getfield 61, 3), (65, .iload_n 1, 1), (66, .iaload, 1), (67, .invokevirtual 426, 3), (70, .istore 5, 2), (72, .iload 5, 2), (74, .iconst 5, 1), (75, .if_icmp .eq 16, 3), (78, .aload_n 0, 1), (79, .aload_n 0, 1), (80, .getfield 64, 3), (83, .iload_n 1, 1), (84, .iaload, 1), (85, .invokevirtual 496, 3), (88, .ifCond .lt 14, 3), (91, .aload_n 0, 1), (92, .aload_n 0, 1), (93, .getfield 49, 3), (96, .iload_n 1, 1), (97, .iaload, 1), (98, .invokevirtual 419, 3), (101, .return_, 1), (102, .aload_n 0, 1), (103, .getfield 61, 3), (106, .iload_n 1, 1), (107, .iload 5, 2), (109, .iastore, 1), (110, .aload_n 0, 1), (111, .getfield 67, 3), (114, .iload_n 1, 1), (115, .aload_n 0, 1), (116, .getfield 467, 3), (119, .iastore, 1), (120, .aload_n 0, 1), (121, .aload_n 0, 1), (122, .getfield 64, 3), (125, .iload_n 1, 1), (126, .iaload, 1), (127, .iload 5, 2), (129, .iconst 1, 1), (130, .invokevirtual 479, 3), (133, .aload_n 0, 1), (134, .aload_n 0, 1), (135, .getfield 73, 3), (138, .iload_n 1, 1), (139, .iaload, 1), (140, .iload_n 2, 1), (141, .iconst 1, 1), (142, .iadd, 1), (143, .invokevirtual 483, 3), (146, .aload_n 0, 1), (147, .dup, 1), (148, .getfield 467, 3), (151, .iconst 1, 1), (152, .isub, 1), (153, .putfield 467, 3), (156, .aload_n 0, 1), (157, .iconst 3, 1), (158, .iload_n 2, 1), (159, .imul, 1), (160, .iconst 1, 1), (161, .iadd, 1), (162, .iload 4, 2), (164, .invokevirtual 523, 3), (167, .return_, 1)]
theorem dX12_checkTry : dChk (pCd 9156) eX12_checkTry = true := by decide +kernel
def fX12_checkTry_91 (N : Nat) (rc : Nat → List Value → pH → Option (Option Value × pH)) (v0 : Nat) (v1 : Int32) (h : pH) : Option (pH) :=
  (getR h v0 12 27).bind fun t1 =>
  (ldI h t1 v1).bind fun t2 =>
  (fX12_isBad N v0 t2 h).bind fun h3 =>
  some h3
theorem lX12_checkTry_91 (X : pX) (N d : Nat) (rc : Nat → List Value → pH → Option (Option Value × pH)) (hrc : ∀ mn as h q, rc mn as h = some q → Calls X (d + 4) mn as h (q.1, q.2, 0, 0))  (v0 : Nat) (v1 : Int32) (h : pH) (q : pH) (hf : fX12_checkTry_91 N rc v0 v1 h = some q) (nv0 : ¬ v0 = 4) : Run X (d + 5) 12 false (pCd 9156) 6 none 91 [(0, .ref v0), (1, .int v1)] [] h 0 0 (none, q, 0, 0) := by
  unfold fX12_checkTry_91 at hf
  refine r_aload_n (dGet dX12_checkTry (j := 56) rfl) nv0 rfl ?_
  refine r_aload_n (dGet dX12_checkTry (j := 57) rfl) nv0 rfl ?_
  obtain ⟨t1, et1, hf⟩ := Option.bind_eq_some_iff.mp hf
  refine r_getR (dGet dX12_checkTry (j := 58) rfl) F12_49 et1 ?_
  refine r_iload_n (dGet dX12_checkTry (j := 59) rfl) rfl ?_
  obtain ⟨t2, et2, hf⟩ := Option.bind_eq_some_iff.mp hf
  refine r_iald (dGet dX12_checkTry (j := 60) rfl) et2 ?_
  obtain ⟨h3, eh3, hf⟩ := Option.bind_eq_some_iff.mp hf
  refine r_virtual (dGet dX12_checkTry (j := 61) rfl) L12_419 M273 rfl rfl (Nat.le_of_ble_eq_true rfl) (oX12_isBad eh3) (cX12_isBad X N (d + 4) v0 t2 h h3 eh3) ?_
  have hq := Option.some.inj hf
  subst hq
  exact r_vret (dGet dX12_checkTry (j := 62) rfl) rfl
def fX12_checkTry (N : Nat) (rc : Nat → List Value → pH → Option (Option Value × pH)) (v0 : Nat) (v1 : Int32) (v2 : Int32) (h : pH) : Option (pH) := if isO h v0 12 = true then (
  (getI h v0 12 66).bind fun t4 =>
  (fX12_keepSets N v0 ((3 : Int32) * v2) h).bind fun h5 =>
  (getR h5 v0 12 34).bind fun t6 =>
  (ldI h5 t6 v1).bind fun t7 =>
  (if isO h5 v0 12 = true then some () else none).bind fun _ =>
  (rcV rc 282 [.ref v0, .int t7, .int (v2 + (1 : Int32))] h5).bind fun h9 =>
  (getI h9 v0 12 58).bind fun t10 =>
  if t10 < 0 then (
  (getI h9 v0 12 66).bind fun t12 =>
  (fX12_keepSets N v0 (((3 : Int32) * v2) + (1 : Int32)) h9).bind fun h13 =>
  (putZ h13 v0 12 66 t4).bind fun h14 =>
  (fX12_backSets N v0 ((3 : Int32) * v2) h14).bind fun h15 =>
  (getR h15 v0 12 31).bind fun t16 =>
  (ldI h15 t16 v1).bind fun t17 =>
  (fX12_meant N v0 t17 h15).bind fun q18 =>
  if q18.1 = (5 : Int32) then (
  fX12_checkTry_91 N rc v0 v1 q18.2) else (
  (getR q18.2 v0 12 32).bind fun t20 =>
  (ldI q18.2 t20 v1).bind fun t21 =>
  (fX12_variableOf N v0 t21 q18.2).bind fun q22 =>
  if q22.1 < 0 then (
  (getR q22.2 v0 12 31).bind fun t24 =>
  (stI q22.2 t24 v1 q18.1).bind fun h25 =>
  (getR h25 v0 12 33).bind fun t26 =>
  (getI h25 v0 12 62).bind fun t27 =>
  (stI h25 t26 v1 t27).bind fun h28 =>
  (getR h28 v0 12 32).bind fun t29 =>
  (ldI h28 t29 v1).bind fun t30 =>
  (fX12_addVariable N v0 t30 q18.1 (1 : Int32) h28).bind fun h31 =>
  (getR h31 v0 12 35).bind fun t32 =>
  (ldI h31 t32 v1).bind fun t33 =>
  (if isO h31 v0 12 = true then some () else none).bind fun _ =>
  (rcV rc 282 [.ref v0, .int t33, .int (v2 + (1 : Int32))] h31).bind fun h35 =>
  (getI h35 v0 12 62).bind fun t36 =>
  (putI h35 v0 12 62 (t36 - (1 : Int32))).bind fun h37 =>
  (fX12_joinSets N v0 (((3 : Int32) * v2) + (1 : Int32)) t12 h37).bind fun h38 =>
  some h38) else (
  fX12_checkTry_91 N rc v0 v1 q22.2))) else (
  some h9)) else none
theorem oX12_checkTry {N : Nat} {rc : Nat → List Value → pH → Option (Option Value × pH)} {v0 : Nat} {v1 : Int32} {v2 : Int32} {h : pH} {q : pH} (hf : fX12_checkTry N rc v0 v1 v2 h = some q) : isO h v0 12 = true := by
  unfold fX12_checkTry at hf
  by_cases hc : isO h v0 12 = true
  · exact hc
  · rw [if_neg hc] at hf; cases hf
theorem cX12_checkTry (X : pX) (N d : Nat) (rc : Nat → List Value → pH → Option (Option Value × pH)) (hrc : ∀ mn as h q, rc mn as h = some q → Calls X (d + 4) mn as h (q.1, q.2, 0, 0)) (v0 : Nat) (v1 : Int32) (v2 : Int32) (h : pH) (q : pH) (hf : fX12_checkTry N rc v0 v1 v2 h = some q) : Calls X (d + 5) 303 [.ref v0, .int v1, .int v2] h (none, q, 0, 0) := by
  refine Calls.of M303 (Nat.le_of_ble_eq_true rfl) ?_
  show Run X (d + 5) 12 false (pCd 9156) 6 none 0 [(0, .ref v0), (1, .int v1), (2, .int v2)] [] h 0 0 (none, q, 0, 0)
  unfold fX12_checkTry at hf
  by_cases hc : isO h v0 12 = true
  · rw [if_pos hc] at hf
    have nv0 : ¬ v0 = 4 := isO_ne hc
    refine r_aload_n (dGet dX12_checkTry (j := 0) rfl) nv0 rfl ?_
    obtain ⟨t4, et4, hf⟩ := Option.bind_eq_some_iff.mp hf
    refine r_getI (dGet dX12_checkTry (j := 1) rfl) F12_476 et4 ?_
    refine r_istore_n (lv' := [(3, .int t4), (0, .ref v0), (1, .int v1), (2, .int v2)]) (dGet dX12_checkTry (j := 2) rfl) (by decide) rfl ?_
    refine r_aload_n (dGet dX12_checkTry (j := 3) rfl) nv0 rfl ?_
    refine r_iconst (dGet dX12_checkTry (j := 4) rfl) kI_3 ?_
    refine r_iload_n (dGet dX12_checkTry (j := 5) rfl) rfl ?_
    refine r_imul (dGet dX12_checkTry (j := 6) rfl) ?_
    obtain ⟨h5, eh5, hf⟩ := Option.bind_eq_some_iff.mp hf
    refine r_virtual (dGet dX12_checkTry (j := 7) rfl) L12_517 M299 rfl rfl (Nat.le_of_ble_eq_true rfl) (oX12_keepSets eh5) (cX12_keepSets X N (d + 4) v0 ((3 : Int32) * v2) h h5 eh5) ?_
    refine r_aload_n (dGet dX12_checkTry (j := 8) rfl) nv0 rfl ?_
    refine r_aload_n (dGet dX12_checkTry (j := 9) rfl) nv0 rfl ?_
    obtain ⟨t6, et6, hf⟩ := Option.bind_eq_some_iff.mp hf
    refine r_getR (dGet dX12_checkTry (j := 10) rfl) F12_70 et6 ?_
    refine r_iload_n (dGet dX12_checkTry (j := 11) rfl) rfl ?_
    obtain ⟨t7, et7, hf⟩ := Option.bind_eq_some_iff.mp hf
    refine r_iald (dGet dX12_checkTry (j := 12) rfl) et7 ?_
    refine r_iload_n (dGet dX12_checkTry (j := 13) rfl) rfl ?_
    refine r_iconst (dGet dX12_checkTry (j := 14) rfl) kI_1 ?_
    refine r_iadd (dGet dX12_checkTry (j := 15) rfl) ?_
    obtain ⟨_, ec8, hf⟩ := Option.bind_eq_some_iff.mp hf
    obtain ⟨h9, eh9, hf⟩ := Option.bind_eq_some_iff.mp hf
    refine r_virtual (dGet dX12_checkTry (j := 16) rfl) L12_483 M282 rfl rfl (Nat.le_of_ble_eq_true rfl) (guard_of ec8) (rcV_calls hrc eh9) ?_
    refine r_aload_n (dGet dX12_checkTry (j := 17) rfl) nv0 rfl ?_
    obtain ⟨t10, et10, hf⟩ := Option.bind_eq_some_iff.mp hf
    refine r_getI (dGet dX12_checkTry (j := 18) rfl) F12_409 et10 ?_
    by_cases c11 : t10 < 0
    · rw [if_pos c11] at hf
      refine r_if_lt_t (dGet dX12_checkTry (j := 19) rfl) rfl c11 ?_
      refine r_aload_n (dGet dX12_checkTry (j := 21) rfl) nv0 rfl ?_
      obtain ⟨t12, et12, hf⟩ := Option.bind_eq_some_iff.mp hf
      refine r_getI (dGet dX12_checkTry (j := 22) rfl) F12_476 et12 ?_
      refine r_istore (lv' := [(4, .int t12), (3, .int t4), (0, .ref v0), (1, .int v1), (2, .int v2)]) (dGet dX12_checkTry (j := 23) rfl) (by decide) rfl ?_
      refine r_aload_n (dGet dX12_checkTry (j := 24) rfl) nv0 rfl ?_
      refine r_iconst (dGet dX12_checkTry (j := 25) rfl) kI_3 ?_
      refine r_iload_n (dGet dX12_checkTry (j := 26) rfl) rfl ?_
      refine r_imul (dGet dX12_checkTry (j := 27) rfl) ?_
      refine r_iconst (dGet dX12_checkTry (j := 28) rfl) kI_1 ?_
      refine r_iadd (dGet dX12_checkTry (j := 29) rfl) ?_
      obtain ⟨h13, eh13, hf⟩ := Option.bind_eq_some_iff.mp hf
      refine r_virtual (dGet dX12_checkTry (j := 30) rfl) L12_517 M299 rfl rfl (Nat.le_of_ble_eq_true rfl) (oX12_keepSets eh13) (cX12_keepSets X N (d + 4) v0 (((3 : Int32) * v2) + (1 : Int32)) h9 h13 eh13) ?_
      refine r_aload_n (dGet dX12_checkTry (j := 31) rfl) nv0 rfl ?_
      refine r_iload_n (dGet dX12_checkTry (j := 32) rfl) rfl ?_
      obtain ⟨h14, eh14, hf⟩ := Option.bind_eq_some_iff.mp hf
      refine r_putZ (dGet dX12_checkTry (j := 33) rfl) F12_476 rfl rfl eh14 ?_
      refine r_aload_n (dGet dX12_checkTry (j := 34) rfl) nv0 rfl ?_
      refine r_iconst (dGet dX12_checkTry (j := 35) rfl) kI_3 ?_
      refine r_iload_n (dGet dX12_checkTry (j := 36) rfl) rfl ?_
      refine r_imul (dGet dX12_checkTry (j := 37) rfl) ?_
      obtain ⟨h15, eh15, hf⟩ := Option.bind_eq_some_iff.mp hf
      refine r_virtual (dGet dX12_checkTry (j := 38) rfl) L12_520 M300 rfl rfl (Nat.le_of_ble_eq_true rfl) (oX12_backSets eh15) (cX12_backSets X N (d + 4) v0 ((3 : Int32) * v2) h14 h15 eh15) ?_
      refine r_aload_n (dGet dX12_checkTry (j := 39) rfl) nv0 rfl ?_
      refine r_aload_n (dGet dX12_checkTry (j := 40) rfl) nv0 rfl ?_
      obtain ⟨t16, et16, hf⟩ := Option.bind_eq_some_iff.mp hf
      refine r_getR (dGet dX12_checkTry (j := 41) rfl) F12_61 et16 ?_
      refine r_iload_n (dGet dX12_checkTry (j := 42) rfl) rfl ?_
      obtain ⟨t17, et17, hf⟩ := Option.bind_eq_some_iff.mp hf
      refine r_iald (dGet dX12_checkTry (j := 43) rfl) et17 ?_
      obtain ⟨q18, eq18, hf⟩ := Option.bind_eq_some_iff.mp hf
      refine r_virtual (dGet dX12_checkTry (j := 44) rfl) L12_426 M275 rfl rfl (Nat.le_of_ble_eq_true rfl) (oX12_meant eq18) (cX12_meant X N (d + 3) v0 t17 h15 q18 eq18) ?_
      refine r_istore (lv' := [(5, .int q18.1), (4, .int t12), (3, .int t4), (0, .ref v0), (1, .int v1), (2, .int v2)]) (dGet dX12_checkTry (j := 45) rfl) (by decide) rfl ?_
      refine r_iload (dGet dX12_checkTry (j := 46) rfl) rfl ?_
      refine r_iconst (dGet dX12_checkTry (j := 47) rfl) kI_5 ?_
      by_cases c19 : q18.1 = (5 : Int32)
      · rw [if_pos c19] at hf
        refine r_icmp_eq_t (dGet dX12_checkTry (j := 48) rfl) rfl c19 ?_
        refine Run.weak [(0, .ref v0), (1, .int v1)] (by simp) (by simp [pNd]) ?_
        exact lX12_checkTry_91 X N d rc hrc v0 v1 q18.2 q hf nv0
      · rw [if_neg c19] at hf
        refine r_icmp_eq_f (dGet dX12_checkTry (j := 48) rfl) rfl c19 ?_
        refine r_aload_n (dGet dX12_checkTry (j := 49) rfl) nv0 rfl ?_
        refine r_aload_n (dGet dX12_checkTry (j := 50) rfl) nv0 rfl ?_
        obtain ⟨t20, et20, hf⟩ := Option.bind_eq_some_iff.mp hf
        refine r_getR (dGet dX12_checkTry (j := 51) rfl) F12_64 et20 ?_
        refine r_iload_n (dGet dX12_checkTry (j := 52) rfl) rfl ?_
        obtain ⟨t21, et21, hf⟩ := Option.bind_eq_some_iff.mp hf
        refine r_iald (dGet dX12_checkTry (j := 53) rfl) et21 ?_
        obtain ⟨q22, eq22, hf⟩ := Option.bind_eq_some_iff.mp hf
        refine r_virtual (dGet dX12_checkTry (j := 54) rfl) L12_496 M287 rfl rfl (Nat.le_of_ble_eq_true rfl) (oX12_variableOf eq22) (cX12_variableOf X N (d + 4) v0 t21 q18.2 q22 eq22) ?_
        by_cases c23 : q22.1 < 0
        · rw [if_pos c23] at hf
          refine r_if_lt_t (dGet dX12_checkTry (j := 55) rfl) rfl c23 ?_
          refine r_aload_n (dGet dX12_checkTry (j := 63) rfl) nv0 rfl ?_
          obtain ⟨t24, et24, hf⟩ := Option.bind_eq_some_iff.mp hf
          refine r_getR (dGet dX12_checkTry (j := 64) rfl) F12_61 et24 ?_
          refine r_iload_n (dGet dX12_checkTry (j := 65) rfl) rfl ?_
          refine r_iload (dGet dX12_checkTry (j := 66) rfl) rfl ?_
          obtain ⟨h25, eh25, hf⟩ := Option.bind_eq_some_iff.mp hf
          refine r_iast (dGet dX12_checkTry (j := 67) rfl) eh25 ?_
          refine r_aload_n (dGet dX12_checkTry (j := 68) rfl) nv0 rfl ?_
          obtain ⟨t26, et26, hf⟩ := Option.bind_eq_some_iff.mp hf
          refine r_getR (dGet dX12_checkTry (j := 69) rfl) F12_67 et26 ?_
          refine r_iload_n (dGet dX12_checkTry (j := 70) rfl) rfl ?_
          refine r_aload_n (dGet dX12_checkTry (j := 71) rfl) nv0 rfl ?_
          obtain ⟨t27, et27, hf⟩ := Option.bind_eq_some_iff.mp hf
          refine r_getI (dGet dX12_checkTry (j := 72) rfl) F12_467 et27 ?_
          obtain ⟨h28, eh28, hf⟩ := Option.bind_eq_some_iff.mp hf
          refine r_iast (dGet dX12_checkTry (j := 73) rfl) eh28 ?_
          refine r_aload_n (dGet dX12_checkTry (j := 74) rfl) nv0 rfl ?_
          refine r_aload_n (dGet dX12_checkTry (j := 75) rfl) nv0 rfl ?_
          obtain ⟨t29, et29, hf⟩ := Option.bind_eq_some_iff.mp hf
          refine r_getR (dGet dX12_checkTry (j := 76) rfl) F12_64 et29 ?_
          refine r_iload_n (dGet dX12_checkTry (j := 77) rfl) rfl ?_
          obtain ⟨t30, et30, hf⟩ := Option.bind_eq_some_iff.mp hf
          refine r_iald (dGet dX12_checkTry (j := 78) rfl) et30 ?_
          refine r_iload (dGet dX12_checkTry (j := 79) rfl) rfl ?_
          refine r_iconst (dGet dX12_checkTry (j := 80) rfl) kI_1 ?_
          obtain ⟨h31, eh31, hf⟩ := Option.bind_eq_some_iff.mp hf
          refine r_virtual (dGet dX12_checkTry (j := 81) rfl) L12_479 M281 rfl rfl (Nat.le_of_ble_eq_true rfl) (oX12_addVariable eh31) (cX12_addVariable X N (d + 4) v0 t30 q18.1 (1 : Int32) h28 h31 eh31) ?_
          refine r_aload_n (dGet dX12_checkTry (j := 82) rfl) nv0 rfl ?_
          refine r_aload_n (dGet dX12_checkTry (j := 83) rfl) nv0 rfl ?_
          obtain ⟨t32, et32, hf⟩ := Option.bind_eq_some_iff.mp hf
          refine r_getR (dGet dX12_checkTry (j := 84) rfl) F12_73 et32 ?_
          refine r_iload_n (dGet dX12_checkTry (j := 85) rfl) rfl ?_
          obtain ⟨t33, et33, hf⟩ := Option.bind_eq_some_iff.mp hf
          refine r_iald (dGet dX12_checkTry (j := 86) rfl) et33 ?_
          refine r_iload_n (dGet dX12_checkTry (j := 87) rfl) rfl ?_
          refine r_iconst (dGet dX12_checkTry (j := 88) rfl) kI_1 ?_
          refine r_iadd (dGet dX12_checkTry (j := 89) rfl) ?_
          obtain ⟨_, ec34, hf⟩ := Option.bind_eq_some_iff.mp hf
          obtain ⟨h35, eh35, hf⟩ := Option.bind_eq_some_iff.mp hf
          refine r_virtual (dGet dX12_checkTry (j := 90) rfl) L12_483 M282 rfl rfl (Nat.le_of_ble_eq_true rfl) (guard_of ec34) (rcV_calls hrc eh35) ?_
          refine r_aload_n (dGet dX12_checkTry (j := 91) rfl) nv0 rfl ?_
          refine r_dup (dGet dX12_checkTry (j := 92) rfl) rfl ?_
          obtain ⟨t36, et36, hf⟩ := Option.bind_eq_some_iff.mp hf
          refine r_getI (dGet dX12_checkTry (j := 93) rfl) F12_467 et36 ?_
          refine r_iconst (dGet dX12_checkTry (j := 94) rfl) kI_1 ?_
          refine r_isub (dGet dX12_checkTry (j := 95) rfl) ?_
          obtain ⟨h37, eh37, hf⟩ := Option.bind_eq_some_iff.mp hf
          refine r_putI (dGet dX12_checkTry (j := 96) rfl) F12_467 rfl rfl eh37 ?_
          refine r_aload_n (dGet dX12_checkTry (j := 97) rfl) nv0 rfl ?_
          refine r_iconst (dGet dX12_checkTry (j := 98) rfl) kI_3 ?_
          refine r_iload_n (dGet dX12_checkTry (j := 99) rfl) rfl ?_
          refine r_imul (dGet dX12_checkTry (j := 100) rfl) ?_
          refine r_iconst (dGet dX12_checkTry (j := 101) rfl) kI_1 ?_
          refine r_iadd (dGet dX12_checkTry (j := 102) rfl) ?_
          refine r_iload (dGet dX12_checkTry (j := 103) rfl) rfl ?_
          obtain ⟨h38, eh38, hf⟩ := Option.bind_eq_some_iff.mp hf
          refine r_virtual (dGet dX12_checkTry (j := 104) rfl) L12_523 M301 rfl rfl (Nat.le_of_ble_eq_true rfl) (oX12_joinSets eh38) (cX12_joinSets X N (d + 4) v0 (((3 : Int32) * v2) + (1 : Int32)) t12 h37 h38 eh38) ?_
          have hq := Option.some.inj hf
          subst hq
          exact r_vret (dGet dX12_checkTry (j := 105) rfl) rfl
        · rw [if_neg c23] at hf
          refine r_if_lt_f (dGet dX12_checkTry (j := 55) rfl) rfl c23 ?_
          refine Run.weak [(0, .ref v0), (1, .int v1)] (by simp) (by simp [pNd]) ?_
          exact lX12_checkTry_91 X N d rc hrc v0 v1 q22.2 q hf nv0
    · rw [if_neg c11] at hf
      refine r_if_lt_f (dGet dX12_checkTry (j := 19) rfl) rfl c11 ?_
      have hq := Option.some.inj hf
      subst hq
      exact r_vret (dGet dX12_checkTry (j := 20) rfl) rfl
  · rw [if_neg hc] at hf; cases hf
def eX12_checkIf : List (Nat × Instr × Nat) := [(0, .aload_n 0, 1), (1, .getfield 476, 3), (4, .istore_n 3, 1), (5, .aload_n 0, 1), (6, .iconst 3, 1), (7, .iload_n 2, 1), (8, .imul, 1), (9, .invokevirtual 517, 3), (12, .aload_n 0, 1), (13, .aload_n 0, 1), (14, .getfield 70, 3), (17, .iload_n 1, 1), (18, .iaload, 1), (19, .iload_n 2, 1), (20, .iconst 1, 1), (21, .iadd, 1), (22, .invokevirtual 483, 3), (25, .aload_n 0, 1), (26, .getfield 476, 3), (29, .istore 4, 2), (31, .aload_n 0, 1), (32, .iconst 3, 1), (33, .iload_n 2, 1), (34, .imul, 1), (35, .iconst 1, 1), (36, .iadd, 1), (37, .invokevirtual 517, 3), (40, .aload_n 0, 1), (41, .iload_n 3, 1), (42, .putfield 476, 3), (45, .aload_n 0, 1), (46, .iconst 3, 1), (47, .iload_n 2, 1), (48, .imul, 1), (49, .invokevirtual 520, 3), (52, .aload_n 0, 1), (53, .getfield 58, 3), (56, .iload_n 1, 1), (57, .iaload, 1), (58, .iconst 1, 1), (59, .if_icmp .ne 16, 3), (62, .aload_n 0, 1), (63, .aload_n 0, 1), (64, .getfield 73, 3), (67, .iload_n 1, 1), (68, .iaload, 1), (69, .iload_n 2, 1), (70, .iconst 1, 1), (71, .iadd, 1), (72, .invokevirtual 483, 3), (75, .aload_n 0, 1), (76, .iconst 3, 1), (77, .iload_n 2, 1), (78, .imul, 1), (79, .iconst 1, 1), (80, .iadd, 1), (81, .iload 4, 2), (83, .invokevirtual 523, 3), (86, .return_, 1)]
theorem dX12_checkIf : dChk (pCd 9136) eX12_checkIf = true := by decide +kernel
def fX12_checkIf_75 (N : Nat) (rc : Nat → List Value → pH → Option (Option Value × pH)) (v0 : Nat) (v2 : Int32) (v4 : Int32) (h : pH) : Option (pH) :=
  (fX12_joinSets N v0 (((3 : Int32) * v2) + (1 : Int32)) v4 h).bind fun h1 =>
  some h1
theorem lX12_checkIf_75 (X : pX) (N d : Nat) (rc : Nat → List Value → pH → Option (Option Value × pH)) (hrc : ∀ mn as h q, rc mn as h = some q → Calls X (d + 4) mn as h (q.1, q.2, 0, 0))  (v0 : Nat) (v2 : Int32) (v4 : Int32) (h : pH) (q : pH) (hf : fX12_checkIf_75 N rc v0 v2 v4 h = some q) (nv0 : ¬ v0 = 4) : Run X (d + 5) 12 false (pCd 9136) 5 none 75 [(0, .ref v0), (2, .int v2), (4, .int v4)] [] h 0 0 (none, q, 0, 0) := by
  unfold fX12_checkIf_75 at hf
  refine r_aload_n (dGet dX12_checkIf (j := 50) rfl) nv0 rfl ?_
  refine r_iconst (dGet dX12_checkIf (j := 51) rfl) kI_3 ?_
  refine r_iload_n (dGet dX12_checkIf (j := 52) rfl) rfl ?_
  refine r_imul (dGet dX12_checkIf (j := 53) rfl) ?_
  refine r_iconst (dGet dX12_checkIf (j := 54) rfl) kI_1 ?_
  refine r_iadd (dGet dX12_checkIf (j := 55) rfl) ?_
  refine r_iload (dGet dX12_checkIf (j := 56) rfl) rfl ?_
  obtain ⟨h1, eh1, hf⟩ := Option.bind_eq_some_iff.mp hf
  refine r_virtual (dGet dX12_checkIf (j := 57) rfl) L12_523 M301 rfl rfl (Nat.le_of_ble_eq_true rfl) (oX12_joinSets eh1) (cX12_joinSets X N (d + 4) v0 (((3 : Int32) * v2) + (1 : Int32)) v4 h h1 eh1) ?_
  have hq := Option.some.inj hf
  subst hq
  exact r_vret (dGet dX12_checkIf (j := 58) rfl) rfl
def fX12_checkIf (N : Nat) (rc : Nat → List Value → pH → Option (Option Value × pH)) (v0 : Nat) (v1 : Int32) (v2 : Int32) (h : pH) : Option (pH) := if isO h v0 12 = true then (
  (getI h v0 12 66).bind fun t2 =>
  (fX12_keepSets N v0 ((3 : Int32) * v2) h).bind fun h3 =>
  (getR h3 v0 12 34).bind fun t4 =>
  (ldI h3 t4 v1).bind fun t5 =>
  (if isO h3 v0 12 = true then some () else none).bind fun _ =>
  (rcV rc 282 [.ref v0, .int t5, .int (v2 + (1 : Int32))] h3).bind fun h7 =>
  (getI h7 v0 12 66).bind fun t8 =>
  (fX12_keepSets N v0 (((3 : Int32) * v2) + (1 : Int32)) h7).bind fun h9 =>
  (putZ h9 v0 12 66 t2).bind fun h10 =>
  (fX12_backSets N v0 ((3 : Int32) * v2) h10).bind fun h11 =>
  (getR h11 v0 12 30).bind fun t12 =>
  (ldI h11 t12 v1).bind fun t13 =>
  if t13 = (1 : Int32) then (
  (getR h11 v0 12 35).bind fun t15 =>
  (ldI h11 t15 v1).bind fun t16 =>
  (if isO h11 v0 12 = true then some () else none).bind fun _ =>
  (rcV rc 282 [.ref v0, .int t16, .int (v2 + (1 : Int32))] h11).bind fun h18 =>
  fX12_checkIf_75 N rc v0 v2 t8 h18) else (
  fX12_checkIf_75 N rc v0 v2 t8 h11)) else none
theorem oX12_checkIf {N : Nat} {rc : Nat → List Value → pH → Option (Option Value × pH)} {v0 : Nat} {v1 : Int32} {v2 : Int32} {h : pH} {q : pH} (hf : fX12_checkIf N rc v0 v1 v2 h = some q) : isO h v0 12 = true := by
  unfold fX12_checkIf at hf
  by_cases hc : isO h v0 12 = true
  · exact hc
  · rw [if_neg hc] at hf; cases hf
theorem cX12_checkIf (X : pX) (N d : Nat) (rc : Nat → List Value → pH → Option (Option Value × pH)) (hrc : ∀ mn as h q, rc mn as h = some q → Calls X (d + 4) mn as h (q.1, q.2, 0, 0)) (v0 : Nat) (v1 : Int32) (v2 : Int32) (h : pH) (q : pH) (hf : fX12_checkIf N rc v0 v1 v2 h = some q) : Calls X (d + 5) 298 [.ref v0, .int v1, .int v2] h (none, q, 0, 0) := by
  refine Calls.of M298 (Nat.le_of_ble_eq_true rfl) ?_
  show Run X (d + 5) 12 false (pCd 9136) 5 none 0 [(0, .ref v0), (1, .int v1), (2, .int v2)] [] h 0 0 (none, q, 0, 0)
  unfold fX12_checkIf at hf
  by_cases hc : isO h v0 12 = true
  · rw [if_pos hc] at hf
    have nv0 : ¬ v0 = 4 := isO_ne hc
    refine r_aload_n (dGet dX12_checkIf (j := 0) rfl) nv0 rfl ?_
    obtain ⟨t2, et2, hf⟩ := Option.bind_eq_some_iff.mp hf
    refine r_getI (dGet dX12_checkIf (j := 1) rfl) F12_476 et2 ?_
    refine r_istore_n (lv' := [(3, .int t2), (0, .ref v0), (1, .int v1), (2, .int v2)]) (dGet dX12_checkIf (j := 2) rfl) (by decide) rfl ?_
    refine r_aload_n (dGet dX12_checkIf (j := 3) rfl) nv0 rfl ?_
    refine r_iconst (dGet dX12_checkIf (j := 4) rfl) kI_3 ?_
    refine r_iload_n (dGet dX12_checkIf (j := 5) rfl) rfl ?_
    refine r_imul (dGet dX12_checkIf (j := 6) rfl) ?_
    obtain ⟨h3, eh3, hf⟩ := Option.bind_eq_some_iff.mp hf
    refine r_virtual (dGet dX12_checkIf (j := 7) rfl) L12_517 M299 rfl rfl (Nat.le_of_ble_eq_true rfl) (oX12_keepSets eh3) (cX12_keepSets X N (d + 4) v0 ((3 : Int32) * v2) h h3 eh3) ?_
    refine r_aload_n (dGet dX12_checkIf (j := 8) rfl) nv0 rfl ?_
    refine r_aload_n (dGet dX12_checkIf (j := 9) rfl) nv0 rfl ?_
    obtain ⟨t4, et4, hf⟩ := Option.bind_eq_some_iff.mp hf
    refine r_getR (dGet dX12_checkIf (j := 10) rfl) F12_70 et4 ?_
    refine r_iload_n (dGet dX12_checkIf (j := 11) rfl) rfl ?_
    obtain ⟨t5, et5, hf⟩ := Option.bind_eq_some_iff.mp hf
    refine r_iald (dGet dX12_checkIf (j := 12) rfl) et5 ?_
    refine r_iload_n (dGet dX12_checkIf (j := 13) rfl) rfl ?_
    refine r_iconst (dGet dX12_checkIf (j := 14) rfl) kI_1 ?_
    refine r_iadd (dGet dX12_checkIf (j := 15) rfl) ?_
    obtain ⟨_, ec6, hf⟩ := Option.bind_eq_some_iff.mp hf
    obtain ⟨h7, eh7, hf⟩ := Option.bind_eq_some_iff.mp hf
    refine r_virtual (dGet dX12_checkIf (j := 16) rfl) L12_483 M282 rfl rfl (Nat.le_of_ble_eq_true rfl) (guard_of ec6) (rcV_calls hrc eh7) ?_
    refine r_aload_n (dGet dX12_checkIf (j := 17) rfl) nv0 rfl ?_
    obtain ⟨t8, et8, hf⟩ := Option.bind_eq_some_iff.mp hf
    refine r_getI (dGet dX12_checkIf (j := 18) rfl) F12_476 et8 ?_
    refine r_istore (lv' := [(4, .int t8), (3, .int t2), (0, .ref v0), (1, .int v1), (2, .int v2)]) (dGet dX12_checkIf (j := 19) rfl) (by decide) rfl ?_
    refine r_aload_n (dGet dX12_checkIf (j := 20) rfl) nv0 rfl ?_
    refine r_iconst (dGet dX12_checkIf (j := 21) rfl) kI_3 ?_
    refine r_iload_n (dGet dX12_checkIf (j := 22) rfl) rfl ?_
    refine r_imul (dGet dX12_checkIf (j := 23) rfl) ?_
    refine r_iconst (dGet dX12_checkIf (j := 24) rfl) kI_1 ?_
    refine r_iadd (dGet dX12_checkIf (j := 25) rfl) ?_
    obtain ⟨h9, eh9, hf⟩ := Option.bind_eq_some_iff.mp hf
    refine r_virtual (dGet dX12_checkIf (j := 26) rfl) L12_517 M299 rfl rfl (Nat.le_of_ble_eq_true rfl) (oX12_keepSets eh9) (cX12_keepSets X N (d + 4) v0 (((3 : Int32) * v2) + (1 : Int32)) h7 h9 eh9) ?_
    refine r_aload_n (dGet dX12_checkIf (j := 27) rfl) nv0 rfl ?_
    refine r_iload_n (dGet dX12_checkIf (j := 28) rfl) rfl ?_
    obtain ⟨h10, eh10, hf⟩ := Option.bind_eq_some_iff.mp hf
    refine r_putZ (dGet dX12_checkIf (j := 29) rfl) F12_476 rfl rfl eh10 ?_
    refine r_aload_n (dGet dX12_checkIf (j := 30) rfl) nv0 rfl ?_
    refine r_iconst (dGet dX12_checkIf (j := 31) rfl) kI_3 ?_
    refine r_iload_n (dGet dX12_checkIf (j := 32) rfl) rfl ?_
    refine r_imul (dGet dX12_checkIf (j := 33) rfl) ?_
    obtain ⟨h11, eh11, hf⟩ := Option.bind_eq_some_iff.mp hf
    refine r_virtual (dGet dX12_checkIf (j := 34) rfl) L12_520 M300 rfl rfl (Nat.le_of_ble_eq_true rfl) (oX12_backSets eh11) (cX12_backSets X N (d + 4) v0 ((3 : Int32) * v2) h10 h11 eh11) ?_
    refine r_aload_n (dGet dX12_checkIf (j := 35) rfl) nv0 rfl ?_
    obtain ⟨t12, et12, hf⟩ := Option.bind_eq_some_iff.mp hf
    refine r_getR (dGet dX12_checkIf (j := 36) rfl) F12_58 et12 ?_
    refine r_iload_n (dGet dX12_checkIf (j := 37) rfl) rfl ?_
    obtain ⟨t13, et13, hf⟩ := Option.bind_eq_some_iff.mp hf
    refine r_iald (dGet dX12_checkIf (j := 38) rfl) et13 ?_
    refine r_iconst (dGet dX12_checkIf (j := 39) rfl) kI_1 ?_
    by_cases c14 : t13 = (1 : Int32)
    · rw [if_pos c14] at hf
      refine r_icmp_ne_f (dGet dX12_checkIf (j := 40) rfl) rfl c14 ?_
      refine r_aload_n (dGet dX12_checkIf (j := 41) rfl) nv0 rfl ?_
      refine r_aload_n (dGet dX12_checkIf (j := 42) rfl) nv0 rfl ?_
      obtain ⟨t15, et15, hf⟩ := Option.bind_eq_some_iff.mp hf
      refine r_getR (dGet dX12_checkIf (j := 43) rfl) F12_73 et15 ?_
      refine r_iload_n (dGet dX12_checkIf (j := 44) rfl) rfl ?_
      obtain ⟨t16, et16, hf⟩ := Option.bind_eq_some_iff.mp hf
      refine r_iald (dGet dX12_checkIf (j := 45) rfl) et16 ?_
      refine r_iload_n (dGet dX12_checkIf (j := 46) rfl) rfl ?_
      refine r_iconst (dGet dX12_checkIf (j := 47) rfl) kI_1 ?_
      refine r_iadd (dGet dX12_checkIf (j := 48) rfl) ?_
      obtain ⟨_, ec17, hf⟩ := Option.bind_eq_some_iff.mp hf
      obtain ⟨h18, eh18, hf⟩ := Option.bind_eq_some_iff.mp hf
      refine r_virtual (dGet dX12_checkIf (j := 49) rfl) L12_483 M282 rfl rfl (Nat.le_of_ble_eq_true rfl) (guard_of ec17) (rcV_calls hrc eh18) ?_
      refine Run.weak [(0, .ref v0), (2, .int v2), (4, .int t8)] (by simp) (by simp [pNd]) ?_
      exact lX12_checkIf_75 X N d rc hrc v0 v2 t8 h18 q hf nv0
    · rw [if_neg c14] at hf
      refine r_icmp_ne_t (dGet dX12_checkIf (j := 40) rfl) rfl c14 ?_
      refine Run.weak [(0, .ref v0), (2, .int v2), (4, .int t8)] (by simp) (by simp [pNd]) ?_
      exact lX12_checkIf_75 X N d rc hrc v0 v2 t8 h11 q hf nv0
  · rw [if_neg hc] at hf; cases hf
def eX12_checkOne : List (Nat × Instr × Nat) := [(0, .aload_n 0, 1), (1, .getfield 46, 3), (4, .iload_n 1, 1), (5, .iaload, 1), (6, .istore_n 3, 1), (7, .aload_n 0, 1), (8, .getfield 55, 3), (11, .iload_n 1, 1), (12, .iaload, 1), (13, .istore 4, 2), (15, .iload 4, 2), (17, .ifCond .lt 19, 3), (20, .aload_n 0, 1), (21, .iload_n 1, 1), (22, .aload_n 0, 1), (23, .getfield 52, 3), (26, .iload_n 1, 1), (27, .iaload, 1), (28, .iload 4, 2), (30, .invokevirtual 489, 3), (33, .ifCond .eq 7, 3), (36, .iconst 1, 1), (37, .goto 4, 3), (40, .iconst 0, 1), (41, .istore 5, 2), (43, .aload_n 0, 1), (44, .iload_n 1, 1), (45, .invokevirtual 493, 3), (48, .istore 6, 2), (50, .iload_n 3, 1), (51, .tableswitch 315 0 8 #[49, 294, 294, 202, 180, 315, 156, 315, 269], 49), (100, .aload_n 0, 1), (101, .aload_n 0, 1), (102, .getfield 61, 3), (105, .iload_n 1, 1), (106, .iaload, 1), (107, .invokevirtual 426, 3), (110, .istore 7, 2), (112, .iload 5, 2), (114, .ifCond .eq 42, 3), (117, .iload 7, 2), (119, .iconst 5, 1), (120, .if_icmp .eq 36, 3), (123, .aload_n 0, 1), (124, .aload_n 0, 1), (125, .getfield 64, 3), (128, .iload_n 1, 1), (129, .iaload, 1), (130, .invokevirtual 496, 3), (133, .ifCond .ge 23, 3), (136, .iload 4, 2), (138, .ifCond .lt 14, 3), (141, .aload_n 0, 1), (142, .iload 6, 2), (144, .iload 7, 2), (146, .invokevirtual 499, 3), (149, .ifCond .eq 7, 3), (152, .iconst 1, 1), (153, .goto 4, 3), (156, .iconst 0, 1), (157, .istore 5, 2), (159, .iload 5, 2), (161, .ifCond .eq 205, 3), (164, .aload_n 0, 1), (165, .getfield 67, 3), (168, .iload_n 1, 1), (169, .aload_n 0, 1), (170, .getfield 467, 3), (173, .iastore, 1), (174, .aload_n 0, 1), (175, .getfield 61, 3), (178, .iload_n 1, 1), (179, .iload 7, 2), (181, .iastore, 1), (182, .aload_n 0, 1), (183, .aload_n 0, 1), (184, .getfield 64, 3), (187, .iload_n 1, 1), (188, .iaload, 1), (189, .iload 7, 2), (191, .iload 4, 2), (193, .ifCond .lt 7, 3), (196, .iconst 1, 1), (197, .goto 4, 3), (200, .iconst 0, 1), (201, .invokevirtual 479, 3), (204, .goto 162, 3), (207, .iload 5, 2), (209, .ifCond .eq 16, 3), (212, .aload_n 0, 1), (213, .iload 6, 2), (215, .invokevirtual 502, 3), (218, .ifCond .eq 7, 3), (221, .iconst 1, 1), (222, .goto 4, 3), (225, .iconst 0, 1), (226, .istore 5, 2), (228, .goto 138, 3), (231, .iload 5, 2), (233, .ifCond .eq 14, 3), (236, .iload 6, 2), (238, .bipush 10, 2), (240, .if_icmp .lt 7, 3), (243, .iconst 1, 1), (244, .goto 4, 3), (247, .iconst 0, 1), (248, .istore 5, 2), (250, .goto 116, 3), (253, .iload 5, 2), (255, .ifCond .eq 59, 3), (258, .iload 4, 2), (260, .ifCond .ge 19, 3), (263, .aload_n 0, 1), (264, .getfield 103, 3), (267, .aload_n 0, 1), (268, .getfield 473, 3), (271, .iaload, 1), (272, .iconst 3, 1), (273, .if_icmp .ne 41, 3), (276, .goto 34, 3), (279, .aload_n 0, 1), (280, .getfield 103, 3), (283, .aload_n 0, 1), (284, .getfield 473, 3), (287, .iaload, 1), (288, .iconst 3, 1), (289, .if_icmp .eq 25, 3), (292, .aload_n 0, 1), (293, .iload 6, 2), (295, .aload_n 0, 1), (296, .getfield 103, 3), (299, .aload_n 0, 1), (300, .getfield 473, 3), (303, .iaload, 1), (304, .invokevirtual 499, 3), (307, .ifCond .eq 7, 3), (310, .iconst 1, 1), (311, .goto 4, 3), (314, .iconst 0, 1), (315, .istore 5, 2), (317, .goto 49, 3), (320, .iload 5, 2), (322, .ifCond .eq 17, 3), (325, .aload_n 0, 1), (326, .iload_n 1, 1), (327, .iload 6, 2), (329, .invokevirtual 505, 3), (332, .ifCond .eq 7, 3), (335, .iconst 1, 1), (336, .goto 4, 3), (339, .iconst 0, 1), (340, .istore 5, 2), (342, .goto 24, 3), (345, .iload 5, 2), (347, .ifCond .eq 13, 3), (350, .iload 6, 2), (352, .iconst 1, 1), (353, .if_icmp .ne 7, 3), (356, .iconst 1, 1), (357, .goto 4, 3), (360, .iconst 0, 1), (361, .istore 5, 2), (363, .goto 3, 3), (366, .iload 5, 2), (368, .ifCond .ne 14, 3), (371, .aload_n 0, 1), (372, .aload_n 0, 1), (373, .getfield 49, 3), (376, .iload_n 1, 1), (377, .iaload, 1), (378, .invokevirtual 419, 3), (381, .return_, 1), (382, .iload_n 3, 1), (383, .iconst 3, 1), (384, .if_icmp .eq 8, 3), (387, .iload_n 3, 1), (388, .iconst 4, 1), (389, .if_icmp .ne 11, 3), (392, .aload_n 0, 1), (393, .iconst 1, 1), (394, .putfield 476, 3), (397, .goto 42, 3), (400, .iload_n 3, 1), (401, .iconst 1, 1), (402, .if_icmp .ne 12, 3), (405, .aload_n 0, 1), (406, .iload_n 1, 1), (407, .iload_n 2, 1), (408, .invokevirtual 508, 3), (411, .goto 28, 3), (414, .iload_n 3, 1), (415, .iconst 2, 1), (416, .if_icmp .ne 12, 3), (419, .aload_n 0, 1), (420, .iload_n 1, 1), (421, .iload_n 2, 1), (422, .invokevirtual 511, 3), (425, .goto 14, 3), (428, .iload_n 3, 1), (429, .iconst 5, 1), (430, .if_icmp .ne 9, 3), (433, .aload_n 0, 1), (434, .iload_n 1, 1), (435, .iload_n 2, 1), (436, .invokevirtual 514, 3), (439, .return_, 1)]
theorem dX12_checkOne : dChk (pCd 9077) eX12_checkOne = true := by decide +kernel
def fX12_checkOne_392 (N : Nat) (rc : Nat → List Value → pH → Option (Option Value × pH)) (v0 : Nat) (h : pH) : Option (pH) :=
  (putZ h v0 12 66 (1 : Int32)).bind fun h1 =>
  some h1
theorem lX12_checkOne_392 (X : pX) (N d : Nat) (rc : Nat → List Value → pH → Option (Option Value × pH)) (hrc : ∀ mn as h q, rc mn as h = some q → Calls X (d + 4) mn as h (q.1, q.2, 0, 0))  (v0 : Nat) (h : pH) (q : pH) (hf : fX12_checkOne_392 N rc v0 h = some q) (nv0 : ¬ v0 = 4) : Run X (d + 5) 12 false (pCd 9077) 8 none 392 [(0, .ref v0)] [] h 0 0 (none, q, 0, 0) := by
  unfold fX12_checkOne_392 at hf
  refine r_aload_n (dGet dX12_checkOne (j := 178) rfl) nv0 rfl ?_
  refine r_iconst (dGet dX12_checkOne (j := 179) rfl) kI_1 ?_
  obtain ⟨h1, eh1, hf⟩ := Option.bind_eq_some_iff.mp hf
  refine r_putZ (dGet dX12_checkOne (j := 180) rfl) F12_476 rfl rfl eh1 ?_
  refine r_goto (dGet dX12_checkOne (j := 181) rfl) rfl ?_
  have hq := Option.some.inj hf
  subst hq
  exact r_vret (dGet dX12_checkOne (j := 205) rfl) rfl
def fX12_checkOne_366 (N : Nat) (rc : Nat → List Value → pH → Option (Option Value × pH)) (v0 : Nat) (v1 : Int32) (v2 : Int32) (v3 : Int32) (v5 : Int32) (h : pH) : Option (pH) :=
  if v5 = 0 then (
  (getR h v0 12 27).bind fun t14 =>
  (ldI h t14 v1).bind fun t15 =>
  (fX12_isBad N v0 t15 h).bind fun h16 =>
  some h16) else (
  if v3 = (3 : Int32) then (
  fX12_checkOne_392 N rc v0 h) else (
  if v3 = (4 : Int32) then (
  fX12_checkOne_392 N rc v0 h) else (
  if v3 = (1 : Int32) then (
  (if isO h v0 12 = true then some () else none).bind fun _ =>
  (rcV rc 298 [.ref v0, .int v1, .int v2] h).bind fun h13 =>
  some h13) else (
  if v3 = (2 : Int32) then (
  (if isO h v0 12 = true then some () else none).bind fun _ =>
  (rcV rc 302 [.ref v0, .int v1, .int v2] h).bind fun h11 =>
  some h11) else (
  if v3 = (5 : Int32) then (
  (if isO h v0 12 = true then some () else none).bind fun _ =>
  (rcV rc 303 [.ref v0, .int v1, .int v2] h).bind fun h9 =>
  some h9) else (
  some h))))))
theorem lX12_checkOne_366 (X : pX) (N d : Nat) (rc : Nat → List Value → pH → Option (Option Value × pH)) (hrc : ∀ mn as h q, rc mn as h = some q → Calls X (d + 4) mn as h (q.1, q.2, 0, 0))  (v0 : Nat) (v1 : Int32) (v2 : Int32) (v3 : Int32) (v5 : Int32) (h : pH) (q : pH) (hf : fX12_checkOne_366 N rc v0 v1 v2 v3 v5 h = some q) (nv0 : ¬ v0 = 4) : Run X (d + 5) 12 false (pCd 9077) 8 none 366 [(0, .ref v0), (1, .int v1), (2, .int v2), (3, .int v3), (5, .int v5)] [] h 0 0 (none, q, 0, 0) := by
  unfold fX12_checkOne_366 at hf
  refine r_iload (dGet dX12_checkOne (j := 163) rfl) rfl ?_
  by_cases c2 : v5 = 0
  · rw [if_pos c2] at hf
    refine r_if_ne_f (dGet dX12_checkOne (j := 164) rfl) rfl c2 ?_
    refine r_aload_n (dGet dX12_checkOne (j := 165) rfl) nv0 rfl ?_
    refine r_aload_n (dGet dX12_checkOne (j := 166) rfl) nv0 rfl ?_
    obtain ⟨t14, et14, hf⟩ := Option.bind_eq_some_iff.mp hf
    refine r_getR (dGet dX12_checkOne (j := 167) rfl) F12_49 et14 ?_
    refine r_iload_n (dGet dX12_checkOne (j := 168) rfl) rfl ?_
    obtain ⟨t15, et15, hf⟩ := Option.bind_eq_some_iff.mp hf
    refine r_iald (dGet dX12_checkOne (j := 169) rfl) et15 ?_
    obtain ⟨h16, eh16, hf⟩ := Option.bind_eq_some_iff.mp hf
    refine r_virtual (dGet dX12_checkOne (j := 170) rfl) L12_419 M273 rfl rfl (Nat.le_of_ble_eq_true rfl) (oX12_isBad eh16) (cX12_isBad X N (d + 4) v0 t15 h h16 eh16) ?_
    have hq := Option.some.inj hf
    subst hq
    exact r_vret (dGet dX12_checkOne (j := 171) rfl) rfl
  · rw [if_neg c2] at hf
    refine r_if_ne_t (dGet dX12_checkOne (j := 164) rfl) rfl c2 ?_
    refine r_iload_n (dGet dX12_checkOne (j := 172) rfl) rfl ?_
    refine r_iconst (dGet dX12_checkOne (j := 173) rfl) kI_3 ?_
    by_cases c3 : v3 = (3 : Int32)
    · rw [if_pos c3] at hf
      refine r_icmp_eq_t (dGet dX12_checkOne (j := 174) rfl) rfl c3 ?_
      refine Run.weak [(0, .ref v0)] (by simp) (by simp [pNd]) ?_
      exact lX12_checkOne_392 X N d rc hrc v0 h q hf nv0
    · rw [if_neg c3] at hf
      refine r_icmp_eq_f (dGet dX12_checkOne (j := 174) rfl) rfl c3 ?_
      refine r_iload_n (dGet dX12_checkOne (j := 175) rfl) rfl ?_
      refine r_iconst (dGet dX12_checkOne (j := 176) rfl) kI_4 ?_
      by_cases c4 : v3 = (4 : Int32)
      · rw [if_pos c4] at hf
        refine r_icmp_ne_f (dGet dX12_checkOne (j := 177) rfl) rfl c4 ?_
        refine Run.weak [(0, .ref v0)] (by simp) (by simp [pNd]) ?_
        exact lX12_checkOne_392 X N d rc hrc v0 h q hf nv0
      · rw [if_neg c4] at hf
        refine r_icmp_ne_t (dGet dX12_checkOne (j := 177) rfl) rfl c4 ?_
        refine r_iload_n (dGet dX12_checkOne (j := 182) rfl) rfl ?_
        refine r_iconst (dGet dX12_checkOne (j := 183) rfl) kI_1 ?_
        by_cases c5 : v3 = (1 : Int32)
        · rw [if_pos c5] at hf
          refine r_icmp_ne_f (dGet dX12_checkOne (j := 184) rfl) rfl c5 ?_
          refine r_aload_n (dGet dX12_checkOne (j := 185) rfl) nv0 rfl ?_
          refine r_iload_n (dGet dX12_checkOne (j := 186) rfl) rfl ?_
          refine r_iload_n (dGet dX12_checkOne (j := 187) rfl) rfl ?_
          obtain ⟨_, ec12, hf⟩ := Option.bind_eq_some_iff.mp hf
          obtain ⟨h13, eh13, hf⟩ := Option.bind_eq_some_iff.mp hf
          refine r_virtual (dGet dX12_checkOne (j := 188) rfl) L12_508 M298 rfl rfl (Nat.le_of_ble_eq_true rfl) (guard_of ec12) (rcV_calls hrc eh13) ?_
          refine r_goto (dGet dX12_checkOne (j := 189) rfl) rfl ?_
          have hq := Option.some.inj hf
          subst hq
          exact r_vret (dGet dX12_checkOne (j := 205) rfl) rfl
        · rw [if_neg c5] at hf
          refine r_icmp_ne_t (dGet dX12_checkOne (j := 184) rfl) rfl c5 ?_
          refine r_iload_n (dGet dX12_checkOne (j := 190) rfl) rfl ?_
          refine r_iconst (dGet dX12_checkOne (j := 191) rfl) kI_2 ?_
          by_cases c6 : v3 = (2 : Int32)
          · rw [if_pos c6] at hf
            refine r_icmp_ne_f (dGet dX12_checkOne (j := 192) rfl) rfl c6 ?_
            refine r_aload_n (dGet dX12_checkOne (j := 193) rfl) nv0 rfl ?_
            refine r_iload_n (dGet dX12_checkOne (j := 194) rfl) rfl ?_
            refine r_iload_n (dGet dX12_checkOne (j := 195) rfl) rfl ?_
            obtain ⟨_, ec10, hf⟩ := Option.bind_eq_some_iff.mp hf
            obtain ⟨h11, eh11, hf⟩ := Option.bind_eq_some_iff.mp hf
            refine r_virtual (dGet dX12_checkOne (j := 196) rfl) L12_511 M302 rfl rfl (Nat.le_of_ble_eq_true rfl) (guard_of ec10) (rcV_calls hrc eh11) ?_
            refine r_goto (dGet dX12_checkOne (j := 197) rfl) rfl ?_
            have hq := Option.some.inj hf
            subst hq
            exact r_vret (dGet dX12_checkOne (j := 205) rfl) rfl
          · rw [if_neg c6] at hf
            refine r_icmp_ne_t (dGet dX12_checkOne (j := 192) rfl) rfl c6 ?_
            refine r_iload_n (dGet dX12_checkOne (j := 198) rfl) rfl ?_
            refine r_iconst (dGet dX12_checkOne (j := 199) rfl) kI_5 ?_
            by_cases c7 : v3 = (5 : Int32)
            · rw [if_pos c7] at hf
              refine r_icmp_ne_f (dGet dX12_checkOne (j := 200) rfl) rfl c7 ?_
              refine r_aload_n (dGet dX12_checkOne (j := 201) rfl) nv0 rfl ?_
              refine r_iload_n (dGet dX12_checkOne (j := 202) rfl) rfl ?_
              refine r_iload_n (dGet dX12_checkOne (j := 203) rfl) rfl ?_
              obtain ⟨_, ec8, hf⟩ := Option.bind_eq_some_iff.mp hf
              obtain ⟨h9, eh9, hf⟩ := Option.bind_eq_some_iff.mp hf
              refine r_virtual (dGet dX12_checkOne (j := 204) rfl) L12_514 M303 rfl rfl (Nat.le_of_ble_eq_true rfl) (guard_of ec8) (rcV_calls hrc eh9) ?_
              have hq := Option.some.inj hf
              subst hq
              exact r_vret (dGet dX12_checkOne (j := 205) rfl) rfl
            · rw [if_neg c7] at hf
              refine r_icmp_ne_t (dGet dX12_checkOne (j := 200) rfl) rfl c7 ?_
              have hq := Option.some.inj hf
              subst hq
              exact r_vret (dGet dX12_checkOne (j := 205) rfl) rfl
def fX12_checkOne_361 (N : Nat) (rc : Nat → List Value → pH → Option (Option Value × pH)) (v0 : Nat) (v1 : Int32) (v2 : Int32) (v3 : Int32) (s0 : Int32) (h : pH) : Option (pH) :=
  fX12_checkOne_366 N rc v0 v1 v2 v3 s0 h
theorem lX12_checkOne_361 (X : pX) (N d : Nat) (rc : Nat → List Value → pH → Option (Option Value × pH)) (hrc : ∀ mn as h q, rc mn as h = some q → Calls X (d + 4) mn as h (q.1, q.2, 0, 0))  (v0 : Nat) (v1 : Int32) (v2 : Int32) (v3 : Int32) (s0 : Int32) (h : pH) (q : pH) (hf : fX12_checkOne_361 N rc v0 v1 v2 v3 s0 h = some q) (nv0 : ¬ v0 = 4) : Run X (d + 5) 12 false (pCd 9077) 8 none 361 [(0, .ref v0), (1, .int v1), (2, .int v2), (3, .int v3)] [.int s0] h 0 0 (none, q, 0, 0) := by
  unfold fX12_checkOne_361 at hf
  refine r_istore (lv' := [(5, .int s0), (0, .ref v0), (1, .int v1), (2, .int v2), (3, .int v3)]) (dGet dX12_checkOne (j := 161) rfl) (by decide) rfl ?_
  refine r_goto (dGet dX12_checkOne (j := 162) rfl) rfl ?_
  refine Run.weak [(0, .ref v0), (1, .int v1), (2, .int v2), (3, .int v3), (5, .int s0)] (by simp) (by simp [pNd]) ?_
  exact lX12_checkOne_366 X N d rc hrc v0 v1 v2 v3 s0 h q hf nv0
def fX12_checkOne_360 (N : Nat) (rc : Nat → List Value → pH → Option (Option Value × pH)) (v0 : Nat) (v1 : Int32) (v2 : Int32) (v3 : Int32) (h : pH) : Option (pH) :=
  fX12_checkOne_361 N rc v0 v1 v2 v3 (0 : Int32) h
theorem lX12_checkOne_360 (X : pX) (N d : Nat) (rc : Nat → List Value → pH → Option (Option Value × pH)) (hrc : ∀ mn as h q, rc mn as h = some q → Calls X (d + 4) mn as h (q.1, q.2, 0, 0))  (v0 : Nat) (v1 : Int32) (v2 : Int32) (v3 : Int32) (h : pH) (q : pH) (hf : fX12_checkOne_360 N rc v0 v1 v2 v3 h = some q) (nv0 : ¬ v0 = 4) : Run X (d + 5) 12 false (pCd 9077) 8 none 360 [(0, .ref v0), (1, .int v1), (2, .int v2), (3, .int v3)] [] h 0 0 (none, q, 0, 0) := by
  unfold fX12_checkOne_360 at hf
  refine r_iconst (dGet dX12_checkOne (j := 160) rfl) kI_0 ?_
  exact lX12_checkOne_361 X N d rc hrc v0 v1 v2 v3 (0 : Int32) h q hf nv0
def fX12_checkOne_345 (N : Nat) (rc : Nat → List Value → pH → Option (Option Value × pH)) (v0 : Nat) (v1 : Int32) (v2 : Int32) (v3 : Int32) (v5 : Int32) (v6 : Int32) (h : pH) : Option (pH) :=
  if v5 = 0 then (
  fX12_checkOne_360 N rc v0 v1 v2 v3 h) else (
  if v6 = (1 : Int32) then (
  fX12_checkOne_361 N rc v0 v1 v2 v3 (1 : Int32) h) else (
  fX12_checkOne_360 N rc v0 v1 v2 v3 h))
theorem lX12_checkOne_345 (X : pX) (N d : Nat) (rc : Nat → List Value → pH → Option (Option Value × pH)) (hrc : ∀ mn as h q, rc mn as h = some q → Calls X (d + 4) mn as h (q.1, q.2, 0, 0))  (v0 : Nat) (v1 : Int32) (v2 : Int32) (v3 : Int32) (v5 : Int32) (v6 : Int32) (h : pH) (q : pH) (hf : fX12_checkOne_345 N rc v0 v1 v2 v3 v5 v6 h = some q) (nv0 : ¬ v0 = 4) : Run X (d + 5) 12 false (pCd 9077) 8 none 345 [(0, .ref v0), (1, .int v1), (2, .int v2), (3, .int v3), (5, .int v5), (6, .int v6)] [] h 0 0 (none, q, 0, 0) := by
  unfold fX12_checkOne_345 at hf
  refine r_iload (dGet dX12_checkOne (j := 153) rfl) rfl ?_
  by_cases c17 : v5 = 0
  · rw [if_pos c17] at hf
    refine r_if_eq_t (dGet dX12_checkOne (j := 154) rfl) rfl c17 ?_
    refine Run.weak [(0, .ref v0), (1, .int v1), (2, .int v2), (3, .int v3)] (by simp) (by simp [pNd]) ?_
    exact lX12_checkOne_360 X N d rc hrc v0 v1 v2 v3 h q hf nv0
  · rw [if_neg c17] at hf
    refine r_if_eq_f (dGet dX12_checkOne (j := 154) rfl) rfl c17 ?_
    refine r_iload (dGet dX12_checkOne (j := 155) rfl) rfl ?_
    refine r_iconst (dGet dX12_checkOne (j := 156) rfl) kI_1 ?_
    by_cases c18 : v6 = (1 : Int32)
    · rw [if_pos c18] at hf
      refine r_icmp_ne_f (dGet dX12_checkOne (j := 157) rfl) rfl c18 ?_
      refine r_iconst (dGet dX12_checkOne (j := 158) rfl) kI_1 ?_
      refine r_goto (dGet dX12_checkOne (j := 159) rfl) rfl ?_
      refine Run.weak [(0, .ref v0), (1, .int v1), (2, .int v2), (3, .int v3)] (by simp) (by simp [pNd]) ?_
      exact lX12_checkOne_361 X N d rc hrc v0 v1 v2 v3 (1 : Int32) h q hf nv0
    · rw [if_neg c18] at hf
      refine r_icmp_ne_t (dGet dX12_checkOne (j := 157) rfl) rfl c18 ?_
      refine Run.weak [(0, .ref v0), (1, .int v1), (2, .int v2), (3, .int v3)] (by simp) (by simp [pNd]) ?_
      exact lX12_checkOne_360 X N d rc hrc v0 v1 v2 v3 h q hf nv0
def fX12_checkOne_340 (N : Nat) (rc : Nat → List Value → pH → Option (Option Value × pH)) (v0 : Nat) (v1 : Int32) (v2 : Int32) (v3 : Int32) (s0 : Int32) (h : pH) : Option (pH) :=
  fX12_checkOne_366 N rc v0 v1 v2 v3 s0 h
theorem lX12_checkOne_340 (X : pX) (N d : Nat) (rc : Nat → List Value → pH → Option (Option Value × pH)) (hrc : ∀ mn as h q, rc mn as h = some q → Calls X (d + 4) mn as h (q.1, q.2, 0, 0))  (v0 : Nat) (v1 : Int32) (v2 : Int32) (v3 : Int32) (s0 : Int32) (h : pH) (q : pH) (hf : fX12_checkOne_340 N rc v0 v1 v2 v3 s0 h = some q) (nv0 : ¬ v0 = 4) : Run X (d + 5) 12 false (pCd 9077) 8 none 340 [(0, .ref v0), (1, .int v1), (2, .int v2), (3, .int v3)] [.int s0] h 0 0 (none, q, 0, 0) := by
  unfold fX12_checkOne_340 at hf
  refine r_istore (lv' := [(5, .int s0), (0, .ref v0), (1, .int v1), (2, .int v2), (3, .int v3)]) (dGet dX12_checkOne (j := 151) rfl) (by decide) rfl ?_
  refine r_goto (dGet dX12_checkOne (j := 152) rfl) rfl ?_
  refine Run.weak [(0, .ref v0), (1, .int v1), (2, .int v2), (3, .int v3), (5, .int s0)] (by simp) (by simp [pNd]) ?_
  exact lX12_checkOne_366 X N d rc hrc v0 v1 v2 v3 s0 h q hf nv0
def fX12_checkOne_339 (N : Nat) (rc : Nat → List Value → pH → Option (Option Value × pH)) (v0 : Nat) (v1 : Int32) (v2 : Int32) (v3 : Int32) (h : pH) : Option (pH) :=
  fX12_checkOne_340 N rc v0 v1 v2 v3 (0 : Int32) h
theorem lX12_checkOne_339 (X : pX) (N d : Nat) (rc : Nat → List Value → pH → Option (Option Value × pH)) (hrc : ∀ mn as h q, rc mn as h = some q → Calls X (d + 4) mn as h (q.1, q.2, 0, 0))  (v0 : Nat) (v1 : Int32) (v2 : Int32) (v3 : Int32) (h : pH) (q : pH) (hf : fX12_checkOne_339 N rc v0 v1 v2 v3 h = some q) (nv0 : ¬ v0 = 4) : Run X (d + 5) 12 false (pCd 9077) 8 none 339 [(0, .ref v0), (1, .int v1), (2, .int v2), (3, .int v3)] [] h 0 0 (none, q, 0, 0) := by
  unfold fX12_checkOne_339 at hf
  refine r_iconst (dGet dX12_checkOne (j := 150) rfl) kI_0 ?_
  exact lX12_checkOne_340 X N d rc hrc v0 v1 v2 v3 (0 : Int32) h q hf nv0
def fX12_checkOne_315 (N : Nat) (rc : Nat → List Value → pH → Option (Option Value × pH)) (v0 : Nat) (v1 : Int32) (v2 : Int32) (v3 : Int32) (s0 : Int32) (h : pH) : Option (pH) :=
  fX12_checkOne_366 N rc v0 v1 v2 v3 s0 h
theorem lX12_checkOne_315 (X : pX) (N d : Nat) (rc : Nat → List Value → pH → Option (Option Value × pH)) (hrc : ∀ mn as h q, rc mn as h = some q → Calls X (d + 4) mn as h (q.1, q.2, 0, 0))  (v0 : Nat) (v1 : Int32) (v2 : Int32) (v3 : Int32) (s0 : Int32) (h : pH) (q : pH) (hf : fX12_checkOne_315 N rc v0 v1 v2 v3 s0 h = some q) (nv0 : ¬ v0 = 4) : Run X (d + 5) 12 false (pCd 9077) 8 none 315 [(0, .ref v0), (1, .int v1), (2, .int v2), (3, .int v3)] [.int s0] h 0 0 (none, q, 0, 0) := by
  unfold fX12_checkOne_315 at hf
  refine r_istore (lv' := [(5, .int s0), (0, .ref v0), (1, .int v1), (2, .int v2), (3, .int v3)]) (dGet dX12_checkOne (j := 139) rfl) (by decide) rfl ?_
  refine r_goto (dGet dX12_checkOne (j := 140) rfl) rfl ?_
  refine Run.weak [(0, .ref v0), (1, .int v1), (2, .int v2), (3, .int v3), (5, .int s0)] (by simp) (by simp [pNd]) ?_
  exact lX12_checkOne_366 X N d rc hrc v0 v1 v2 v3 s0 h q hf nv0
def fX12_checkOne_314 (N : Nat) (rc : Nat → List Value → pH → Option (Option Value × pH)) (v0 : Nat) (v1 : Int32) (v2 : Int32) (v3 : Int32) (h : pH) : Option (pH) :=
  fX12_checkOne_315 N rc v0 v1 v2 v3 (0 : Int32) h
theorem lX12_checkOne_314 (X : pX) (N d : Nat) (rc : Nat → List Value → pH → Option (Option Value × pH)) (hrc : ∀ mn as h q, rc mn as h = some q → Calls X (d + 4) mn as h (q.1, q.2, 0, 0))  (v0 : Nat) (v1 : Int32) (v2 : Int32) (v3 : Int32) (h : pH) (q : pH) (hf : fX12_checkOne_314 N rc v0 v1 v2 v3 h = some q) (nv0 : ¬ v0 = 4) : Run X (d + 5) 12 false (pCd 9077) 8 none 314 [(0, .ref v0), (1, .int v1), (2, .int v2), (3, .int v3)] [] h 0 0 (none, q, 0, 0) := by
  unfold fX12_checkOne_314 at hf
  refine r_iconst (dGet dX12_checkOne (j := 138) rfl) kI_0 ?_
  exact lX12_checkOne_315 X N d rc hrc v0 v1 v2 v3 (0 : Int32) h q hf nv0
def fX12_checkOne_310 (N : Nat) (rc : Nat → List Value → pH → Option (Option Value × pH)) (v0 : Nat) (v1 : Int32) (v2 : Int32) (v3 : Int32) (h : pH) : Option (pH) :=
  fX12_checkOne_315 N rc v0 v1 v2 v3 (1 : Int32) h
theorem lX12_checkOne_310 (X : pX) (N d : Nat) (rc : Nat → List Value → pH → Option (Option Value × pH)) (hrc : ∀ mn as h q, rc mn as h = some q → Calls X (d + 4) mn as h (q.1, q.2, 0, 0))  (v0 : Nat) (v1 : Int32) (v2 : Int32) (v3 : Int32) (h : pH) (q : pH) (hf : fX12_checkOne_310 N rc v0 v1 v2 v3 h = some q) (nv0 : ¬ v0 = 4) : Run X (d + 5) 12 false (pCd 9077) 8 none 310 [(0, .ref v0), (1, .int v1), (2, .int v2), (3, .int v3)] [] h 0 0 (none, q, 0, 0) := by
  unfold fX12_checkOne_310 at hf
  refine r_iconst (dGet dX12_checkOne (j := 136) rfl) kI_1 ?_
  refine r_goto (dGet dX12_checkOne (j := 137) rfl) rfl ?_
  exact lX12_checkOne_315 X N d rc hrc v0 v1 v2 v3 (1 : Int32) h q hf nv0
def fX12_checkOne_248 (N : Nat) (rc : Nat → List Value → pH → Option (Option Value × pH)) (v0 : Nat) (v1 : Int32) (v2 : Int32) (v3 : Int32) (s0 : Int32) (h : pH) : Option (pH) :=
  fX12_checkOne_366 N rc v0 v1 v2 v3 s0 h
theorem lX12_checkOne_248 (X : pX) (N d : Nat) (rc : Nat → List Value → pH → Option (Option Value × pH)) (hrc : ∀ mn as h q, rc mn as h = some q → Calls X (d + 4) mn as h (q.1, q.2, 0, 0))  (v0 : Nat) (v1 : Int32) (v2 : Int32) (v3 : Int32) (s0 : Int32) (h : pH) (q : pH) (hf : fX12_checkOne_248 N rc v0 v1 v2 v3 s0 h = some q) (nv0 : ¬ v0 = 4) : Run X (d + 5) 12 false (pCd 9077) 8 none 248 [(0, .ref v0), (1, .int v1), (2, .int v2), (3, .int v3)] [.int s0] h 0 0 (none, q, 0, 0) := by
  unfold fX12_checkOne_248 at hf
  refine r_istore (lv' := [(5, .int s0), (0, .ref v0), (1, .int v1), (2, .int v2), (3, .int v3)]) (dGet dX12_checkOne (j := 106) rfl) (by decide) rfl ?_
  refine r_goto (dGet dX12_checkOne (j := 107) rfl) rfl ?_
  refine Run.weak [(0, .ref v0), (1, .int v1), (2, .int v2), (3, .int v3), (5, .int s0)] (by simp) (by simp [pNd]) ?_
  exact lX12_checkOne_366 X N d rc hrc v0 v1 v2 v3 s0 h q hf nv0
def fX12_checkOne_247 (N : Nat) (rc : Nat → List Value → pH → Option (Option Value × pH)) (v0 : Nat) (v1 : Int32) (v2 : Int32) (v3 : Int32) (h : pH) : Option (pH) :=
  fX12_checkOne_248 N rc v0 v1 v2 v3 (0 : Int32) h
theorem lX12_checkOne_247 (X : pX) (N d : Nat) (rc : Nat → List Value → pH → Option (Option Value × pH)) (hrc : ∀ mn as h q, rc mn as h = some q → Calls X (d + 4) mn as h (q.1, q.2, 0, 0))  (v0 : Nat) (v1 : Int32) (v2 : Int32) (v3 : Int32) (h : pH) (q : pH) (hf : fX12_checkOne_247 N rc v0 v1 v2 v3 h = some q) (nv0 : ¬ v0 = 4) : Run X (d + 5) 12 false (pCd 9077) 8 none 247 [(0, .ref v0), (1, .int v1), (2, .int v2), (3, .int v3)] [] h 0 0 (none, q, 0, 0) := by
  unfold fX12_checkOne_247 at hf
  refine r_iconst (dGet dX12_checkOne (j := 105) rfl) kI_0 ?_
  exact lX12_checkOne_248 X N d rc hrc v0 v1 v2 v3 (0 : Int32) h q hf nv0
def fX12_checkOne_226 (N : Nat) (rc : Nat → List Value → pH → Option (Option Value × pH)) (v0 : Nat) (v1 : Int32) (v2 : Int32) (v3 : Int32) (s0 : Int32) (h : pH) : Option (pH) :=
  fX12_checkOne_366 N rc v0 v1 v2 v3 s0 h
theorem lX12_checkOne_226 (X : pX) (N d : Nat) (rc : Nat → List Value → pH → Option (Option Value × pH)) (hrc : ∀ mn as h q, rc mn as h = some q → Calls X (d + 4) mn as h (q.1, q.2, 0, 0))  (v0 : Nat) (v1 : Int32) (v2 : Int32) (v3 : Int32) (s0 : Int32) (h : pH) (q : pH) (hf : fX12_checkOne_226 N rc v0 v1 v2 v3 s0 h = some q) (nv0 : ¬ v0 = 4) : Run X (d + 5) 12 false (pCd 9077) 8 none 226 [(0, .ref v0), (1, .int v1), (2, .int v2), (3, .int v3)] [.int s0] h 0 0 (none, q, 0, 0) := by
  unfold fX12_checkOne_226 at hf
  refine r_istore (lv' := [(5, .int s0), (0, .ref v0), (1, .int v1), (2, .int v2), (3, .int v3)]) (dGet dX12_checkOne (j := 96) rfl) (by decide) rfl ?_
  refine r_goto (dGet dX12_checkOne (j := 97) rfl) rfl ?_
  refine Run.weak [(0, .ref v0), (1, .int v1), (2, .int v2), (3, .int v3), (5, .int s0)] (by simp) (by simp [pNd]) ?_
  exact lX12_checkOne_366 X N d rc hrc v0 v1 v2 v3 s0 h q hf nv0
def fX12_checkOne_225 (N : Nat) (rc : Nat → List Value → pH → Option (Option Value × pH)) (v0 : Nat) (v1 : Int32) (v2 : Int32) (v3 : Int32) (h : pH) : Option (pH) :=
  fX12_checkOne_226 N rc v0 v1 v2 v3 (0 : Int32) h
theorem lX12_checkOne_225 (X : pX) (N d : Nat) (rc : Nat → List Value → pH → Option (Option Value × pH)) (hrc : ∀ mn as h q, rc mn as h = some q → Calls X (d + 4) mn as h (q.1, q.2, 0, 0))  (v0 : Nat) (v1 : Int32) (v2 : Int32) (v3 : Int32) (h : pH) (q : pH) (hf : fX12_checkOne_225 N rc v0 v1 v2 v3 h = some q) (nv0 : ¬ v0 = 4) : Run X (d + 5) 12 false (pCd 9077) 8 none 225 [(0, .ref v0), (1, .int v1), (2, .int v2), (3, .int v3)] [] h 0 0 (none, q, 0, 0) := by
  unfold fX12_checkOne_225 at hf
  refine r_iconst (dGet dX12_checkOne (j := 95) rfl) kI_0 ?_
  exact lX12_checkOne_226 X N d rc hrc v0 v1 v2 v3 (0 : Int32) h q hf nv0
def fX12_checkOne_201 (N : Nat) (rc : Nat → List Value → pH → Option (Option Value × pH)) (v0 : Nat) (v1 : Int32) (v2 : Int32) (v3 : Int32) (v5 : Int32) (s0 : Nat) (s1 : Int32) (s2 : Int32) (s3 : Int32) (h : pH) : Option (pH) :=
  (fX12_addVariable N s0 s1 s2 s3 h).bind fun h19 =>
  fX12_checkOne_366 N rc v0 v1 v2 v3 v5 h19
theorem lX12_checkOne_201 (X : pX) (N d : Nat) (rc : Nat → List Value → pH → Option (Option Value × pH)) (hrc : ∀ mn as h q, rc mn as h = some q → Calls X (d + 4) mn as h (q.1, q.2, 0, 0))  (v0 : Nat) (v1 : Int32) (v2 : Int32) (v3 : Int32) (v5 : Int32) (s0 : Nat) (s1 : Int32) (s2 : Int32) (s3 : Int32) (h : pH) (q : pH) (hf : fX12_checkOne_201 N rc v0 v1 v2 v3 v5 s0 s1 s2 s3 h = some q) (nv0 : ¬ v0 = 4) (ns0 : ¬ s0 = 4) : Run X (d + 5) 12 false (pCd 9077) 8 none 201 [(0, .ref v0), (1, .int v1), (2, .int v2), (3, .int v3), (5, .int v5)] [.int s3, .int s2, .int s1, .ref s0] h 0 0 (none, q, 0, 0) := by
  unfold fX12_checkOne_201 at hf
  obtain ⟨h19, eh19, hf⟩ := Option.bind_eq_some_iff.mp hf
  refine r_virtual (dGet dX12_checkOne (j := 85) rfl) L12_479 M281 rfl rfl (Nat.le_of_ble_eq_true rfl) (oX12_addVariable eh19) (cX12_addVariable X N (d + 4) s0 s1 s2 s3 h h19 eh19) ?_
  refine r_goto (dGet dX12_checkOne (j := 86) rfl) rfl ?_
  exact lX12_checkOne_366 X N d rc hrc v0 v1 v2 v3 v5 h19 q hf nv0
def fX12_checkOne_157 (N : Nat) (rc : Nat → List Value → pH → Option (Option Value × pH)) (v0 : Nat) (v1 : Int32) (v2 : Int32) (v3 : Int32) (v4 : Int32) (v7 : Int32) (s0 : Int32) (h : pH) : Option (pH) :=
  if s0 = 0 then (
  fX12_checkOne_366 N rc v0 v1 v2 v3 s0 h) else (
  (getR h v0 12 33).bind fun t21 =>
  (getI h v0 12 62).bind fun t22 =>
  (stI h t21 v1 t22).bind fun h23 =>
  (getR h23 v0 12 31).bind fun t24 =>
  (stI h23 t24 v1 v7).bind fun h25 =>
  (getR h25 v0 12 32).bind fun t26 =>
  (ldI h25 t26 v1).bind fun t27 =>
  if v4 < 0 then (
  fX12_checkOne_201 N rc v0 v1 v2 v3 s0 v0 t27 v7 (0 : Int32) h25) else (
  fX12_checkOne_201 N rc v0 v1 v2 v3 s0 v0 t27 v7 (1 : Int32) h25))
theorem lX12_checkOne_157 (X : pX) (N d : Nat) (rc : Nat → List Value → pH → Option (Option Value × pH)) (hrc : ∀ mn as h q, rc mn as h = some q → Calls X (d + 4) mn as h (q.1, q.2, 0, 0))  (v0 : Nat) (v1 : Int32) (v2 : Int32) (v3 : Int32) (v4 : Int32) (v7 : Int32) (s0 : Int32) (h : pH) (q : pH) (hf : fX12_checkOne_157 N rc v0 v1 v2 v3 v4 v7 s0 h = some q) (nv0 : ¬ v0 = 4) : Run X (d + 5) 12 false (pCd 9077) 8 none 157 [(0, .ref v0), (1, .int v1), (2, .int v2), (3, .int v3), (4, .int v4), (7, .int v7)] [.int s0] h 0 0 (none, q, 0, 0) := by
  unfold fX12_checkOne_157 at hf
  refine r_istore (lv' := [(5, .int s0), (0, .ref v0), (1, .int v1), (2, .int v2), (3, .int v3), (4, .int v4), (7, .int v7)]) (dGet dX12_checkOne (j := 60) rfl) (by decide) rfl ?_
  refine r_iload (dGet dX12_checkOne (j := 61) rfl) rfl ?_
  by_cases c20 : s0 = 0
  · rw [if_pos c20] at hf
    refine r_if_eq_t (dGet dX12_checkOne (j := 62) rfl) rfl c20 ?_
    refine Run.weak [(0, .ref v0), (1, .int v1), (2, .int v2), (3, .int v3), (5, .int s0)] (by simp) (by simp [pNd]) ?_
    exact lX12_checkOne_366 X N d rc hrc v0 v1 v2 v3 s0 h q hf nv0
  · rw [if_neg c20] at hf
    refine r_if_eq_f (dGet dX12_checkOne (j := 62) rfl) rfl c20 ?_
    refine r_aload_n (dGet dX12_checkOne (j := 63) rfl) nv0 rfl ?_
    obtain ⟨t21, et21, hf⟩ := Option.bind_eq_some_iff.mp hf
    refine r_getR (dGet dX12_checkOne (j := 64) rfl) F12_67 et21 ?_
    refine r_iload_n (dGet dX12_checkOne (j := 65) rfl) rfl ?_
    refine r_aload_n (dGet dX12_checkOne (j := 66) rfl) nv0 rfl ?_
    obtain ⟨t22, et22, hf⟩ := Option.bind_eq_some_iff.mp hf
    refine r_getI (dGet dX12_checkOne (j := 67) rfl) F12_467 et22 ?_
    obtain ⟨h23, eh23, hf⟩ := Option.bind_eq_some_iff.mp hf
    refine r_iast (dGet dX12_checkOne (j := 68) rfl) eh23 ?_
    refine r_aload_n (dGet dX12_checkOne (j := 69) rfl) nv0 rfl ?_
    obtain ⟨t24, et24, hf⟩ := Option.bind_eq_some_iff.mp hf
    refine r_getR (dGet dX12_checkOne (j := 70) rfl) F12_61 et24 ?_
    refine r_iload_n (dGet dX12_checkOne (j := 71) rfl) rfl ?_
    refine r_iload (dGet dX12_checkOne (j := 72) rfl) rfl ?_
    obtain ⟨h25, eh25, hf⟩ := Option.bind_eq_some_iff.mp hf
    refine r_iast (dGet dX12_checkOne (j := 73) rfl) eh25 ?_
    refine r_aload_n (dGet dX12_checkOne (j := 74) rfl) nv0 rfl ?_
    refine r_aload_n (dGet dX12_checkOne (j := 75) rfl) nv0 rfl ?_
    obtain ⟨t26, et26, hf⟩ := Option.bind_eq_some_iff.mp hf
    refine r_getR (dGet dX12_checkOne (j := 76) rfl) F12_64 et26 ?_
    refine r_iload_n (dGet dX12_checkOne (j := 77) rfl) rfl ?_
    obtain ⟨t27, et27, hf⟩ := Option.bind_eq_some_iff.mp hf
    refine r_iald (dGet dX12_checkOne (j := 78) rfl) et27 ?_
    refine r_iload (dGet dX12_checkOne (j := 79) rfl) rfl ?_
    refine r_iload (dGet dX12_checkOne (j := 80) rfl) rfl ?_
    by_cases c28 : v4 < 0
    · rw [if_pos c28] at hf
      refine r_if_lt_t (dGet dX12_checkOne (j := 81) rfl) rfl c28 ?_
      refine r_iconst (dGet dX12_checkOne (j := 84) rfl) kI_0 ?_
      refine Run.weak [(0, .ref v0), (1, .int v1), (2, .int v2), (3, .int v3), (5, .int s0)] (by simp) (by simp [pNd]) ?_
      exact lX12_checkOne_201 X N d rc hrc v0 v1 v2 v3 s0 v0 t27 v7 (0 : Int32) h25 q hf nv0 nv0
    · rw [if_neg c28] at hf
      refine r_if_lt_f (dGet dX12_checkOne (j := 81) rfl) rfl c28 ?_
      refine r_iconst (dGet dX12_checkOne (j := 82) rfl) kI_1 ?_
      refine r_goto (dGet dX12_checkOne (j := 83) rfl) rfl ?_
      refine Run.weak [(0, .ref v0), (1, .int v1), (2, .int v2), (3, .int v3), (5, .int s0)] (by simp) (by simp [pNd]) ?_
      exact lX12_checkOne_201 X N d rc hrc v0 v1 v2 v3 s0 v0 t27 v7 (1 : Int32) h25 q hf nv0 nv0
def fX12_checkOne_156 (N : Nat) (rc : Nat → List Value → pH → Option (Option Value × pH)) (v0 : Nat) (v1 : Int32) (v2 : Int32) (v3 : Int32) (v4 : Int32) (v7 : Int32) (h : pH) : Option (pH) :=
  fX12_checkOne_157 N rc v0 v1 v2 v3 v4 v7 (0 : Int32) h
theorem lX12_checkOne_156 (X : pX) (N d : Nat) (rc : Nat → List Value → pH → Option (Option Value × pH)) (hrc : ∀ mn as h q, rc mn as h = some q → Calls X (d + 4) mn as h (q.1, q.2, 0, 0))  (v0 : Nat) (v1 : Int32) (v2 : Int32) (v3 : Int32) (v4 : Int32) (v7 : Int32) (h : pH) (q : pH) (hf : fX12_checkOne_156 N rc v0 v1 v2 v3 v4 v7 h = some q) (nv0 : ¬ v0 = 4) : Run X (d + 5) 12 false (pCd 9077) 8 none 156 [(0, .ref v0), (1, .int v1), (2, .int v2), (3, .int v3), (4, .int v4), (7, .int v7)] [] h 0 0 (none, q, 0, 0) := by
  unfold fX12_checkOne_156 at hf
  refine r_iconst (dGet dX12_checkOne (j := 59) rfl) kI_0 ?_
  exact lX12_checkOne_157 X N d rc hrc v0 v1 v2 v3 v4 v7 (0 : Int32) h q hf nv0
def fX12_checkOne_152 (N : Nat) (rc : Nat → List Value → pH → Option (Option Value × pH)) (v0 : Nat) (v1 : Int32) (v2 : Int32) (v3 : Int32) (v4 : Int32) (v7 : Int32) (h : pH) : Option (pH) :=
  fX12_checkOne_157 N rc v0 v1 v2 v3 v4 v7 (1 : Int32) h
theorem lX12_checkOne_152 (X : pX) (N d : Nat) (rc : Nat → List Value → pH → Option (Option Value × pH)) (hrc : ∀ mn as h q, rc mn as h = some q → Calls X (d + 4) mn as h (q.1, q.2, 0, 0))  (v0 : Nat) (v1 : Int32) (v2 : Int32) (v3 : Int32) (v4 : Int32) (v7 : Int32) (h : pH) (q : pH) (hf : fX12_checkOne_152 N rc v0 v1 v2 v3 v4 v7 h = some q) (nv0 : ¬ v0 = 4) : Run X (d + 5) 12 false (pCd 9077) 8 none 152 [(0, .ref v0), (1, .int v1), (2, .int v2), (3, .int v3), (4, .int v4), (7, .int v7)] [] h 0 0 (none, q, 0, 0) := by
  unfold fX12_checkOne_152 at hf
  refine r_iconst (dGet dX12_checkOne (j := 57) rfl) kI_1 ?_
  refine r_goto (dGet dX12_checkOne (j := 58) rfl) rfl ?_
  exact lX12_checkOne_157 X N d rc hrc v0 v1 v2 v3 v4 v7 (1 : Int32) h q hf nv0
def fX12_checkOne_41 (N : Nat) (rc : Nat → List Value → pH → Option (Option Value × pH)) (v0 : Nat) (v1 : Int32) (v2 : Int32) (v3 : Int32) (v4 : Int32) (s0 : Int32) (h : pH) : Option (pH) :=
  (fX12_typeOfValue N v0 v1 h).bind fun q29 =>
  if v3 = 0 then (
  (getR q29.2 v0 12 31).bind fun t39 =>
  (ldI q29.2 t39 v1).bind fun t40 =>
  (fX12_meant N v0 t40 q29.2).bind fun q41 =>
  if s0 = 0 then (
  fX12_checkOne_156 N rc v0 v1 v2 v3 v4 q41.1 q41.2) else (
  if q41.1 = (5 : Int32) then (
  fX12_checkOne_156 N rc v0 v1 v2 v3 v4 q41.1 q41.2) else (
  (getR q41.2 v0 12 32).bind fun t44 =>
  (ldI q41.2 t44 v1).bind fun t45 =>
  (fX12_variableOf N v0 t45 q41.2).bind fun q46 =>
  if 0 ≤ q46.1 then (
  fX12_checkOne_156 N rc v0 v1 v2 v3 v4 q41.1 q46.2) else (
  if v4 < 0 then (
  fX12_checkOne_152 N rc v0 v1 v2 v3 v4 q41.1 q46.2) else (
  (fX12_isSub N v0 q29.1 q41.1 q46.2).bind fun q49 =>
  if q49.1 = 0 then (
  fX12_checkOne_156 N rc v0 v1 v2 v3 v4 q41.1 q49.2) else (
  fX12_checkOne_152 N rc v0 v1 v2 v3 v4 q41.1 q49.2)))))) else
  if v3 = 1 then (
  fX12_checkOne_345 N rc v0 v1 v2 v3 s0 q29.1 q29.2) else
  if v3 = 2 then (
  fX12_checkOne_345 N rc v0 v1 v2 v3 s0 q29.1 q29.2) else
  if v3 = 3 then (
  if s0 = 0 then (
  fX12_checkOne_314 N rc v0 v1 v2 v3 q29.2) else (
  if 0 ≤ v4 then (
  (getR q29.2 v0 12 47).bind fun t53 =>
  (getI q29.2 v0 12 61).bind fun t54 =>
  (ldI q29.2 t53 t54).bind fun t55 =>
  if t55 = (3 : Int32) then (
  fX12_checkOne_314 N rc v0 v1 v2 v3 q29.2) else (
  (getR q29.2 v0 12 47).bind fun t57 =>
  (getI q29.2 v0 12 61).bind fun t58 =>
  (ldI q29.2 t57 t58).bind fun t59 =>
  (fX12_isSub N v0 q29.1 t59 q29.2).bind fun q60 =>
  if q60.1 = 0 then (
  fX12_checkOne_314 N rc v0 v1 v2 v3 q60.2) else (
  fX12_checkOne_310 N rc v0 v1 v2 v3 q60.2))) else (
  (getR q29.2 v0 12 47).bind fun t62 =>
  (getI q29.2 v0 12 61).bind fun t63 =>
  (ldI q29.2 t62 t63).bind fun t64 =>
  if t64 = (3 : Int32) then (
  fX12_checkOne_310 N rc v0 v1 v2 v3 q29.2) else (
  fX12_checkOne_314 N rc v0 v1 v2 v3 q29.2)))) else
  if v3 = 4 then (
  if s0 = 0 then (
  fX12_checkOne_247 N rc v0 v1 v2 v3 q29.2) else (
  if q29.1 < (10 : Int32) then (
  fX12_checkOne_247 N rc v0 v1 v2 v3 q29.2) else (
  fX12_checkOne_248 N rc v0 v1 v2 v3 (1 : Int32) q29.2))) else
  if v3 = 5 then (
  fX12_checkOne_366 N rc v0 v1 v2 v3 s0 q29.2) else
  if v3 = 6 then (
  if s0 = 0 then (
  fX12_checkOne_225 N rc v0 v1 v2 v3 q29.2) else (
  (fX12_isPlain N v0 q29.1 q29.2).bind fun q69 =>
  if q69.1 = 0 then (
  fX12_checkOne_225 N rc v0 v1 v2 v3 q69.2) else (
  fX12_checkOne_226 N rc v0 v1 v2 v3 (1 : Int32) q69.2))) else
  if v3 = 7 then (
  fX12_checkOne_366 N rc v0 v1 v2 v3 s0 q29.2) else
  if v3 = 8 then (
  if s0 = 0 then (
  fX12_checkOne_339 N rc v0 v1 v2 v3 q29.2) else (
  (fX12_checkPlace N v0 v1 q29.1 q29.2).bind fun q72 =>
  if q72.1 = 0 then (
  fX12_checkOne_339 N rc v0 v1 v2 v3 q72.2) else (
  fX12_checkOne_340 N rc v0 v1 v2 v3 (1 : Int32) q72.2))) else
  fX12_checkOne_366 N rc v0 v1 v2 v3 s0 q29.2
theorem lX12_checkOne_41 (X : pX) (N d : Nat) (rc : Nat → List Value → pH → Option (Option Value × pH)) (hrc : ∀ mn as h q, rc mn as h = some q → Calls X (d + 4) mn as h (q.1, q.2, 0, 0))  (v0 : Nat) (v1 : Int32) (v2 : Int32) (v3 : Int32) (v4 : Int32) (s0 : Int32) (h : pH) (q : pH) (hf : fX12_checkOne_41 N rc v0 v1 v2 v3 v4 s0 h = some q) (nv0 : ¬ v0 = 4) : Run X (d + 5) 12 false (pCd 9077) 8 none 41 [(0, .ref v0), (1, .int v1), (2, .int v2), (3, .int v3), (4, .int v4)] [.int s0] h 0 0 (none, q, 0, 0) := by
  unfold fX12_checkOne_41 at hf
  refine r_istore (lv' := [(5, .int s0), (0, .ref v0), (1, .int v1), (2, .int v2), (3, .int v3), (4, .int v4)]) (dGet dX12_checkOne (j := 24) rfl) (by decide) rfl ?_
  refine r_aload_n (dGet dX12_checkOne (j := 25) rfl) nv0 rfl ?_
  refine r_iload_n (dGet dX12_checkOne (j := 26) rfl) rfl ?_
  obtain ⟨q29, eq29, hf⟩ := Option.bind_eq_some_iff.mp hf
  refine r_virtual (dGet dX12_checkOne (j := 27) rfl) L12_493 M295 rfl rfl (Nat.le_of_ble_eq_true rfl) (oX12_typeOfValue eq29) (cX12_typeOfValue X N (d + 4) v0 v1 h q29 eq29) ?_
  refine r_istore (lv' := [(6, .int q29.1), (5, .int s0), (0, .ref v0), (1, .int v1), (2, .int v2), (3, .int v3), (4, .int v4)]) (dGet dX12_checkOne (j := 28) rfl) (by decide) rfl ?_
  refine r_iload_n (dGet dX12_checkOne (j := 29) rfl) rfl ?_
  by_cases c30 : v3 = 0
  · rw [if_pos c30] at hf
    refine r_table (off := 49) (dGet dX12_checkOne (j := 30) rfl) (by rw [c30]; decide) rfl ?_
    refine r_aload_n (dGet dX12_checkOne (j := 31) rfl) nv0 rfl ?_
    refine r_aload_n (dGet dX12_checkOne (j := 32) rfl) nv0 rfl ?_
    obtain ⟨t39, et39, hf⟩ := Option.bind_eq_some_iff.mp hf
    refine r_getR (dGet dX12_checkOne (j := 33) rfl) F12_61 et39 ?_
    refine r_iload_n (dGet dX12_checkOne (j := 34) rfl) rfl ?_
    obtain ⟨t40, et40, hf⟩ := Option.bind_eq_some_iff.mp hf
    refine r_iald (dGet dX12_checkOne (j := 35) rfl) et40 ?_
    obtain ⟨q41, eq41, hf⟩ := Option.bind_eq_some_iff.mp hf
    refine r_virtual (dGet dX12_checkOne (j := 36) rfl) L12_426 M275 rfl rfl (Nat.le_of_ble_eq_true rfl) (oX12_meant eq41) (cX12_meant X N (d + 3) v0 t40 q29.2 q41 eq41) ?_
    refine r_istore (lv' := [(7, .int q41.1), (6, .int q29.1), (5, .int s0), (0, .ref v0), (1, .int v1), (2, .int v2), (3, .int v3), (4, .int v4)]) (dGet dX12_checkOne (j := 37) rfl) (by decide) rfl ?_
    refine r_iload (dGet dX12_checkOne (j := 38) rfl) rfl ?_
    by_cases c42 : s0 = 0
    · rw [if_pos c42] at hf
      refine r_if_eq_t (dGet dX12_checkOne (j := 39) rfl) rfl c42 ?_
      refine Run.weak [(0, .ref v0), (1, .int v1), (2, .int v2), (3, .int v3), (4, .int v4), (7, .int q41.1)] (by simp) (by simp [pNd]) ?_
      exact lX12_checkOne_156 X N d rc hrc v0 v1 v2 v3 v4 q41.1 q41.2 q hf nv0
    · rw [if_neg c42] at hf
      refine r_if_eq_f (dGet dX12_checkOne (j := 39) rfl) rfl c42 ?_
      refine r_iload (dGet dX12_checkOne (j := 40) rfl) rfl ?_
      refine r_iconst (dGet dX12_checkOne (j := 41) rfl) kI_5 ?_
      by_cases c43 : q41.1 = (5 : Int32)
      · rw [if_pos c43] at hf
        refine r_icmp_eq_t (dGet dX12_checkOne (j := 42) rfl) rfl c43 ?_
        refine Run.weak [(0, .ref v0), (1, .int v1), (2, .int v2), (3, .int v3), (4, .int v4), (7, .int q41.1)] (by simp) (by simp [pNd]) ?_
        exact lX12_checkOne_156 X N d rc hrc v0 v1 v2 v3 v4 q41.1 q41.2 q hf nv0
      · rw [if_neg c43] at hf
        refine r_icmp_eq_f (dGet dX12_checkOne (j := 42) rfl) rfl c43 ?_
        refine r_aload_n (dGet dX12_checkOne (j := 43) rfl) nv0 rfl ?_
        refine r_aload_n (dGet dX12_checkOne (j := 44) rfl) nv0 rfl ?_
        obtain ⟨t44, et44, hf⟩ := Option.bind_eq_some_iff.mp hf
        refine r_getR (dGet dX12_checkOne (j := 45) rfl) F12_64 et44 ?_
        refine r_iload_n (dGet dX12_checkOne (j := 46) rfl) rfl ?_
        obtain ⟨t45, et45, hf⟩ := Option.bind_eq_some_iff.mp hf
        refine r_iald (dGet dX12_checkOne (j := 47) rfl) et45 ?_
        obtain ⟨q46, eq46, hf⟩ := Option.bind_eq_some_iff.mp hf
        refine r_virtual (dGet dX12_checkOne (j := 48) rfl) L12_496 M287 rfl rfl (Nat.le_of_ble_eq_true rfl) (oX12_variableOf eq46) (cX12_variableOf X N (d + 4) v0 t45 q41.2 q46 eq46) ?_
        by_cases c47 : 0 ≤ q46.1
        · rw [if_pos c47] at hf
          refine r_if_ge_t (dGet dX12_checkOne (j := 49) rfl) rfl c47 ?_
          refine Run.weak [(0, .ref v0), (1, .int v1), (2, .int v2), (3, .int v3), (4, .int v4), (7, .int q41.1)] (by simp) (by simp [pNd]) ?_
          exact lX12_checkOne_156 X N d rc hrc v0 v1 v2 v3 v4 q41.1 q46.2 q hf nv0
        · rw [if_neg c47] at hf
          refine r_if_ge_f (dGet dX12_checkOne (j := 49) rfl) rfl c47 ?_
          refine r_iload (dGet dX12_checkOne (j := 50) rfl) rfl ?_
          by_cases c48 : v4 < 0
          · rw [if_pos c48] at hf
            refine r_if_lt_t (dGet dX12_checkOne (j := 51) rfl) rfl c48 ?_
            refine Run.weak [(0, .ref v0), (1, .int v1), (2, .int v2), (3, .int v3), (4, .int v4), (7, .int q41.1)] (by simp) (by simp [pNd]) ?_
            exact lX12_checkOne_152 X N d rc hrc v0 v1 v2 v3 v4 q41.1 q46.2 q hf nv0
          · rw [if_neg c48] at hf
            refine r_if_lt_f (dGet dX12_checkOne (j := 51) rfl) rfl c48 ?_
            refine r_aload_n (dGet dX12_checkOne (j := 52) rfl) nv0 rfl ?_
            refine r_iload (dGet dX12_checkOne (j := 53) rfl) rfl ?_
            refine r_iload (dGet dX12_checkOne (j := 54) rfl) rfl ?_
            obtain ⟨q49, eq49, hf⟩ := Option.bind_eq_some_iff.mp hf
            refine r_virtual (dGet dX12_checkOne (j := 55) rfl) L12_499 M291 rfl rfl (Nat.le_of_ble_eq_true rfl) (oX12_isSub eq49) (cX12_isSub X N (d + 3) v0 q29.1 q41.1 q46.2 q49 eq49) ?_
            by_cases c50 : q49.1 = 0
            · rw [if_pos c50] at hf
              refine r_if_eq_t (dGet dX12_checkOne (j := 56) rfl) rfl c50 ?_
              refine Run.weak [(0, .ref v0), (1, .int v1), (2, .int v2), (3, .int v3), (4, .int v4), (7, .int q41.1)] (by simp) (by simp [pNd]) ?_
              exact lX12_checkOne_156 X N d rc hrc v0 v1 v2 v3 v4 q41.1 q49.2 q hf nv0
            · rw [if_neg c50] at hf
              refine r_if_eq_f (dGet dX12_checkOne (j := 56) rfl) rfl c50 ?_
              refine Run.weak [(0, .ref v0), (1, .int v1), (2, .int v2), (3, .int v3), (4, .int v4), (7, .int q41.1)] (by simp) (by simp [pNd]) ?_
              exact lX12_checkOne_152 X N d rc hrc v0 v1 v2 v3 v4 q41.1 q49.2 q hf nv0
  rw [if_neg c30] at hf
  by_cases c31 : v3 = 1
  · rw [if_pos c31] at hf
    refine r_table (off := 294) (dGet dX12_checkOne (j := 30) rfl) (by rw [c31]; decide) rfl ?_
    refine Run.weak [(0, .ref v0), (1, .int v1), (2, .int v2), (3, .int v3), (5, .int s0), (6, .int q29.1)] (by simp) (by simp [pNd]) ?_
    exact lX12_checkOne_345 X N d rc hrc v0 v1 v2 v3 s0 q29.1 q29.2 q hf nv0
  rw [if_neg c31] at hf
  by_cases c32 : v3 = 2
  · rw [if_pos c32] at hf
    refine r_table (off := 294) (dGet dX12_checkOne (j := 30) rfl) (by rw [c32]; decide) rfl ?_
    refine Run.weak [(0, .ref v0), (1, .int v1), (2, .int v2), (3, .int v3), (5, .int s0), (6, .int q29.1)] (by simp) (by simp [pNd]) ?_
    exact lX12_checkOne_345 X N d rc hrc v0 v1 v2 v3 s0 q29.1 q29.2 q hf nv0
  rw [if_neg c32] at hf
  by_cases c33 : v3 = 3
  · rw [if_pos c33] at hf
    refine r_table (off := 202) (dGet dX12_checkOne (j := 30) rfl) (by rw [c33]; decide) rfl ?_
    refine r_iload (dGet dX12_checkOne (j := 108) rfl) rfl ?_
    by_cases c51 : s0 = 0
    · rw [if_pos c51] at hf
      refine r_if_eq_t (dGet dX12_checkOne (j := 109) rfl) rfl c51 ?_
      refine Run.weak [(0, .ref v0), (1, .int v1), (2, .int v2), (3, .int v3)] (by simp) (by simp [pNd]) ?_
      exact lX12_checkOne_314 X N d rc hrc v0 v1 v2 v3 q29.2 q hf nv0
    · rw [if_neg c51] at hf
      refine r_if_eq_f (dGet dX12_checkOne (j := 109) rfl) rfl c51 ?_
      refine r_iload (dGet dX12_checkOne (j := 110) rfl) rfl ?_
      by_cases c52 : 0 ≤ v4
      · rw [if_pos c52] at hf
        refine r_if_ge_t (dGet dX12_checkOne (j := 111) rfl) rfl c52 ?_
        refine r_aload_n (dGet dX12_checkOne (j := 120) rfl) nv0 rfl ?_
        obtain ⟨t53, et53, hf⟩ := Option.bind_eq_some_iff.mp hf
        refine r_getR (dGet dX12_checkOne (j := 121) rfl) F12_103 et53 ?_
        refine r_aload_n (dGet dX12_checkOne (j := 122) rfl) nv0 rfl ?_
        obtain ⟨t54, et54, hf⟩ := Option.bind_eq_some_iff.mp hf
        refine r_getI (dGet dX12_checkOne (j := 123) rfl) F12_473 et54 ?_
        obtain ⟨t55, et55, hf⟩ := Option.bind_eq_some_iff.mp hf
        refine r_iald (dGet dX12_checkOne (j := 124) rfl) et55 ?_
        refine r_iconst (dGet dX12_checkOne (j := 125) rfl) kI_3 ?_
        by_cases c56 : t55 = (3 : Int32)
        · rw [if_pos c56] at hf
          refine r_icmp_eq_t (dGet dX12_checkOne (j := 126) rfl) rfl c56 ?_
          refine Run.weak [(0, .ref v0), (1, .int v1), (2, .int v2), (3, .int v3)] (by simp) (by simp [pNd]) ?_
          exact lX12_checkOne_314 X N d rc hrc v0 v1 v2 v3 q29.2 q hf nv0
        · rw [if_neg c56] at hf
          refine r_icmp_eq_f (dGet dX12_checkOne (j := 126) rfl) rfl c56 ?_
          refine r_aload_n (dGet dX12_checkOne (j := 127) rfl) nv0 rfl ?_
          refine r_iload (dGet dX12_checkOne (j := 128) rfl) rfl ?_
          refine r_aload_n (dGet dX12_checkOne (j := 129) rfl) nv0 rfl ?_
          obtain ⟨t57, et57, hf⟩ := Option.bind_eq_some_iff.mp hf
          refine r_getR (dGet dX12_checkOne (j := 130) rfl) F12_103 et57 ?_
          refine r_aload_n (dGet dX12_checkOne (j := 131) rfl) nv0 rfl ?_
          obtain ⟨t58, et58, hf⟩ := Option.bind_eq_some_iff.mp hf
          refine r_getI (dGet dX12_checkOne (j := 132) rfl) F12_473 et58 ?_
          obtain ⟨t59, et59, hf⟩ := Option.bind_eq_some_iff.mp hf
          refine r_iald (dGet dX12_checkOne (j := 133) rfl) et59 ?_
          obtain ⟨q60, eq60, hf⟩ := Option.bind_eq_some_iff.mp hf
          refine r_virtual (dGet dX12_checkOne (j := 134) rfl) L12_499 M291 rfl rfl (Nat.le_of_ble_eq_true rfl) (oX12_isSub eq60) (cX12_isSub X N (d + 3) v0 q29.1 t59 q29.2 q60 eq60) ?_
          by_cases c61 : q60.1 = 0
          · rw [if_pos c61] at hf
            refine r_if_eq_t (dGet dX12_checkOne (j := 135) rfl) rfl c61 ?_
            refine Run.weak [(0, .ref v0), (1, .int v1), (2, .int v2), (3, .int v3)] (by simp) (by simp [pNd]) ?_
            exact lX12_checkOne_314 X N d rc hrc v0 v1 v2 v3 q60.2 q hf nv0
          · rw [if_neg c61] at hf
            refine r_if_eq_f (dGet dX12_checkOne (j := 135) rfl) rfl c61 ?_
            refine Run.weak [(0, .ref v0), (1, .int v1), (2, .int v2), (3, .int v3)] (by simp) (by simp [pNd]) ?_
            exact lX12_checkOne_310 X N d rc hrc v0 v1 v2 v3 q60.2 q hf nv0
      · rw [if_neg c52] at hf
        refine r_if_ge_f (dGet dX12_checkOne (j := 111) rfl) rfl c52 ?_
        refine r_aload_n (dGet dX12_checkOne (j := 112) rfl) nv0 rfl ?_
        obtain ⟨t62, et62, hf⟩ := Option.bind_eq_some_iff.mp hf
        refine r_getR (dGet dX12_checkOne (j := 113) rfl) F12_103 et62 ?_
        refine r_aload_n (dGet dX12_checkOne (j := 114) rfl) nv0 rfl ?_
        obtain ⟨t63, et63, hf⟩ := Option.bind_eq_some_iff.mp hf
        refine r_getI (dGet dX12_checkOne (j := 115) rfl) F12_473 et63 ?_
        obtain ⟨t64, et64, hf⟩ := Option.bind_eq_some_iff.mp hf
        refine r_iald (dGet dX12_checkOne (j := 116) rfl) et64 ?_
        refine r_iconst (dGet dX12_checkOne (j := 117) rfl) kI_3 ?_
        by_cases c65 : t64 = (3 : Int32)
        · rw [if_pos c65] at hf
          refine r_icmp_ne_f (dGet dX12_checkOne (j := 118) rfl) rfl c65 ?_
          refine r_goto (dGet dX12_checkOne (j := 119) rfl) rfl ?_
          refine Run.weak [(0, .ref v0), (1, .int v1), (2, .int v2), (3, .int v3)] (by simp) (by simp [pNd]) ?_
          exact lX12_checkOne_310 X N d rc hrc v0 v1 v2 v3 q29.2 q hf nv0
        · rw [if_neg c65] at hf
          refine r_icmp_ne_t (dGet dX12_checkOne (j := 118) rfl) rfl c65 ?_
          refine Run.weak [(0, .ref v0), (1, .int v1), (2, .int v2), (3, .int v3)] (by simp) (by simp [pNd]) ?_
          exact lX12_checkOne_314 X N d rc hrc v0 v1 v2 v3 q29.2 q hf nv0
  rw [if_neg c33] at hf
  by_cases c34 : v3 = 4
  · rw [if_pos c34] at hf
    refine r_table (off := 180) (dGet dX12_checkOne (j := 30) rfl) (by rw [c34]; decide) rfl ?_
    refine r_iload (dGet dX12_checkOne (j := 98) rfl) rfl ?_
    by_cases c66 : s0 = 0
    · rw [if_pos c66] at hf
      refine r_if_eq_t (dGet dX12_checkOne (j := 99) rfl) rfl c66 ?_
      refine Run.weak [(0, .ref v0), (1, .int v1), (2, .int v2), (3, .int v3)] (by simp) (by simp [pNd]) ?_
      exact lX12_checkOne_247 X N d rc hrc v0 v1 v2 v3 q29.2 q hf nv0
    · rw [if_neg c66] at hf
      refine r_if_eq_f (dGet dX12_checkOne (j := 99) rfl) rfl c66 ?_
      refine r_iload (dGet dX12_checkOne (j := 100) rfl) rfl ?_
      refine r_bipush (dGet dX12_checkOne (j := 101) rfl) kB_10 ?_
      by_cases c67 : q29.1 < (10 : Int32)
      · rw [if_pos c67] at hf
        refine r_icmp_lt_t (dGet dX12_checkOne (j := 102) rfl) rfl c67 ?_
        refine Run.weak [(0, .ref v0), (1, .int v1), (2, .int v2), (3, .int v3)] (by simp) (by simp [pNd]) ?_
        exact lX12_checkOne_247 X N d rc hrc v0 v1 v2 v3 q29.2 q hf nv0
      · rw [if_neg c67] at hf
        refine r_icmp_lt_f (dGet dX12_checkOne (j := 102) rfl) rfl c67 ?_
        refine r_iconst (dGet dX12_checkOne (j := 103) rfl) kI_1 ?_
        refine r_goto (dGet dX12_checkOne (j := 104) rfl) rfl ?_
        refine Run.weak [(0, .ref v0), (1, .int v1), (2, .int v2), (3, .int v3)] (by simp) (by simp [pNd]) ?_
        exact lX12_checkOne_248 X N d rc hrc v0 v1 v2 v3 (1 : Int32) q29.2 q hf nv0
  rw [if_neg c34] at hf
  by_cases c35 : v3 = 5
  · rw [if_pos c35] at hf
    refine r_table (off := 315) (dGet dX12_checkOne (j := 30) rfl) (by rw [c35]; decide) rfl ?_
    refine Run.weak [(0, .ref v0), (1, .int v1), (2, .int v2), (3, .int v3), (5, .int s0)] (by simp) (by simp [pNd]) ?_
    exact lX12_checkOne_366 X N d rc hrc v0 v1 v2 v3 s0 q29.2 q hf nv0
  rw [if_neg c35] at hf
  by_cases c36 : v3 = 6
  · rw [if_pos c36] at hf
    refine r_table (off := 156) (dGet dX12_checkOne (j := 30) rfl) (by rw [c36]; decide) rfl ?_
    refine r_iload (dGet dX12_checkOne (j := 87) rfl) rfl ?_
    by_cases c68 : s0 = 0
    · rw [if_pos c68] at hf
      refine r_if_eq_t (dGet dX12_checkOne (j := 88) rfl) rfl c68 ?_
      refine Run.weak [(0, .ref v0), (1, .int v1), (2, .int v2), (3, .int v3)] (by simp) (by simp [pNd]) ?_
      exact lX12_checkOne_225 X N d rc hrc v0 v1 v2 v3 q29.2 q hf nv0
    · rw [if_neg c68] at hf
      refine r_if_eq_f (dGet dX12_checkOne (j := 88) rfl) rfl c68 ?_
      refine r_aload_n (dGet dX12_checkOne (j := 89) rfl) nv0 rfl ?_
      refine r_iload (dGet dX12_checkOne (j := 90) rfl) rfl ?_
      obtain ⟨q69, eq69, hf⟩ := Option.bind_eq_some_iff.mp hf
      refine r_virtual (dGet dX12_checkOne (j := 91) rfl) L12_502 M296 rfl rfl (Nat.le_of_ble_eq_true rfl) (oX12_isPlain eq69) (cX12_isPlain X N (d + 4) v0 q29.1 q29.2 q69 eq69) ?_
      by_cases c70 : q69.1 = 0
      · rw [if_pos c70] at hf
        refine r_if_eq_t (dGet dX12_checkOne (j := 92) rfl) rfl c70 ?_
        refine Run.weak [(0, .ref v0), (1, .int v1), (2, .int v2), (3, .int v3)] (by simp) (by simp [pNd]) ?_
        exact lX12_checkOne_225 X N d rc hrc v0 v1 v2 v3 q69.2 q hf nv0
      · rw [if_neg c70] at hf
        refine r_if_eq_f (dGet dX12_checkOne (j := 92) rfl) rfl c70 ?_
        refine r_iconst (dGet dX12_checkOne (j := 93) rfl) kI_1 ?_
        refine r_goto (dGet dX12_checkOne (j := 94) rfl) rfl ?_
        refine Run.weak [(0, .ref v0), (1, .int v1), (2, .int v2), (3, .int v3)] (by simp) (by simp [pNd]) ?_
        exact lX12_checkOne_226 X N d rc hrc v0 v1 v2 v3 (1 : Int32) q69.2 q hf nv0
  rw [if_neg c36] at hf
  by_cases c37 : v3 = 7
  · rw [if_pos c37] at hf
    refine r_table (off := 315) (dGet dX12_checkOne (j := 30) rfl) (by rw [c37]; decide) rfl ?_
    refine Run.weak [(0, .ref v0), (1, .int v1), (2, .int v2), (3, .int v3), (5, .int s0)] (by simp) (by simp [pNd]) ?_
    exact lX12_checkOne_366 X N d rc hrc v0 v1 v2 v3 s0 q29.2 q hf nv0
  rw [if_neg c37] at hf
  by_cases c38 : v3 = 8
  · rw [if_pos c38] at hf
    refine r_table (off := 269) (dGet dX12_checkOne (j := 30) rfl) (by rw [c38]; decide) rfl ?_
    refine r_iload (dGet dX12_checkOne (j := 141) rfl) rfl ?_
    by_cases c71 : s0 = 0
    · rw [if_pos c71] at hf
      refine r_if_eq_t (dGet dX12_checkOne (j := 142) rfl) rfl c71 ?_
      refine Run.weak [(0, .ref v0), (1, .int v1), (2, .int v2), (3, .int v3)] (by simp) (by simp [pNd]) ?_
      exact lX12_checkOne_339 X N d rc hrc v0 v1 v2 v3 q29.2 q hf nv0
    · rw [if_neg c71] at hf
      refine r_if_eq_f (dGet dX12_checkOne (j := 142) rfl) rfl c71 ?_
      refine r_aload_n (dGet dX12_checkOne (j := 143) rfl) nv0 rfl ?_
      refine r_iload_n (dGet dX12_checkOne (j := 144) rfl) rfl ?_
      refine r_iload (dGet dX12_checkOne (j := 145) rfl) rfl ?_
      obtain ⟨q72, eq72, hf⟩ := Option.bind_eq_some_iff.mp hf
      refine r_virtual (dGet dX12_checkOne (j := 146) rfl) L12_505 M297 rfl rfl (Nat.le_of_ble_eq_true rfl) (oX12_checkPlace eq72) (cX12_checkPlace X N (d + 2) v0 v1 q29.1 q29.2 q72 eq72) ?_
      by_cases c73 : q72.1 = 0
      · rw [if_pos c73] at hf
        refine r_if_eq_t (dGet dX12_checkOne (j := 147) rfl) rfl c73 ?_
        refine Run.weak [(0, .ref v0), (1, .int v1), (2, .int v2), (3, .int v3)] (by simp) (by simp [pNd]) ?_
        exact lX12_checkOne_339 X N d rc hrc v0 v1 v2 v3 q72.2 q hf nv0
      · rw [if_neg c73] at hf
        refine r_if_eq_f (dGet dX12_checkOne (j := 147) rfl) rfl c73 ?_
        refine r_iconst (dGet dX12_checkOne (j := 148) rfl) kI_1 ?_
        refine r_goto (dGet dX12_checkOne (j := 149) rfl) rfl ?_
        refine Run.weak [(0, .ref v0), (1, .int v1), (2, .int v2), (3, .int v3)] (by simp) (by simp [pNd]) ?_
        exact lX12_checkOne_340 X N d rc hrc v0 v1 v2 v3 (1 : Int32) q72.2 q hf nv0
  rw [if_neg c38] at hf
  refine r_table (dGet dX12_checkOne (j := 30) rfl) (pTable_out (cs := [0, 1, 2, 3, 4, 5, 6, 7, 8]) (by decide) (by decide) (by decide) (List.forall_mem_cons.mpr ⟨c30, List.forall_mem_cons.mpr ⟨c31, List.forall_mem_cons.mpr ⟨c32, List.forall_mem_cons.mpr ⟨c33, List.forall_mem_cons.mpr ⟨c34, List.forall_mem_cons.mpr ⟨c35, List.forall_mem_cons.mpr ⟨c36, List.forall_mem_cons.mpr ⟨c37, List.forall_mem_cons.mpr ⟨c38, fun _ h => absurd h List.not_mem_nil⟩⟩⟩⟩⟩⟩⟩⟩⟩)) rfl ?_
  refine Run.weak [(0, .ref v0), (1, .int v1), (2, .int v2), (3, .int v3), (5, .int s0)] (by simp) (by simp [pNd]) ?_
  exact lX12_checkOne_366 X N d rc hrc v0 v1 v2 v3 s0 q29.2 q hf nv0
def fX12_checkOne_36 (N : Nat) (rc : Nat → List Value → pH → Option (Option Value × pH)) (v0 : Nat) (v1 : Int32) (v2 : Int32) (v3 : Int32) (v4 : Int32) (h : pH) : Option (pH) :=
  fX12_checkOne_41 N rc v0 v1 v2 v3 v4 (1 : Int32) h
theorem lX12_checkOne_36 (X : pX) (N d : Nat) (rc : Nat → List Value → pH → Option (Option Value × pH)) (hrc : ∀ mn as h q, rc mn as h = some q → Calls X (d + 4) mn as h (q.1, q.2, 0, 0))  (v0 : Nat) (v1 : Int32) (v2 : Int32) (v3 : Int32) (v4 : Int32) (h : pH) (q : pH) (hf : fX12_checkOne_36 N rc v0 v1 v2 v3 v4 h = some q) (nv0 : ¬ v0 = 4) : Run X (d + 5) 12 false (pCd 9077) 8 none 36 [(0, .ref v0), (1, .int v1), (2, .int v2), (3, .int v3), (4, .int v4)] [] h 0 0 (none, q, 0, 0) := by
  unfold fX12_checkOne_36 at hf
  refine r_iconst (dGet dX12_checkOne (j := 21) rfl) kI_1 ?_
  refine r_goto (dGet dX12_checkOne (j := 22) rfl) rfl ?_
  exact lX12_checkOne_41 X N d rc hrc v0 v1 v2 v3 v4 (1 : Int32) h q hf nv0
def fX12_checkOne (N : Nat) (rc : Nat → List Value → pH → Option (Option Value × pH)) (v0 : Nat) (v1 : Int32) (v2 : Int32) (h : pH) : Option (pH) := if isO h v0 12 = true then (
  (getR h v0 12 26).bind fun t74 =>
  (ldI h t74 v1).bind fun t75 =>
  (getR h v0 12 29).bind fun t76 =>
  (ldI h t76 v1).bind fun t77 =>
  if t77 < 0 then (
  fX12_checkOne_36 N rc v0 v1 v2 t75 t77 h) else (
  (getR h v0 12 28).bind fun t79 =>
  (ldI h t79 v1).bind fun t80 =>
  (fX12_checkNodes N v0 v1 t80 t77 h).bind fun q81 =>
  if q81.1 = 0 then (
  fX12_checkOne_41 N rc v0 v1 v2 t75 t77 (0 : Int32) q81.2) else (
  fX12_checkOne_36 N rc v0 v1 v2 t75 t77 q81.2))) else none
theorem oX12_checkOne {N : Nat} {rc : Nat → List Value → pH → Option (Option Value × pH)} {v0 : Nat} {v1 : Int32} {v2 : Int32} {h : pH} {q : pH} (hf : fX12_checkOne N rc v0 v1 v2 h = some q) : isO h v0 12 = true := by
  unfold fX12_checkOne at hf
  by_cases hc : isO h v0 12 = true
  · exact hc
  · rw [if_neg hc] at hf; cases hf
theorem cX12_checkOne (X : pX) (N d : Nat) (rc : Nat → List Value → pH → Option (Option Value × pH)) (hrc : ∀ mn as h q, rc mn as h = some q → Calls X (d + 4) mn as h (q.1, q.2, 0, 0)) (v0 : Nat) (v1 : Int32) (v2 : Int32) (h : pH) (q : pH) (hf : fX12_checkOne N rc v0 v1 v2 h = some q) : Calls X (d + 5) 283 [.ref v0, .int v1, .int v2] h (none, q, 0, 0) := by
  refine Calls.of M283 (Nat.le_of_ble_eq_true rfl) ?_
  show Run X (d + 5) 12 false (pCd 9077) 8 none 0 [(0, .ref v0), (1, .int v1), (2, .int v2)] [] h 0 0 (none, q, 0, 0)
  unfold fX12_checkOne at hf
  by_cases hc : isO h v0 12 = true
  · rw [if_pos hc] at hf
    have nv0 : ¬ v0 = 4 := isO_ne hc
    refine r_aload_n (dGet dX12_checkOne (j := 0) rfl) nv0 rfl ?_
    obtain ⟨t74, et74, hf⟩ := Option.bind_eq_some_iff.mp hf
    refine r_getR (dGet dX12_checkOne (j := 1) rfl) F12_46 et74 ?_
    refine r_iload_n (dGet dX12_checkOne (j := 2) rfl) rfl ?_
    obtain ⟨t75, et75, hf⟩ := Option.bind_eq_some_iff.mp hf
    refine r_iald (dGet dX12_checkOne (j := 3) rfl) et75 ?_
    refine r_istore_n (lv' := [(3, .int t75), (0, .ref v0), (1, .int v1), (2, .int v2)]) (dGet dX12_checkOne (j := 4) rfl) (by decide) rfl ?_
    refine r_aload_n (dGet dX12_checkOne (j := 5) rfl) nv0 rfl ?_
    obtain ⟨t76, et76, hf⟩ := Option.bind_eq_some_iff.mp hf
    refine r_getR (dGet dX12_checkOne (j := 6) rfl) F12_55 et76 ?_
    refine r_iload_n (dGet dX12_checkOne (j := 7) rfl) rfl ?_
    obtain ⟨t77, et77, hf⟩ := Option.bind_eq_some_iff.mp hf
    refine r_iald (dGet dX12_checkOne (j := 8) rfl) et77 ?_
    refine r_istore (lv' := [(4, .int t77), (3, .int t75), (0, .ref v0), (1, .int v1), (2, .int v2)]) (dGet dX12_checkOne (j := 9) rfl) (by decide) rfl ?_
    refine r_iload (dGet dX12_checkOne (j := 10) rfl) rfl ?_
    by_cases c78 : t77 < 0
    · rw [if_pos c78] at hf
      refine r_if_lt_t (dGet dX12_checkOne (j := 11) rfl) rfl c78 ?_
      refine Run.weak [(0, .ref v0), (1, .int v1), (2, .int v2), (3, .int t75), (4, .int t77)] (by simp) (by simp [pNd]) ?_
      exact lX12_checkOne_36 X N d rc hrc v0 v1 v2 t75 t77 h q hf nv0
    · rw [if_neg c78] at hf
      refine r_if_lt_f (dGet dX12_checkOne (j := 11) rfl) rfl c78 ?_
      refine r_aload_n (dGet dX12_checkOne (j := 12) rfl) nv0 rfl ?_
      refine r_iload_n (dGet dX12_checkOne (j := 13) rfl) rfl ?_
      refine r_aload_n (dGet dX12_checkOne (j := 14) rfl) nv0 rfl ?_
      obtain ⟨t79, et79, hf⟩ := Option.bind_eq_some_iff.mp hf
      refine r_getR (dGet dX12_checkOne (j := 15) rfl) F12_52 et79 ?_
      refine r_iload_n (dGet dX12_checkOne (j := 16) rfl) rfl ?_
      obtain ⟨t80, et80, hf⟩ := Option.bind_eq_some_iff.mp hf
      refine r_iald (dGet dX12_checkOne (j := 17) rfl) et80 ?_
      refine r_iload (dGet dX12_checkOne (j := 18) rfl) rfl ?_
      obtain ⟨q81, eq81, hf⟩ := Option.bind_eq_some_iff.mp hf
      refine r_virtual (dGet dX12_checkOne (j := 19) rfl) L12_489 M284 rfl rfl (Nat.le_of_ble_eq_true rfl) (oX12_checkNodes eq81) (cX12_checkNodes X N (d + 0) v0 v1 t80 t77 h q81 eq81) ?_
      by_cases c82 : q81.1 = 0
      · rw [if_pos c82] at hf
        refine r_if_eq_t (dGet dX12_checkOne (j := 20) rfl) rfl c82 ?_
        refine r_iconst (dGet dX12_checkOne (j := 23) rfl) kI_0 ?_
        refine Run.weak [(0, .ref v0), (1, .int v1), (2, .int v2), (3, .int t75), (4, .int t77)] (by simp) (by simp [pNd]) ?_
        exact lX12_checkOne_41 X N d rc hrc v0 v1 v2 t75 t77 (0 : Int32) q81.2 q hf nv0
      · rw [if_neg c82] at hf
        refine r_if_eq_f (dGet dX12_checkOne (j := 20) rfl) rfl c82 ?_
        refine Run.weak [(0, .ref v0), (1, .int v1), (2, .int v2), (3, .int t75), (4, .int t77)] (by simp) (by simp [pNd]) ?_
        exact lX12_checkOne_36 X N d rc hrc v0 v1 v2 t75 t77 q81.2 q hf nv0
  · rw [if_neg hc] at hf; cases hf
def eX12_checkBlock : List (Nat × Instr × Nat) := [(0, .aload_n 0, 1), (1, .getfield 467, 3), (4, .istore_n 3, 1), (5, .iload_n 1, 1), (6, .istore 4, 2), (8, .iload 4, 2), (10, .ifCond .lt 29, 3), (13, .aload_n 0, 1), (14, .getfield 409, 3), (17, .ifCond .ge 22, 3), (20, .aload_n 0, 1), (21, .iload 4, 2), (23, .iload_n 2, 1), (24, .invokevirtual 486, 3), (27, .aload_n 0, 1), (28, .getfield 76, 3), (31, .iload 4, 2), (33, .iaload, 1), (34, .istore 4, 2), (36, .goto (-28), 3), (39, .aload_n 0, 1), (40, .iload_n 3, 1), (41, .putfield 467, 3), (44, .return_, 1)]
theorem dX12_checkBlock : dChk (pCd 9073) eX12_checkBlock = true := by decide +kernel
def fX12_checkBlock_39 (N : Nat) (rc : Nat → List Value → pH → Option (Option Value × pH)) (v0 : Nat) (v3 : Int32) (h : pH) : Option (pH) :=
  (putI h v0 12 62 v3).bind fun h1 =>
  some h1
theorem lX12_checkBlock_39 (X : pX) (N d : Nat) (rc : Nat → List Value → pH → Option (Option Value × pH)) (hrc : ∀ mn as h q, rc mn as h = some q → Calls X (d + 4) mn as h (q.1, q.2, 0, 0))  (v0 : Nat) (v3 : Int32) (h : pH) (q : pH) (hf : fX12_checkBlock_39 N rc v0 v3 h = some q) (nv0 : ¬ v0 = 4) : Run X (d + 5) 12 false (pCd 9073) 5 none 39 [(0, .ref v0), (3, .int v3)] [] h 0 0 (none, q, 0, 0) := by
  unfold fX12_checkBlock_39 at hf
  refine r_aload_n (dGet dX12_checkBlock (j := 20) rfl) nv0 rfl ?_
  refine r_iload_n (dGet dX12_checkBlock (j := 21) rfl) rfl ?_
  obtain ⟨h1, eh1, hf⟩ := Option.bind_eq_some_iff.mp hf
  refine r_putI (dGet dX12_checkBlock (j := 22) rfl) F12_467 rfl rfl eh1 ?_
  have hq := Option.some.inj hf
  subst hq
  exact r_vret (dGet dX12_checkBlock (j := 23) rfl) rfl
def fX12_checkBlock_8 (N : Nat) (rc : Nat → List Value → pH → Option (Option Value × pH)) : Nat → Nat → Int32 → Int32 → Int32 → pH → Option (pH)
  | 0, _, _, _, _, _ => none
  | n + 1, v0, v2, v3, v4, h => if v4 < 0 then (
  fX12_checkBlock_39 N rc v0 v3 h) else (
  (getI h v0 12 58).bind fun t3 =>
  if 0 ≤ t3 then (
  fX12_checkBlock_39 N rc v0 v3 h) else (
  (if isO h v0 12 = true then some () else none).bind fun _ =>
  (rcV rc 283 [.ref v0, .int v4, .int v2] h).bind fun h6 =>
  (getR h6 v0 12 36).bind fun t7 =>
  (ldI h6 t7 v4).bind fun t8 =>
  fX12_checkBlock_8 N rc n v0 v2 v3 t8 h6))
theorem lX12_checkBlock_8 (X : pX) (N d : Nat) (rc : Nat → List Value → pH → Option (Option Value × pH)) (hrc : ∀ mn as h q, rc mn as h = some q → Calls X (d + 4) mn as h (q.1, q.2, 0, 0))  : ∀ (n : Nat) (v0 : Nat) (v2 : Int32) (v3 : Int32) (v4 : Int32) (h : pH) (q : pH), fX12_checkBlock_8 N rc n v0 v2 v3 v4 h = some q → ¬ v0 = 4 → Run X (d + 5) 12 false (pCd 9073) 5 none 8 [(0, .ref v0), (2, .int v2), (3, .int v3), (4, .int v4)] [] h 0 0 (none, q, 0, 0) := by
  intro n
  induction n with
  | zero => intro v0 v2 v3 v4 h q hf; cases hf
  | succ n ih =>
    intro v0 v2 v3 v4 h q hf nv0
    unfold fX12_checkBlock_8 at hf
    refine r_iload (dGet dX12_checkBlock (j := 5) rfl) rfl ?_
    by_cases c2 : v4 < 0
    · rw [if_pos c2] at hf
      refine r_if_lt_t (dGet dX12_checkBlock (j := 6) rfl) rfl c2 ?_
      refine Run.weak [(0, .ref v0), (3, .int v3)] (by simp) (by simp [pNd]) ?_
      exact lX12_checkBlock_39 X N d rc hrc v0 v3 h q hf nv0
    · rw [if_neg c2] at hf
      refine r_if_lt_f (dGet dX12_checkBlock (j := 6) rfl) rfl c2 ?_
      refine r_aload_n (dGet dX12_checkBlock (j := 7) rfl) nv0 rfl ?_
      obtain ⟨t3, et3, hf⟩ := Option.bind_eq_some_iff.mp hf
      refine r_getI (dGet dX12_checkBlock (j := 8) rfl) F12_409 et3 ?_
      by_cases c4 : 0 ≤ t3
      · rw [if_pos c4] at hf
        refine r_if_ge_t (dGet dX12_checkBlock (j := 9) rfl) rfl c4 ?_
        refine Run.weak [(0, .ref v0), (3, .int v3)] (by simp) (by simp [pNd]) ?_
        exact lX12_checkBlock_39 X N d rc hrc v0 v3 h q hf nv0
      · rw [if_neg c4] at hf
        refine r_if_ge_f (dGet dX12_checkBlock (j := 9) rfl) rfl c4 ?_
        refine r_aload_n (dGet dX12_checkBlock (j := 10) rfl) nv0 rfl ?_
        refine r_iload (dGet dX12_checkBlock (j := 11) rfl) rfl ?_
        refine r_iload_n (dGet dX12_checkBlock (j := 12) rfl) rfl ?_
        obtain ⟨_, ec5, hf⟩ := Option.bind_eq_some_iff.mp hf
        obtain ⟨h6, eh6, hf⟩ := Option.bind_eq_some_iff.mp hf
        refine r_virtual (dGet dX12_checkBlock (j := 13) rfl) L12_486 M283 rfl rfl (Nat.le_of_ble_eq_true rfl) (guard_of ec5) (rcV_calls hrc eh6) ?_
        refine r_aload_n (dGet dX12_checkBlock (j := 14) rfl) nv0 rfl ?_
        obtain ⟨t7, et7, hf⟩ := Option.bind_eq_some_iff.mp hf
        refine r_getR (dGet dX12_checkBlock (j := 15) rfl) F12_76 et7 ?_
        refine r_iload (dGet dX12_checkBlock (j := 16) rfl) rfl ?_
        obtain ⟨t8, et8, hf⟩ := Option.bind_eq_some_iff.mp hf
        refine r_iald (dGet dX12_checkBlock (j := 17) rfl) et8 ?_
        refine r_istore (lv' := [(4, .int t8), (0, .ref v0), (2, .int v2), (3, .int v3)]) (dGet dX12_checkBlock (j := 18) rfl) (by decide) rfl ?_
        refine r_goto (dGet dX12_checkBlock (j := 19) rfl) rfl ?_
        refine Run.weak [(0, .ref v0), (2, .int v2), (3, .int v3), (4, .int t8)] (by simp) (by simp [pNd]) ?_
        exact ih v0 v2 v3 t8 h6 q hf nv0
def fX12_checkBlock (N : Nat) (rc : Nat → List Value → pH → Option (Option Value × pH)) (v0 : Nat) (v1 : Int32) (v2 : Int32) (h : pH) : Option (pH) := if isO h v0 12 = true then (
  (getI h v0 12 62).bind fun t9 =>
  fX12_checkBlock_8 N rc N v0 v2 t9 v1 h) else none
theorem oX12_checkBlock {N : Nat} {rc : Nat → List Value → pH → Option (Option Value × pH)} {v0 : Nat} {v1 : Int32} {v2 : Int32} {h : pH} {q : pH} (hf : fX12_checkBlock N rc v0 v1 v2 h = some q) : isO h v0 12 = true := by
  unfold fX12_checkBlock at hf
  by_cases hc : isO h v0 12 = true
  · exact hc
  · rw [if_neg hc] at hf; cases hf
theorem cX12_checkBlock (X : pX) (N d : Nat) (rc : Nat → List Value → pH → Option (Option Value × pH)) (hrc : ∀ mn as h q, rc mn as h = some q → Calls X (d + 4) mn as h (q.1, q.2, 0, 0)) (v0 : Nat) (v1 : Int32) (v2 : Int32) (h : pH) (q : pH) (hf : fX12_checkBlock N rc v0 v1 v2 h = some q) : Calls X (d + 5) 282 [.ref v0, .int v1, .int v2] h (none, q, 0, 0) := by
  refine Calls.of M282 (Nat.le_of_ble_eq_true rfl) ?_
  show Run X (d + 5) 12 false (pCd 9073) 5 none 0 [(0, .ref v0), (1, .int v1), (2, .int v2)] [] h 0 0 (none, q, 0, 0)
  unfold fX12_checkBlock at hf
  by_cases hc : isO h v0 12 = true
  · rw [if_pos hc] at hf
    have nv0 : ¬ v0 = 4 := isO_ne hc
    refine r_aload_n (dGet dX12_checkBlock (j := 0) rfl) nv0 rfl ?_
    obtain ⟨t9, et9, hf⟩ := Option.bind_eq_some_iff.mp hf
    refine r_getI (dGet dX12_checkBlock (j := 1) rfl) F12_467 et9 ?_
    refine r_istore_n (lv' := [(3, .int t9), (0, .ref v0), (1, .int v1), (2, .int v2)]) (dGet dX12_checkBlock (j := 2) rfl) (by decide) rfl ?_
    refine r_iload_n (dGet dX12_checkBlock (j := 3) rfl) rfl ?_
    refine r_istore (lv' := [(4, .int v1), (3, .int t9), (0, .ref v0), (1, .int v1), (2, .int v2)]) (dGet dX12_checkBlock (j := 4) rfl) (by decide) rfl ?_
    refine Run.weak [(0, .ref v0), (2, .int v2), (3, .int t9), (4, .int v1)] (by simp) (by simp [pNd]) ?_
    exact lX12_checkBlock_8 X N d rc hrc N v0 v2 t9 v1 h q hf nv0
  · rw [if_neg hc] at hf; cases hf
def gX12_checkWhile (N : Nat) : Nat → Nat → List Value → pH → Option (Option Value × pH)
  | 0 => fun _ _ _ => none
  | j + 1 => fun mn as h =>
    if mn = 302 then (match as with
      | [.ref a0, .int a1, .int a2] => (fX12_checkWhile N (gX12_checkWhile N j) a0 a1 a2 h).map (fun q => (none, q))
      | _ => none) else
    if mn = 303 then (match as with
      | [.ref a0, .int a1, .int a2] => (fX12_checkTry N (gX12_checkWhile N j) a0 a1 a2 h).map (fun q => (none, q))
      | _ => none) else
    if mn = 298 then (match as with
      | [.ref a0, .int a1, .int a2] => (fX12_checkIf N (gX12_checkWhile N j) a0 a1 a2 h).map (fun q => (none, q))
      | _ => none) else
    if mn = 283 then (match as with
      | [.ref a0, .int a1, .int a2] => (fX12_checkOne N (gX12_checkWhile N j) a0 a1 a2 h).map (fun q => (none, q))
      | _ => none) else
    if mn = 282 then (match as with
      | [.ref a0, .int a1, .int a2] => (fX12_checkBlock N (gX12_checkWhile N j) a0 a1 a2 h).map (fun q => (none, q))
      | _ => none) else
    none
theorem gX12_checkWhile_calls (X : pX) (N d : Nat) : ∀ (j mn : Nat) (as : List Value) (h : pH) (q : Option Value × pH), gX12_checkWhile N j mn as h = some q → Calls X (d + 4 + j) mn as h (q.1, q.2, 0, 0)
  | 0, _, _, _, _, hf => by cases hf
  | j + 1, mn, as, h, q, hf => by
    have ih := gX12_checkWhile_calls X N d j
    unfold gX12_checkWhile at hf
    by_cases c302 : mn = 302
    · rw [if_pos c302] at hf
      subst c302
      split at hf
      · rename_i a0 a1 a2
        obtain ⟨x, e1, rfl⟩ := Option.map_eq_some_iff.mp hf
        have := cX12_checkWhile X N (d + j) (gX12_checkWhile N j) (fun mn as h q e => by have := ih mn as h q e; rw [show d + j + 4 = d + 4 + j by omega]; exact this) a0 a1 a2 h x e1
        rw [show d + 4 + (j + 1) = d + j + 5 by omega]
        exact this
      · cases hf
    rw [if_neg c302] at hf
    by_cases c303 : mn = 303
    · rw [if_pos c303] at hf
      subst c303
      split at hf
      · rename_i a0 a1 a2
        obtain ⟨x, e1, rfl⟩ := Option.map_eq_some_iff.mp hf
        have := cX12_checkTry X N (d + j) (gX12_checkWhile N j) (fun mn as h q e => by have := ih mn as h q e; rw [show d + j + 4 = d + 4 + j by omega]; exact this) a0 a1 a2 h x e1
        rw [show d + 4 + (j + 1) = d + j + 5 by omega]
        exact this
      · cases hf
    rw [if_neg c303] at hf
    by_cases c298 : mn = 298
    · rw [if_pos c298] at hf
      subst c298
      split at hf
      · rename_i a0 a1 a2
        obtain ⟨x, e1, rfl⟩ := Option.map_eq_some_iff.mp hf
        have := cX12_checkIf X N (d + j) (gX12_checkWhile N j) (fun mn as h q e => by have := ih mn as h q e; rw [show d + j + 4 = d + 4 + j by omega]; exact this) a0 a1 a2 h x e1
        rw [show d + 4 + (j + 1) = d + j + 5 by omega]
        exact this
      · cases hf
    rw [if_neg c298] at hf
    by_cases c283 : mn = 283
    · rw [if_pos c283] at hf
      subst c283
      split at hf
      · rename_i a0 a1 a2
        obtain ⟨x, e1, rfl⟩ := Option.map_eq_some_iff.mp hf
        have := cX12_checkOne X N (d + j) (gX12_checkWhile N j) (fun mn as h q e => by have := ih mn as h q e; rw [show d + j + 4 = d + 4 + j by omega]; exact this) a0 a1 a2 h x e1
        rw [show d + 4 + (j + 1) = d + j + 5 by omega]
        exact this
      · cases hf
    rw [if_neg c283] at hf
    by_cases c282 : mn = 282
    · rw [if_pos c282] at hf
      subst c282
      split at hf
      · rename_i a0 a1 a2
        obtain ⟨x, e1, rfl⟩ := Option.map_eq_some_iff.mp hf
        have := cX12_checkBlock X N (d + j) (gX12_checkWhile N j) (fun mn as h q e => by have := ih mn as h q e; rw [show d + j + 4 = d + 4 + j by omega]; exact this) a0 a1 a2 h x e1
        rw [show d + 4 + (j + 1) = d + j + 5 by omega]
        exact this
      · cases hf
    rw [if_neg c282] at hf
    cases hf
def eX12_checkClasses : List (Nat × Instr × Nat) := [(0, .iconst 5, 1), (1, .istore_n 1, 1), (2, .iload_n 1, 1), (3, .aload_n 0, 1), (4, .getfield 397, 3), (7, .if_icmp .ge 40, 3), (10, .aload_n 0, 1), (11, .getfield 409, 3), (14, .ifCond .ge 33, 3), (17, .aload_n 0, 1), (18, .aload_n 0, 1), (19, .getfield 79, 3), (22, .iload_n 1, 1), (23, .iaload, 1), (24, .invokevirtual 412, 3), (27, .iload_n 1, 1), (28, .if_icmp .eq 13, 3), (31, .aload_n 0, 1), (32, .aload_n 0, 1), (33, .getfield 82, 3), (36, .iload_n 1, 1), (37, .iaload, 1), (38, .invokevirtual 419, 3), (41, .iinc 1 1, 3), (44, .goto (-42), 3), (47, .iconst 5, 1), (48, .istore_n 1, 1), (49, .iload_n 1, 1), (50, .aload_n 0, 1), (51, .getfield 397, 3), (54, .if_icmp .ge 73, 3), (57, .aload_n 0, 1), (58, .getfield 409, 3), (61, .ifCond .ge 66, 3), (64, .aload_n 0, 1), (65, .getfield 88, 3), (68, .iload_n 1, 1), (69, .aload_n 0, 1), (70, .getfield 85, 3), (73, .iload_n 1, 1), (74, .iaload, 1), (75, .ifCond .ge 7, 3), (78, .iconst (-1), 1), (79, .goto 13, 3), (82, .aload_n 0, 1), (83, .aload_n 0, 1), (84, .getfield 85, 3), (87, .iload_n 1, 1), (88, .iaload, 1), (89, .invokevirtual 412, 3), (92, .iastore, 1), (93, .aload_n 0, 1), (94, .getfield 85, 3), (97, .iload_n 1, 1), (98, .iaload, 1), (99, .ifCond .lt 22, 3), (102, .aload_n 0, 1), (103, .getfield 88, 3), (106, .iload_n 1, 1), (107, .iaload, 1), (108, .ifCond .ge 13, 3), (111, .aload_n 0, 1), (112, .aload_n 0, 1), (113, .getfield 82, 3), (116, .iload_n 1, 1), (117, .iaload, 1), (118, .invokevirtual 419, 3), (121, .iinc 1 1, 3), (124, .goto (-75), 3), (127, .iconst 5, 1), (128, .istore_n 1, 1), (129, .iload_n 1, 1), (130, .aload_n 0, 1), (131, .getfield 397, 3), (134, .if_icmp .ge 70, 3), (137, .aload_n 0, 1), (138, .getfield 409, 3), (141, .ifCond .ge 63, 3), (144, .aload_n 0, 1), (145, .getfield 88, 3), (148, .iload_n 1, 1), (149, .iaload, 1), (150, .istore_n 2, 1), (151, .iconst 0, 1), (152, .istore_n 3, 1), (153, .iload_n 3, 1), (154, .aload_n 0, 1), (155, .getfield 397, 3), (158, .if_icmp .ge 25, 3), (161, .iload_n 2, 1), (162, .ifCond .lt 21, 3), (165, .iload_n 2, 1), (166, .iload_n 1, 1), (167, .if_icmp .eq 16, 3), (170, .aload_n 0, 1), (171, .getfield 88, 3), (174, .iload_n 2, 1), (175, .iaload, 1), (176, .istore_n 2, 1), (177, .iinc 3 1, 3), (180, .goto (-27), 3), (183, .iload_n 2, 1), (184, .iload_n 1, 1), (185, .if_icmp .ne 13, 3), (188, .aload_n 0, 1), (189, .aload_n 0, 1), (190, .getfield 82, 3), (193, .iload_n 1, 1), (194, .iaload, 1), (195, .invokevirtual 419, 3), (198, .iinc 1 1, 3), (201, .goto (-72), 3), (204, .return_, 1)]
theorem dX12_checkClasses : dChk (pCd 9029) eX12_checkClasses = true := by decide +kernel
def fX12_checkClasses_198 (N : Nat) (k129 : Nat → Int32 → pH → Option (pH)) (v0 : Nat) (v1 : Int32) (h : pH) : Option (pH) :=
  k129 v0 (v1 + (1 : Int32)) h
theorem lX12_checkClasses_198 (X : pX) (N d : Nat)  (k129 : Nat → Int32 → pH → Option (pH)) (K129 : ∀ (w0 : Nat) (w1 : Int32) (h : pH) (q : pH), k129 w0 w1 h = some q → ¬ w0 = 4 → Run X (d + 1) 12 false (pCd 9029) 4 none 129 [(0, .ref w0), (1, .int w1)] [] h 0 0 (none, q, 0, 0)) (v0 : Nat) (v1 : Int32) (h : pH) (q : pH) (hf : fX12_checkClasses_198 N k129 v0 v1 h = some q) (nv0 : ¬ v0 = 4) : Run X (d + 1) 12 false (pCd 9029) 4 none 198 [(0, .ref v0), (1, .int v1)] [] h 0 0 (none, q, 0, 0) := by
  unfold fX12_checkClasses_198 at hf
  refine r_iinc (lv' := [(1, .int (v1 + (1 : Int32))), (0, .ref v0)]) (dGet dX12_checkClasses (j := 110) rfl) rfl (by decide) kI_1 rfl ?_
  refine r_goto (dGet dX12_checkClasses (j := 111) rfl) rfl ?_
  refine Run.weak [(0, .ref v0), (1, .int (v1 + (1 : Int32)))] (by simp) (by simp [pNd]) ?_
  exact K129 v0 (v1 + (1 : Int32)) h q hf nv0
def fX12_checkClasses_183 (N : Nat) (k129 : Nat → Int32 → pH → Option (pH)) (v0 : Nat) (v1 : Int32) (v2 : Int32) (h : pH) : Option (pH) :=
  if v2 = v1 then (
  (getR h v0 12 39).bind fun t2 =>
  (ldI h t2 v1).bind fun t3 =>
  (fX12_isBad N v0 t3 h).bind fun h4 =>
  fX12_checkClasses_198 N k129 v0 v1 h4) else (
  fX12_checkClasses_198 N k129 v0 v1 h)
theorem lX12_checkClasses_183 (X : pX) (N d : Nat)  (k129 : Nat → Int32 → pH → Option (pH)) (K129 : ∀ (w0 : Nat) (w1 : Int32) (h : pH) (q : pH), k129 w0 w1 h = some q → ¬ w0 = 4 → Run X (d + 1) 12 false (pCd 9029) 4 none 129 [(0, .ref w0), (1, .int w1)] [] h 0 0 (none, q, 0, 0)) (v0 : Nat) (v1 : Int32) (v2 : Int32) (h : pH) (q : pH) (hf : fX12_checkClasses_183 N k129 v0 v1 v2 h = some q) (nv0 : ¬ v0 = 4) : Run X (d + 1) 12 false (pCd 9029) 4 none 183 [(0, .ref v0), (1, .int v1), (2, .int v2)] [] h 0 0 (none, q, 0, 0) := by
  unfold fX12_checkClasses_183 at hf
  refine r_iload_n (dGet dX12_checkClasses (j := 101) rfl) rfl ?_
  refine r_iload_n (dGet dX12_checkClasses (j := 102) rfl) rfl ?_
  by_cases c1 : v2 = v1
  · rw [if_pos c1] at hf
    refine r_icmp_ne_f (dGet dX12_checkClasses (j := 103) rfl) rfl c1 ?_
    refine r_aload_n (dGet dX12_checkClasses (j := 104) rfl) nv0 rfl ?_
    refine r_aload_n (dGet dX12_checkClasses (j := 105) rfl) nv0 rfl ?_
    obtain ⟨t2, et2, hf⟩ := Option.bind_eq_some_iff.mp hf
    refine r_getR (dGet dX12_checkClasses (j := 106) rfl) F12_82 et2 ?_
    refine r_iload_n (dGet dX12_checkClasses (j := 107) rfl) rfl ?_
    obtain ⟨t3, et3, hf⟩ := Option.bind_eq_some_iff.mp hf
    refine r_iald (dGet dX12_checkClasses (j := 108) rfl) et3 ?_
    obtain ⟨h4, eh4, hf⟩ := Option.bind_eq_some_iff.mp hf
    refine r_virtual (dGet dX12_checkClasses (j := 109) rfl) L12_419 M273 rfl rfl (Nat.le_of_ble_eq_true rfl) (oX12_isBad eh4) (cX12_isBad X N (d + 0) v0 t3 h h4 eh4) ?_
    refine Run.weak [(0, .ref v0), (1, .int v1)] (by simp) (by simp [pNd]) ?_
    exact lX12_checkClasses_198 X N d k129 K129 v0 v1 h4 q hf nv0
  · rw [if_neg c1] at hf
    refine r_icmp_ne_t (dGet dX12_checkClasses (j := 103) rfl) rfl c1 ?_
    refine Run.weak [(0, .ref v0), (1, .int v1)] (by simp) (by simp [pNd]) ?_
    exact lX12_checkClasses_198 X N d k129 K129 v0 v1 h q hf nv0
def fX12_checkClasses_153 (N : Nat) (k129 : Nat → Int32 → pH → Option (pH)) : Nat → Nat → Int32 → Int32 → Int32 → pH → Option (pH)
  | 0, _, _, _, _, _ => none
  | n + 1, v0, v1, v2, v3, h => (getI h v0 12 37).bind fun t5 =>
  if t5 ≤ v3 then (
  fX12_checkClasses_183 N k129 v0 v1 v2 h) else (
  if v2 < 0 then (
  fX12_checkClasses_183 N k129 v0 v1 v2 h) else (
  if v2 = v1 then (
  fX12_checkClasses_183 N k129 v0 v1 v2 h) else (
  (getR h v0 12 41).bind fun t9 =>
  (ldI h t9 v2).bind fun t10 =>
  fX12_checkClasses_153 N k129 n v0 v1 t10 (v3 + (1 : Int32)) h)))
theorem lX12_checkClasses_153 (X : pX) (N d : Nat)  (k129 : Nat → Int32 → pH → Option (pH)) (K129 : ∀ (w0 : Nat) (w1 : Int32) (h : pH) (q : pH), k129 w0 w1 h = some q → ¬ w0 = 4 → Run X (d + 1) 12 false (pCd 9029) 4 none 129 [(0, .ref w0), (1, .int w1)] [] h 0 0 (none, q, 0, 0)) : ∀ (n : Nat) (v0 : Nat) (v1 : Int32) (v2 : Int32) (v3 : Int32) (h : pH) (q : pH), fX12_checkClasses_153 N k129 n v0 v1 v2 v3 h = some q → ¬ v0 = 4 → Run X (d + 1) 12 false (pCd 9029) 4 none 153 [(0, .ref v0), (1, .int v1), (2, .int v2), (3, .int v3)] [] h 0 0 (none, q, 0, 0) := by
  intro n
  induction n with
  | zero => intro v0 v1 v2 v3 h q hf; cases hf
  | succ n ih =>
    intro v0 v1 v2 v3 h q hf nv0
    unfold fX12_checkClasses_153 at hf
    refine r_iload_n (dGet dX12_checkClasses (j := 85) rfl) rfl ?_
    refine r_aload_n (dGet dX12_checkClasses (j := 86) rfl) nv0 rfl ?_
    obtain ⟨t5, et5, hf⟩ := Option.bind_eq_some_iff.mp hf
    refine r_getI (dGet dX12_checkClasses (j := 87) rfl) F12_397 et5 ?_
    by_cases c6 : t5 ≤ v3
    · rw [if_pos c6] at hf
      refine r_icmp_ge_t (dGet dX12_checkClasses (j := 88) rfl) rfl c6 ?_
      refine Run.weak [(0, .ref v0), (1, .int v1), (2, .int v2)] (by simp) (by simp [pNd]) ?_
      exact lX12_checkClasses_183 X N d k129 K129 v0 v1 v2 h q hf nv0
    · rw [if_neg c6] at hf
      refine r_icmp_ge_f (dGet dX12_checkClasses (j := 88) rfl) rfl c6 ?_
      refine r_iload_n (dGet dX12_checkClasses (j := 89) rfl) rfl ?_
      by_cases c7 : v2 < 0
      · rw [if_pos c7] at hf
        refine r_if_lt_t (dGet dX12_checkClasses (j := 90) rfl) rfl c7 ?_
        refine Run.weak [(0, .ref v0), (1, .int v1), (2, .int v2)] (by simp) (by simp [pNd]) ?_
        exact lX12_checkClasses_183 X N d k129 K129 v0 v1 v2 h q hf nv0
      · rw [if_neg c7] at hf
        refine r_if_lt_f (dGet dX12_checkClasses (j := 90) rfl) rfl c7 ?_
        refine r_iload_n (dGet dX12_checkClasses (j := 91) rfl) rfl ?_
        refine r_iload_n (dGet dX12_checkClasses (j := 92) rfl) rfl ?_
        by_cases c8 : v2 = v1
        · rw [if_pos c8] at hf
          refine r_icmp_eq_t (dGet dX12_checkClasses (j := 93) rfl) rfl c8 ?_
          refine Run.weak [(0, .ref v0), (1, .int v1), (2, .int v2)] (by simp) (by simp [pNd]) ?_
          exact lX12_checkClasses_183 X N d k129 K129 v0 v1 v2 h q hf nv0
        · rw [if_neg c8] at hf
          refine r_icmp_eq_f (dGet dX12_checkClasses (j := 93) rfl) rfl c8 ?_
          refine r_aload_n (dGet dX12_checkClasses (j := 94) rfl) nv0 rfl ?_
          obtain ⟨t9, et9, hf⟩ := Option.bind_eq_some_iff.mp hf
          refine r_getR (dGet dX12_checkClasses (j := 95) rfl) F12_88 et9 ?_
          refine r_iload_n (dGet dX12_checkClasses (j := 96) rfl) rfl ?_
          obtain ⟨t10, et10, hf⟩ := Option.bind_eq_some_iff.mp hf
          refine r_iald (dGet dX12_checkClasses (j := 97) rfl) et10 ?_
          refine r_istore_n (lv' := [(2, .int t10), (0, .ref v0), (1, .int v1), (3, .int v3)]) (dGet dX12_checkClasses (j := 98) rfl) (by decide) rfl ?_
          refine r_iinc (lv' := [(3, .int (v3 + (1 : Int32))), (2, .int t10), (0, .ref v0), (1, .int v1)]) (dGet dX12_checkClasses (j := 99) rfl) rfl (by decide) kI_1 rfl ?_
          refine r_goto (dGet dX12_checkClasses (j := 100) rfl) rfl ?_
          refine Run.weak [(0, .ref v0), (1, .int v1), (2, .int t10), (3, .int (v3 + (1 : Int32)))] (by simp) (by simp [pNd]) ?_
          exact ih v0 v1 t10 (v3 + (1 : Int32)) h q hf nv0
def fX12_checkClasses_129 (N : Nat) : Nat → Nat → Int32 → pH → Option (pH)
  | 0, _, _, _ => none
  | n + 1, v0, v1, h => (getI h v0 12 37).bind fun t11 =>
  if t11 ≤ v1 then (
  some h) else (
  (getI h v0 12 58).bind fun t13 =>
  if 0 ≤ t13 then (
  some h) else (
  (getR h v0 12 41).bind fun t15 =>
  (ldI h t15 v1).bind fun t16 =>
  fX12_checkClasses_153 N (fX12_checkClasses_129 N n) N v0 v1 t16 (0 : Int32) h))
theorem lX12_checkClasses_129 (X : pX) (N d : Nat)  : ∀ (n : Nat) (v0 : Nat) (v1 : Int32) (h : pH) (q : pH), fX12_checkClasses_129 N n v0 v1 h = some q → ¬ v0 = 4 → Run X (d + 1) 12 false (pCd 9029) 4 none 129 [(0, .ref v0), (1, .int v1)] [] h 0 0 (none, q, 0, 0) := by
  intro n
  induction n with
  | zero => intro v0 v1 h q hf; cases hf
  | succ n ih =>
    intro v0 v1 h q hf nv0
    unfold fX12_checkClasses_129 at hf
    refine r_iload_n (dGet dX12_checkClasses (j := 71) rfl) rfl ?_
    refine r_aload_n (dGet dX12_checkClasses (j := 72) rfl) nv0 rfl ?_
    obtain ⟨t11, et11, hf⟩ := Option.bind_eq_some_iff.mp hf
    refine r_getI (dGet dX12_checkClasses (j := 73) rfl) F12_397 et11 ?_
    by_cases c12 : t11 ≤ v1
    · rw [if_pos c12] at hf
      refine r_icmp_ge_t (dGet dX12_checkClasses (j := 74) rfl) rfl c12 ?_
      have hq := Option.some.inj hf
      subst hq
      exact r_vret (dGet dX12_checkClasses (j := 112) rfl) rfl
    · rw [if_neg c12] at hf
      refine r_icmp_ge_f (dGet dX12_checkClasses (j := 74) rfl) rfl c12 ?_
      refine r_aload_n (dGet dX12_checkClasses (j := 75) rfl) nv0 rfl ?_
      obtain ⟨t13, et13, hf⟩ := Option.bind_eq_some_iff.mp hf
      refine r_getI (dGet dX12_checkClasses (j := 76) rfl) F12_409 et13 ?_
      by_cases c14 : 0 ≤ t13
      · rw [if_pos c14] at hf
        refine r_if_ge_t (dGet dX12_checkClasses (j := 77) rfl) rfl c14 ?_
        have hq := Option.some.inj hf
        subst hq
        exact r_vret (dGet dX12_checkClasses (j := 112) rfl) rfl
      · rw [if_neg c14] at hf
        refine r_if_ge_f (dGet dX12_checkClasses (j := 77) rfl) rfl c14 ?_
        refine r_aload_n (dGet dX12_checkClasses (j := 78) rfl) nv0 rfl ?_
        obtain ⟨t15, et15, hf⟩ := Option.bind_eq_some_iff.mp hf
        refine r_getR (dGet dX12_checkClasses (j := 79) rfl) F12_88 et15 ?_
        refine r_iload_n (dGet dX12_checkClasses (j := 80) rfl) rfl ?_
        obtain ⟨t16, et16, hf⟩ := Option.bind_eq_some_iff.mp hf
        refine r_iald (dGet dX12_checkClasses (j := 81) rfl) et16 ?_
        refine r_istore_n (lv' := [(2, .int t16), (0, .ref v0), (1, .int v1)]) (dGet dX12_checkClasses (j := 82) rfl) (by decide) rfl ?_
        refine r_iconst (dGet dX12_checkClasses (j := 83) rfl) kI_0 ?_
        refine r_istore_n (lv' := [(3, .int (0 : Int32)), (2, .int t16), (0, .ref v0), (1, .int v1)]) (dGet dX12_checkClasses (j := 84) rfl) (by decide) rfl ?_
        refine Run.weak [(0, .ref v0), (1, .int v1), (2, .int t16), (3, .int (0 : Int32))] (by simp) (by simp [pNd]) ?_
        exact lX12_checkClasses_153 X N d (fX12_checkClasses_129 N n) ih N v0 v1 t16 (0 : Int32) h q hf nv0
def fX12_checkClasses_127 (N : Nat) (v0 : Nat) (h : pH) : Option (pH) :=
  fX12_checkClasses_129 N N v0 (5 : Int32) h
theorem lX12_checkClasses_127 (X : pX) (N d : Nat)  (v0 : Nat) (h : pH) (q : pH) (hf : fX12_checkClasses_127 N v0 h = some q) (nv0 : ¬ v0 = 4) : Run X (d + 1) 12 false (pCd 9029) 4 none 127 [(0, .ref v0)] [] h 0 0 (none, q, 0, 0) := by
  unfold fX12_checkClasses_127 at hf
  refine r_iconst (dGet dX12_checkClasses (j := 69) rfl) kI_5 ?_
  refine r_istore_n (lv' := [(1, .int (5 : Int32)), (0, .ref v0)]) (dGet dX12_checkClasses (j := 70) rfl) (by decide) rfl ?_
  refine Run.weak [(0, .ref v0), (1, .int (5 : Int32))] (by simp) (by simp [pNd]) ?_
  exact lX12_checkClasses_129 X N d N v0 (5 : Int32) h q hf nv0
def fX12_checkClasses_121 (N : Nat) (k49 : Nat → Int32 → pH → Option (pH)) (v0 : Nat) (v1 : Int32) (h : pH) : Option (pH) :=
  k49 v0 (v1 + (1 : Int32)) h
theorem lX12_checkClasses_121 (X : pX) (N d : Nat)  (k49 : Nat → Int32 → pH → Option (pH)) (K49 : ∀ (w0 : Nat) (w1 : Int32) (h : pH) (q : pH), k49 w0 w1 h = some q → ¬ w0 = 4 → Run X (d + 1) 12 false (pCd 9029) 4 none 49 [(0, .ref w0), (1, .int w1)] [] h 0 0 (none, q, 0, 0)) (v0 : Nat) (v1 : Int32) (h : pH) (q : pH) (hf : fX12_checkClasses_121 N k49 v0 v1 h = some q) (nv0 : ¬ v0 = 4) : Run X (d + 1) 12 false (pCd 9029) 4 none 121 [(0, .ref v0), (1, .int v1)] [] h 0 0 (none, q, 0, 0) := by
  unfold fX12_checkClasses_121 at hf
  refine r_iinc (lv' := [(1, .int (v1 + (1 : Int32))), (0, .ref v0)]) (dGet dX12_checkClasses (j := 67) rfl) rfl (by decide) kI_1 rfl ?_
  refine r_goto (dGet dX12_checkClasses (j := 68) rfl) rfl ?_
  refine Run.weak [(0, .ref v0), (1, .int (v1 + (1 : Int32)))] (by simp) (by simp [pNd]) ?_
  exact K49 v0 (v1 + (1 : Int32)) h q hf nv0
def fX12_checkClasses_92 (N : Nat) (k49 : Nat → Int32 → pH → Option (pH)) (v0 : Nat) (v1 : Int32) (s0 : Nat) (s1 : Int32) (s2 : Int32) (h : pH) : Option (pH) :=
  (stI h s0 s1 s2).bind fun h17 =>
  (getR h17 v0 12 40).bind fun t18 =>
  (ldI h17 t18 v1).bind fun t19 =>
  if t19 < 0 then (
  fX12_checkClasses_121 N k49 v0 v1 h17) else (
  (getR h17 v0 12 41).bind fun t21 =>
  (ldI h17 t21 v1).bind fun t22 =>
  if 0 ≤ t22 then (
  fX12_checkClasses_121 N k49 v0 v1 h17) else (
  (getR h17 v0 12 39).bind fun t24 =>
  (ldI h17 t24 v1).bind fun t25 =>
  (fX12_isBad N v0 t25 h17).bind fun h26 =>
  fX12_checkClasses_121 N k49 v0 v1 h26))
theorem lX12_checkClasses_92 (X : pX) (N d : Nat)  (k49 : Nat → Int32 → pH → Option (pH)) (K49 : ∀ (w0 : Nat) (w1 : Int32) (h : pH) (q : pH), k49 w0 w1 h = some q → ¬ w0 = 4 → Run X (d + 1) 12 false (pCd 9029) 4 none 49 [(0, .ref w0), (1, .int w1)] [] h 0 0 (none, q, 0, 0)) (v0 : Nat) (v1 : Int32) (s0 : Nat) (s1 : Int32) (s2 : Int32) (h : pH) (q : pH) (hf : fX12_checkClasses_92 N k49 v0 v1 s0 s1 s2 h = some q) (nv0 : ¬ v0 = 4) (ns0 : ¬ s0 = 4) : Run X (d + 1) 12 false (pCd 9029) 4 none 92 [(0, .ref v0), (1, .int v1)] [.int s2, .int s1, .ref s0] h 0 0 (none, q, 0, 0) := by
  unfold fX12_checkClasses_92 at hf
  obtain ⟨h17, eh17, hf⟩ := Option.bind_eq_some_iff.mp hf
  refine r_iast (dGet dX12_checkClasses (j := 50) rfl) eh17 ?_
  refine r_aload_n (dGet dX12_checkClasses (j := 51) rfl) nv0 rfl ?_
  obtain ⟨t18, et18, hf⟩ := Option.bind_eq_some_iff.mp hf
  refine r_getR (dGet dX12_checkClasses (j := 52) rfl) F12_85 et18 ?_
  refine r_iload_n (dGet dX12_checkClasses (j := 53) rfl) rfl ?_
  obtain ⟨t19, et19, hf⟩ := Option.bind_eq_some_iff.mp hf
  refine r_iald (dGet dX12_checkClasses (j := 54) rfl) et19 ?_
  by_cases c20 : t19 < 0
  · rw [if_pos c20] at hf
    refine r_if_lt_t (dGet dX12_checkClasses (j := 55) rfl) rfl c20 ?_
    exact lX12_checkClasses_121 X N d k49 K49 v0 v1 h17 q hf nv0
  · rw [if_neg c20] at hf
    refine r_if_lt_f (dGet dX12_checkClasses (j := 55) rfl) rfl c20 ?_
    refine r_aload_n (dGet dX12_checkClasses (j := 56) rfl) nv0 rfl ?_
    obtain ⟨t21, et21, hf⟩ := Option.bind_eq_some_iff.mp hf
    refine r_getR (dGet dX12_checkClasses (j := 57) rfl) F12_88 et21 ?_
    refine r_iload_n (dGet dX12_checkClasses (j := 58) rfl) rfl ?_
    obtain ⟨t22, et22, hf⟩ := Option.bind_eq_some_iff.mp hf
    refine r_iald (dGet dX12_checkClasses (j := 59) rfl) et22 ?_
    by_cases c23 : 0 ≤ t22
    · rw [if_pos c23] at hf
      refine r_if_ge_t (dGet dX12_checkClasses (j := 60) rfl) rfl c23 ?_
      exact lX12_checkClasses_121 X N d k49 K49 v0 v1 h17 q hf nv0
    · rw [if_neg c23] at hf
      refine r_if_ge_f (dGet dX12_checkClasses (j := 60) rfl) rfl c23 ?_
      refine r_aload_n (dGet dX12_checkClasses (j := 61) rfl) nv0 rfl ?_
      refine r_aload_n (dGet dX12_checkClasses (j := 62) rfl) nv0 rfl ?_
      obtain ⟨t24, et24, hf⟩ := Option.bind_eq_some_iff.mp hf
      refine r_getR (dGet dX12_checkClasses (j := 63) rfl) F12_82 et24 ?_
      refine r_iload_n (dGet dX12_checkClasses (j := 64) rfl) rfl ?_
      obtain ⟨t25, et25, hf⟩ := Option.bind_eq_some_iff.mp hf
      refine r_iald (dGet dX12_checkClasses (j := 65) rfl) et25 ?_
      obtain ⟨h26, eh26, hf⟩ := Option.bind_eq_some_iff.mp hf
      refine r_virtual (dGet dX12_checkClasses (j := 66) rfl) L12_419 M273 rfl rfl (Nat.le_of_ble_eq_true rfl) (oX12_isBad eh26) (cX12_isBad X N (d + 0) v0 t25 h17 h26 eh26) ?_
      exact lX12_checkClasses_121 X N d k49 K49 v0 v1 h26 q hf nv0
def fX12_checkClasses_49 (N : Nat) : Nat → Nat → Int32 → pH → Option (pH)
  | 0, _, _, _ => none
  | n + 1, v0, v1, h => (getI h v0 12 37).bind fun t27 =>
  if t27 ≤ v1 then (
  fX12_checkClasses_127 N v0 h) else (
  (getI h v0 12 58).bind fun t29 =>
  if 0 ≤ t29 then (
  fX12_checkClasses_127 N v0 h) else (
  (getR h v0 12 41).bind fun t31 =>
  (getR h v0 12 40).bind fun t32 =>
  (ldI h t32 v1).bind fun t33 =>
  if 0 ≤ t33 then (
  (getR h v0 12 40).bind fun t35 =>
  (ldI h t35 v1).bind fun t36 =>
  (fX12_classOf N v0 t36 h).bind fun q37 =>
  if t31 = 4 then none else
  fX12_checkClasses_92 N (fX12_checkClasses_49 N n) v0 v1 t31 v1 q37.1 q37.2) else (
  if t31 = 4 then none else
  fX12_checkClasses_92 N (fX12_checkClasses_49 N n) v0 v1 t31 v1 (-1 : Int32) h)))
theorem lX12_checkClasses_49 (X : pX) (N d : Nat)  : ∀ (n : Nat) (v0 : Nat) (v1 : Int32) (h : pH) (q : pH), fX12_checkClasses_49 N n v0 v1 h = some q → ¬ v0 = 4 → Run X (d + 1) 12 false (pCd 9029) 4 none 49 [(0, .ref v0), (1, .int v1)] [] h 0 0 (none, q, 0, 0) := by
  intro n
  induction n with
  | zero => intro v0 v1 h q hf; cases hf
  | succ n ih =>
    intro v0 v1 h q hf nv0
    unfold fX12_checkClasses_49 at hf
    refine r_iload_n (dGet dX12_checkClasses (j := 27) rfl) rfl ?_
    refine r_aload_n (dGet dX12_checkClasses (j := 28) rfl) nv0 rfl ?_
    obtain ⟨t27, et27, hf⟩ := Option.bind_eq_some_iff.mp hf
    refine r_getI (dGet dX12_checkClasses (j := 29) rfl) F12_397 et27 ?_
    by_cases c28 : t27 ≤ v1
    · rw [if_pos c28] at hf
      refine r_icmp_ge_t (dGet dX12_checkClasses (j := 30) rfl) rfl c28 ?_
      refine Run.weak [(0, .ref v0)] (by simp) (by simp [pNd]) ?_
      exact lX12_checkClasses_127 X N d v0 h q hf nv0
    · rw [if_neg c28] at hf
      refine r_icmp_ge_f (dGet dX12_checkClasses (j := 30) rfl) rfl c28 ?_
      refine r_aload_n (dGet dX12_checkClasses (j := 31) rfl) nv0 rfl ?_
      obtain ⟨t29, et29, hf⟩ := Option.bind_eq_some_iff.mp hf
      refine r_getI (dGet dX12_checkClasses (j := 32) rfl) F12_409 et29 ?_
      by_cases c30 : 0 ≤ t29
      · rw [if_pos c30] at hf
        refine r_if_ge_t (dGet dX12_checkClasses (j := 33) rfl) rfl c30 ?_
        refine Run.weak [(0, .ref v0)] (by simp) (by simp [pNd]) ?_
        exact lX12_checkClasses_127 X N d v0 h q hf nv0
      · rw [if_neg c30] at hf
        refine r_if_ge_f (dGet dX12_checkClasses (j := 33) rfl) rfl c30 ?_
        refine r_aload_n (dGet dX12_checkClasses (j := 34) rfl) nv0 rfl ?_
        obtain ⟨t31, et31, hf⟩ := Option.bind_eq_some_iff.mp hf
        refine r_getR (dGet dX12_checkClasses (j := 35) rfl) F12_88 et31 ?_
        refine r_iload_n (dGet dX12_checkClasses (j := 36) rfl) rfl ?_
        refine r_aload_n (dGet dX12_checkClasses (j := 37) rfl) nv0 rfl ?_
        obtain ⟨t32, et32, hf⟩ := Option.bind_eq_some_iff.mp hf
        refine r_getR (dGet dX12_checkClasses (j := 38) rfl) F12_85 et32 ?_
        refine r_iload_n (dGet dX12_checkClasses (j := 39) rfl) rfl ?_
        obtain ⟨t33, et33, hf⟩ := Option.bind_eq_some_iff.mp hf
        refine r_iald (dGet dX12_checkClasses (j := 40) rfl) et33 ?_
        by_cases c34 : 0 ≤ t33
        · rw [if_pos c34] at hf
          refine r_if_ge_t (dGet dX12_checkClasses (j := 41) rfl) rfl c34 ?_
          refine r_aload_n (dGet dX12_checkClasses (j := 44) rfl) nv0 rfl ?_
          refine r_aload_n (dGet dX12_checkClasses (j := 45) rfl) nv0 rfl ?_
          obtain ⟨t35, et35, hf⟩ := Option.bind_eq_some_iff.mp hf
          refine r_getR (dGet dX12_checkClasses (j := 46) rfl) F12_85 et35 ?_
          refine r_iload_n (dGet dX12_checkClasses (j := 47) rfl) rfl ?_
          obtain ⟨t36, et36, hf⟩ := Option.bind_eq_some_iff.mp hf
          refine r_iald (dGet dX12_checkClasses (j := 48) rfl) et36 ?_
          obtain ⟨q37, eq37, hf⟩ := Option.bind_eq_some_iff.mp hf
          refine r_virtual (dGet dX12_checkClasses (j := 49) rfl) L12_412 M272 rfl rfl (Nat.le_of_ble_eq_true rfl) (oX12_classOf eq37) (cX12_classOf X N (d + 0) v0 t36 h q37 eq37) ?_
          by_cases nt31 : t31 = 4
          · rw [if_pos nt31] at hf; cases hf
          rw [if_neg nt31] at hf
          exact lX12_checkClasses_92 X N d (fX12_checkClasses_49 N n) ih v0 v1 t31 v1 q37.1 q37.2 q hf nv0 nt31
        · rw [if_neg c34] at hf
          refine r_if_ge_f (dGet dX12_checkClasses (j := 41) rfl) rfl c34 ?_
          refine r_iconst (dGet dX12_checkClasses (j := 42) rfl) kI_m1 ?_
          refine r_goto (dGet dX12_checkClasses (j := 43) rfl) rfl ?_
          by_cases nt31 : t31 = 4
          · rw [if_pos nt31] at hf; cases hf
          rw [if_neg nt31] at hf
          exact lX12_checkClasses_92 X N d (fX12_checkClasses_49 N n) ih v0 v1 t31 v1 (-1 : Int32) h q hf nv0 nt31
def fX12_checkClasses_47 (N : Nat) (v0 : Nat) (h : pH) : Option (pH) :=
  fX12_checkClasses_49 N N v0 (5 : Int32) h
theorem lX12_checkClasses_47 (X : pX) (N d : Nat)  (v0 : Nat) (h : pH) (q : pH) (hf : fX12_checkClasses_47 N v0 h = some q) (nv0 : ¬ v0 = 4) : Run X (d + 1) 12 false (pCd 9029) 4 none 47 [(0, .ref v0)] [] h 0 0 (none, q, 0, 0) := by
  unfold fX12_checkClasses_47 at hf
  refine r_iconst (dGet dX12_checkClasses (j := 25) rfl) kI_5 ?_
  refine r_istore_n (lv' := [(1, .int (5 : Int32)), (0, .ref v0)]) (dGet dX12_checkClasses (j := 26) rfl) (by decide) rfl ?_
  refine Run.weak [(0, .ref v0), (1, .int (5 : Int32))] (by simp) (by simp [pNd]) ?_
  exact lX12_checkClasses_49 X N d N v0 (5 : Int32) h q hf nv0
def fX12_checkClasses_41 (N : Nat) (k2 : Nat → Int32 → pH → Option (pH)) (v0 : Nat) (v1 : Int32) (h : pH) : Option (pH) :=
  k2 v0 (v1 + (1 : Int32)) h
theorem lX12_checkClasses_41 (X : pX) (N d : Nat)  (k2 : Nat → Int32 → pH → Option (pH)) (K2 : ∀ (w0 : Nat) (w1 : Int32) (h : pH) (q : pH), k2 w0 w1 h = some q → ¬ w0 = 4 → Run X (d + 1) 12 false (pCd 9029) 4 none 2 [(0, .ref w0), (1, .int w1)] [] h 0 0 (none, q, 0, 0)) (v0 : Nat) (v1 : Int32) (h : pH) (q : pH) (hf : fX12_checkClasses_41 N k2 v0 v1 h = some q) (nv0 : ¬ v0 = 4) : Run X (d + 1) 12 false (pCd 9029) 4 none 41 [(0, .ref v0), (1, .int v1)] [] h 0 0 (none, q, 0, 0) := by
  unfold fX12_checkClasses_41 at hf
  refine r_iinc (lv' := [(1, .int (v1 + (1 : Int32))), (0, .ref v0)]) (dGet dX12_checkClasses (j := 23) rfl) rfl (by decide) kI_1 rfl ?_
  refine r_goto (dGet dX12_checkClasses (j := 24) rfl) rfl ?_
  refine Run.weak [(0, .ref v0), (1, .int (v1 + (1 : Int32)))] (by simp) (by simp [pNd]) ?_
  exact K2 v0 (v1 + (1 : Int32)) h q hf nv0
def fX12_checkClasses_2 (N : Nat) : Nat → Nat → Int32 → pH → Option (pH)
  | 0, _, _, _ => none
  | n + 1, v0, v1, h => (getI h v0 12 37).bind fun t38 =>
  if t38 ≤ v1 then (
  fX12_checkClasses_47 N v0 h) else (
  (getI h v0 12 58).bind fun t40 =>
  if 0 ≤ t40 then (
  fX12_checkClasses_47 N v0 h) else (
  (getR h v0 12 38).bind fun t42 =>
  (ldI h t42 v1).bind fun t43 =>
  (fX12_classOf N v0 t43 h).bind fun q44 =>
  if q44.1 = v1 then (
  fX12_checkClasses_41 N (fX12_checkClasses_2 N n) v0 v1 q44.2) else (
  (getR q44.2 v0 12 39).bind fun t46 =>
  (ldI q44.2 t46 v1).bind fun t47 =>
  (fX12_isBad N v0 t47 q44.2).bind fun h48 =>
  fX12_checkClasses_41 N (fX12_checkClasses_2 N n) v0 v1 h48)))
theorem lX12_checkClasses_2 (X : pX) (N d : Nat)  : ∀ (n : Nat) (v0 : Nat) (v1 : Int32) (h : pH) (q : pH), fX12_checkClasses_2 N n v0 v1 h = some q → ¬ v0 = 4 → Run X (d + 1) 12 false (pCd 9029) 4 none 2 [(0, .ref v0), (1, .int v1)] [] h 0 0 (none, q, 0, 0) := by
  intro n
  induction n with
  | zero => intro v0 v1 h q hf; cases hf
  | succ n ih =>
    intro v0 v1 h q hf nv0
    unfold fX12_checkClasses_2 at hf
    refine r_iload_n (dGet dX12_checkClasses (j := 2) rfl) rfl ?_
    refine r_aload_n (dGet dX12_checkClasses (j := 3) rfl) nv0 rfl ?_
    obtain ⟨t38, et38, hf⟩ := Option.bind_eq_some_iff.mp hf
    refine r_getI (dGet dX12_checkClasses (j := 4) rfl) F12_397 et38 ?_
    by_cases c39 : t38 ≤ v1
    · rw [if_pos c39] at hf
      refine r_icmp_ge_t (dGet dX12_checkClasses (j := 5) rfl) rfl c39 ?_
      refine Run.weak [(0, .ref v0)] (by simp) (by simp [pNd]) ?_
      exact lX12_checkClasses_47 X N d v0 h q hf nv0
    · rw [if_neg c39] at hf
      refine r_icmp_ge_f (dGet dX12_checkClasses (j := 5) rfl) rfl c39 ?_
      refine r_aload_n (dGet dX12_checkClasses (j := 6) rfl) nv0 rfl ?_
      obtain ⟨t40, et40, hf⟩ := Option.bind_eq_some_iff.mp hf
      refine r_getI (dGet dX12_checkClasses (j := 7) rfl) F12_409 et40 ?_
      by_cases c41 : 0 ≤ t40
      · rw [if_pos c41] at hf
        refine r_if_ge_t (dGet dX12_checkClasses (j := 8) rfl) rfl c41 ?_
        refine Run.weak [(0, .ref v0)] (by simp) (by simp [pNd]) ?_
        exact lX12_checkClasses_47 X N d v0 h q hf nv0
      · rw [if_neg c41] at hf
        refine r_if_ge_f (dGet dX12_checkClasses (j := 8) rfl) rfl c41 ?_
        refine r_aload_n (dGet dX12_checkClasses (j := 9) rfl) nv0 rfl ?_
        refine r_aload_n (dGet dX12_checkClasses (j := 10) rfl) nv0 rfl ?_
        obtain ⟨t42, et42, hf⟩ := Option.bind_eq_some_iff.mp hf
        refine r_getR (dGet dX12_checkClasses (j := 11) rfl) F12_79 et42 ?_
        refine r_iload_n (dGet dX12_checkClasses (j := 12) rfl) rfl ?_
        obtain ⟨t43, et43, hf⟩ := Option.bind_eq_some_iff.mp hf
        refine r_iald (dGet dX12_checkClasses (j := 13) rfl) et43 ?_
        obtain ⟨q44, eq44, hf⟩ := Option.bind_eq_some_iff.mp hf
        refine r_virtual (dGet dX12_checkClasses (j := 14) rfl) L12_412 M272 rfl rfl (Nat.le_of_ble_eq_true rfl) (oX12_classOf eq44) (cX12_classOf X N (d + 0) v0 t43 h q44 eq44) ?_
        refine r_iload_n (dGet dX12_checkClasses (j := 15) rfl) rfl ?_
        by_cases c45 : q44.1 = v1
        · rw [if_pos c45] at hf
          refine r_icmp_eq_t (dGet dX12_checkClasses (j := 16) rfl) rfl c45 ?_
          exact lX12_checkClasses_41 X N d (fX12_checkClasses_2 N n) ih v0 v1 q44.2 q hf nv0
        · rw [if_neg c45] at hf
          refine r_icmp_eq_f (dGet dX12_checkClasses (j := 16) rfl) rfl c45 ?_
          refine r_aload_n (dGet dX12_checkClasses (j := 17) rfl) nv0 rfl ?_
          refine r_aload_n (dGet dX12_checkClasses (j := 18) rfl) nv0 rfl ?_
          obtain ⟨t46, et46, hf⟩ := Option.bind_eq_some_iff.mp hf
          refine r_getR (dGet dX12_checkClasses (j := 19) rfl) F12_82 et46 ?_
          refine r_iload_n (dGet dX12_checkClasses (j := 20) rfl) rfl ?_
          obtain ⟨t47, et47, hf⟩ := Option.bind_eq_some_iff.mp hf
          refine r_iald (dGet dX12_checkClasses (j := 21) rfl) et47 ?_
          obtain ⟨h48, eh48, hf⟩ := Option.bind_eq_some_iff.mp hf
          refine r_virtual (dGet dX12_checkClasses (j := 22) rfl) L12_419 M273 rfl rfl (Nat.le_of_ble_eq_true rfl) (oX12_isBad eh48) (cX12_isBad X N (d + 0) v0 t47 q44.2 h48 eh48) ?_
          exact lX12_checkClasses_41 X N d (fX12_checkClasses_2 N n) ih v0 v1 h48 q hf nv0
def fX12_checkClasses (N : Nat) (v0 : Nat) (h : pH) : Option (pH) := if isO h v0 12 = true then (
  fX12_checkClasses_2 N N v0 (5 : Int32) h) else none
theorem oX12_checkClasses {N : Nat} {v0 : Nat} {h : pH} {q : pH} (hf : fX12_checkClasses N v0 h = some q) : isO h v0 12 = true := by
  unfold fX12_checkClasses at hf
  by_cases hc : isO h v0 12 = true
  · exact hc
  · rw [if_neg hc] at hf; cases hf
theorem cX12_checkClasses (X : pX) (N d : Nat) (v0 : Nat) (h : pH) (q : pH) (hf : fX12_checkClasses N v0 h = some q) : Calls X (d + 1) 271 [.ref v0] h (none, q, 0, 0) := by
  refine Calls.of M271 (Nat.le_of_ble_eq_true rfl) ?_
  show Run X (d + 1) 12 false (pCd 9029) 4 none 0 [(0, .ref v0)] [] h 0 0 (none, q, 0, 0)
  unfold fX12_checkClasses at hf
  by_cases hc : isO h v0 12 = true
  · rw [if_pos hc] at hf
    have nv0 : ¬ v0 = 4 := isO_ne hc
    refine r_iconst (dGet dX12_checkClasses (j := 0) rfl) kI_5 ?_
    refine r_istore_n (lv' := [(1, .int (5 : Int32)), (0, .ref v0)]) (dGet dX12_checkClasses (j := 1) rfl) (by decide) rfl ?_
    refine Run.weak [(0, .ref v0), (1, .int (5 : Int32))] (by simp) (by simp [pNd]) ?_
    exact lX12_checkClasses_2 X N d N v0 (5 : Int32) h q hf nv0
  · rw [if_neg hc] at hf; cases hf
def eX12_isField : List (Nat × Instr × Nat) := [(0, .aload_n 0, 1), (1, .getfield 94, 3), (4, .iload_n 1, 1), (5, .iaload, 1), (6, .istore_n 3, 1), (7, .iload_n 3, 1), (8, .iload_n 2, 1), (9, .if_icmp .ge 35, 3), (12, .aload_n 0, 1), (13, .getfield 106, 3), (16, .iload_n 3, 1), (17, .baload, 1), (18, .ifCond .ne 20, 3), (21, .aload_n 0, 1), (22, .getfield 97, 3), (25, .iload_n 3, 1), (26, .iaload, 1), (27, .aload_n 0, 1), (28, .getfield 97, 3), (31, .iload_n 2, 1), (32, .iaload, 1), (33, .if_icmp .ne 5, 3), (36, .iconst 1, 1), (37, .ireturn, 1), (38, .iinc 3 1, 3), (41, .goto (-34), 3), (44, .aload_n 0, 1), (45, .getfield 88, 3), (48, .iload_n 1, 1), (49, .iaload, 1), (50, .ifCond .lt 27, 3), (53, .aload_n 0, 1), (54, .aload_n 0, 1), (55, .getfield 88, 3), (58, .iload_n 1, 1), (59, .iaload, 1), (60, .aload_n 0, 1), (61, .getfield 97, 3), (64, .iload_n 2, 1), (65, .iaload, 1), (66, .iconst 0, 1), (67, .invokevirtual 422, 3), (70, .ifCond .lt 7, 3), (73, .iconst 1, 1), (74, .goto 4, 3), (77, .iconst 0, 1), (78, .ireturn, 1)]
theorem dX12_isField : dChk (pCd 9057) eX12_isField = true := by decide +kernel
def fX12_isField_38 (N : Nat) (k7 : Nat → Int32 → Int32 → Int32 → pH → Option (Int32 × pH)) (v0 : Nat) (v1 : Int32) (v2 : Int32) (v3 : Int32) (h : pH) : Option (Int32 × pH) :=
  k7 v0 v1 v2 (v3 + (1 : Int32)) h
theorem lX12_isField_38 (X : pX) (N d : Nat)  (k7 : Nat → Int32 → Int32 → Int32 → pH → Option (Int32 × pH)) (K7 : ∀ (w0 : Nat) (w1 : Int32) (w2 : Int32) (w3 : Int32) (h : pH) (q : Int32 × pH), k7 w0 w1 w2 w3 h = some q → ¬ w0 = 4 → Run X (d + 1) 12 false (pCd 9057) 4 (some .boolean) 7 [(0, .ref w0), (1, .int w1), (2, .int w2), (3, .int w3)] [] h 0 0 (some (.int q.1), q.2, 0, 0)) (v0 : Nat) (v1 : Int32) (v2 : Int32) (v3 : Int32) (h : pH) (q : Int32 × pH) (hf : fX12_isField_38 N k7 v0 v1 v2 v3 h = some q) (nv0 : ¬ v0 = 4) : Run X (d + 1) 12 false (pCd 9057) 4 (some .boolean) 38 [(0, .ref v0), (1, .int v1), (2, .int v2), (3, .int v3)] [] h 0 0 (some (.int q.1), q.2, 0, 0) := by
  unfold fX12_isField_38 at hf
  refine r_iinc (lv' := [(3, .int (v3 + (1 : Int32))), (0, .ref v0), (1, .int v1), (2, .int v2)]) (dGet dX12_isField (j := 24) rfl) rfl (by decide) kI_1 rfl ?_
  refine r_goto (dGet dX12_isField (j := 25) rfl) rfl ?_
  refine Run.weak [(0, .ref v0), (1, .int v1), (2, .int v2), (3, .int (v3 + (1 : Int32)))] (by simp) (by simp [pNd]) ?_
  exact K7 v0 v1 v2 (v3 + (1 : Int32)) h q hf nv0
def fX12_isField_7 (N : Nat) : Nat → Nat → Int32 → Int32 → Int32 → pH → Option (Int32 × pH)
  | 0, _, _, _, _, _ => none
  | n + 1, v0, v1, v2, v3, h => if v2 ≤ v3 then (
  (getR h v0 12 41).bind fun t2 =>
  (ldI h t2 v1).bind fun t3 =>
  if t3 < 0 then (
  some ((0 : Int32), h)) else (
  (getR h v0 12 41).bind fun t5 =>
  (ldI h t5 v1).bind fun t6 =>
  (getR h v0 12 45).bind fun t7 =>
  (ldI h t7 v2).bind fun t8 =>
  (fX12_memberOf N v0 t6 t8 (0 : Int32) h).bind fun q9 =>
  if q9.1 < 0 then (
  some ((0 : Int32), q9.2)) else (
  some ((1 : Int32), q9.2)))) else (
  (getR h v0 12 48).bind fun t11 =>
  (ldZ h t11 v3).bind fun t12 =>
  if t12 = 0 then (
  (getR h v0 12 45).bind fun t14 =>
  (ldI h t14 v3).bind fun t15 =>
  (getR h v0 12 45).bind fun t16 =>
  (ldI h t16 v2).bind fun t17 =>
  if t15 = t17 then (
  some ((1 : Int32), h)) else (
  fX12_isField_38 N (fX12_isField_7 N n) v0 v1 v2 v3 h)) else (
  fX12_isField_38 N (fX12_isField_7 N n) v0 v1 v2 v3 h))
theorem lX12_isField_7 (X : pX) (N d : Nat)  : ∀ (n : Nat) (v0 : Nat) (v1 : Int32) (v2 : Int32) (v3 : Int32) (h : pH) (q : Int32 × pH), fX12_isField_7 N n v0 v1 v2 v3 h = some q → ¬ v0 = 4 → Run X (d + 1) 12 false (pCd 9057) 4 (some .boolean) 7 [(0, .ref v0), (1, .int v1), (2, .int v2), (3, .int v3)] [] h 0 0 (some (.int q.1), q.2, 0, 0) := by
  intro n
  induction n with
  | zero => intro v0 v1 v2 v3 h q hf; cases hf
  | succ n ih =>
    intro v0 v1 v2 v3 h q hf nv0
    unfold fX12_isField_7 at hf
    refine r_iload_n (dGet dX12_isField (j := 5) rfl) rfl ?_
    refine r_iload_n (dGet dX12_isField (j := 6) rfl) rfl ?_
    by_cases c1 : v2 ≤ v3
    · rw [if_pos c1] at hf
      refine r_icmp_ge_t (dGet dX12_isField (j := 7) rfl) rfl c1 ?_
      refine r_aload_n (dGet dX12_isField (j := 26) rfl) nv0 rfl ?_
      obtain ⟨t2, et2, hf⟩ := Option.bind_eq_some_iff.mp hf
      refine r_getR (dGet dX12_isField (j := 27) rfl) F12_88 et2 ?_
      refine r_iload_n (dGet dX12_isField (j := 28) rfl) rfl ?_
      obtain ⟨t3, et3, hf⟩ := Option.bind_eq_some_iff.mp hf
      refine r_iald (dGet dX12_isField (j := 29) rfl) et3 ?_
      by_cases c4 : t3 < 0
      · rw [if_pos c4] at hf
        refine r_if_lt_t (dGet dX12_isField (j := 30) rfl) rfl c4 ?_
        refine r_iconst (dGet dX12_isField (j := 45) rfl) kI_0 ?_
        have hq := Option.some.inj hf
        subst hq
        exact r_iret (dGet dX12_isField (j := 46) rfl) rfl (by decide)
      · rw [if_neg c4] at hf
        refine r_if_lt_f (dGet dX12_isField (j := 30) rfl) rfl c4 ?_
        refine r_aload_n (dGet dX12_isField (j := 31) rfl) nv0 rfl ?_
        refine r_aload_n (dGet dX12_isField (j := 32) rfl) nv0 rfl ?_
        obtain ⟨t5, et5, hf⟩ := Option.bind_eq_some_iff.mp hf
        refine r_getR (dGet dX12_isField (j := 33) rfl) F12_88 et5 ?_
        refine r_iload_n (dGet dX12_isField (j := 34) rfl) rfl ?_
        obtain ⟨t6, et6, hf⟩ := Option.bind_eq_some_iff.mp hf
        refine r_iald (dGet dX12_isField (j := 35) rfl) et6 ?_
        refine r_aload_n (dGet dX12_isField (j := 36) rfl) nv0 rfl ?_
        obtain ⟨t7, et7, hf⟩ := Option.bind_eq_some_iff.mp hf
        refine r_getR (dGet dX12_isField (j := 37) rfl) F12_97 et7 ?_
        refine r_iload_n (dGet dX12_isField (j := 38) rfl) rfl ?_
        obtain ⟨t8, et8, hf⟩ := Option.bind_eq_some_iff.mp hf
        refine r_iald (dGet dX12_isField (j := 39) rfl) et8 ?_
        refine r_iconst (dGet dX12_isField (j := 40) rfl) kI_0 ?_
        obtain ⟨q9, eq9, hf⟩ := Option.bind_eq_some_iff.mp hf
        refine r_virtual (dGet dX12_isField (j := 41) rfl) L12_422 M277 rfl rfl (Nat.le_of_ble_eq_true rfl) (oX12_memberOf eq9) (cX12_memberOf X N (d + 0) v0 t6 t8 (0 : Int32) h q9 eq9) ?_
        by_cases c10 : q9.1 < 0
        · rw [if_pos c10] at hf
          refine r_if_lt_t (dGet dX12_isField (j := 42) rfl) rfl c10 ?_
          refine r_iconst (dGet dX12_isField (j := 45) rfl) kI_0 ?_
          have hq := Option.some.inj hf
          subst hq
          exact r_iret (dGet dX12_isField (j := 46) rfl) rfl (by decide)
        · rw [if_neg c10] at hf
          refine r_if_lt_f (dGet dX12_isField (j := 42) rfl) rfl c10 ?_
          refine r_iconst (dGet dX12_isField (j := 43) rfl) kI_1 ?_
          refine r_goto (dGet dX12_isField (j := 44) rfl) rfl ?_
          have hq := Option.some.inj hf
          subst hq
          exact r_iret (dGet dX12_isField (j := 46) rfl) rfl (by decide)
    · rw [if_neg c1] at hf
      refine r_icmp_ge_f (dGet dX12_isField (j := 7) rfl) rfl c1 ?_
      refine r_aload_n (dGet dX12_isField (j := 8) rfl) nv0 rfl ?_
      obtain ⟨t11, et11, hf⟩ := Option.bind_eq_some_iff.mp hf
      refine r_getR (dGet dX12_isField (j := 9) rfl) F12_106 et11 ?_
      refine r_iload_n (dGet dX12_isField (j := 10) rfl) rfl ?_
      obtain ⟨t12, et12, hf⟩ := Option.bind_eq_some_iff.mp hf
      refine r_zald (dGet dX12_isField (j := 11) rfl) et12 ?_
      by_cases c13 : t12 = 0
      · rw [if_pos c13] at hf
        refine r_if_ne_f (dGet dX12_isField (j := 12) rfl) rfl c13 ?_
        refine r_aload_n (dGet dX12_isField (j := 13) rfl) nv0 rfl ?_
        obtain ⟨t14, et14, hf⟩ := Option.bind_eq_some_iff.mp hf
        refine r_getR (dGet dX12_isField (j := 14) rfl) F12_97 et14 ?_
        refine r_iload_n (dGet dX12_isField (j := 15) rfl) rfl ?_
        obtain ⟨t15, et15, hf⟩ := Option.bind_eq_some_iff.mp hf
        refine r_iald (dGet dX12_isField (j := 16) rfl) et15 ?_
        refine r_aload_n (dGet dX12_isField (j := 17) rfl) nv0 rfl ?_
        obtain ⟨t16, et16, hf⟩ := Option.bind_eq_some_iff.mp hf
        refine r_getR (dGet dX12_isField (j := 18) rfl) F12_97 et16 ?_
        refine r_iload_n (dGet dX12_isField (j := 19) rfl) rfl ?_
        obtain ⟨t17, et17, hf⟩ := Option.bind_eq_some_iff.mp hf
        refine r_iald (dGet dX12_isField (j := 20) rfl) et17 ?_
        by_cases c18 : t15 = t17
        · rw [if_pos c18] at hf
          refine r_icmp_ne_f (dGet dX12_isField (j := 21) rfl) rfl c18 ?_
          refine r_iconst (dGet dX12_isField (j := 22) rfl) kI_1 ?_
          have hq := Option.some.inj hf
          subst hq
          exact r_iret (dGet dX12_isField (j := 23) rfl) rfl (by decide)
        · rw [if_neg c18] at hf
          refine r_icmp_ne_t (dGet dX12_isField (j := 21) rfl) rfl c18 ?_
          exact lX12_isField_38 X N d (fX12_isField_7 N n) ih v0 v1 v2 v3 h q hf nv0
      · rw [if_neg c13] at hf
        refine r_if_ne_t (dGet dX12_isField (j := 12) rfl) rfl c13 ?_
        exact lX12_isField_38 X N d (fX12_isField_7 N n) ih v0 v1 v2 v3 h q hf nv0
def fX12_isField (N : Nat) (v0 : Nat) (v1 : Int32) (v2 : Int32) (h : pH) : Option (Int32 × pH) := if isO h v0 12 = true then (
  (getR h v0 12 43).bind fun t19 =>
  (ldI h t19 v1).bind fun t20 =>
  fX12_isField_7 N N v0 v1 v2 t20 h) else none
theorem oX12_isField {N : Nat} {v0 : Nat} {v1 : Int32} {v2 : Int32} {h : pH} {q : Int32 × pH} (hf : fX12_isField N v0 v1 v2 h = some q) : isO h v0 12 = true := by
  unfold fX12_isField at hf
  by_cases hc : isO h v0 12 = true
  · exact hc
  · rw [if_neg hc] at hf; cases hf
theorem cX12_isField (X : pX) (N d : Nat) (v0 : Nat) (v1 : Int32) (v2 : Int32) (h : pH) (q : Int32 × pH) (hf : fX12_isField N v0 v1 v2 h = some q) : Calls X (d + 1) 278 [.ref v0, .int v1, .int v2] h (some (.int q.1), q.2, 0, 0) := by
  refine Calls.of M278 (Nat.le_of_ble_eq_true rfl) ?_
  show Run X (d + 1) 12 false (pCd 9057) 4 (some .boolean) 0 [(0, .ref v0), (1, .int v1), (2, .int v2)] [] h 0 0 (some (.int q.1), q.2, 0, 0)
  unfold fX12_isField at hf
  by_cases hc : isO h v0 12 = true
  · rw [if_pos hc] at hf
    have nv0 : ¬ v0 = 4 := isO_ne hc
    refine r_aload_n (dGet dX12_isField (j := 0) rfl) nv0 rfl ?_
    obtain ⟨t19, et19, hf⟩ := Option.bind_eq_some_iff.mp hf
    refine r_getR (dGet dX12_isField (j := 1) rfl) F12_94 et19 ?_
    refine r_iload_n (dGet dX12_isField (j := 2) rfl) rfl ?_
    obtain ⟨t20, et20, hf⟩ := Option.bind_eq_some_iff.mp hf
    refine r_iald (dGet dX12_isField (j := 3) rfl) et20 ?_
    refine r_istore_n (lv' := [(3, .int t20), (0, .ref v0), (1, .int v1), (2, .int v2)]) (dGet dX12_isField (j := 4) rfl) (by decide) rfl ?_
    refine Run.weak [(0, .ref v0), (1, .int v1), (2, .int v2), (3, .int t20)] (by simp) (by simp [pNd]) ?_
    exact lX12_isField_7 X N d N v0 v1 v2 t20 h q hf nv0
  · rw [if_neg hc] at hf; cases hf
def eX12_isRightMethod : List (Nat × Instr × Nat) := [(0, .aload_n 0, 1), (1, .getfield 94, 3), (4, .iload_n 1, 1), (5, .iaload, 1), (6, .istore_n 3, 1), (7, .iload_n 3, 1), (8, .iload_n 2, 1), (9, .if_icmp .ge 35, 3), (12, .aload_n 0, 1), (13, .getfield 106, 3), (16, .iload_n 3, 1), (17, .baload, 1), (18, .ifCond .eq 20, 3), (21, .aload_n 0, 1), (22, .getfield 97, 3), (25, .iload_n 3, 1), (26, .iaload, 1), (27, .aload_n 0, 1), (28, .getfield 97, 3), (31, .iload_n 2, 1), (32, .iaload, 1), (33, .if_icmp .ne 5, 3), (36, .iconst 0, 1), (37, .ireturn, 1), (38, .iinc 3 1, 3), (41, .goto (-34), 3), (44, .aload_n 0, 1), (45, .getfield 110, 3), (48, .iload_n 2, 1), (49, .iaload, 1), (50, .istore_n 3, 1), (51, .iload_n 3, 1), (52, .aload_n 0, 1), (53, .getfield 110, 3), (56, .iload_n 2, 1), (57, .iconst 1, 1), (58, .iadd, 1), (59, .iaload, 1), (60, .if_icmp .ge 59, 3), (63, .aload_n 0, 1), (64, .getfield 122, 3), (67, .iload_n 3, 1), (68, .iaload, 1), (69, .iconst 5, 1), (70, .if_icmp .ne 5, 3), (73, .iconst 0, 1), (74, .ireturn, 1), (75, .aload_n 0, 1), (76, .getfield 110, 3), (79, .iload_n 2, 1), (80, .iaload, 1), (81, .istore 4, 2), (83, .iload 4, 2), (85, .iload_n 3, 1), (86, .if_icmp .ge 27, 3), (89, .aload_n 0, 1), (90, .getfield 125, 3), (93, .iload 4, 2), (95, .iaload, 1), (96, .aload_n 0, 1), (97, .getfield 125, 3), (100, .iload_n 3, 1), (101, .iaload, 1), (102, .if_icmp .ne 5, 3), (105, .iconst 0, 1), (106, .ireturn, 1), (107, .iinc 4 1, 3), (110, .goto (-27), 3), (113, .iinc 3 1, 3), (116, .goto (-65), 3), (119, .aload_n 0, 1), (120, .getfield 88, 3), (123, .iload_n 1, 1), (124, .iaload, 1), (125, .ifCond .ge 7, 3), (128, .iconst (-1), 1), (129, .goto 20, 3), (132, .aload_n 0, 1), (133, .aload_n 0, 1), (134, .getfield 88, 3), (137, .iload_n 1, 1), (138, .iaload, 1), (139, .aload_n 0, 1), (140, .getfield 97, 3), (143, .iload_n 2, 1), (144, .iaload, 1), (145, .iconst 1, 1), (146, .invokevirtual 422, 3), (149, .istore_n 3, 1), (150, .iload_n 3, 1), (151, .ifCond .ge 5, 3), (154, .iconst 1, 1), (155, .ireturn, 1), (156, .aload_n 0, 1), (157, .getfield 110, 3), (160, .iload_n 2, 1), (161, .iconst 1, 1), (162, .iadd, 1), (163, .iaload, 1), (164, .aload_n 0, 1), (165, .getfield 110, 3), (168, .iload_n 2, 1), (169, .iaload, 1), (170, .isub, 1), (171, .istore 4, 2), (173, .aload_n 0, 1), (174, .getfield 103, 3), (177, .iload_n 3, 1), (178, .iaload, 1), (179, .aload_n 0, 1), (180, .getfield 103, 3), (183, .iload_n 2, 1), (184, .iaload, 1), (185, .if_icmp .ne 27, 3), (188, .aload_n 0, 1), (189, .getfield 110, 3), (192, .iload_n 3, 1), (193, .iconst 1, 1), (194, .iadd, 1), (195, .iaload, 1), (196, .aload_n 0, 1), (197, .getfield 110, 3), (200, .iload_n 3, 1), (201, .iaload, 1), (202, .isub, 1), (203, .iload 4, 2), (205, .if_icmp .ne 7, 3), (208, .iconst 1, 1), (209, .goto 4, 3), (212, .iconst 0, 1), (213, .istore 5, 2), (215, .iconst 0, 1), (216, .istore 6, 2), (218, .iload 6, 2), (220, .iload 4, 2), (222, .if_icmp .ge 52, 3), (225, .iload 5, 2), (227, .ifCond .eq 47, 3), (230, .aload_n 0, 1), (231, .getfield 122, 3), (234, .aload_n 0, 1), (235, .getfield 110, 3), (238, .iload_n 3, 1), (239, .iaload, 1), (240, .iload 6, 2), (242, .iadd, 1), (243, .iaload, 1), (244, .aload_n 0, 1), (245, .getfield 122, 3), (248, .aload_n 0, 1), (249, .getfield 110, 3), (252, .iload_n 2, 1), (253, .iaload, 1), (254, .iload 6, 2), (256, .iadd, 1), (257, .iaload, 1), (258, .if_icmp .ne 7, 3), (261, .iconst 1, 1), (262, .goto 4, 3), (265, .iconst 0, 1), (266, .istore 5, 2), (268, .iinc 6 1, 3), (271, .goto (-53), 3), (274, .iload 5, 2), (276, .ireturn, 1)]
theorem dX12_isRightMethod : dChk (pCd 9049) eX12_isRightMethod = true := by decide +kernel
def fX12_isRightMethod_266 (N : Nat) (k218 : Nat → Int32 → Int32 → Int32 → Int32 → Int32 → pH → Option (Int32 × pH)) (v0 : Nat) (v2 : Int32) (v3 : Int32) (v4 : Int32) (v6 : Int32) (s0 : Int32) (h : pH) : Option (Int32 × pH) :=
  k218 v0 v2 v3 v4 s0 (v6 + (1 : Int32)) h
theorem lX12_isRightMethod_266 (X : pX) (N d : Nat)  (k218 : Nat → Int32 → Int32 → Int32 → Int32 → Int32 → pH → Option (Int32 × pH)) (K218 : ∀ (w0 : Nat) (w2 : Int32) (w3 : Int32) (w4 : Int32) (w5 : Int32) (w6 : Int32) (h : pH) (q : Int32 × pH), k218 w0 w2 w3 w4 w5 w6 h = some q → ¬ w0 = 4 → Run X (d + 1) 12 false (pCd 9049) 7 (some .boolean) 218 [(0, .ref w0), (2, .int w2), (3, .int w3), (4, .int w4), (5, .int w5), (6, .int w6)] [] h 0 0 (some (.int q.1), q.2, 0, 0)) (v0 : Nat) (v2 : Int32) (v3 : Int32) (v4 : Int32) (v6 : Int32) (s0 : Int32) (h : pH) (q : Int32 × pH) (hf : fX12_isRightMethod_266 N k218 v0 v2 v3 v4 v6 s0 h = some q) (nv0 : ¬ v0 = 4) : Run X (d + 1) 12 false (pCd 9049) 7 (some .boolean) 266 [(0, .ref v0), (2, .int v2), (3, .int v3), (4, .int v4), (6, .int v6)] [.int s0] h 0 0 (some (.int q.1), q.2, 0, 0) := by
  unfold fX12_isRightMethod_266 at hf
  refine r_istore (lv' := [(5, .int s0), (0, .ref v0), (2, .int v2), (3, .int v3), (4, .int v4), (6, .int v6)]) (dGet dX12_isRightMethod (j := 160) rfl) (by decide) rfl ?_
  refine r_iinc (lv' := [(6, .int (v6 + (1 : Int32))), (5, .int s0), (0, .ref v0), (2, .int v2), (3, .int v3), (4, .int v4)]) (dGet dX12_isRightMethod (j := 161) rfl) rfl (by decide) kI_1 rfl ?_
  refine r_goto (dGet dX12_isRightMethod (j := 162) rfl) rfl ?_
  refine Run.weak [(0, .ref v0), (2, .int v2), (3, .int v3), (4, .int v4), (5, .int s0), (6, .int (v6 + (1 : Int32)))] (by simp) (by simp [pNd]) ?_
  exact K218 v0 v2 v3 v4 s0 (v6 + (1 : Int32)) h q hf nv0
def fX12_isRightMethod_218 (N : Nat) : Nat → Nat → Int32 → Int32 → Int32 → Int32 → Int32 → pH → Option (Int32 × pH)
  | 0, _, _, _, _, _, _, _ => none
  | n + 1, v0, v2, v3, v4, v5, v6, h => if v4 ≤ v6 then (
  if pRet .boolean v5 = true then some (v5, h) else none) else (
  if v5 = 0 then (
  if pRet .boolean v5 = true then some (v5, h) else none) else (
  (getR h v0 12 54).bind fun t5 =>
  (getR h v0 12 49).bind fun t6 =>
  (ldI h t6 v3).bind fun t7 =>
  (ldI h t5 (t7 + v6)).bind fun t8 =>
  (getR h v0 12 54).bind fun t9 =>
  (getR h v0 12 49).bind fun t10 =>
  (ldI h t10 v2).bind fun t11 =>
  (ldI h t9 (t11 + v6)).bind fun t12 =>
  if t8 = t12 then (
  fX12_isRightMethod_266 N (fX12_isRightMethod_218 N n) v0 v2 v3 v4 v6 (1 : Int32) h) else (
  fX12_isRightMethod_266 N (fX12_isRightMethod_218 N n) v0 v2 v3 v4 v6 (0 : Int32) h)))
theorem lX12_isRightMethod_218 (X : pX) (N d : Nat)  : ∀ (n : Nat) (v0 : Nat) (v2 : Int32) (v3 : Int32) (v4 : Int32) (v5 : Int32) (v6 : Int32) (h : pH) (q : Int32 × pH), fX12_isRightMethod_218 N n v0 v2 v3 v4 v5 v6 h = some q → ¬ v0 = 4 → Run X (d + 1) 12 false (pCd 9049) 7 (some .boolean) 218 [(0, .ref v0), (2, .int v2), (3, .int v3), (4, .int v4), (5, .int v5), (6, .int v6)] [] h 0 0 (some (.int q.1), q.2, 0, 0) := by
  intro n
  induction n with
  | zero => intro v0 v2 v3 v4 v5 v6 h q hf; cases hf
  | succ n ih =>
    intro v0 v2 v3 v4 v5 v6 h q hf nv0
    unfold fX12_isRightMethod_218 at hf
    refine r_iload (dGet dX12_isRightMethod (j := 133) rfl) rfl ?_
    refine r_iload (dGet dX12_isRightMethod (j := 134) rfl) rfl ?_
    by_cases c1 : v4 ≤ v6
    · rw [if_pos c1] at hf
      refine r_icmp_ge_t (dGet dX12_isRightMethod (j := 135) rfl) rfl c1 ?_
      refine r_iload (dGet dX12_isRightMethod (j := 163) rfl) rfl ?_
      by_cases c2 : pRet .boolean v5 = true
      · rw [if_pos c2] at hf
        have hq := Option.some.inj hf
        subst hq
        exact r_iret (dGet dX12_isRightMethod (j := 164) rfl) rfl c2
      · rw [if_neg c2] at hf; cases hf
    · rw [if_neg c1] at hf
      refine r_icmp_ge_f (dGet dX12_isRightMethod (j := 135) rfl) rfl c1 ?_
      refine r_iload (dGet dX12_isRightMethod (j := 136) rfl) rfl ?_
      by_cases c3 : v5 = 0
      · rw [if_pos c3] at hf
        refine r_if_eq_t (dGet dX12_isRightMethod (j := 137) rfl) rfl c3 ?_
        refine r_iload (dGet dX12_isRightMethod (j := 163) rfl) rfl ?_
        by_cases c4 : pRet .boolean v5 = true
        · rw [if_pos c4] at hf
          have hq := Option.some.inj hf
          subst hq
          exact r_iret (dGet dX12_isRightMethod (j := 164) rfl) rfl c4
        · rw [if_neg c4] at hf; cases hf
      · rw [if_neg c3] at hf
        refine r_if_eq_f (dGet dX12_isRightMethod (j := 137) rfl) rfl c3 ?_
        refine r_aload_n (dGet dX12_isRightMethod (j := 138) rfl) nv0 rfl ?_
        obtain ⟨t5, et5, hf⟩ := Option.bind_eq_some_iff.mp hf
        refine r_getR (dGet dX12_isRightMethod (j := 139) rfl) F12_122 et5 ?_
        refine r_aload_n (dGet dX12_isRightMethod (j := 140) rfl) nv0 rfl ?_
        obtain ⟨t6, et6, hf⟩ := Option.bind_eq_some_iff.mp hf
        refine r_getR (dGet dX12_isRightMethod (j := 141) rfl) F12_110 et6 ?_
        refine r_iload_n (dGet dX12_isRightMethod (j := 142) rfl) rfl ?_
        obtain ⟨t7, et7, hf⟩ := Option.bind_eq_some_iff.mp hf
        refine r_iald (dGet dX12_isRightMethod (j := 143) rfl) et7 ?_
        refine r_iload (dGet dX12_isRightMethod (j := 144) rfl) rfl ?_
        refine r_iadd (dGet dX12_isRightMethod (j := 145) rfl) ?_
        obtain ⟨t8, et8, hf⟩ := Option.bind_eq_some_iff.mp hf
        refine r_iald (dGet dX12_isRightMethod (j := 146) rfl) et8 ?_
        refine r_aload_n (dGet dX12_isRightMethod (j := 147) rfl) nv0 rfl ?_
        obtain ⟨t9, et9, hf⟩ := Option.bind_eq_some_iff.mp hf
        refine r_getR (dGet dX12_isRightMethod (j := 148) rfl) F12_122 et9 ?_
        refine r_aload_n (dGet dX12_isRightMethod (j := 149) rfl) nv0 rfl ?_
        obtain ⟨t10, et10, hf⟩ := Option.bind_eq_some_iff.mp hf
        refine r_getR (dGet dX12_isRightMethod (j := 150) rfl) F12_110 et10 ?_
        refine r_iload_n (dGet dX12_isRightMethod (j := 151) rfl) rfl ?_
        obtain ⟨t11, et11, hf⟩ := Option.bind_eq_some_iff.mp hf
        refine r_iald (dGet dX12_isRightMethod (j := 152) rfl) et11 ?_
        refine r_iload (dGet dX12_isRightMethod (j := 153) rfl) rfl ?_
        refine r_iadd (dGet dX12_isRightMethod (j := 154) rfl) ?_
        obtain ⟨t12, et12, hf⟩ := Option.bind_eq_some_iff.mp hf
        refine r_iald (dGet dX12_isRightMethod (j := 155) rfl) et12 ?_
        by_cases c13 : t8 = t12
        · rw [if_pos c13] at hf
          refine r_icmp_ne_f (dGet dX12_isRightMethod (j := 156) rfl) rfl c13 ?_
          refine r_iconst (dGet dX12_isRightMethod (j := 157) rfl) kI_1 ?_
          refine r_goto (dGet dX12_isRightMethod (j := 158) rfl) rfl ?_
          refine Run.weak [(0, .ref v0), (2, .int v2), (3, .int v3), (4, .int v4), (6, .int v6)] (by simp) (by simp [pNd]) ?_
          exact lX12_isRightMethod_266 X N d (fX12_isRightMethod_218 N n) ih v0 v2 v3 v4 v6 (1 : Int32) h q hf nv0
        · rw [if_neg c13] at hf
          refine r_icmp_ne_t (dGet dX12_isRightMethod (j := 156) rfl) rfl c13 ?_
          refine r_iconst (dGet dX12_isRightMethod (j := 159) rfl) kI_0 ?_
          refine Run.weak [(0, .ref v0), (2, .int v2), (3, .int v3), (4, .int v4), (6, .int v6)] (by simp) (by simp [pNd]) ?_
          exact lX12_isRightMethod_266 X N d (fX12_isRightMethod_218 N n) ih v0 v2 v3 v4 v6 (0 : Int32) h q hf nv0
def fX12_isRightMethod_213 (N : Nat) (v0 : Nat) (v2 : Int32) (v3 : Int32) (v4 : Int32) (s0 : Int32) (h : pH) : Option (Int32 × pH) :=
  fX12_isRightMethod_218 N N v0 v2 v3 v4 s0 (0 : Int32) h
theorem lX12_isRightMethod_213 (X : pX) (N d : Nat)  (v0 : Nat) (v2 : Int32) (v3 : Int32) (v4 : Int32) (s0 : Int32) (h : pH) (q : Int32 × pH) (hf : fX12_isRightMethod_213 N v0 v2 v3 v4 s0 h = some q) (nv0 : ¬ v0 = 4) : Run X (d + 1) 12 false (pCd 9049) 7 (some .boolean) 213 [(0, .ref v0), (2, .int v2), (3, .int v3), (4, .int v4)] [.int s0] h 0 0 (some (.int q.1), q.2, 0, 0) := by
  unfold fX12_isRightMethod_213 at hf
  refine r_istore (lv' := [(5, .int s0), (0, .ref v0), (2, .int v2), (3, .int v3), (4, .int v4)]) (dGet dX12_isRightMethod (j := 130) rfl) (by decide) rfl ?_
  refine r_iconst (dGet dX12_isRightMethod (j := 131) rfl) kI_0 ?_
  refine r_istore (lv' := [(6, .int (0 : Int32)), (5, .int s0), (0, .ref v0), (2, .int v2), (3, .int v3), (4, .int v4)]) (dGet dX12_isRightMethod (j := 132) rfl) (by decide) rfl ?_
  refine Run.weak [(0, .ref v0), (2, .int v2), (3, .int v3), (4, .int v4), (5, .int s0), (6, .int (0 : Int32))] (by simp) (by simp [pNd]) ?_
  exact lX12_isRightMethod_218 X N d N v0 v2 v3 v4 s0 (0 : Int32) h q hf nv0
def fX12_isRightMethod_212 (N : Nat) (v0 : Nat) (v2 : Int32) (v3 : Int32) (v4 : Int32) (h : pH) : Option (Int32 × pH) :=
  fX12_isRightMethod_213 N v0 v2 v3 v4 (0 : Int32) h
theorem lX12_isRightMethod_212 (X : pX) (N d : Nat)  (v0 : Nat) (v2 : Int32) (v3 : Int32) (v4 : Int32) (h : pH) (q : Int32 × pH) (hf : fX12_isRightMethod_212 N v0 v2 v3 v4 h = some q) (nv0 : ¬ v0 = 4) : Run X (d + 1) 12 false (pCd 9049) 7 (some .boolean) 212 [(0, .ref v0), (2, .int v2), (3, .int v3), (4, .int v4)] [] h 0 0 (some (.int q.1), q.2, 0, 0) := by
  unfold fX12_isRightMethod_212 at hf
  refine r_iconst (dGet dX12_isRightMethod (j := 129) rfl) kI_0 ?_
  exact lX12_isRightMethod_213 X N d v0 v2 v3 v4 (0 : Int32) h q hf nv0
def fX12_isRightMethod_149 (N : Nat) (v0 : Nat) (v2 : Int32) (s0 : Int32) (h : pH) : Option (Int32 × pH) :=
  if 0 ≤ s0 then (
  (getR h v0 12 49).bind fun t15 =>
  (ldI h t15 (v2 + (1 : Int32))).bind fun t16 =>
  (getR h v0 12 49).bind fun t17 =>
  (ldI h t17 v2).bind fun t18 =>
  (getR h v0 12 47).bind fun t19 =>
  (ldI h t19 s0).bind fun t20 =>
  (getR h v0 12 47).bind fun t21 =>
  (ldI h t21 v2).bind fun t22 =>
  if t20 = t22 then (
  (getR h v0 12 49).bind fun t24 =>
  (ldI h t24 (s0 + (1 : Int32))).bind fun t25 =>
  (getR h v0 12 49).bind fun t26 =>
  (ldI h t26 s0).bind fun t27 =>
  if (t25 - t27) = (t16 - t18) then (
  fX12_isRightMethod_213 N v0 v2 s0 (t16 - t18) (1 : Int32) h) else (
  fX12_isRightMethod_212 N v0 v2 s0 (t16 - t18) h)) else (
  fX12_isRightMethod_212 N v0 v2 s0 (t16 - t18) h)) else (
  some ((1 : Int32), h))
theorem lX12_isRightMethod_149 (X : pX) (N d : Nat)  (v0 : Nat) (v2 : Int32) (s0 : Int32) (h : pH) (q : Int32 × pH) (hf : fX12_isRightMethod_149 N v0 v2 s0 h = some q) (nv0 : ¬ v0 = 4) : Run X (d + 1) 12 false (pCd 9049) 7 (some .boolean) 149 [(0, .ref v0), (2, .int v2)] [.int s0] h 0 0 (some (.int q.1), q.2, 0, 0) := by
  unfold fX12_isRightMethod_149 at hf
  refine r_istore_n (lv' := [(3, .int s0), (0, .ref v0), (2, .int v2)]) (dGet dX12_isRightMethod (j := 88) rfl) (by decide) rfl ?_
  refine r_iload_n (dGet dX12_isRightMethod (j := 89) rfl) rfl ?_
  by_cases c14 : 0 ≤ s0
  · rw [if_pos c14] at hf
    refine r_if_ge_t (dGet dX12_isRightMethod (j := 90) rfl) rfl c14 ?_
    refine r_aload_n (dGet dX12_isRightMethod (j := 93) rfl) nv0 rfl ?_
    obtain ⟨t15, et15, hf⟩ := Option.bind_eq_some_iff.mp hf
    refine r_getR (dGet dX12_isRightMethod (j := 94) rfl) F12_110 et15 ?_
    refine r_iload_n (dGet dX12_isRightMethod (j := 95) rfl) rfl ?_
    refine r_iconst (dGet dX12_isRightMethod (j := 96) rfl) kI_1 ?_
    refine r_iadd (dGet dX12_isRightMethod (j := 97) rfl) ?_
    obtain ⟨t16, et16, hf⟩ := Option.bind_eq_some_iff.mp hf
    refine r_iald (dGet dX12_isRightMethod (j := 98) rfl) et16 ?_
    refine r_aload_n (dGet dX12_isRightMethod (j := 99) rfl) nv0 rfl ?_
    obtain ⟨t17, et17, hf⟩ := Option.bind_eq_some_iff.mp hf
    refine r_getR (dGet dX12_isRightMethod (j := 100) rfl) F12_110 et17 ?_
    refine r_iload_n (dGet dX12_isRightMethod (j := 101) rfl) rfl ?_
    obtain ⟨t18, et18, hf⟩ := Option.bind_eq_some_iff.mp hf
    refine r_iald (dGet dX12_isRightMethod (j := 102) rfl) et18 ?_
    refine r_isub (dGet dX12_isRightMethod (j := 103) rfl) ?_
    refine r_istore (lv' := [(4, .int (t16 - t18)), (3, .int s0), (0, .ref v0), (2, .int v2)]) (dGet dX12_isRightMethod (j := 104) rfl) (by decide) rfl ?_
    refine r_aload_n (dGet dX12_isRightMethod (j := 105) rfl) nv0 rfl ?_
    obtain ⟨t19, et19, hf⟩ := Option.bind_eq_some_iff.mp hf
    refine r_getR (dGet dX12_isRightMethod (j := 106) rfl) F12_103 et19 ?_
    refine r_iload_n (dGet dX12_isRightMethod (j := 107) rfl) rfl ?_
    obtain ⟨t20, et20, hf⟩ := Option.bind_eq_some_iff.mp hf
    refine r_iald (dGet dX12_isRightMethod (j := 108) rfl) et20 ?_
    refine r_aload_n (dGet dX12_isRightMethod (j := 109) rfl) nv0 rfl ?_
    obtain ⟨t21, et21, hf⟩ := Option.bind_eq_some_iff.mp hf
    refine r_getR (dGet dX12_isRightMethod (j := 110) rfl) F12_103 et21 ?_
    refine r_iload_n (dGet dX12_isRightMethod (j := 111) rfl) rfl ?_
    obtain ⟨t22, et22, hf⟩ := Option.bind_eq_some_iff.mp hf
    refine r_iald (dGet dX12_isRightMethod (j := 112) rfl) et22 ?_
    by_cases c23 : t20 = t22
    · rw [if_pos c23] at hf
      refine r_icmp_ne_f (dGet dX12_isRightMethod (j := 113) rfl) rfl c23 ?_
      refine r_aload_n (dGet dX12_isRightMethod (j := 114) rfl) nv0 rfl ?_
      obtain ⟨t24, et24, hf⟩ := Option.bind_eq_some_iff.mp hf
      refine r_getR (dGet dX12_isRightMethod (j := 115) rfl) F12_110 et24 ?_
      refine r_iload_n (dGet dX12_isRightMethod (j := 116) rfl) rfl ?_
      refine r_iconst (dGet dX12_isRightMethod (j := 117) rfl) kI_1 ?_
      refine r_iadd (dGet dX12_isRightMethod (j := 118) rfl) ?_
      obtain ⟨t25, et25, hf⟩ := Option.bind_eq_some_iff.mp hf
      refine r_iald (dGet dX12_isRightMethod (j := 119) rfl) et25 ?_
      refine r_aload_n (dGet dX12_isRightMethod (j := 120) rfl) nv0 rfl ?_
      obtain ⟨t26, et26, hf⟩ := Option.bind_eq_some_iff.mp hf
      refine r_getR (dGet dX12_isRightMethod (j := 121) rfl) F12_110 et26 ?_
      refine r_iload_n (dGet dX12_isRightMethod (j := 122) rfl) rfl ?_
      obtain ⟨t27, et27, hf⟩ := Option.bind_eq_some_iff.mp hf
      refine r_iald (dGet dX12_isRightMethod (j := 123) rfl) et27 ?_
      refine r_isub (dGet dX12_isRightMethod (j := 124) rfl) ?_
      refine r_iload (dGet dX12_isRightMethod (j := 125) rfl) rfl ?_
      by_cases c28 : (t25 - t27) = (t16 - t18)
      · rw [if_pos c28] at hf
        refine r_icmp_ne_f (dGet dX12_isRightMethod (j := 126) rfl) rfl c28 ?_
        refine r_iconst (dGet dX12_isRightMethod (j := 127) rfl) kI_1 ?_
        refine r_goto (dGet dX12_isRightMethod (j := 128) rfl) rfl ?_
        refine Run.weak [(0, .ref v0), (2, .int v2), (3, .int s0), (4, .int (t16 - t18))] (by simp) (by simp [pNd]) ?_
        exact lX12_isRightMethod_213 X N d v0 v2 s0 (t16 - t18) (1 : Int32) h q hf nv0
      · rw [if_neg c28] at hf
        refine r_icmp_ne_t (dGet dX12_isRightMethod (j := 126) rfl) rfl c28 ?_
        refine Run.weak [(0, .ref v0), (2, .int v2), (3, .int s0), (4, .int (t16 - t18))] (by simp) (by simp [pNd]) ?_
        exact lX12_isRightMethod_212 X N d v0 v2 s0 (t16 - t18) h q hf nv0
    · rw [if_neg c23] at hf
      refine r_icmp_ne_t (dGet dX12_isRightMethod (j := 113) rfl) rfl c23 ?_
      refine Run.weak [(0, .ref v0), (2, .int v2), (3, .int s0), (4, .int (t16 - t18))] (by simp) (by simp [pNd]) ?_
      exact lX12_isRightMethod_212 X N d v0 v2 s0 (t16 - t18) h q hf nv0
  · rw [if_neg c14] at hf
    refine r_if_ge_f (dGet dX12_isRightMethod (j := 90) rfl) rfl c14 ?_
    refine r_iconst (dGet dX12_isRightMethod (j := 91) rfl) kI_1 ?_
    have hq := Option.some.inj hf
    subst hq
    exact r_iret (dGet dX12_isRightMethod (j := 92) rfl) rfl (by decide)
def fX12_isRightMethod_83 (N : Nat) (k51 : Nat → Int32 → Int32 → Int32 → pH → Option (Int32 × pH)) : Nat → Nat → Int32 → Int32 → Int32 → Int32 → pH → Option (Int32 × pH)
  | 0, _, _, _, _, _, _ => none
  | n + 1, v0, v1, v2, v3, v4, h => if v3 ≤ v4 then (
  k51 v0 v1 v2 (v3 + (1 : Int32)) h) else (
  (getR h v0 12 55).bind fun t30 =>
  (ldI h t30 v4).bind fun t31 =>
  (getR h v0 12 55).bind fun t32 =>
  (ldI h t32 v3).bind fun t33 =>
  if t31 = t33 then (
  some ((0 : Int32), h)) else (
  fX12_isRightMethod_83 N k51 n v0 v1 v2 v3 (v4 + (1 : Int32)) h))
theorem lX12_isRightMethod_83 (X : pX) (N d : Nat)  (k51 : Nat → Int32 → Int32 → Int32 → pH → Option (Int32 × pH)) (K51 : ∀ (w0 : Nat) (w1 : Int32) (w2 : Int32) (w3 : Int32) (h : pH) (q : Int32 × pH), k51 w0 w1 w2 w3 h = some q → ¬ w0 = 4 → Run X (d + 1) 12 false (pCd 9049) 7 (some .boolean) 51 [(0, .ref w0), (1, .int w1), (2, .int w2), (3, .int w3)] [] h 0 0 (some (.int q.1), q.2, 0, 0)) : ∀ (n : Nat) (v0 : Nat) (v1 : Int32) (v2 : Int32) (v3 : Int32) (v4 : Int32) (h : pH) (q : Int32 × pH), fX12_isRightMethod_83 N k51 n v0 v1 v2 v3 v4 h = some q → ¬ v0 = 4 → Run X (d + 1) 12 false (pCd 9049) 7 (some .boolean) 83 [(0, .ref v0), (1, .int v1), (2, .int v2), (3, .int v3), (4, .int v4)] [] h 0 0 (some (.int q.1), q.2, 0, 0) := by
  intro n
  induction n with
  | zero => intro v0 v1 v2 v3 v4 h q hf; cases hf
  | succ n ih =>
    intro v0 v1 v2 v3 v4 h q hf nv0
    unfold fX12_isRightMethod_83 at hf
    refine r_iload (dGet dX12_isRightMethod (j := 52) rfl) rfl ?_
    refine r_iload_n (dGet dX12_isRightMethod (j := 53) rfl) rfl ?_
    by_cases c29 : v3 ≤ v4
    · rw [if_pos c29] at hf
      refine r_icmp_ge_t (dGet dX12_isRightMethod (j := 54) rfl) rfl c29 ?_
      refine r_iinc (lv' := [(3, .int (v3 + (1 : Int32))), (0, .ref v0), (1, .int v1), (2, .int v2), (4, .int v4)]) (dGet dX12_isRightMethod (j := 68) rfl) rfl (by decide) kI_1 rfl ?_
      refine r_goto (dGet dX12_isRightMethod (j := 69) rfl) rfl ?_
      refine Run.weak [(0, .ref v0), (1, .int v1), (2, .int v2), (3, .int (v3 + (1 : Int32)))] (by simp) (by simp [pNd]) ?_
      exact K51 v0 v1 v2 (v3 + (1 : Int32)) h q hf nv0
    · rw [if_neg c29] at hf
      refine r_icmp_ge_f (dGet dX12_isRightMethod (j := 54) rfl) rfl c29 ?_
      refine r_aload_n (dGet dX12_isRightMethod (j := 55) rfl) nv0 rfl ?_
      obtain ⟨t30, et30, hf⟩ := Option.bind_eq_some_iff.mp hf
      refine r_getR (dGet dX12_isRightMethod (j := 56) rfl) F12_125 et30 ?_
      refine r_iload (dGet dX12_isRightMethod (j := 57) rfl) rfl ?_
      obtain ⟨t31, et31, hf⟩ := Option.bind_eq_some_iff.mp hf
      refine r_iald (dGet dX12_isRightMethod (j := 58) rfl) et31 ?_
      refine r_aload_n (dGet dX12_isRightMethod (j := 59) rfl) nv0 rfl ?_
      obtain ⟨t32, et32, hf⟩ := Option.bind_eq_some_iff.mp hf
      refine r_getR (dGet dX12_isRightMethod (j := 60) rfl) F12_125 et32 ?_
      refine r_iload_n (dGet dX12_isRightMethod (j := 61) rfl) rfl ?_
      obtain ⟨t33, et33, hf⟩ := Option.bind_eq_some_iff.mp hf
      refine r_iald (dGet dX12_isRightMethod (j := 62) rfl) et33 ?_
      by_cases c34 : t31 = t33
      · rw [if_pos c34] at hf
        refine r_icmp_ne_f (dGet dX12_isRightMethod (j := 63) rfl) rfl c34 ?_
        refine r_iconst (dGet dX12_isRightMethod (j := 64) rfl) kI_0 ?_
        have hq := Option.some.inj hf
        subst hq
        exact r_iret (dGet dX12_isRightMethod (j := 65) rfl) rfl (by decide)
      · rw [if_neg c34] at hf
        refine r_icmp_ne_t (dGet dX12_isRightMethod (j := 63) rfl) rfl c34 ?_
        refine r_iinc (lv' := [(4, .int (v4 + (1 : Int32))), (0, .ref v0), (1, .int v1), (2, .int v2), (3, .int v3)]) (dGet dX12_isRightMethod (j := 66) rfl) rfl (by decide) kI_1 rfl ?_
        refine r_goto (dGet dX12_isRightMethod (j := 67) rfl) rfl ?_
        refine Run.weak [(0, .ref v0), (1, .int v1), (2, .int v2), (3, .int v3), (4, .int (v4 + (1 : Int32)))] (by simp) (by simp [pNd]) ?_
        exact ih v0 v1 v2 v3 (v4 + (1 : Int32)) h q hf nv0
def fX12_isRightMethod_51 (N : Nat) : Nat → Nat → Int32 → Int32 → Int32 → pH → Option (Int32 × pH)
  | 0, _, _, _, _, _ => none
  | n + 1, v0, v1, v2, v3, h => (getR h v0 12 49).bind fun t35 =>
  (ldI h t35 (v2 + (1 : Int32))).bind fun t36 =>
  if t36 ≤ v3 then (
  (getR h v0 12 41).bind fun t38 =>
  (ldI h t38 v1).bind fun t39 =>
  if 0 ≤ t39 then (
  (getR h v0 12 41).bind fun t41 =>
  (ldI h t41 v1).bind fun t42 =>
  (getR h v0 12 45).bind fun t43 =>
  (ldI h t43 v2).bind fun t44 =>
  (fX12_memberOf N v0 t42 t44 (1 : Int32) h).bind fun q45 =>
  fX12_isRightMethod_149 N v0 v2 q45.1 q45.2) else (
  fX12_isRightMethod_149 N v0 v2 (-1 : Int32) h)) else (
  (getR h v0 12 54).bind fun t46 =>
  (ldI h t46 v3).bind fun t47 =>
  if t47 = (5 : Int32) then (
  some ((0 : Int32), h)) else (
  (getR h v0 12 49).bind fun t49 =>
  (ldI h t49 v2).bind fun t50 =>
  fX12_isRightMethod_83 N (fX12_isRightMethod_51 N n) N v0 v1 v2 v3 t50 h))
theorem lX12_isRightMethod_51 (X : pX) (N d : Nat)  : ∀ (n : Nat) (v0 : Nat) (v1 : Int32) (v2 : Int32) (v3 : Int32) (h : pH) (q : Int32 × pH), fX12_isRightMethod_51 N n v0 v1 v2 v3 h = some q → ¬ v0 = 4 → Run X (d + 1) 12 false (pCd 9049) 7 (some .boolean) 51 [(0, .ref v0), (1, .int v1), (2, .int v2), (3, .int v3)] [] h 0 0 (some (.int q.1), q.2, 0, 0) := by
  intro n
  induction n with
  | zero => intro v0 v1 v2 v3 h q hf; cases hf
  | succ n ih =>
    intro v0 v1 v2 v3 h q hf nv0
    unfold fX12_isRightMethod_51 at hf
    refine r_iload_n (dGet dX12_isRightMethod (j := 31) rfl) rfl ?_
    refine r_aload_n (dGet dX12_isRightMethod (j := 32) rfl) nv0 rfl ?_
    obtain ⟨t35, et35, hf⟩ := Option.bind_eq_some_iff.mp hf
    refine r_getR (dGet dX12_isRightMethod (j := 33) rfl) F12_110 et35 ?_
    refine r_iload_n (dGet dX12_isRightMethod (j := 34) rfl) rfl ?_
    refine r_iconst (dGet dX12_isRightMethod (j := 35) rfl) kI_1 ?_
    refine r_iadd (dGet dX12_isRightMethod (j := 36) rfl) ?_
    obtain ⟨t36, et36, hf⟩ := Option.bind_eq_some_iff.mp hf
    refine r_iald (dGet dX12_isRightMethod (j := 37) rfl) et36 ?_
    by_cases c37 : t36 ≤ v3
    · rw [if_pos c37] at hf
      refine r_icmp_ge_t (dGet dX12_isRightMethod (j := 38) rfl) rfl c37 ?_
      refine r_aload_n (dGet dX12_isRightMethod (j := 70) rfl) nv0 rfl ?_
      obtain ⟨t38, et38, hf⟩ := Option.bind_eq_some_iff.mp hf
      refine r_getR (dGet dX12_isRightMethod (j := 71) rfl) F12_88 et38 ?_
      refine r_iload_n (dGet dX12_isRightMethod (j := 72) rfl) rfl ?_
      obtain ⟨t39, et39, hf⟩ := Option.bind_eq_some_iff.mp hf
      refine r_iald (dGet dX12_isRightMethod (j := 73) rfl) et39 ?_
      by_cases c40 : 0 ≤ t39
      · rw [if_pos c40] at hf
        refine r_if_ge_t (dGet dX12_isRightMethod (j := 74) rfl) rfl c40 ?_
        refine r_aload_n (dGet dX12_isRightMethod (j := 77) rfl) nv0 rfl ?_
        refine r_aload_n (dGet dX12_isRightMethod (j := 78) rfl) nv0 rfl ?_
        obtain ⟨t41, et41, hf⟩ := Option.bind_eq_some_iff.mp hf
        refine r_getR (dGet dX12_isRightMethod (j := 79) rfl) F12_88 et41 ?_
        refine r_iload_n (dGet dX12_isRightMethod (j := 80) rfl) rfl ?_
        obtain ⟨t42, et42, hf⟩ := Option.bind_eq_some_iff.mp hf
        refine r_iald (dGet dX12_isRightMethod (j := 81) rfl) et42 ?_
        refine r_aload_n (dGet dX12_isRightMethod (j := 82) rfl) nv0 rfl ?_
        obtain ⟨t43, et43, hf⟩ := Option.bind_eq_some_iff.mp hf
        refine r_getR (dGet dX12_isRightMethod (j := 83) rfl) F12_97 et43 ?_
        refine r_iload_n (dGet dX12_isRightMethod (j := 84) rfl) rfl ?_
        obtain ⟨t44, et44, hf⟩ := Option.bind_eq_some_iff.mp hf
        refine r_iald (dGet dX12_isRightMethod (j := 85) rfl) et44 ?_
        refine r_iconst (dGet dX12_isRightMethod (j := 86) rfl) kI_1 ?_
        obtain ⟨q45, eq45, hf⟩ := Option.bind_eq_some_iff.mp hf
        refine r_virtual (dGet dX12_isRightMethod (j := 87) rfl) L12_422 M277 rfl rfl (Nat.le_of_ble_eq_true rfl) (oX12_memberOf eq45) (cX12_memberOf X N (d + 0) v0 t42 t44 (1 : Int32) h q45 eq45) ?_
        refine Run.weak [(0, .ref v0), (2, .int v2)] (by simp) (by simp [pNd]) ?_
        exact lX12_isRightMethod_149 X N d v0 v2 q45.1 q45.2 q hf nv0
      · rw [if_neg c40] at hf
        refine r_if_ge_f (dGet dX12_isRightMethod (j := 74) rfl) rfl c40 ?_
        refine r_iconst (dGet dX12_isRightMethod (j := 75) rfl) kI_m1 ?_
        refine r_goto (dGet dX12_isRightMethod (j := 76) rfl) rfl ?_
        refine Run.weak [(0, .ref v0), (2, .int v2)] (by simp) (by simp [pNd]) ?_
        exact lX12_isRightMethod_149 X N d v0 v2 (-1 : Int32) h q hf nv0
    · rw [if_neg c37] at hf
      refine r_icmp_ge_f (dGet dX12_isRightMethod (j := 38) rfl) rfl c37 ?_
      refine r_aload_n (dGet dX12_isRightMethod (j := 39) rfl) nv0 rfl ?_
      obtain ⟨t46, et46, hf⟩ := Option.bind_eq_some_iff.mp hf
      refine r_getR (dGet dX12_isRightMethod (j := 40) rfl) F12_122 et46 ?_
      refine r_iload_n (dGet dX12_isRightMethod (j := 41) rfl) rfl ?_
      obtain ⟨t47, et47, hf⟩ := Option.bind_eq_some_iff.mp hf
      refine r_iald (dGet dX12_isRightMethod (j := 42) rfl) et47 ?_
      refine r_iconst (dGet dX12_isRightMethod (j := 43) rfl) kI_5 ?_
      by_cases c48 : t47 = (5 : Int32)
      · rw [if_pos c48] at hf
        refine r_icmp_ne_f (dGet dX12_isRightMethod (j := 44) rfl) rfl c48 ?_
        refine r_iconst (dGet dX12_isRightMethod (j := 45) rfl) kI_0 ?_
        have hq := Option.some.inj hf
        subst hq
        exact r_iret (dGet dX12_isRightMethod (j := 46) rfl) rfl (by decide)
      · rw [if_neg c48] at hf
        refine r_icmp_ne_t (dGet dX12_isRightMethod (j := 44) rfl) rfl c48 ?_
        refine r_aload_n (dGet dX12_isRightMethod (j := 47) rfl) nv0 rfl ?_
        obtain ⟨t49, et49, hf⟩ := Option.bind_eq_some_iff.mp hf
        refine r_getR (dGet dX12_isRightMethod (j := 48) rfl) F12_110 et49 ?_
        refine r_iload_n (dGet dX12_isRightMethod (j := 49) rfl) rfl ?_
        obtain ⟨t50, et50, hf⟩ := Option.bind_eq_some_iff.mp hf
        refine r_iald (dGet dX12_isRightMethod (j := 50) rfl) et50 ?_
        refine r_istore (lv' := [(4, .int t50), (0, .ref v0), (1, .int v1), (2, .int v2), (3, .int v3)]) (dGet dX12_isRightMethod (j := 51) rfl) (by decide) rfl ?_
        refine Run.weak [(0, .ref v0), (1, .int v1), (2, .int v2), (3, .int v3), (4, .int t50)] (by simp) (by simp [pNd]) ?_
        exact lX12_isRightMethod_83 X N d (fX12_isRightMethod_51 N n) ih N v0 v1 v2 v3 t50 h q hf nv0
def fX12_isRightMethod_38 (N : Nat) (k7 : Nat → Int32 → Int32 → Int32 → pH → Option (Int32 × pH)) (v0 : Nat) (v1 : Int32) (v2 : Int32) (v3 : Int32) (h : pH) : Option (Int32 × pH) :=
  k7 v0 v1 v2 (v3 + (1 : Int32)) h
theorem lX12_isRightMethod_38 (X : pX) (N d : Nat)  (k7 : Nat → Int32 → Int32 → Int32 → pH → Option (Int32 × pH)) (K7 : ∀ (w0 : Nat) (w1 : Int32) (w2 : Int32) (w3 : Int32) (h : pH) (q : Int32 × pH), k7 w0 w1 w2 w3 h = some q → ¬ w0 = 4 → Run X (d + 1) 12 false (pCd 9049) 7 (some .boolean) 7 [(0, .ref w0), (1, .int w1), (2, .int w2), (3, .int w3)] [] h 0 0 (some (.int q.1), q.2, 0, 0)) (v0 : Nat) (v1 : Int32) (v2 : Int32) (v3 : Int32) (h : pH) (q : Int32 × pH) (hf : fX12_isRightMethod_38 N k7 v0 v1 v2 v3 h = some q) (nv0 : ¬ v0 = 4) : Run X (d + 1) 12 false (pCd 9049) 7 (some .boolean) 38 [(0, .ref v0), (1, .int v1), (2, .int v2), (3, .int v3)] [] h 0 0 (some (.int q.1), q.2, 0, 0) := by
  unfold fX12_isRightMethod_38 at hf
  refine r_iinc (lv' := [(3, .int (v3 + (1 : Int32))), (0, .ref v0), (1, .int v1), (2, .int v2)]) (dGet dX12_isRightMethod (j := 24) rfl) rfl (by decide) kI_1 rfl ?_
  refine r_goto (dGet dX12_isRightMethod (j := 25) rfl) rfl ?_
  refine Run.weak [(0, .ref v0), (1, .int v1), (2, .int v2), (3, .int (v3 + (1 : Int32)))] (by simp) (by simp [pNd]) ?_
  exact K7 v0 v1 v2 (v3 + (1 : Int32)) h q hf nv0
def fX12_isRightMethod_7 (N : Nat) : Nat → Nat → Int32 → Int32 → Int32 → pH → Option (Int32 × pH)
  | 0, _, _, _, _, _ => none
  | n + 1, v0, v1, v2, v3, h => if v2 ≤ v3 then (
  (getR h v0 12 49).bind fun t52 =>
  (ldI h t52 v2).bind fun t53 =>
  fX12_isRightMethod_51 N N v0 v1 v2 t53 h) else (
  (getR h v0 12 48).bind fun t54 =>
  (ldZ h t54 v3).bind fun t55 =>
  if t55 = 0 then (
  fX12_isRightMethod_38 N (fX12_isRightMethod_7 N n) v0 v1 v2 v3 h) else (
  (getR h v0 12 45).bind fun t57 =>
  (ldI h t57 v3).bind fun t58 =>
  (getR h v0 12 45).bind fun t59 =>
  (ldI h t59 v2).bind fun t60 =>
  if t58 = t60 then (
  some ((0 : Int32), h)) else (
  fX12_isRightMethod_38 N (fX12_isRightMethod_7 N n) v0 v1 v2 v3 h)))
theorem lX12_isRightMethod_7 (X : pX) (N d : Nat)  : ∀ (n : Nat) (v0 : Nat) (v1 : Int32) (v2 : Int32) (v3 : Int32) (h : pH) (q : Int32 × pH), fX12_isRightMethod_7 N n v0 v1 v2 v3 h = some q → ¬ v0 = 4 → Run X (d + 1) 12 false (pCd 9049) 7 (some .boolean) 7 [(0, .ref v0), (1, .int v1), (2, .int v2), (3, .int v3)] [] h 0 0 (some (.int q.1), q.2, 0, 0) := by
  intro n
  induction n with
  | zero => intro v0 v1 v2 v3 h q hf; cases hf
  | succ n ih =>
    intro v0 v1 v2 v3 h q hf nv0
    unfold fX12_isRightMethod_7 at hf
    refine r_iload_n (dGet dX12_isRightMethod (j := 5) rfl) rfl ?_
    refine r_iload_n (dGet dX12_isRightMethod (j := 6) rfl) rfl ?_
    by_cases c51 : v2 ≤ v3
    · rw [if_pos c51] at hf
      refine r_icmp_ge_t (dGet dX12_isRightMethod (j := 7) rfl) rfl c51 ?_
      refine r_aload_n (dGet dX12_isRightMethod (j := 26) rfl) nv0 rfl ?_
      obtain ⟨t52, et52, hf⟩ := Option.bind_eq_some_iff.mp hf
      refine r_getR (dGet dX12_isRightMethod (j := 27) rfl) F12_110 et52 ?_
      refine r_iload_n (dGet dX12_isRightMethod (j := 28) rfl) rfl ?_
      obtain ⟨t53, et53, hf⟩ := Option.bind_eq_some_iff.mp hf
      refine r_iald (dGet dX12_isRightMethod (j := 29) rfl) et53 ?_
      refine r_istore_n (lv' := [(3, .int t53), (0, .ref v0), (1, .int v1), (2, .int v2)]) (dGet dX12_isRightMethod (j := 30) rfl) (by decide) rfl ?_
      refine Run.weak [(0, .ref v0), (1, .int v1), (2, .int v2), (3, .int t53)] (by simp) (by simp [pNd]) ?_
      exact lX12_isRightMethod_51 X N d N v0 v1 v2 t53 h q hf nv0
    · rw [if_neg c51] at hf
      refine r_icmp_ge_f (dGet dX12_isRightMethod (j := 7) rfl) rfl c51 ?_
      refine r_aload_n (dGet dX12_isRightMethod (j := 8) rfl) nv0 rfl ?_
      obtain ⟨t54, et54, hf⟩ := Option.bind_eq_some_iff.mp hf
      refine r_getR (dGet dX12_isRightMethod (j := 9) rfl) F12_106 et54 ?_
      refine r_iload_n (dGet dX12_isRightMethod (j := 10) rfl) rfl ?_
      obtain ⟨t55, et55, hf⟩ := Option.bind_eq_some_iff.mp hf
      refine r_zald (dGet dX12_isRightMethod (j := 11) rfl) et55 ?_
      by_cases c56 : t55 = 0
      · rw [if_pos c56] at hf
        refine r_if_eq_t (dGet dX12_isRightMethod (j := 12) rfl) rfl c56 ?_
        exact lX12_isRightMethod_38 X N d (fX12_isRightMethod_7 N n) ih v0 v1 v2 v3 h q hf nv0
      · rw [if_neg c56] at hf
        refine r_if_eq_f (dGet dX12_isRightMethod (j := 12) rfl) rfl c56 ?_
        refine r_aload_n (dGet dX12_isRightMethod (j := 13) rfl) nv0 rfl ?_
        obtain ⟨t57, et57, hf⟩ := Option.bind_eq_some_iff.mp hf
        refine r_getR (dGet dX12_isRightMethod (j := 14) rfl) F12_97 et57 ?_
        refine r_iload_n (dGet dX12_isRightMethod (j := 15) rfl) rfl ?_
        obtain ⟨t58, et58, hf⟩ := Option.bind_eq_some_iff.mp hf
        refine r_iald (dGet dX12_isRightMethod (j := 16) rfl) et58 ?_
        refine r_aload_n (dGet dX12_isRightMethod (j := 17) rfl) nv0 rfl ?_
        obtain ⟨t59, et59, hf⟩ := Option.bind_eq_some_iff.mp hf
        refine r_getR (dGet dX12_isRightMethod (j := 18) rfl) F12_97 et59 ?_
        refine r_iload_n (dGet dX12_isRightMethod (j := 19) rfl) rfl ?_
        obtain ⟨t60, et60, hf⟩ := Option.bind_eq_some_iff.mp hf
        refine r_iald (dGet dX12_isRightMethod (j := 20) rfl) et60 ?_
        by_cases c61 : t58 = t60
        · rw [if_pos c61] at hf
          refine r_icmp_ne_f (dGet dX12_isRightMethod (j := 21) rfl) rfl c61 ?_
          refine r_iconst (dGet dX12_isRightMethod (j := 22) rfl) kI_0 ?_
          have hq := Option.some.inj hf
          subst hq
          exact r_iret (dGet dX12_isRightMethod (j := 23) rfl) rfl (by decide)
        · rw [if_neg c61] at hf
          refine r_icmp_ne_t (dGet dX12_isRightMethod (j := 21) rfl) rfl c61 ?_
          exact lX12_isRightMethod_38 X N d (fX12_isRightMethod_7 N n) ih v0 v1 v2 v3 h q hf nv0
def fX12_isRightMethod (N : Nat) (v0 : Nat) (v1 : Int32) (v2 : Int32) (h : pH) : Option (Int32 × pH) := if isO h v0 12 = true then (
  (getR h v0 12 43).bind fun t62 =>
  (ldI h t62 v1).bind fun t63 =>
  fX12_isRightMethod_7 N N v0 v1 v2 t63 h) else none
theorem oX12_isRightMethod {N : Nat} {v0 : Nat} {v1 : Int32} {v2 : Int32} {h : pH} {q : Int32 × pH} (hf : fX12_isRightMethod N v0 v1 v2 h = some q) : isO h v0 12 = true := by
  unfold fX12_isRightMethod at hf
  by_cases hc : isO h v0 12 = true
  · exact hc
  · rw [if_neg hc] at hf; cases hf
theorem cX12_isRightMethod (X : pX) (N d : Nat) (v0 : Nat) (v1 : Int32) (v2 : Int32) (h : pH) (q : Int32 × pH) (hf : fX12_isRightMethod N v0 v1 v2 h = some q) : Calls X (d + 1) 276 [.ref v0, .int v1, .int v2] h (some (.int q.1), q.2, 0, 0) := by
  refine Calls.of M276 (Nat.le_of_ble_eq_true rfl) ?_
  show Run X (d + 1) 12 false (pCd 9049) 7 (some .boolean) 0 [(0, .ref v0), (1, .int v1), (2, .int v2)] [] h 0 0 (some (.int q.1), q.2, 0, 0)
  unfold fX12_isRightMethod at hf
  by_cases hc : isO h v0 12 = true
  · rw [if_pos hc] at hf
    have nv0 : ¬ v0 = 4 := isO_ne hc
    refine r_aload_n (dGet dX12_isRightMethod (j := 0) rfl) nv0 rfl ?_
    obtain ⟨t62, et62, hf⟩ := Option.bind_eq_some_iff.mp hf
    refine r_getR (dGet dX12_isRightMethod (j := 1) rfl) F12_94 et62 ?_
    refine r_iload_n (dGet dX12_isRightMethod (j := 2) rfl) rfl ?_
    obtain ⟨t63, et63, hf⟩ := Option.bind_eq_some_iff.mp hf
    refine r_iald (dGet dX12_isRightMethod (j := 3) rfl) et63 ?_
    refine r_istore_n (lv' := [(3, .int t63), (0, .ref v0), (1, .int v1), (2, .int v2)]) (dGet dX12_isRightMethod (j := 4) rfl) (by decide) rfl ?_
    refine Run.weak [(0, .ref v0), (1, .int v1), (2, .int v2), (3, .int t63)] (by simp) (by simp [pNd]) ?_
    exact lX12_isRightMethod_7 X N d N v0 v1 v2 t63 h q hf nv0
  · rw [if_neg hc] at hf; cases hf
